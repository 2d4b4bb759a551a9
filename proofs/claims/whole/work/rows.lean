section
-- ===== PART A: goes FIRST, ahead of the names: the tables' words, and 'selects' of the private methods out of them =====
/-- a private method of a class that the tables say can be made, by its rows of tables_1 -/
def lw_okq (q : MethodName × Nat) : Prop := (q.1.cls ≠ "java/lang/invoke/MethodHandle" ∧ q.1.cls ≠ "java/lang/invoke/VarHandle") ∧ Cond.instantiable q.1.cls q.2 ∈ tables_1 ∧ Cond.privateMethod q.1 ∈ tables_1 ∧ Cond.instanceMethod q.1 ∈ tables_1
theorem lw_p0 : lw_okq (⟨"ChairBallot", "sheetAt", "(I)LChairBallot$Sheet;"⟩, 9) := ⟨⟨by decide +kernel, by decide +kernel⟩, List.mem_of_getElem? (i := 9) (by decide +kernel), List.mem_of_getElem? (i := 104) (by decide +kernel), List.mem_of_getElem? (i := 105) (by decide +kernel)⟩
theorem lw_p1 : lw_okq (⟨"ChairBallot", "faulted", "(I)I"⟩, 9) := ⟨⟨by decide +kernel, by decide +kernel⟩, List.mem_of_getElem? (i := 9) (by decide +kernel), List.mem_of_getElem? (i := 115) (by decide +kernel), List.mem_of_getElem? (i := 116) (by decide +kernel)⟩
theorem lw_p2 : lw_okq (⟨"ChairBallot", "takeText", "(LChairBallot$Sheet;II)V"⟩, 9) := ⟨⟨by decide +kernel, by decide +kernel⟩, List.mem_of_getElem? (i := 9) (by decide +kernel), List.mem_of_getElem? (i := 143) (by decide +kernel), List.mem_of_getElem? (i := 144) (by decide +kernel)⟩
theorem lw_p3 : lw_okq (⟨"ChairBallot", "hasFront", "()Z"⟩, 9) := ⟨⟨by decide +kernel, by decide +kernel⟩, List.mem_of_getElem? (i := 9) (by decide +kernel), List.mem_of_getElem? (i := 195) (by decide +kernel), List.mem_of_getElem? (i := 196) (by decide +kernel)⟩
theorem lw_p4 : lw_okq (⟨"ChairBallot", "refusalOfPairs", "(LChairBallot$Sheet;II)I"⟩, 9) := ⟨⟨by decide +kernel, by decide +kernel⟩, List.mem_of_getElem? (i := 9) (by decide +kernel), List.mem_of_getElem? (i := 271) (by decide +kernel), List.mem_of_getElem? (i := 272) (by decide +kernel)⟩
theorem lw_p5 : lw_okq (⟨"ChairBallot", "refusalOfPair", "(II)I"⟩, 9) := ⟨⟨by decide +kernel, by decide +kernel⟩, List.mem_of_getElem? (i := 9) (by decide +kernel), List.mem_of_getElem? (i := 275) (by decide +kernel), List.mem_of_getElem? (i := 276) (by decide +kernel)⟩
theorem lw_p6 : lw_okq (⟨"ChairBallot", "answerOfDay", "(LChairBallot$Sheet;III)I"⟩, 9) := ⟨⟨by decide +kernel, by decide +kernel⟩, List.mem_of_getElem? (i := 9) (by decide +kernel), List.mem_of_getElem? (i := 279) (by decide +kernel), List.mem_of_getElem? (i := 280) (by decide +kernel)⟩
theorem lw_p7 : lw_okq (⟨"ChairBallot", "isCarriedIfAtSea", "(I)Z"⟩, 9) := ⟨⟨by decide +kernel, by decide +kernel⟩, List.mem_of_getElem? (i := 9) (by decide +kernel), List.mem_of_getElem? (i := 302) (by decide +kernel), List.mem_of_getElem? (i := 303) (by decide +kernel)⟩
theorem lw_p8 : lw_okq (⟨"ChairBallot", "fairestCuts", "(I)I"⟩, 9) := ⟨⟨by decide +kernel, by decide +kernel⟩, List.mem_of_getElem? (i := 9) (by decide +kernel), List.mem_of_getElem? (i := 316) (by decide +kernel), List.mem_of_getElem? (i := 317) (by decide +kernel)⟩
theorem lw_p9 : lw_okq (⟨"ChairBallot", "wardsWon", "(I)I"⟩, 9) := ⟨⟨by decide +kernel, by decide +kernel⟩, List.mem_of_getElem? (i := 9) (by decide +kernel), List.mem_of_getElem? (i := 320) (by decide +kernel), List.mem_of_getElem? (i := 321) (by decide +kernel)⟩
theorem lw_p10 : lw_okq (⟨"ChairBallot", "beginsWard", "(II)Z"⟩, 9) := ⟨⟨by decide +kernel, by decide +kernel⟩, List.mem_of_getElem? (i := 9) (by decide +kernel), List.mem_of_getElem? (i := 324) (by decide +kernel), List.mem_of_getElem? (i := 325) (by decide +kernel)⟩
theorem lw_p11 : lw_okq (⟨"ChairBallot", "firstOfWard", "(II)I"⟩, 9) := ⟨⟨by decide +kernel, by decide +kernel⟩, List.mem_of_getElem? (i := 9) (by decide +kernel), List.mem_of_getElem? (i := 328) (by decide +kernel), List.mem_of_getElem? (i := 329) (by decide +kernel)⟩
theorem lw_p12 : lw_okq (⟨"ChairBallot", "allReadingsAreSo", "(III)Z"⟩, 9) := ⟨⟨by decide +kernel, by decide +kernel⟩, List.mem_of_getElem? (i := 9) (by decide +kernel), List.mem_of_getElem? (i := 359) (by decide +kernel), List.mem_of_getElem? (i := 360) (by decide +kernel)⟩
theorem lw_p13 : lw_okq (⟨"ChairBallot", "waysThatCarry", "(I)I"⟩, 9) := ⟨⟨by decide +kernel, by decide +kernel⟩, List.mem_of_getElem? (i := 9) (by decide +kernel), List.mem_of_getElem? (i := 373) (by decide +kernel), List.mem_of_getElem? (i := 374) (by decide +kernel)⟩
theorem lw_p14 : lw_okq (⟨"ChairBallot", "waysDecidedBy", "(II)I"⟩, 9) := ⟨⟨by decide +kernel, by decide +kernel⟩, List.mem_of_getElem? (i := 9) (by decide +kernel), List.mem_of_getElem? (i := 378) (by decide +kernel), List.mem_of_getElem? (i := 379) (by decide +kernel)⟩
theorem lw_p15 : lw_okq (⟨"ChairBallot", "toldAsPlain", "(I)I"⟩, 9) := ⟨⟨by decide +kernel, by decide +kernel⟩, List.mem_of_getElem? (i := 9) (by decide +kernel), List.mem_of_getElem? (i := 420) (by decide +kernel), List.mem_of_getElem? (i := 421) (by decide +kernel)⟩
def lw_privs_1 : List (MethodName × Nat) := [(⟨"ChairBallot", "sheetAt", "(I)LChairBallot$Sheet;"⟩, 9), (⟨"ChairBallot", "faulted", "(I)I"⟩, 9), (⟨"ChairBallot", "takeText", "(LChairBallot$Sheet;II)V"⟩, 9), (⟨"ChairBallot", "hasFront", "()Z"⟩, 9), (⟨"ChairBallot", "refusalOfPairs", "(LChairBallot$Sheet;II)I"⟩, 9), (⟨"ChairBallot", "refusalOfPair", "(II)I"⟩, 9), (⟨"ChairBallot", "answerOfDay", "(LChairBallot$Sheet;III)I"⟩, 9), (⟨"ChairBallot", "isCarriedIfAtSea", "(I)Z"⟩, 9), (⟨"ChairBallot", "fairestCuts", "(I)I"⟩, 9), (⟨"ChairBallot", "wardsWon", "(I)I"⟩, 9), (⟨"ChairBallot", "beginsWard", "(II)Z"⟩, 9), (⟨"ChairBallot", "firstOfWard", "(II)I"⟩, 9), (⟨"ChairBallot", "allReadingsAreSo", "(III)Z"⟩, 9), (⟨"ChairBallot", "waysThatCarry", "(I)I"⟩, 9), (⟨"ChairBallot", "waysDecidedBy", "(II)I"⟩, 9), (⟨"ChairBallot", "toldAsPlain", "(I)I"⟩, 9)]
theorem lw_r1 : ∀ q ∈ lw_privs_1, lw_okq q := List.forall_mem_cons.mpr ⟨lw_p0, List.forall_mem_cons.mpr ⟨lw_p1, List.forall_mem_cons.mpr ⟨lw_p2, List.forall_mem_cons.mpr ⟨lw_p3, List.forall_mem_cons.mpr ⟨lw_p4, List.forall_mem_cons.mpr ⟨lw_p5, List.forall_mem_cons.mpr ⟨lw_p6, List.forall_mem_cons.mpr ⟨lw_p7, List.forall_mem_cons.mpr ⟨lw_p8, List.forall_mem_cons.mpr ⟨lw_p9, List.forall_mem_cons.mpr ⟨lw_p10, List.forall_mem_cons.mpr ⟨lw_p11, List.forall_mem_cons.mpr ⟨lw_p12, List.forall_mem_cons.mpr ⟨lw_p13, List.forall_mem_cons.mpr ⟨lw_p14, List.forall_mem_cons.mpr ⟨lw_p15, fun _ h => absurd h List.not_mem_nil⟩⟩⟩⟩⟩⟩⟩⟩⟩⟩⟩⟩⟩⟩⟩⟩
theorem lw_p16 : lw_okq (⟨"ChairBallot", "leaveInTrace", "(I)V"⟩, 9) := ⟨⟨by decide +kernel, by decide +kernel⟩, List.mem_of_getElem? (i := 9) (by decide +kernel), List.mem_of_getElem? (i := 424) (by decide +kernel), List.mem_of_getElem? (i := 425) (by decide +kernel)⟩
theorem lw_p17 : lw_okq (⟨"ChairBallot", "toldAsShaded", "(I)I"⟩, 9) := ⟨⟨by decide +kernel, by decide +kernel⟩, List.mem_of_getElem? (i := 9) (by decide +kernel), List.mem_of_getElem? (i := 428) (by decide +kernel), List.mem_of_getElem? (i := 429) (by decide +kernel)⟩
theorem lw_p18 : lw_okq (⟨"ChairBallot", "toldAsBroken", "(I)I"⟩, 9) := ⟨⟨by decide +kernel, by decide +kernel⟩, List.mem_of_getElem? (i := 9) (by decide +kernel), List.mem_of_getElem? (i := 432) (by decide +kernel), List.mem_of_getElem? (i := 433) (by decide +kernel)⟩
theorem lw_p19 : lw_okq (⟨"ChairBallotModel", "refused", "(I)I"⟩, 23) := ⟨⟨by decide +kernel, by decide +kernel⟩, List.mem_of_getElem? (i := 456) (by decide +kernel), List.mem_of_getElem? (i := 543) (by decide +kernel), List.mem_of_getElem? (i := 544) (by decide +kernel)⟩
theorem lw_p20 : lw_okq (⟨"ChairBallotModel", "cellsBarred", "(IIIJ)I"⟩, 23) := ⟨⟨by decide +kernel, by decide +kernel⟩, List.mem_of_getElem? (i := 456) (by decide +kernel), List.mem_of_getElem? (i := 548) (by decide +kernel), List.mem_of_getElem? (i := 549) (by decide +kernel)⟩
theorem lw_p21 : lw_okq (⟨"ChairBallotModel", "failed", "(I)I"⟩, 23) := ⟨⟨by decide +kernel, by decide +kernel⟩, List.mem_of_getElem? (i := 456) (by decide +kernel), List.mem_of_getElem? (i := 552) (by decide +kernel), List.mem_of_getElem? (i := 553) (by decide +kernel)⟩
theorem lw_p22 : lw_okq (⟨"ChairBallotModel", "readsFront", "(II)Z"⟩, 23) := ⟨⟨by decide +kernel, by decide +kernel⟩, List.mem_of_getElem? (i := 456) (by decide +kernel), List.mem_of_getElem? (i := 559) (by decide +kernel), List.mem_of_getElem? (i := 560) (by decide +kernel)⟩
theorem lw_p23 : lw_okq (⟨"ChairBallotModel", "codeAt", "(II)I"⟩, 23) := ⟨⟨by decide +kernel, by decide +kernel⟩, List.mem_of_getElem? (i := 456) (by decide +kernel), List.mem_of_getElem? (i := 563) (by decide +kernel), List.mem_of_getElem? (i := 564) (by decide +kernel)⟩
theorem lw_p24 : lw_okq (⟨"ChairBallotModel", "readsChair", "(II)Z"⟩, 23) := ⟨⟨by decide +kernel, by decide +kernel⟩, List.mem_of_getElem? (i := 456) (by decide +kernel), List.mem_of_getElem? (i := 567) (by decide +kernel), List.mem_of_getElem? (i := 568) (by decide +kernel)⟩
theorem lw_p25 : lw_okq (⟨"ChairBallotModel", "figure", "(IIIII)I"⟩, 23) := ⟨⟨by decide +kernel, by decide +kernel⟩, List.mem_of_getElem? (i := 456) (by decide +kernel), List.mem_of_getElem? (i := 571) (by decide +kernel), List.mem_of_getElem? (i := 572) (by decide +kernel)⟩
theorem lw_p26 : lw_okq (⟨"ChairBallotModel", "noChair", "(I)Z"⟩, 23) := ⟨⟨by decide +kernel, by decide +kernel⟩, List.mem_of_getElem? (i := 456) (by decide +kernel), List.mem_of_getElem? (i := 579) (by decide +kernel), List.mem_of_getElem? (i := 580) (by decide +kernel)⟩
theorem lw_p27 : lw_okq (⟨"ChairBallotModel", "votesOf", "(I)I"⟩, 23) := ⟨⟨by decide +kernel, by decide +kernel⟩, List.mem_of_getElem? (i := 456) (by decide +kernel), List.mem_of_getElem? (i := 583) (by decide +kernel), List.mem_of_getElem? (i := 584) (by decide +kernel)⟩
theorem lw_p28 : lw_okq (⟨"ChairBallotModel", "votesOpen", "(I)I"⟩, 23) := ⟨⟨by decide +kernel, by decide +kernel⟩, List.mem_of_getElem? (i := 456) (by decide +kernel), List.mem_of_getElem? (i := 590) (by decide +kernel), List.mem_of_getElem? (i := 591) (by decide +kernel)⟩
theorem lw_p29 : lw_okq (⟨"ChairBallotModel", "countsAs", "(I)I"⟩, 23) := ⟨⟨by decide +kernel, by decide +kernel⟩, List.mem_of_getElem? (i := 456) (by decide +kernel), List.mem_of_getElem? (i := 594) (by decide +kernel), List.mem_of_getElem? (i := 595) (by decide +kernel)⟩
theorem lw_p30 : lw_okq (⟨"ChairBallotModel", "meets", "(I)Z"⟩, 23) := ⟨⟨by decide +kernel, by decide +kernel⟩, List.mem_of_getElem? (i := 456) (by decide +kernel), List.mem_of_getElem? (i := 598) (by decide +kernel), List.mem_of_getElem? (i := 599) (by decide +kernel)⟩
theorem lw_p31 : lw_okq (⟨"ChairBallotModel", "whoIs", "(I)I"⟩, 23) := ⟨⟨by decide +kernel, by decide +kernel⟩, List.mem_of_getElem? (i := 456) (by decide +kernel), List.mem_of_getElem? (i := 615) (by decide +kernel), List.mem_of_getElem? (i := 616) (by decide +kernel)⟩
def lw_privs_2 : List (MethodName × Nat) := [(⟨"ChairBallot", "leaveInTrace", "(I)V"⟩, 9), (⟨"ChairBallot", "toldAsShaded", "(I)I"⟩, 9), (⟨"ChairBallot", "toldAsBroken", "(I)I"⟩, 9), (⟨"ChairBallotModel", "refused", "(I)I"⟩, 23), (⟨"ChairBallotModel", "cellsBarred", "(IIIJ)I"⟩, 23), (⟨"ChairBallotModel", "failed", "(I)I"⟩, 23), (⟨"ChairBallotModel", "readsFront", "(II)Z"⟩, 23), (⟨"ChairBallotModel", "codeAt", "(II)I"⟩, 23), (⟨"ChairBallotModel", "readsChair", "(II)Z"⟩, 23), (⟨"ChairBallotModel", "figure", "(IIIII)I"⟩, 23), (⟨"ChairBallotModel", "noChair", "(I)Z"⟩, 23), (⟨"ChairBallotModel", "votesOf", "(I)I"⟩, 23), (⟨"ChairBallotModel", "votesOpen", "(I)I"⟩, 23), (⟨"ChairBallotModel", "countsAs", "(I)I"⟩, 23), (⟨"ChairBallotModel", "meets", "(I)Z"⟩, 23), (⟨"ChairBallotModel", "whoIs", "(I)I"⟩, 23)]
theorem lw_r2 : ∀ q ∈ lw_privs_2, lw_okq q := List.forall_mem_cons.mpr ⟨lw_p16, List.forall_mem_cons.mpr ⟨lw_p17, List.forall_mem_cons.mpr ⟨lw_p18, List.forall_mem_cons.mpr ⟨lw_p19, List.forall_mem_cons.mpr ⟨lw_p20, List.forall_mem_cons.mpr ⟨lw_p21, List.forall_mem_cons.mpr ⟨lw_p22, List.forall_mem_cons.mpr ⟨lw_p23, List.forall_mem_cons.mpr ⟨lw_p24, List.forall_mem_cons.mpr ⟨lw_p25, List.forall_mem_cons.mpr ⟨lw_p26, List.forall_mem_cons.mpr ⟨lw_p27, List.forall_mem_cons.mpr ⟨lw_p28, List.forall_mem_cons.mpr ⟨lw_p29, List.forall_mem_cons.mpr ⟨lw_p30, List.forall_mem_cons.mpr ⟨lw_p31, fun _ h => absurd h List.not_mem_nil⟩⟩⟩⟩⟩⟩⟩⟩⟩⟩⟩⟩⟩⟩⟩⟩
theorem lw_p32 : lw_okq (⟨"ChairBallotModel", "votesIn", "(I)I"⟩, 23) := ⟨⟨by decide +kernel, by decide +kernel⟩, List.mem_of_getElem? (i := 456) (by decide +kernel), List.mem_of_getElem? (i := 619) (by decide +kernel), List.mem_of_getElem? (i := 620) (by decide +kernel)⟩
theorem lw_p33 : lw_okq (⟨"ChairBallotModel", "isCarried", "()Z"⟩, 23) := ⟨⟨by decide +kernel, by decide +kernel⟩, List.mem_of_getElem? (i := 456) (by decide +kernel), List.mem_of_getElem? (i := 623) (by decide +kernel), List.mem_of_getElem? (i := 624) (by decide +kernel)⟩
theorem lw_p34 : lw_okq (⟨"ChairBallotModel", "blown", "(II)I"⟩, 23) := ⟨⟨by decide +kernel, by decide +kernel⟩, List.mem_of_getElem? (i := 456) (by decide +kernel), List.mem_of_getElem? (i := 636) (by decide +kernel), List.mem_of_getElem? (i := 637) (by decide +kernel)⟩
theorem lw_p35 : lw_okq (⟨"ChairBallotModel", "everyChair", "()I"⟩, 23) := ⟨⟨by decide +kernel, by decide +kernel⟩, List.mem_of_getElem? (i := 456) (by decide +kernel), List.mem_of_getElem? (i := 647) (by decide +kernel), List.mem_of_getElem? (i := 648) (by decide +kernel)⟩
theorem lw_p36 : lw_okq (⟨"ChairBallotModel", "pairsBarred", "(II)I"⟩, 23) := ⟨⟨by decide +kernel, by decide +kernel⟩, List.mem_of_getElem? (i := 456) (by decide +kernel), List.mem_of_getElem? (i := 662) (by decide +kernel), List.mem_of_getElem? (i := 663) (by decide +kernel)⟩
theorem lw_p37 : lw_okq (⟨"ChairBallotModel", "keepAll", "()V"⟩, 23) := ⟨⟨by decide +kernel, by decide +kernel⟩, List.mem_of_getElem? (i := 456) (by decide +kernel), List.mem_of_getElem? (i := 667) (by decide +kernel), List.mem_of_getElem? (i := 668) (by decide +kernel)⟩
theorem lw_p38 : lw_okq (⟨"ChairBallotModel", "dayBy", "(III)I"⟩, 23) := ⟨⟨by decide +kernel, by decide +kernel⟩, List.mem_of_getElem? (i := 456) (by decide +kernel), List.mem_of_getElem? (i := 671) (by decide +kernel), List.mem_of_getElem? (i := 672) (by decide +kernel)⟩
theorem lw_p39 : lw_okq (⟨"ChairBallotModel", "didPair", "(II)Z"⟩, 23) := ⟨⟨by decide +kernel, by decide +kernel⟩, List.mem_of_getElem? (i := 456) (by decide +kernel), List.mem_of_getElem? (i := 675) (by decide +kernel), List.mem_of_getElem? (i := 676) (by decide +kernel)⟩
theorem lw_p40 : lw_okq (⟨"ChairBallotModel", "bringBack", "()V"⟩, 23) := ⟨⟨by decide +kernel, by decide +kernel⟩, List.mem_of_getElem? (i := 456) (by decide +kernel), List.mem_of_getElem? (i := 681) (by decide +kernel), List.mem_of_getElem? (i := 682) (by decide +kernel)⟩
theorem lw_p41 : lw_okq (⟨"ChairBallotModel", "wonBy", "(I)I"⟩, 23) := ⟨⟨by decide +kernel, by decide +kernel⟩, List.mem_of_getElem? (i := 456) (by decide +kernel), List.mem_of_getElem? (i := 699) (by decide +kernel), List.mem_of_getElem? (i := 700) (by decide +kernel)⟩
theorem lw_p42 : lw_okq (⟨"ChairBallotModel", "votesBy", "(I)I"⟩, 23) := ⟨⟨by decide +kernel, by decide +kernel⟩, List.mem_of_getElem? (i := 456) (by decide +kernel), List.mem_of_getElem? (i := 717) (by decide +kernel), List.mem_of_getElem? (i := 718) (by decide +kernel)⟩
theorem lw_p43 : lw_okq (⟨"ChairBallotModel", "areSo", "()Z"⟩, 23) := ⟨⟨by decide +kernel, by decide +kernel⟩, List.mem_of_getElem? (i := 456) (by decide +kernel), List.mem_of_getElem? (i := 736) (by decide +kernel), List.mem_of_getElem? (i := 737) (by decide +kernel)⟩
theorem lw_p44 : lw_okq (⟨"ChairBallotModel", "moreBy", "(I)I"⟩, 23) := ⟨⟨by decide +kernel, by decide +kernel⟩, List.mem_of_getElem? (i := 456) (by decide +kernel), List.mem_of_getElem? (i := 748) (by decide +kernel), List.mem_of_getElem? (i := 749) (by decide +kernel)⟩
theorem lw_p45 : lw_okq (⟨"ChairBallotModel", "noCell", "(II)I"⟩, 23) := ⟨⟨by decide +kernel, by decide +kernel⟩, List.mem_of_getElem? (i := 456) (by decide +kernel), List.mem_of_getElem? (i := 764) (by decide +kernel), List.mem_of_getElem? (i := 765) (by decide +kernel)⟩
theorem lw_p46 : lw_okq (⟨"ChairBallotModel", "failedLong", "(I)J"⟩, 23) := ⟨⟨by decide +kernel, by decide +kernel⟩, List.mem_of_getElem? (i := 456) (by decide +kernel), List.mem_of_getElem? (i := 772) (by decide +kernel), List.mem_of_getElem? (i := 773) (by decide +kernel)⟩
theorem lw_p47 : lw_okq (⟨"ChairBallotModel", "traced", "(I)V"⟩, 23) := ⟨⟨by decide +kernel, by decide +kernel⟩, List.mem_of_getElem? (i := 456) (by decide +kernel), List.mem_of_getElem? (i := 784) (by decide +kernel), List.mem_of_getElem? (i := 785) (by decide +kernel)⟩
def lw_privs_3 : List (MethodName × Nat) := [(⟨"ChairBallotModel", "votesIn", "(I)I"⟩, 23), (⟨"ChairBallotModel", "isCarried", "()Z"⟩, 23), (⟨"ChairBallotModel", "blown", "(II)I"⟩, 23), (⟨"ChairBallotModel", "everyChair", "()I"⟩, 23), (⟨"ChairBallotModel", "pairsBarred", "(II)I"⟩, 23), (⟨"ChairBallotModel", "keepAll", "()V"⟩, 23), (⟨"ChairBallotModel", "dayBy", "(III)I"⟩, 23), (⟨"ChairBallotModel", "didPair", "(II)Z"⟩, 23), (⟨"ChairBallotModel", "bringBack", "()V"⟩, 23), (⟨"ChairBallotModel", "wonBy", "(I)I"⟩, 23), (⟨"ChairBallotModel", "votesBy", "(I)I"⟩, 23), (⟨"ChairBallotModel", "areSo", "()Z"⟩, 23), (⟨"ChairBallotModel", "moreBy", "(I)I"⟩, 23), (⟨"ChairBallotModel", "noCell", "(II)I"⟩, 23), (⟨"ChairBallotModel", "failedLong", "(I)J"⟩, 23), (⟨"ChairBallotModel", "traced", "(I)V"⟩, 23)]
theorem lw_r3 : ∀ q ∈ lw_privs_3, lw_okq q := List.forall_mem_cons.mpr ⟨lw_p32, List.forall_mem_cons.mpr ⟨lw_p33, List.forall_mem_cons.mpr ⟨lw_p34, List.forall_mem_cons.mpr ⟨lw_p35, List.forall_mem_cons.mpr ⟨lw_p36, List.forall_mem_cons.mpr ⟨lw_p37, List.forall_mem_cons.mpr ⟨lw_p38, List.forall_mem_cons.mpr ⟨lw_p39, List.forall_mem_cons.mpr ⟨lw_p40, List.forall_mem_cons.mpr ⟨lw_p41, List.forall_mem_cons.mpr ⟨lw_p42, List.forall_mem_cons.mpr ⟨lw_p43, List.forall_mem_cons.mpr ⟨lw_p44, List.forall_mem_cons.mpr ⟨lw_p45, List.forall_mem_cons.mpr ⟨lw_p46, List.forall_mem_cons.mpr ⟨lw_p47, fun _ h => absurd h List.not_mem_nil⟩⟩⟩⟩⟩⟩⟩⟩⟩⟩⟩⟩⟩⟩⟩⟩
def lw_privs : List (MethodName × Nat) := lw_privs_1 ++ (lw_privs_2 ++ (lw_privs_3))
def lw_tbl : List Cond := k2_sels lw_privs ++ tables_1
theorem lw_privs_ok : ∀ q ∈ lw_privs, lw_okq q := by
  show ∀ q ∈ lw_privs_1 ++ (lw_privs_2 ++ (lw_privs_3)), lw_okq q
  exact List.forall_mem_append.mpr ⟨lw_r1, List.forall_mem_append.mpr ⟨lw_r2, lw_r3⟩⟩
end
section
/-! ===== BEGIN words of one list among another's, by their places ===== -/
theorem goodIn_r {big : List Cond} (ws : List Cond) (ps : List Nat) (hp : ws = ps.filterMap (fun i => big[i]?)) (h : ws.all goodWord = true) : GoodIn big ws := by
  intro w hw
  have h1 := List.all_eq_true.mp h w hw
  rw [hp] at hw
  obtain ⟨i, -, hi⟩ := List.mem_filterMap.mp hw
  have hm : w ∈ big := by first | exact List.mem_of_getElem? hi | exact List.getElem?_mem hi
  exact ⟨hm, good_of_word h1⟩
theorem goodIn_app {big a b : List Cond} (ha : GoodIn big a) (hb : GoodIn big b) : GoodIn big (a ++ b) := fun w h => (List.mem_append.mp h).elim (ha w) (hb w)
theorem goodIn_ca {big a b : List Cond} {c : Cond} (ha : GoodIn big (c :: a)) (hb : GoodIn big b) : GoodIn big (c :: (a ++ b)) := fun w h => (List.mem_cons.mp h).elim (fun e => ha w (List.mem_cons.mpr (Or.inl e))) (fun h => (List.mem_append.mp h).elim (fun h => ha w (List.mem_cons.mpr (Or.inr h))) (hb w))
theorem goodIn_sub {big ws : List Cond} (hm : ∀ w ∈ ws, w ∈ big) (h : ws.all goodWord = true) : GoodIn big ws := fun w hw => ⟨hm w hw, good_of_word (List.all_eq_true.mp h w hw)⟩
/-! ===== END ===== -/

/-! ===== BEGIN printed: names, fields, word lists, decode rows ===== -/
def RX0 : String := "ChairBallot$Row"
def TX0 : u_T := fun k => match k with
  | 0 => ("ChairBallot$Row", "kind", "[I", true)
  | 1 => ("ChairBallot$Row", "stripe", "[I", true)
  | 2 => ("ChairBallot$Row", "weight", "[I", true)
  | 3 => ("ChairBallot$Row", "looks", "[I", true)
  | 4 => ("ChairBallot$Row", "count", "I", false)
  | _ => ("ChairBallot$Row", "folded", "I", false)
def tyX0 : Nat → FieldType := fun k => match k with
  | 0 => .array .int
  | 1 => .array .int
  | 2 => .array .int
  | 3 => .array .int
  | 4 => .int
  | _ => .int
abbrev wsX00 : List Cond := u_ws RX0 TX0 6
theorem nmX0 : ∀ a, a < 6 → ∀ b, b < 6 → a ≠ b → (TX0 a).2.1 ≠ (TX0 b).2.1 := by decide +kernel
theorem tyX0_ok : ∀ k, k < 6 → parseFieldDescriptor (TX0 k).2.2.1 = some (tyX0 k) := by decide +kernel
abbrev cX0_init : ByteArray := prog_2_method_1_code
def yX0_init : MethodName := ⟨RX0, "<init>", "()V"⟩
abbrev cX0_has : ByteArray := prog_2_method_2_code
def yX0_has : MethodName := ⟨RX0, "has", "(I)Z"⟩
abbrev cX0_isFolded : ByteArray := prog_2_method_3_code
def yX0_isFolded : MethodName := ⟨RX0, "isFolded", "(I)Z"⟩
abbrev cX0_becomes : ByteArray := prog_2_method_4_code
def yX0_becomes : MethodName := ⟨RX0, "becomes", "(LChairBallot$Row;)V"⟩
abbrev cX0_votesWhenOpen : ByteArray := prog_2_method_5_code
def yX0_votesWhenOpen : MethodName := ⟨RX0, "votesWhenOpen", "(I)I"⟩
abbrev cX0_votes : ByteArray := prog_2_method_6_code
def yX0_votes : MethodName := ⟨RX0, "votes", "(I)I"⟩
abbrev cX0_meetsNext : ByteArray := prog_2_method_7_code
def yX0_meetsNext : MethodName := ⟨RX0, "meetsNext", "(I)Z"⟩
abbrev cX0_side : ByteArray := prog_2_method_8_code
def yX0_side : MethodName := ⟨RX0, "side", "(I)I"⟩
abbrev cX0_tilt : ByteArray := prog_2_method_9_code
def yX0_tilt : MethodName := ⟨RX0, "tilt", "(I)I"⟩
abbrev cX0_isCarried : ByteArray := prog_2_method_10_code
def yX0_isCarried : MethodName := ⟨RX0, "isCarried", "()Z"⟩
abbrev cX0_chairsOf : ByteArray := prog_2_method_11_code
def yX0_chairsOf : MethodName := ⟨RX0, "chairsOf", "(I)I"⟩
abbrev cX0_votesOf : ByteArray := prog_2_method_12_code
def yX0_votesOf : MethodName := ⟨RX0, "votesOf", "(I)I"⟩
abbrev cX0_votesIn : ByteArray := prog_2_method_13_code
def yX0_votesIn : MethodName := ⟨RX0, "votesIn", "(I)I"⟩
abbrev cX0_votesOfStripes : ByteArray := prog_2_method_14_code
def yX0_votesOfStripes : MethodName := ⟨RX0, "votesOfStripes", "(I)I"⟩
abbrev cX0_turned : ByteArray := prog_2_method_15_code
def yX0_turned : MethodName := ⟨RX0, "turned", "(II)Z"⟩
abbrev cX0_blown : ByteArray := prog_2_method_16_code
def yX0_blown : MethodName := ⟨RX0, "blown", "(II)I"⟩
abbrev cX0_foldedByRain : ByteArray := prog_2_method_17_code
def yX0_foldedByRain : MethodName := ⟨RX0, "foldedByRain", "()I"⟩
abbrev cX0_opened : ByteArray := prog_2_method_18_code
def yX0_opened : MethodName := ⟨RX0, "opened", "(I)Z"⟩
abbrev cX0_acted : ByteArray := prog_2_method_19_code
def yX0_acted : MethodName := ⟨RX0, "acted", "(II)Z"⟩
def RX1 : String := "ChairBallot$Sheet"
def TX1 : u_T := fun k => match k with
  | 0 => ("ChairBallot$Sheet", "cells", "[I", true)
  | 1 => ("ChairBallot$Sheet", "hasRow", "Z", false)
  | 2 => ("ChairBallot$Sheet", "lane", "I", false)
  | _ => ("ChairBallot$Sheet", "length", "I", false)
def tyX1 : Nat → FieldType := fun k => match k with
  | 0 => .array .int
  | 1 => .boolean
  | 2 => .int
  | _ => .int
abbrev wsX10 : List Cond := u_ws RX1 TX1 4
theorem nmX1 : ∀ a, a < 4 → ∀ b, b < 4 → a ≠ b → (TX1 a).2.1 ≠ (TX1 b).2.1 := by decide +kernel
theorem tyX1_ok : ∀ k, k < 4 → parseFieldDescriptor (TX1 k).2.2.1 = some (tyX1 k) := by decide +kernel
abbrev cX1_init : ByteArray := prog_3_method_1_code
def yX1_init : MethodName := ⟨RX1, "<init>", "()V"⟩
abbrev cX1_getsRow : ByteArray := prog_3_method_2_code
def yX1_getsRow : MethodName := ⟨RX1, "getsRow", "(II)V"⟩
abbrev cX1_faultAs : ByteArray := prog_3_method_3_code
def yX1_faultAs : MethodName := ⟨RX1, "faultAs", "(I)I"⟩
abbrev cX1_holds : ByteArray := prog_3_method_4_code
def yX1_holds : MethodName := ⟨RX1, "holds", "(II)Z"⟩
abbrev cX1_at : ByteArray := prog_3_method_5_code
def yX1_at : MethodName := ⟨RX1, "at", "(I)I"⟩
abbrev cX1_becomesAt : ByteArray := prog_3_method_6_code
def yX1_becomesAt : MethodName := ⟨RX1, "becomesAt", "(II)V"⟩
abbrev cX1_cut : ByteArray := prog_3_method_7_code
def yX1_cut : MethodName := ⟨RX1, "cut", "(I)I"⟩
def RX2 : String := "ChairBallot"
def TX2 : u_T := fun k => match k with
  | 0 => ("ChairBallot", "sheets", "[LChairBallot$Sheet;", true)
  | 1 => ("ChairBallot", "now", "LChairBallot$Row;", true)
  | 2 => ("ChairBallot", "trial", "LChairBallot$Row;", true)
  | 3 => ("ChairBallot", "tilts", "[I", true)
  | 4 => ("ChairBallot", "readChair", "[I", true)
  | 5 => ("ChairBallot", "readVotes", "[I", true)
  | 6 => ("ChairBallot", "readings", "I", false)
  | 7 => ("ChairBallot", "traced", "I", false)
  | _ => ("ChairBallot", "latestFault", "I", false)
def tyX2 : Nat → FieldType := fun k => match k with
  | 0 => .array (.object "ChairBallot$Sheet")
  | 1 => .object "ChairBallot$Row"
  | 2 => .object "ChairBallot$Row"
  | 3 => .array .int
  | 4 => .array .int
  | 5 => .array .int
  | 6 => .int
  | 7 => .int
  | _ => .int
abbrev wsX20 : List Cond := u_ws RX2 TX2 9
theorem nmX2 : ∀ a, a < 9 → ∀ b, b < 9 → a ≠ b → (TX2 a).2.1 ≠ (TX2 b).2.1 := by decide +kernel
theorem tyX2_ok : ∀ k, k < 9 → parseFieldDescriptor (TX2 k).2.2.1 = some (tyX2 k) := by decide +kernel
abbrev cX2_init : ByteArray := prog_1_method_1_code
def yX2_init : MethodName := ⟨RX2, "<init>", "()V"⟩
abbrev cX2_front : ByteArray := prog_1_method_2_code
def yX2_front : MethodName := ⟨RX2, "front", "(IIII)I"⟩
abbrev cX2_ofChair : ByteArray := prog_1_method_3_code
def yX2_ofChair : MethodName := ⟨RX2, "ofChair", "(II)I"⟩
abbrev cX2_paint : ByteArray := prog_1_method_4_code
def yX2_paint : MethodName := ⟨RX2, "paint", "(II)I"⟩
abbrev cX2_load : ByteArray := prog_1_method_5_code
def yX2_load : MethodName := ⟨RX2, "load", "(II)I"⟩
abbrev cX2_poll : ByteArray := prog_1_method_6_code
def yX2_poll : MethodName := ⟨RX2, "poll", "(I)I"⟩
abbrev cX2_firstFaultOfText : ByteArray := prog_1_method_7_code
def yX2_firstFaultOfText : MethodName := ⟨RX2, "firstFaultOfText", "(LChairBallot$Sheet;II)I"⟩
abbrev cX2_goesOn : ByteArray := prog_1_method_8_code
def yX2_goesOn : MethodName := ⟨RX2, "goesOn", "(II)Z"⟩
abbrev cX2_kindOf : ByteArray := prog_1_method_9_code
def yX2_kindOf : MethodName := ⟨RX2, "kindOf", "(I)I"⟩
abbrev cX2_takeText : ByteArray := prog_1_method_10_code
def yX2_takeText : MethodName := ⟨RX2, "takeText", "(LChairBallot$Sheet;II)V"⟩
abbrev cX2_hasFront : ByteArray := prog_1_method_11_code
def yX2_hasFront : MethodName := ⟨RX2, "hasFront", "()Z"⟩
abbrev cX2_isStripe : ByteArray := prog_1_method_12_code
def yX2_isStripe : MethodName := ⟨RX2, "isStripe", "(I)Z"⟩
abbrev cX2_isWay : ByteArray := prog_1_method_13_code
def yX2_isWay : MethodName := ⟨RX2, "isWay", "(I)Z"⟩
abbrev cX2_turn : ByteArray := prog_1_method_14_code
def yX2_turn : MethodName := ⟨RX2, "turn", "(II)I"⟩
abbrev cX2_gust : ByteArray := prog_1_method_15_code
def yX2_gust : MethodName := ⟨RX2, "gust", "(II)I"⟩
abbrev cX2_rain : ByteArray := prog_1_method_16_code
def yX2_rain : MethodName := ⟨RX2, "rain", "()I"⟩
abbrev cX2_open : ByteArray := prog_1_method_17_code
def yX2_open : MethodName := ⟨RX2, "open", "(I)I"⟩
abbrev cX2_day : ByteArray := prog_1_method_18_code
def yX2_day : MethodName := ⟨RX2, "day", "(IIIII)I"⟩
abbrev cX2_isAskedOfDay : ByteArray := prog_1_method_19_code
def yX2_isAskedOfDay : MethodName := ⟨RX2, "isAskedOfDay", "(I)Z"⟩
abbrev cX2_refusalOfPairs : ByteArray := prog_1_method_20_code
def yX2_refusalOfPairs : MethodName := ⟨RX2, "refusalOfPairs", "(LChairBallot$Sheet;II)I"⟩
abbrev cX2_refusalOfPair : ByteArray := prog_1_method_21_code
def yX2_refusalOfPair : MethodName := ⟨RX2, "refusalOfPair", "(II)I"⟩
abbrev cX2_answerOfDay : ByteArray := prog_1_method_22_code
def yX2_answerOfDay : MethodName := ⟨RX2, "answerOfDay", "(LChairBallot$Sheet;III)I"⟩
abbrev cX2_swing : ByteArray := prog_1_method_23_code
def yX2_swing : MethodName := ⟨RX2, "swing", "()I"⟩
abbrev cX2_blow : ByteArray := prog_1_method_24_code
def yX2_blow : MethodName := ⟨RX2, "blow", "(I)I"⟩
abbrev cX2_wards : ByteArray := prog_1_method_25_code
def yX2_wards : MethodName := ⟨RX2, "wards", "(II)I"⟩
abbrev cX2_power : ByteArray := prog_1_method_26_code
def yX2_power : MethodName := ⟨RX2, "power", "(II)J"⟩
abbrev cX2_isCarriedIfAtSea : ByteArray := prog_1_method_27_code
def yX2_isCarriedIfAtSea : MethodName := ⟨RX2, "isCarriedIfAtSea", "(I)Z"⟩
abbrev cX2_fairestCuts : ByteArray := prog_1_method_28_code
def yX2_fairestCuts : MethodName := ⟨RX2, "fairestCuts", "(I)I"⟩
abbrev cX2_beginsWard : ByteArray := prog_1_method_29_code
def yX2_beginsWard : MethodName := ⟨RX2, "beginsWard", "(II)Z"⟩
abbrev cX2_wardsWon : ByteArray := prog_1_method_30_code
def yX2_wardsWon : MethodName := ⟨RX2, "wardsWon", "(I)I"⟩
abbrev cX2_firstOfWard : ByteArray := prog_1_method_31_code
def yX2_firstOfWard : MethodName := ⟨RX2, "firstOfWard", "(II)I"⟩
abbrev cX2_isUpperOrLower : ByteArray := prog_1_method_32_code
def yX2_isUpperOrLower : MethodName := ⟨RX2, "isUpperOrLower", "(I)Z"⟩
abbrev cX2_share : ByteArray := prog_1_method_33_code
def yX2_share : MethodName := ⟨RX2, "share", "(III)J"⟩
abbrev cX2_isIn : ByteArray := prog_1_method_34_code
def yX2_isIn : MethodName := ⟨RX2, "isIn", "(II)Z"⟩
abbrev cX2_reading : ByteArray := prog_1_method_35_code
def yX2_reading : MethodName := ⟨RX2, "reading", "(II)I"⟩
abbrev cX2_back : ByteArray := prog_1_method_36_code
def yX2_back : MethodName := ⟨RX2, "back", "(I)I"⟩
abbrev cX2_weights : ByteArray := prog_1_method_37_code
def yX2_weights : MethodName := ⟨RX2, "weights", "(I)I"⟩
abbrev cX2_kinds : ByteArray := prog_1_method_38_code
def yX2_kinds : MethodName := ⟨RX2, "kinds", "(I)I"⟩
abbrev cX2_odds : ByteArray := prog_1_method_39_code
def yX2_odds : MethodName := ⟨RX2, "odds", "(II)J"⟩
abbrev cX2_allReadingsAreSo : ByteArray := prog_1_method_40_code
def yX2_allReadingsAreSo : MethodName := ⟨RX2, "allReadingsAreSo", "(III)Z"⟩
abbrev cX2_waysThatCarry : ByteArray := prog_1_method_41_code
def yX2_waysThatCarry : MethodName := ⟨RX2, "waysThatCarry", "(I)I"⟩
abbrev cX2_waysDecidedBy : ByteArray := prog_1_method_42_code
def yX2_waysDecidedBy : MethodName := ⟨RX2, "waysDecidedBy", "(II)I"⟩
abbrev cX2_votesAs : ByteArray := prog_1_method_43_code
def yX2_votesAs : MethodName := ⟨RX2, "votesAs", "(II)I"⟩
abbrev cX2_sheet : ByteArray := prog_1_method_44_code
def yX2_sheet : MethodName := ⟨RX2, "sheet", "(III)I"⟩
abbrev cX2_lose : ByteArray := prog_1_method_45_code
def yX2_lose : MethodName := ⟨RX2, "lose", "(I)I"⟩
abbrev cX2_put : ByteArray := prog_1_method_46_code
def yX2_put : MethodName := ⟨RX2, "put", "(III)I"⟩
abbrev cX2_cell : ByteArray := prog_1_method_47_code
def yX2_cell : MethodName := ⟨RX2, "cell", "(III)J"⟩
abbrev cX2_copy : ByteArray := prog_1_method_48_code
def yX2_copy : MethodName := ⟨RX2, "copy", "(IIIII)I"⟩
abbrev cX2_tell : ByteArray := prog_1_method_49_code
def yX2_tell : MethodName := ⟨RX2, "tell", "(I)I"⟩
abbrev cX2_chalk : ByteArray := prog_1_method_50_code
def yX2_chalk : MethodName := ⟨RX2, "chalk", "(I)I"⟩
abbrev cX2_as : ByteArray := prog_1_method_51_code
def yX2_as : MethodName := ⟨RX2, "as", "(II)I"⟩
abbrev cX2_trace : ByteArray := prog_1_method_52_code
def yX2_trace : MethodName := ⟨RX2, "trace", "()I"⟩
abbrev cX2_fault : ByteArray := prog_1_method_53_code
def yX2_fault : MethodName := ⟨RX2, "fault", "()I"⟩
abbrev cX2_many : ByteArray := prog_1_method_54_code
def yX2_many : MethodName := ⟨RX2, "many", "(I)I"⟩
abbrev cX2_sheetAt : ByteArray := prog_1_method_55_code
def yX2_sheetAt : MethodName := ⟨RX2, "sheetAt", "(I)LChairBallot$Sheet;"⟩
abbrev cX2_isLane : ByteArray := prog_1_method_56_code
def yX2_isLane : MethodName := ⟨RX2, "isLane", "(I)Z"⟩
abbrev cX2_faulted : ByteArray := prog_1_method_57_code
def yX2_faulted : MethodName := ⟨RX2, "faulted", "(I)I"⟩
abbrev cX2_toldAsPlain : ByteArray := prog_1_method_58_code
def yX2_toldAsPlain : MethodName := ⟨RX2, "toldAsPlain", "(I)I"⟩
abbrev cX2_toldAsShaded : ByteArray := prog_1_method_59_code
def yX2_toldAsShaded : MethodName := ⟨RX2, "toldAsShaded", "(I)I"⟩
abbrev cX2_toldAsBroken : ByteArray := prog_1_method_60_code
def yX2_toldAsBroken : MethodName := ⟨RX2, "toldAsBroken", "(I)I"⟩
abbrev cX2_leaveInTrace : ByteArray := prog_1_method_61_code
def yX2_leaveInTrace : MethodName := ⟨RX2, "leaveInTrace", "(I)V"⟩
def RX3 : String := "ChairBallotModel"
def TX3 : u_T := fun k => match k with
  | 0 => ("ChairBallotModel", "fault", "I", false)
  | 1 => ("ChairBallotModel", "chairs", "I", false)
  | 2 => ("ChairBallotModel", "folded", "I", false)
  | 3 => ("ChairBallotModel", "kindOf", "[I", true)
  | 4 => ("ChairBallotModel", "stripeOf", "[I", true)
  | 5 => ("ChairBallotModel", "weightOf", "[I", true)
  | 6 => ("ChairBallotModel", "facesOf", "[I", true)
  | 7 => ("ChairBallotModel", "readAt", "I", false)
  | 8 => ("ChairBallotModel", "readChairs", "I", false)
  | 9 => ("ChairBallotModel", "readKind", "[I", true)
  | 10 => ("ChairBallotModel", "readStripe", "[I", true)
  | 11 => ("ChairBallotModel", "readWeight", "[I", true)
  | 12 => ("ChairBallotModel", "readFaces", "[I", true)
  | 13 => ("ChairBallotModel", "foldedKept", "I", false)
  | 14 => ("ChairBallotModel", "facesKept", "[I", true)
  | 15 => ("ChairBallotModel", "readings", "I", false)
  | 16 => ("ChairBallotModel", "readingOf", "[I", true)
  | 17 => ("ChairBallotModel", "readingWas", "[I", true)
  | 18 => ("ChairBallotModel", "sheetSize", "[I", true)
  | 19 => ("ChairBallotModel", "sheetLane", "[I", true)
  | 20 => ("ChairBallotModel", "sheet", "[I", true)
  | 21 => ("ChairBallotModel", "hands", "[I", true)
  | _ => ("ChairBallotModel", "traceNow", "I", false)
def tyX3 : Nat → FieldType := fun k => match k with
  | 0 => .int
  | 1 => .int
  | 2 => .int
  | 3 => .array .int
  | 4 => .array .int
  | 5 => .array .int
  | 6 => .array .int
  | 7 => .int
  | 8 => .int
  | 9 => .array .int
  | 10 => .array .int
  | 11 => .array .int
  | 12 => .array .int
  | 13 => .int
  | 14 => .array .int
  | 15 => .int
  | 16 => .array .int
  | 17 => .array .int
  | 18 => .array .int
  | 19 => .array .int
  | 20 => .array .int
  | 21 => .array .int
  | _ => .int
abbrev wsX30 : List Cond := u_ws RX3 TX3 23
theorem nmX3 : ∀ a, a < 23 → ∀ b, b < 23 → a ≠ b → (TX3 a).2.1 ≠ (TX3 b).2.1 := by decide +kernel
theorem tyX3_ok : ∀ k, k < 23 → parseFieldDescriptor (TX3 k).2.2.1 = some (tyX3 k) := by decide +kernel
abbrev cX3_init : ByteArray := prog_5_method_1_code
def yX3_init : MethodName := ⟨RX3, "<init>", "()V"⟩
abbrev cX3_in : ByteArray := prog_5_method_2_code
def yX3_in : MethodName := ⟨RX3, "in", "(JJJ)Z"⟩
abbrev cX3_lost : ByteArray := prog_5_method_3_code
def yX3_lost : MethodName := ⟨RX3, "lost", "()J"⟩
abbrev cX3_isIn : ByteArray := prog_5_method_4_code
def yX3_isIn : MethodName := ⟨RX3, "isIn", "(II)Z"⟩
abbrev cX3_bits : ByteArray := prog_5_method_5_code
def yX3_bits : MethodName := ⟨RX3, "bits", "(I)I"⟩
abbrev cX3_share : ByteArray := prog_5_method_6_code
def yX3_share : MethodName := ⟨RX3, "share", "(JJI)J"⟩
abbrev cX3_refused : ByteArray := prog_5_method_7_code
def yX3_refused : MethodName := ⟨RX3, "refused", "(I)I"⟩
abbrev cX3_failed : ByteArray := prog_5_method_8_code
def yX3_failed : MethodName := ⟨RX3, "failed", "(I)I"⟩
abbrev cX3_failedLong : ByteArray := prog_5_method_9_code
def yX3_failedLong : MethodName := ⟨RX3, "failedLong", "(I)J"⟩
abbrev cX3_noChair : ByteArray := prog_5_method_10_code
def yX3_noChair : MethodName := ⟨RX3, "noChair", "(I)Z"⟩
abbrev cX3_everyChair : ByteArray := prog_5_method_11_code
def yX3_everyChair : MethodName := ⟨RX3, "everyChair", "()I"⟩
abbrev cX3_codeAt : ByteArray := prog_5_method_12_code
def yX3_codeAt : MethodName := ⟨RX3, "codeAt", "(II)I"⟩
abbrev cX3_figure : ByteArray := prog_5_method_13_code
def yX3_figure : MethodName := ⟨RX3, "figure", "(IIIII)I"⟩
abbrev cX3_readsChair : ByteArray := prog_5_method_14_code
def yX3_readsChair : MethodName := ⟨RX3, "readsChair", "(II)Z"⟩
abbrev cX3_readsFront : ByteArray := prog_5_method_15_code
def yX3_readsFront : MethodName := ⟨RX3, "readsFront", "(II)Z"⟩
abbrev cX3_cellsBarred : ByteArray := prog_5_method_16_code
def yX3_cellsBarred : MethodName := ⟨RX3, "cellsBarred", "(IIIJ)I"⟩
abbrev cX3_front : ByteArray := prog_5_method_17_code
def yX3_front : MethodName := ⟨RX3, "front", "(IIII)I"⟩
abbrev cX3_votesOpen : ByteArray := prog_5_method_18_code
def yX3_votesOpen : MethodName := ⟨RX3, "votesOpen", "(I)I"⟩
abbrev cX3_votesOf : ByteArray := prog_5_method_19_code
def yX3_votesOf : MethodName := ⟨RX3, "votesOf", "(I)I"⟩
abbrev cX3_meets : ByteArray := prog_5_method_20_code
def yX3_meets : MethodName := ⟨RX3, "meets", "(I)Z"⟩
abbrev cX3_countsAs : ByteArray := prog_5_method_21_code
def yX3_countsAs : MethodName := ⟨RX3, "countsAs", "(I)I"⟩
abbrev cX3_ofChair : ByteArray := prog_5_method_22_code
def yX3_ofChair : MethodName := ⟨RX3, "ofChair", "(II)I"⟩
abbrev cX3_paint : ByteArray := prog_5_method_23_code
def yX3_paint : MethodName := ⟨RX3, "paint", "(II)I"⟩
abbrev cX3_load : ByteArray := prog_5_method_24_code
def yX3_load : MethodName := ⟨RX3, "load", "(II)I"⟩
abbrev cX3_whoIs : ByteArray := prog_5_method_25_code
def yX3_whoIs : MethodName := ⟨RX3, "whoIs", "(I)I"⟩
abbrev cX3_votesIn : ByteArray := prog_5_method_26_code
def yX3_votesIn : MethodName := ⟨RX3, "votesIn", "(I)I"⟩
abbrev cX3_isCarried : ByteArray := prog_5_method_27_code
def yX3_isCarried : MethodName := ⟨RX3, "isCarried", "()Z"⟩
abbrev cX3_poll : ByteArray := prog_5_method_28_code
def yX3_poll : MethodName := ⟨RX3, "poll", "(I)I"⟩
abbrev cX3_turn : ByteArray := prog_5_method_29_code
def yX3_turn : MethodName := ⟨RX3, "turn", "(II)I"⟩
abbrev cX3_blown : ByteArray := prog_5_method_30_code
def yX3_blown : MethodName := ⟨RX3, "blown", "(II)I"⟩
abbrev cX3_gust : ByteArray := prog_5_method_31_code
def yX3_gust : MethodName := ⟨RX3, "gust", "(II)I"⟩
abbrev cX3_rain : ByteArray := prog_5_method_32_code
def yX3_rain : MethodName := ⟨RX3, "rain", "()I"⟩
abbrev cX3_open : ByteArray := prog_5_method_33_code
def yX3_open : MethodName := ⟨RX3, "open", "(I)I"⟩
abbrev cX3_keepAll : ByteArray := prog_5_method_34_code
def yX3_keepAll : MethodName := ⟨RX3, "keepAll", "()V"⟩
abbrev cX3_bringBack : ByteArray := prog_5_method_35_code
def yX3_bringBack : MethodName := ⟨RX3, "bringBack", "()V"⟩
abbrev cX3_pairsBarred : ByteArray := prog_5_method_36_code
def yX3_pairsBarred : MethodName := ⟨RX3, "pairsBarred", "(II)I"⟩
abbrev cX3_didPair : ByteArray := prog_5_method_37_code
def yX3_didPair : MethodName := ⟨RX3, "didPair", "(II)Z"⟩
abbrev cX3_dayBy : ByteArray := prog_5_method_38_code
def yX3_dayBy : MethodName := ⟨RX3, "dayBy", "(III)I"⟩
abbrev cX3_day : ByteArray := prog_5_method_39_code
def yX3_day : MethodName := ⟨RX3, "day", "(IIIII)I"⟩
abbrev cX3_swing : ByteArray := prog_5_method_40_code
def yX3_swing : MethodName := ⟨RX3, "swing", "()I"⟩
abbrev cX3_blow : ByteArray := prog_5_method_41_code
def yX3_blow : MethodName := ⟨RX3, "blow", "(I)I"⟩
abbrev cX3_wonBy : ByteArray := prog_5_method_42_code
def yX3_wonBy : MethodName := ⟨RX3, "wonBy", "(I)I"⟩
abbrev cX3_beginOf : ByteArray := prog_5_method_43_code
def yX3_beginOf : MethodName := ⟨RX3, "beginOf", "(II)I"⟩
abbrev cX3_isAhead : ByteArray := prog_5_method_44_code
def yX3_isAhead : MethodName := ⟨RX3, "isAhead", "(II)Z"⟩
abbrev cX3_wards : ByteArray := prog_5_method_45_code
def yX3_wards : MethodName := ⟨RX3, "wards", "(II)I"⟩
abbrev cX3_votesBy : ByteArray := prog_5_method_46_code
def yX3_votesBy : MethodName := ⟨RX3, "votesBy", "(I)I"⟩
abbrev cX3_power : ByteArray := prog_5_method_47_code
def yX3_power : MethodName := ⟨RX3, "power", "(II)J"⟩
abbrev cX3_reading : ByteArray := prog_5_method_48_code
def yX3_reading : MethodName := ⟨RX3, "reading", "(II)I"⟩
abbrev cX3_back : ByteArray := prog_5_method_49_code
def yX3_back : MethodName := ⟨RX3, "back", "(I)I"⟩
abbrev cX3_areSo : ByteArray := prog_5_method_50_code
def yX3_areSo : MethodName := ⟨RX3, "areSo", "()Z"⟩
abbrev cX3_weights : ByteArray := prog_5_method_51_code
def yX3_weights : MethodName := ⟨RX3, "weights", "(I)I"⟩
abbrev cX3_kinds : ByteArray := prog_5_method_52_code
def yX3_kinds : MethodName := ⟨RX3, "kinds", "(I)I"⟩
abbrev cX3_moreBy : ByteArray := prog_5_method_53_code
def yX3_moreBy : MethodName := ⟨RX3, "moreBy", "(I)I"⟩
abbrev cX3_odds : ByteArray := prog_5_method_54_code
def yX3_odds : MethodName := ⟨RX3, "odds", "(II)J"⟩
abbrev cX3_noSheet : ByteArray := prog_5_method_55_code
def yX3_noSheet : MethodName := ⟨RX3, "noSheet", "(I)Z"⟩
abbrev cX3_sheet : ByteArray := prog_5_method_56_code
def yX3_sheet : MethodName := ⟨RX3, "sheet", "(III)I"⟩
abbrev cX3_lose : ByteArray := prog_5_method_57_code
def yX3_lose : MethodName := ⟨RX3, "lose", "(I)I"⟩
abbrev cX3_noCell : ByteArray := prog_5_method_58_code
def yX3_noCell : MethodName := ⟨RX3, "noCell", "(II)I"⟩
abbrev cX3_put : ByteArray := prog_5_method_59_code
def yX3_put : MethodName := ⟨RX3, "put", "(III)I"⟩
abbrev cX3_cell : ByteArray := prog_5_method_60_code
def yX3_cell : MethodName := ⟨RX3, "cell", "(III)J"⟩
abbrev cX3_isBeyond : ByteArray := prog_5_method_61_code
def yX3_isBeyond : MethodName := ⟨RX3, "isBeyond", "(IJI)Z"⟩
abbrev cX3_copy : ByteArray := prog_5_method_62_code
def yX3_copy : MethodName := ⟨RX3, "copy", "(IIIII)I"⟩
abbrev cX3_traced : ByteArray := prog_5_method_63_code
def yX3_traced : MethodName := ⟨RX3, "traced", "(I)V"⟩
abbrev cX3_tell : ByteArray := prog_5_method_64_code
def yX3_tell : MethodName := ⟨RX3, "tell", "(I)I"⟩
abbrev cX3_chalk : ByteArray := prog_5_method_65_code
def yX3_chalk : MethodName := ⟨RX3, "chalk", "(I)I"⟩
abbrev cX3_as : ByteArray := prog_5_method_66_code
def yX3_as : MethodName := ⟨RX3, "as", "(II)I"⟩
abbrev cX3_trace : ByteArray := prog_5_method_67_code
def yX3_trace : MethodName := ⟨RX3, "trace", "()I"⟩
abbrev cX3_fault : ByteArray := prog_5_method_68_code
def yX3_fault : MethodName := ⟨RX3, "fault", "()I"⟩
abbrev cX3_many : ByteArray := prog_5_method_69_code
def yX3_many : MethodName := ⟨RX3, "many", "(I)I"⟩
def RJ6 : String := "java/lang/Integer"
def TJ6 : u_T := fun k => match k with
  | _ => ("", "", "", false)
def tyJ6 : Nat → FieldType := fun k => match k with
  | _ => .int
abbrev wsJ60 : List Cond := u_ws RJ6 TJ6 0
theorem nmJ6 : ∀ a, a < 0 → ∀ b, b < 0 → a ≠ b → (TJ6 a).2.1 ≠ (TJ6 b).2.1 := by decide +kernel
theorem tyJ6_ok : ∀ k, k < 0 → parseFieldDescriptor (TJ6 k).2.2.1 = some (tyJ6 k) := by decide +kernel
abbrev cJ6_bitCount_0f7a4 : ByteArray := prog_6_method_49_code
def yJ6_bitCount_0f7a4 : MethodName := ⟨RJ6, "bitCount", "(I)I"⟩
def RJ9 : String := "java/lang/Math"
def TJ9 : u_T := fun k => match k with
  | _ => ("", "", "", false)
def tyJ9 : Nat → FieldType := fun k => match k with
  | _ => .int
abbrev wsJ90 : List Cond := u_ws RJ9 TJ9 0
theorem nmJ9 : ∀ a, a < 0 → ∀ b, b < 0 → a ≠ b → (TJ9 a).2.1 ≠ (TJ9 b).2.1 := by decide +kernel
theorem tyJ9_ok : ∀ k, k < 0 → parseFieldDescriptor (TJ9 k).2.2.1 = some (tyJ9 k) := by decide +kernel
abbrev cJ9_min_7cf53 : ByteArray := prog_7_method_69_code
def yJ9_min_7cf53 : MethodName := ⟨RJ9, "min", "(II)I"⟩
def RJ10 : String := "java/lang/System"
def TJ10 : u_T := fun k => match k with
  | _ => ("", "", "", false)
def tyJ10 : Nat → FieldType := fun k => match k with
  | _ => .int
abbrev wsJ100 : List Cond := u_ws RJ10 TJ10 0
theorem nmJ10 : ∀ a, a < 0 → ∀ b, b < 0 → a ≠ b → (TJ10 a).2.1 ≠ (TJ10 b).2.1 := by decide +kernel
theorem tyJ10_ok : ∀ k, k < 0 → parseFieldDescriptor (TJ10 k).2.2.1 = some (tyJ10 k) := by decide +kernel
def RL : String := "ChairBallotLaw"
abbrev cL_law : ByteArray := code
def yL_law : MethodName := ⟨RL, "law", "([I)Z"⟩
def wsX0_init : List Cond := .code yX0_init cX0_init 1 none :: ([.methodLink RX0 3 objectInit, .instanceMethod objectInit, .code objectInit ⟨#[0xb1]⟩ 1 none, .arrayClass .int, .fieldLink RX0 9 "ChairBallot$Row" "kind" "[I", .fieldLink RX0 15 "ChairBallot$Row" "stripe" "[I", .fieldLink RX0 18 "ChairBallot$Row" "weight" "[I", .fieldLink RX0 21 "ChairBallot$Row" "looks" "[I", .fieldLink RX0 24 "ChairBallot$Row" "count" "I", .fieldLink RX0 28 "ChairBallot$Row" "folded" "I"] ++ wsX00)
def wsX0_has : List Cond := .code yX0_has cX0_has 2 (some .boolean) :: ([.fieldLink RX0 24 "ChairBallot$Row" "count" "I"] ++ wsX00)
def wsX0_isFolded : List Cond := .code yX0_isFolded cX0_isFolded 2 (some .boolean) :: ([.fieldLink RX0 28 "ChairBallot$Row" "folded" "I"] ++ wsX00)
def wsX0_becomes : List Cond := .code yX0_becomes cX0_becomes 2 none :: ([.fieldLink RX0 9 "ChairBallot$Row" "kind" "[I", .methodLink RX0 31 arraycopyName, .native arraycopyName, .static arraycopyName, .initialized "java/lang/System", .fieldLink RX0 15 "ChairBallot$Row" "stripe" "[I", .fieldLink RX0 18 "ChairBallot$Row" "weight" "[I", .fieldLink RX0 21 "ChairBallot$Row" "looks" "[I", .fieldLink RX0 24 "ChairBallot$Row" "count" "I", .fieldLink RX0 28 "ChairBallot$Row" "folded" "I"] ++ wsX00)
def wsX2_votesAs : List Cond := .code yX2_votesAs cX2_votesAs 2 (some .int) :: ([])
def wsX0_votesWhenOpen : List Cond := .code yX0_votesWhenOpen cX0_votesWhenOpen 2 (some .int) :: ([.fieldLink RX0 9 "ChairBallot$Row" "kind" "[I", .fieldLink RX0 18 "ChairBallot$Row" "weight" "[I", .methodLink RX0 37 yX0_has, .instanceMethod yX0_has, .selects RX0 yX0_has yX0_has, .initialized RX0, .code yX0_has cX0_has 2 (some .boolean), .fieldLink RX0 24 "ChairBallot$Row" "count" "I", .static yX2_votesAs, .initialized RX2, .code yX2_votesAs cX2_votesAs 2 (some .int)] ++ wsX00)
def wsX0_votes : List Cond := .code yX0_votes cX0_votes 2 (some .int) :: ([.methodLink RX0 45 yX0_isFolded, .instanceMethod yX0_isFolded, .selects RX0 yX0_isFolded yX0_isFolded, .initialized RX0, .code yX0_isFolded cX0_isFolded 2 (some .boolean), .fieldLink RX0 28 "ChairBallot$Row" "folded" "I", .methodLink RX0 48 yX0_votesWhenOpen, .instanceMethod yX0_votesWhenOpen, .selects RX0 yX0_votesWhenOpen yX0_votesWhenOpen, .code yX0_votesWhenOpen cX0_votesWhenOpen 2 (some .int), .fieldLink RX0 9 "ChairBallot$Row" "kind" "[I", .fieldLink RX0 18 "ChairBallot$Row" "weight" "[I", .methodLink RX0 37 yX0_has, .instanceMethod yX0_has, .selects RX0 yX0_has yX0_has, .code yX0_has cX0_has 2 (some .boolean), .fieldLink RX0 24 "ChairBallot$Row" "count" "I", .static yX2_votesAs, .initialized RX2, .code yX2_votesAs cX2_votesAs 2 (some .int)] ++ wsX00)
def wsX0_meetsNext : List Cond := .code yX0_meetsNext cX0_meetsNext 2 (some .boolean) :: ([.fieldLink RX0 21 "ChairBallot$Row" "looks" "[I", .methodLink RX0 37 yX0_has, .instanceMethod yX0_has, .selects RX0 yX0_has yX0_has, .initialized RX0, .code yX0_has cX0_has 2 (some .boolean), .fieldLink RX0 24 "ChairBallot$Row" "count" "I", .methodLink RX0 45 yX0_isFolded, .instanceMethod yX0_isFolded, .selects RX0 yX0_isFolded yX0_isFolded, .code yX0_isFolded cX0_isFolded 2 (some .boolean), .fieldLink RX0 28 "ChairBallot$Row" "folded" "I"] ++ wsX00)
def wsX0_side : List Cond := .code yX0_side cX0_side 2 (some .int) :: ([.fieldLink RX0 15 "ChairBallot$Row" "stripe" "[I", .fieldLink RX0 21 "ChairBallot$Row" "looks" "[I", .methodLink RX0 37 yX0_has, .instanceMethod yX0_has, .selects RX0 yX0_has yX0_has, .initialized RX0, .code yX0_has cX0_has 2 (some .boolean), .fieldLink RX0 24 "ChairBallot$Row" "count" "I", .methodLink RX0 45 yX0_isFolded, .instanceMethod yX0_isFolded, .selects RX0 yX0_isFolded yX0_isFolded, .code yX0_isFolded cX0_isFolded 2 (some .boolean), .fieldLink RX0 28 "ChairBallot$Row" "folded" "I", .methodLink RX0 52 yX0_meetsNext, .instanceMethod yX0_meetsNext, .selects RX0 yX0_meetsNext yX0_meetsNext, .code yX0_meetsNext cX0_meetsNext 2 (some .boolean)] ++ wsX00)
def wsX0_tilt_r1 : List Cond := [Cond.methodLink RX0 55 yX0_side, Cond.instanceMethod yX0_side, Cond.selects RX0 yX0_side yX0_side, Cond.initialized RX0, Cond.code yX0_side cX0_side 2 (some .int), Cond.fieldLink RX0 15 "ChairBallot$Row" "stripe" "[I", Cond.fieldLink RX0 21 "ChairBallot$Row" "looks" "[I", Cond.methodLink RX0 37 yX0_has, Cond.instanceMethod yX0_has, Cond.selects RX0 yX0_has yX0_has, Cond.code yX0_has cX0_has 2 (some .boolean), Cond.fieldLink RX0 24 "ChairBallot$Row" "count" "I", Cond.methodLink RX0 45 yX0_isFolded, Cond.instanceMethod yX0_isFolded, Cond.selects RX0 yX0_isFolded yX0_isFolded, Cond.code yX0_isFolded cX0_isFolded 2 (some .boolean), Cond.fieldLink RX0 28 "ChairBallot$Row" "folded" "I", Cond.methodLink RX0 52 yX0_meetsNext, Cond.instanceMethod yX0_meetsNext, Cond.selects RX0 yX0_meetsNext yX0_meetsNext, Cond.code yX0_meetsNext cX0_meetsNext 2 (some .boolean), Cond.methodLink RX0 58 yX0_votes, Cond.instanceMethod yX0_votes, Cond.selects RX0 yX0_votes yX0_votes]
def wsX0_tilt_r2 : List Cond := [Cond.code yX0_votes cX0_votes 2 (some .int), Cond.methodLink RX0 48 yX0_votesWhenOpen, Cond.instanceMethod yX0_votesWhenOpen, Cond.selects RX0 yX0_votesWhenOpen yX0_votesWhenOpen, Cond.code yX0_votesWhenOpen cX0_votesWhenOpen 2 (some .int), Cond.fieldLink RX0 9 "ChairBallot$Row" "kind" "[I", Cond.fieldLink RX0 18 "ChairBallot$Row" "weight" "[I", Cond.static yX2_votesAs, Cond.initialized RX2, Cond.code yX2_votesAs cX2_votesAs 2 (some .int)]
def wsX0_tilt : List Cond := .code yX0_tilt cX0_tilt 2 (some .int) :: ((wsX0_tilt_r1 ++ wsX0_tilt_r2) ++ wsX00)
def wsX0_isCarried_r1 : List Cond := [Cond.fieldLink RX0 24 "ChairBallot$Row" "count" "I", Cond.methodLink RX0 61 yX0_tilt, Cond.instanceMethod yX0_tilt, Cond.selects RX0 yX0_tilt yX0_tilt, Cond.initialized RX0, Cond.code yX0_tilt cX0_tilt 2 (some .int), Cond.methodLink RX0 55 yX0_side, Cond.instanceMethod yX0_side, Cond.selects RX0 yX0_side yX0_side, Cond.code yX0_side cX0_side 2 (some .int), Cond.fieldLink RX0 15 "ChairBallot$Row" "stripe" "[I", Cond.fieldLink RX0 21 "ChairBallot$Row" "looks" "[I", Cond.methodLink RX0 37 yX0_has, Cond.instanceMethod yX0_has, Cond.selects RX0 yX0_has yX0_has, Cond.code yX0_has cX0_has 2 (some .boolean), Cond.methodLink RX0 45 yX0_isFolded, Cond.instanceMethod yX0_isFolded, Cond.selects RX0 yX0_isFolded yX0_isFolded, Cond.code yX0_isFolded cX0_isFolded 2 (some .boolean), Cond.fieldLink RX0 28 "ChairBallot$Row" "folded" "I", Cond.methodLink RX0 52 yX0_meetsNext, Cond.instanceMethod yX0_meetsNext, Cond.selects RX0 yX0_meetsNext yX0_meetsNext]
def wsX0_isCarried_r2 : List Cond := [Cond.code yX0_meetsNext cX0_meetsNext 2 (some .boolean), Cond.methodLink RX0 58 yX0_votes, Cond.instanceMethod yX0_votes, Cond.selects RX0 yX0_votes yX0_votes, Cond.code yX0_votes cX0_votes 2 (some .int), Cond.methodLink RX0 48 yX0_votesWhenOpen, Cond.instanceMethod yX0_votesWhenOpen, Cond.selects RX0 yX0_votesWhenOpen yX0_votesWhenOpen, Cond.code yX0_votesWhenOpen cX0_votesWhenOpen 2 (some .int), Cond.fieldLink RX0 9 "ChairBallot$Row" "kind" "[I", Cond.fieldLink RX0 18 "ChairBallot$Row" "weight" "[I", Cond.static yX2_votesAs, Cond.initialized RX2, Cond.code yX2_votesAs cX2_votesAs 2 (some .int)]
def wsX0_isCarried : List Cond := .code yX0_isCarried cX0_isCarried 3 (some .boolean) :: ((wsX0_isCarried_r1 ++ wsX0_isCarried_r2) ++ wsX00)
def wsX0_chairsOf : List Cond := .code yX0_chairsOf cX0_chairsOf 4 (some .int) :: ([.fieldLink RX0 24 "ChairBallot$Row" "count" "I", .methodLink RX0 55 yX0_side, .instanceMethod yX0_side, .selects RX0 yX0_side yX0_side, .initialized RX0, .code yX0_side cX0_side 2 (some .int), .fieldLink RX0 15 "ChairBallot$Row" "stripe" "[I", .fieldLink RX0 21 "ChairBallot$Row" "looks" "[I", .methodLink RX0 37 yX0_has, .instanceMethod yX0_has, .selects RX0 yX0_has yX0_has, .code yX0_has cX0_has 2 (some .boolean), .methodLink RX0 45 yX0_isFolded, .instanceMethod yX0_isFolded, .selects RX0 yX0_isFolded yX0_isFolded, .code yX0_isFolded cX0_isFolded 2 (some .boolean), .fieldLink RX0 28 "ChairBallot$Row" "folded" "I", .methodLink RX0 52 yX0_meetsNext, .instanceMethod yX0_meetsNext, .selects RX0 yX0_meetsNext yX0_meetsNext, .code yX0_meetsNext cX0_meetsNext 2 (some .boolean)] ++ wsX00)
def wsX2_isIn : List Cond := .code yX2_isIn cX2_isIn 2 (some .boolean) :: ([])
def wsX0_votesIn_r1 : List Cond := [Cond.fieldLink RX0 24 "ChairBallot$Row" "count" "I", Cond.static yX2_isIn, Cond.initialized RX2, Cond.code yX2_isIn cX2_isIn 2 (some .boolean), Cond.methodLink RX0 58 yX0_votes, Cond.instanceMethod yX0_votes, Cond.selects RX0 yX0_votes yX0_votes, Cond.initialized RX0, Cond.code yX0_votes cX0_votes 2 (some .int), Cond.methodLink RX0 45 yX0_isFolded, Cond.instanceMethod yX0_isFolded, Cond.selects RX0 yX0_isFolded yX0_isFolded, Cond.code yX0_isFolded cX0_isFolded 2 (some .boolean), Cond.fieldLink RX0 28 "ChairBallot$Row" "folded" "I", Cond.methodLink RX0 48 yX0_votesWhenOpen, Cond.instanceMethod yX0_votesWhenOpen, Cond.selects RX0 yX0_votesWhenOpen yX0_votesWhenOpen, Cond.code yX0_votesWhenOpen cX0_votesWhenOpen 2 (some .int), Cond.fieldLink RX0 9 "ChairBallot$Row" "kind" "[I", Cond.fieldLink RX0 18 "ChairBallot$Row" "weight" "[I", Cond.methodLink RX0 37 yX0_has, Cond.instanceMethod yX0_has, Cond.selects RX0 yX0_has yX0_has, Cond.code yX0_has cX0_has 2 (some .boolean)]
def wsX0_votesIn_r2 : List Cond := [Cond.static yX2_votesAs, Cond.code yX2_votesAs cX2_votesAs 2 (some .int)]
def wsX0_votesIn : List Cond := .code yX0_votesIn cX0_votesIn 4 (some .int) :: ((wsX0_votesIn_r1 ++ wsX0_votesIn_r2) ++ wsX00)
def wsX0_votesOf_r1 : List Cond := [Cond.methodLink RX0 64 yX0_chairsOf, Cond.instanceMethod yX0_chairsOf, Cond.selects RX0 yX0_chairsOf yX0_chairsOf, Cond.initialized RX0, Cond.code yX0_chairsOf cX0_chairsOf 4 (some .int), Cond.fieldLink RX0 24 "ChairBallot$Row" "count" "I", Cond.methodLink RX0 55 yX0_side, Cond.instanceMethod yX0_side, Cond.selects RX0 yX0_side yX0_side, Cond.code yX0_side cX0_side 2 (some .int), Cond.fieldLink RX0 15 "ChairBallot$Row" "stripe" "[I", Cond.fieldLink RX0 21 "ChairBallot$Row" "looks" "[I", Cond.methodLink RX0 37 yX0_has, Cond.instanceMethod yX0_has, Cond.selects RX0 yX0_has yX0_has, Cond.code yX0_has cX0_has 2 (some .boolean), Cond.methodLink RX0 45 yX0_isFolded, Cond.instanceMethod yX0_isFolded, Cond.selects RX0 yX0_isFolded yX0_isFolded, Cond.code yX0_isFolded cX0_isFolded 2 (some .boolean), Cond.fieldLink RX0 28 "ChairBallot$Row" "folded" "I", Cond.methodLink RX0 52 yX0_meetsNext, Cond.instanceMethod yX0_meetsNext, Cond.selects RX0 yX0_meetsNext yX0_meetsNext]
def wsX0_votesOf_r2 : List Cond := [Cond.code yX0_meetsNext cX0_meetsNext 2 (some .boolean), Cond.methodLink RX0 67 yX0_votesIn, Cond.instanceMethod yX0_votesIn, Cond.selects RX0 yX0_votesIn yX0_votesIn, Cond.code yX0_votesIn cX0_votesIn 4 (some .int), Cond.static yX2_isIn, Cond.initialized RX2, Cond.code yX2_isIn cX2_isIn 2 (some .boolean), Cond.methodLink RX0 58 yX0_votes, Cond.instanceMethod yX0_votes, Cond.selects RX0 yX0_votes yX0_votes, Cond.code yX0_votes cX0_votes 2 (some .int), Cond.methodLink RX0 48 yX0_votesWhenOpen, Cond.instanceMethod yX0_votesWhenOpen, Cond.selects RX0 yX0_votesWhenOpen yX0_votesWhenOpen, Cond.code yX0_votesWhenOpen cX0_votesWhenOpen 2 (some .int), Cond.fieldLink RX0 9 "ChairBallot$Row" "kind" "[I", Cond.fieldLink RX0 18 "ChairBallot$Row" "weight" "[I", Cond.static yX2_votesAs, Cond.code yX2_votesAs cX2_votesAs 2 (some .int)]
def wsX0_votesOf : List Cond := .code yX0_votesOf cX0_votesOf 2 (some .int) :: ((wsX0_votesOf_r1 ++ wsX0_votesOf_r2) ++ wsX00)
def wsX0_votesOfStripes_r1 : List Cond := [Cond.fieldLink RX0 24 "ChairBallot$Row" "count" "I", Cond.fieldLink RX0 15 "ChairBallot$Row" "stripe" "[I", Cond.static yX2_isIn, Cond.initialized RX2, Cond.code yX2_isIn cX2_isIn 2 (some .boolean), Cond.methodLink RX0 58 yX0_votes, Cond.instanceMethod yX0_votes, Cond.selects RX0 yX0_votes yX0_votes, Cond.initialized RX0, Cond.code yX0_votes cX0_votes 2 (some .int), Cond.methodLink RX0 45 yX0_isFolded, Cond.instanceMethod yX0_isFolded, Cond.selects RX0 yX0_isFolded yX0_isFolded, Cond.code yX0_isFolded cX0_isFolded 2 (some .boolean), Cond.fieldLink RX0 28 "ChairBallot$Row" "folded" "I", Cond.methodLink RX0 48 yX0_votesWhenOpen, Cond.instanceMethod yX0_votesWhenOpen, Cond.selects RX0 yX0_votesWhenOpen yX0_votesWhenOpen, Cond.code yX0_votesWhenOpen cX0_votesWhenOpen 2 (some .int), Cond.fieldLink RX0 9 "ChairBallot$Row" "kind" "[I", Cond.fieldLink RX0 18 "ChairBallot$Row" "weight" "[I", Cond.methodLink RX0 37 yX0_has, Cond.instanceMethod yX0_has, Cond.selects RX0 yX0_has yX0_has]
def wsX0_votesOfStripes_r2 : List Cond := [Cond.code yX0_has cX0_has 2 (some .boolean), Cond.static yX2_votesAs, Cond.code yX2_votesAs cX2_votesAs 2 (some .int)]
def wsX0_votesOfStripes : List Cond := .code yX0_votesOfStripes cX0_votesOfStripes 4 (some .int) :: ((wsX0_votesOfStripes_r1 ++ wsX0_votesOfStripes_r2) ++ wsX00)
def wsX0_turned : List Cond := .code yX0_turned cX0_turned 3 (some .boolean) :: ([.fieldLink RX0 21 "ChairBallot$Row" "looks" "[I", .methodLink RX0 37 yX0_has, .instanceMethod yX0_has, .selects RX0 yX0_has yX0_has, .initialized RX0, .code yX0_has cX0_has 2 (some .boolean), .fieldLink RX0 24 "ChairBallot$Row" "count" "I", .methodLink RX0 45 yX0_isFolded, .instanceMethod yX0_isFolded, .selects RX0 yX0_isFolded yX0_isFolded, .code yX0_isFolded cX0_isFolded 2 (some .boolean), .fieldLink RX0 28 "ChairBallot$Row" "folded" "I"] ++ wsX00)
def wsX0_blown : List Cond := .code yX0_blown cX0_blown 5 (some .int) :: ([.fieldLink RX0 24 "ChairBallot$Row" "count" "I", .fieldLink RX0 18 "ChairBallot$Row" "weight" "[I", .fieldLink RX0 21 "ChairBallot$Row" "looks" "[I", .methodLink RX0 45 yX0_isFolded, .instanceMethod yX0_isFolded, .selects RX0 yX0_isFolded yX0_isFolded, .initialized RX0, .code yX0_isFolded cX0_isFolded 2 (some .boolean), .fieldLink RX0 28 "ChairBallot$Row" "folded" "I"] ++ wsX00)
def wsJ6_bitCount_0f7a4 : List Cond := .code yJ6_bitCount_0f7a4 cJ6_bitCount_0f7a4 1 (some .int) :: ([.constant RJ6 265 (1431655765), .constant RJ6 266 (858993459), .constant RJ6 267 (252645135)])
def wsX0_foldedByRain : List Cond := .code yX0_foldedByRain cX0_foldedByRain 2 (some .int) :: ([.fieldLink RX0 28 "ChairBallot$Row" "folded" "I", .fieldLink RX0 24 "ChairBallot$Row" "count" "I", .methodLink RX0 74 yJ6_bitCount_0f7a4, .static yJ6_bitCount_0f7a4, .initialized RJ6, .code yJ6_bitCount_0f7a4 cJ6_bitCount_0f7a4 1 (some .int), .constant RJ6 265 (1431655765), .constant RJ6 266 (858993459), .constant RJ6 267 (252645135)] ++ wsX00)
def wsX0_opened : List Cond := .code yX0_opened cX0_opened 2 (some .boolean) :: ([.fieldLink RX0 28 "ChairBallot$Row" "folded" "I", .methodLink RX0 37 yX0_has, .instanceMethod yX0_has, .selects RX0 yX0_has yX0_has, .initialized RX0, .code yX0_has cX0_has 2 (some .boolean), .fieldLink RX0 24 "ChairBallot$Row" "count" "I", .methodLink RX0 45 yX0_isFolded, .instanceMethod yX0_isFolded, .selects RX0 yX0_isFolded yX0_isFolded, .code yX0_isFolded cX0_isFolded 2 (some .boolean)] ++ wsX00)
def wsX0_acted_r1 : List Cond := [Cond.methodLink RX0 79 yX0_opened, Cond.instanceMethod yX0_opened, Cond.selects RX0 yX0_opened yX0_opened, Cond.initialized RX0, Cond.code yX0_opened cX0_opened 2 (some .boolean), Cond.fieldLink RX0 28 "ChairBallot$Row" "folded" "I", Cond.methodLink RX0 37 yX0_has, Cond.instanceMethod yX0_has, Cond.selects RX0 yX0_has yX0_has, Cond.code yX0_has cX0_has 2 (some .boolean), Cond.fieldLink RX0 24 "ChairBallot$Row" "count" "I", Cond.methodLink RX0 45 yX0_isFolded, Cond.instanceMethod yX0_isFolded, Cond.selects RX0 yX0_isFolded yX0_isFolded, Cond.code yX0_isFolded cX0_isFolded 2 (some .boolean), Cond.methodLink RX0 82 yX0_foldedByRain, Cond.instanceMethod yX0_foldedByRain, Cond.selects RX0 yX0_foldedByRain yX0_foldedByRain, Cond.code yX0_foldedByRain cX0_foldedByRain 2 (some .int), Cond.methodLink RX0 74 yJ6_bitCount_0f7a4, Cond.static yJ6_bitCount_0f7a4, Cond.initialized RJ6, Cond.code yJ6_bitCount_0f7a4 cJ6_bitCount_0f7a4 1 (some .int), Cond.constant RJ6 265 (1431655765)]
def wsX0_acted_r2 : List Cond := [Cond.constant RJ6 266 (858993459), Cond.constant RJ6 267 (252645135), Cond.methodLink RX0 86 yX0_blown, Cond.instanceMethod yX0_blown, Cond.selects RX0 yX0_blown yX0_blown, Cond.code yX0_blown cX0_blown 5 (some .int), Cond.fieldLink RX0 18 "ChairBallot$Row" "weight" "[I", Cond.fieldLink RX0 21 "ChairBallot$Row" "looks" "[I", Cond.methodLink RX0 89 yX0_turned, Cond.instanceMethod yX0_turned, Cond.selects RX0 yX0_turned yX0_turned, Cond.code yX0_turned cX0_turned 3 (some .boolean)]
def wsX0_acted : List Cond := .code yX0_acted cX0_acted 3 (some .boolean) :: ((wsX0_acted_r1 ++ wsX0_acted_r2) ++ wsX00)
def wsX1_init : List Cond := .code yX1_init cX1_init 1 none :: ([.methodLink RX1 3 objectInit, .instanceMethod objectInit, .code objectInit ⟨#[0xb1]⟩ 1 none, .arrayClass .int, .fieldLink RX1 9 "ChairBallot$Sheet" "cells" "[I", .fieldLink RX1 15 "ChairBallot$Sheet" "hasRow" "Z", .fieldLink RX1 19 "ChairBallot$Sheet" "lane" "I", .fieldLink RX1 23 "ChairBallot$Sheet" "length" "I"] ++ wsX10)
def wsX1_getsRow : List Cond := .code yX1_getsRow cX1_getsRow 4 none :: ([.fieldLink RX1 15 "ChairBallot$Sheet" "hasRow" "Z", .fieldLink RX1 19 "ChairBallot$Sheet" "lane" "I", .methodLink RX1 26 Lib.Math.min.name, .static Lib.Math.min.name, .initialized "java/lang/Math", .code Lib.Math.min.name Lib.Math.min.code 2 (some .int), .fieldLink RX1 23 "ChairBallot$Sheet" "length" "I", .fieldLink RX1 9 "ChairBallot$Sheet" "cells" "[I"] ++ wsX10)
def wsX1_faultAs : List Cond := .code yX1_faultAs cX1_faultAs 2 (some .int) :: ([.fieldLink RX1 15 "ChairBallot$Sheet" "hasRow" "Z", .fieldLink RX1 19 "ChairBallot$Sheet" "lane" "I"] ++ wsX10)
def wsX1_holds : List Cond := .code yX1_holds cX1_holds 3 (some .boolean) :: ([.fieldLink RX1 23 "ChairBallot$Sheet" "length" "I"] ++ wsX10)
def wsX1_at : List Cond := .code yX1_at cX1_at 2 (some .int) :: ([.fieldLink RX1 9 "ChairBallot$Sheet" "cells" "[I", .methodLink RX1 32 yX1_holds, .instanceMethod yX1_holds, .selects RX1 yX1_holds yX1_holds, .initialized RX1, .code yX1_holds cX1_holds 3 (some .boolean), .fieldLink RX1 23 "ChairBallot$Sheet" "length" "I"] ++ wsX10)
def wsX1_cut : List Cond := .code yX1_cut cX1_cut 2 (some .int) :: ([.fieldLink RX1 19 "ChairBallot$Sheet" "lane" "I"] ++ wsX10)
def wsX1_becomesAt : List Cond := .code yX1_becomesAt cX1_becomesAt 3 none :: ([.fieldLink RX1 9 "ChairBallot$Sheet" "cells" "[I", .methodLink RX1 32 yX1_holds, .instanceMethod yX1_holds, .selects RX1 yX1_holds yX1_holds, .initialized RX1, .code yX1_holds cX1_holds 3 (some .boolean), .fieldLink RX1 23 "ChairBallot$Sheet" "length" "I", .methodLink RX1 36 yX1_cut, .instanceMethod yX1_cut, .selects RX1 yX1_cut yX1_cut, .code yX1_cut cX1_cut 2 (some .int), .fieldLink RX1 19 "ChairBallot$Sheet" "lane" "I"] ++ wsX10)
def wsX2_init_r1 : List Cond := [Cond.methodLink RX2 3 objectInit, Cond.instanceMethod objectInit, Cond.code objectInit ⟨#[0xb1]⟩ 1 none, Cond.classLink RX2 11 RX1, Cond.fieldLink RX2 13 "ChairBallot" "sheets" "[LChairBallot$Sheet;", Cond.classLink RX2 17 RX0, Cond.instantiable RX0 6, Cond.initialized RX0, Cond.fieldLink RX2 20 "ChairBallot" "now" "LChairBallot$Row;", Cond.fieldLink RX2 24 "ChairBallot" "trial" "LChairBallot$Row;", Cond.arrayClass .int, Cond.fieldLink RX2 27 "ChairBallot" "tilts" "[I", Cond.fieldLink RX2 31 "ChairBallot" "readChair" "[I", Cond.fieldLink RX2 34 "ChairBallot" "readVotes" "[I", Cond.fieldLink RX2 37 "ChairBallot" "readings" "I", Cond.fieldLink RX2 41 "ChairBallot" "traced" "I", Cond.fieldLink RX2 44 "ChairBallot" "latestFault" "I", Cond.instantiable RX1 4, Cond.initialized RX1, Cond.instanceMethod yX0_init, Cond.code yX0_init cX0_init 1 none, Cond.methodLink RX0 3 objectInit, Cond.fieldLink RX0 9 "ChairBallot$Row" "kind" "[I", Cond.fieldLink RX0 15 "ChairBallot$Row" "stripe" "[I"]
def wsX2_init_r2 : List Cond := [Cond.fieldLink RX0 18 "ChairBallot$Row" "weight" "[I", Cond.fieldLink RX0 21 "ChairBallot$Row" "looks" "[I", Cond.fieldLink RX0 24 "ChairBallot$Row" "count" "I", Cond.fieldLink RX0 28 "ChairBallot$Row" "folded" "I", Cond.instanceMethod yX1_init, Cond.code yX1_init cX1_init 1 none, Cond.methodLink RX1 3 objectInit, Cond.fieldLink RX1 9 "ChairBallot$Sheet" "cells" "[I", Cond.fieldLink RX1 15 "ChairBallot$Sheet" "hasRow" "Z", Cond.fieldLink RX1 19 "ChairBallot$Sheet" "lane" "I", Cond.fieldLink RX1 23 "ChairBallot$Sheet" "length" "I"]
def wsX2_init : List Cond := .code yX2_init cX2_init 2 none :: ((wsX2_init_r1 ++ wsX2_init_r2) ++ wsX20 ++ wsX00 ++ wsX10)
def wsX2_sheetAt : List Cond := .code yX2_sheetAt cX2_sheetAt 2 (some (.object "ChairBallot$Sheet")) :: ([.fieldLink RX2 13 "ChairBallot" "sheets" "[LChairBallot$Sheet;"] ++ wsX20)
def wsX2_isLane : List Cond := .code yX2_isLane cX2_isLane 1 (some .boolean) :: ([])
def wsX2_faulted : List Cond := .code yX2_faulted cX2_faulted 2 (some .int) :: ([.fieldLink RX2 44 "ChairBallot" "latestFault" "I"] ++ wsX20)
def wsX2_kindOf : List Cond := .code yX2_kindOf cX2_kindOf 1 (some .int) :: ([])
def wsX2_isStripe : List Cond := .code yX2_isStripe cX2_isStripe 1 (some .boolean) :: ([])
def wsX2_isWay : List Cond := .code yX2_isWay cX2_isWay 1 (some .boolean) :: ([])
def wsX2_goesOn : List Cond := .code yX2_goesOn cX2_goesOn 2 (some .boolean) :: ([.methodLink RX2 124 yX2_kindOf, .static yX2_kindOf, .initialized RX2, .code yX2_kindOf cX2_kindOf 1 (some .int), .methodLink RX2 102 yX2_isStripe, .static yX2_isStripe, .code yX2_isStripe cX2_isStripe 1 (some .boolean), .methodLink RX2 127 yX2_isWay, .static yX2_isWay, .code yX2_isWay cX2_isWay 1 (some .boolean)])
def wsX2_firstFaultOfText : List Cond := .code yX2_firstFaultOfText cX2_firstFaultOfText 4 (some .int) :: ([.methodLink RX2 118 yX1_at, .instanceMethod yX1_at, .selects RX1 yX1_at yX1_at, .initialized RX1, .code yX1_at cX1_at 2 (some .int), .fieldLink RX1 9 "ChairBallot$Sheet" "cells" "[I", .methodLink RX1 32 yX1_holds, .instanceMethod yX1_holds, .selects RX1 yX1_holds yX1_holds, .code yX1_holds cX1_holds 3 (some .boolean), .fieldLink RX1 23 "ChairBallot$Sheet" "length" "I", .methodLink RX2 121 yX2_goesOn, .static yX2_goesOn, .initialized RX2, .code yX2_goesOn cX2_goesOn 2 (some .boolean), .methodLink RX2 124 yX2_kindOf, .static yX2_kindOf, .code yX2_kindOf cX2_kindOf 1 (some .int), .methodLink RX2 102 yX2_isStripe, .static yX2_isStripe, .code yX2_isStripe cX2_isStripe 1 (some .boolean), .methodLink RX2 127 yX2_isWay, .static yX2_isWay, .code yX2_isWay cX2_isWay 1 (some .boolean)] ++ wsX10)
def wsX2_takeText_r1 : List Cond := [Cond.fieldLink RX2 20 "ChairBallot" "now" "LChairBallot$Row;", Cond.methodLink RX2 130 Lib.Math.min.name, Cond.static Lib.Math.min.name, Cond.initialized "java/lang/Math", Cond.code Lib.Math.min.name Lib.Math.min.code 2 (some .int), Cond.fieldLink RX2 75 "ChairBallot$Row" "count" "I", Cond.fieldLink RX2 136 "ChairBallot$Row" "folded" "I", Cond.fieldLink RX2 37 "ChairBallot" "readings" "I", Cond.fieldLink RX2 81 "ChairBallot$Row" "kind" "[I", Cond.fieldLink RX2 84 "ChairBallot$Row" "stripe" "[I", Cond.fieldLink RX2 87 "ChairBallot$Row" "weight" "[I", Cond.fieldLink RX2 90 "ChairBallot$Row" "looks" "[I", Cond.methodLink RX2 118 yX1_at, Cond.instanceMethod yX1_at, Cond.selects RX1 yX1_at yX1_at, Cond.initialized RX1, Cond.code yX1_at cX1_at 2 (some .int), Cond.fieldLink RX1 9 "ChairBallot$Sheet" "cells" "[I", Cond.methodLink RX1 32 yX1_holds, Cond.instanceMethod yX1_holds, Cond.selects RX1 yX1_holds yX1_holds, Cond.code yX1_holds cX1_holds 3 (some .boolean), Cond.fieldLink RX1 23 "ChairBallot$Sheet" "length" "I", Cond.methodLink RX2 124 yX2_kindOf]
def wsX2_takeText_r2 : List Cond := [Cond.static yX2_kindOf, Cond.initialized RX2, Cond.code yX2_kindOf cX2_kindOf 1 (some .int)]
def wsX2_takeText : List Cond := .code yX2_takeText cX2_takeText 6 none :: ((wsX2_takeText_r1 ++ wsX2_takeText_r2) ++ wsX20 ++ wsX00 ++ wsX10)
def wsX2_front_r1 : List Cond := [Cond.fieldLink RX2 44 "ChairBallot" "latestFault" "I", Cond.fieldLink RX2 20 "ChairBallot" "now" "LChairBallot$Row;", Cond.fieldLink RX2 75 "ChairBallot$Row" "count" "I", Cond.methodLink RX2 48 yX2_sheetAt, Cond.instanceMethod yX2_sheetAt, Cond.selects RX2 yX2_sheetAt yX2_sheetAt, Cond.initialized RX2, Cond.code yX2_sheetAt cX2_sheetAt 2 (some (.object "ChairBallot$Sheet")), Cond.fieldLink RX2 13 "ChairBallot" "sheets" "[LChairBallot$Sheet;", Cond.methodLink RX2 52 yX2_isLane, Cond.static yX2_isLane, Cond.code yX2_isLane cX2_isLane 1 (some .boolean), Cond.methodLink RX2 56 yX1_faultAs, Cond.instanceMethod yX1_faultAs, Cond.selects RX1 yX1_faultAs yX1_faultAs, Cond.initialized RX1, Cond.code yX1_faultAs cX1_faultAs 2 (some .int), Cond.fieldLink RX1 15 "ChairBallot$Sheet" "hasRow" "Z", Cond.fieldLink RX1 19 "ChairBallot$Sheet" "lane" "I", Cond.methodLink RX2 60 yX2_faulted, Cond.instanceMethod yX2_faulted, Cond.selects RX2 yX2_faulted yX2_faulted, Cond.code yX2_faulted cX2_faulted 2 (some .int), Cond.methodLink RX2 63 yX1_holds]
def wsX2_front_r2 : List Cond := [Cond.instanceMethod yX1_holds, Cond.selects RX1 yX1_holds yX1_holds, Cond.code yX1_holds cX1_holds 3 (some .boolean), Cond.fieldLink RX1 23 "ChairBallot$Sheet" "length" "I", Cond.methodLink RX2 67 yX2_firstFaultOfText, Cond.static yX2_firstFaultOfText, Cond.code yX2_firstFaultOfText cX2_firstFaultOfText 4 (some .int), Cond.methodLink RX2 118 yX1_at, Cond.instanceMethod yX1_at, Cond.selects RX1 yX1_at yX1_at, Cond.code yX1_at cX1_at 2 (some .int), Cond.fieldLink RX1 9 "ChairBallot$Sheet" "cells" "[I", Cond.methodLink RX1 32 yX1_holds, Cond.methodLink RX2 121 yX2_goesOn, Cond.static yX2_goesOn, Cond.code yX2_goesOn cX2_goesOn 2 (some .boolean), Cond.methodLink RX2 124 yX2_kindOf, Cond.static yX2_kindOf, Cond.code yX2_kindOf cX2_kindOf 1 (some .int), Cond.methodLink RX2 102 yX2_isStripe, Cond.static yX2_isStripe, Cond.code yX2_isStripe cX2_isStripe 1 (some .boolean), Cond.methodLink RX2 127 yX2_isWay, Cond.static yX2_isWay]
def wsX2_front_r3 : List Cond := [Cond.code yX2_isWay cX2_isWay 1 (some .boolean), Cond.methodLink RX2 71 yX2_takeText, Cond.instanceMethod yX2_takeText, Cond.selects RX2 yX2_takeText yX2_takeText, Cond.code yX2_takeText cX2_takeText 6 none, Cond.methodLink RX2 130 Lib.Math.min.name, Cond.static Lib.Math.min.name, Cond.initialized "java/lang/Math", Cond.code Lib.Math.min.name Lib.Math.min.code 2 (some .int), Cond.fieldLink RX2 136 "ChairBallot$Row" "folded" "I", Cond.fieldLink RX2 37 "ChairBallot" "readings" "I", Cond.fieldLink RX2 81 "ChairBallot$Row" "kind" "[I", Cond.fieldLink RX2 84 "ChairBallot$Row" "stripe" "[I", Cond.fieldLink RX2 87 "ChairBallot$Row" "weight" "[I", Cond.fieldLink RX2 90 "ChairBallot$Row" "looks" "[I"]
def wsX2_front : List Cond := .code yX2_front cX2_front 8 (some .int) :: ((wsX2_front_r1 ++ (wsX2_front_r2 ++ wsX2_front_r3)) ++ wsX20 ++ wsX00 ++ wsX10)
def wsX2_ofChair_r1 : List Cond := [Cond.fieldLink RX2 20 "ChairBallot" "now" "LChairBallot$Row;", Cond.fieldLink RX2 81 "ChairBallot$Row" "kind" "[I", Cond.fieldLink RX2 84 "ChairBallot$Row" "stripe" "[I", Cond.fieldLink RX2 87 "ChairBallot$Row" "weight" "[I", Cond.fieldLink RX2 90 "ChairBallot$Row" "looks" "[I", Cond.methodLink RX2 78 yX0_has, Cond.instanceMethod yX0_has, Cond.selects RX0 yX0_has yX0_has, Cond.initialized RX0, Cond.code yX0_has cX0_has 2 (some .boolean), Cond.fieldLink RX0 24 "ChairBallot$Row" "count" "I", Cond.methodLink RX2 93 yX0_isFolded, Cond.instanceMethod yX0_isFolded, Cond.selects RX0 yX0_isFolded yX0_isFolded, Cond.code yX0_isFolded cX0_isFolded 2 (some .boolean), Cond.fieldLink RX0 28 "ChairBallot$Row" "folded" "I", Cond.methodLink RX2 96 yX0_votes, Cond.instanceMethod yX0_votes, Cond.selects RX0 yX0_votes yX0_votes, Cond.code yX0_votes cX0_votes 2 (some .int), Cond.methodLink RX0 45 yX0_isFolded, Cond.methodLink RX0 48 yX0_votesWhenOpen, Cond.instanceMethod yX0_votesWhenOpen, Cond.selects RX0 yX0_votesWhenOpen yX0_votesWhenOpen]
def wsX2_ofChair_r2 : List Cond := [Cond.code yX0_votesWhenOpen cX0_votesWhenOpen 2 (some .int), Cond.fieldLink RX0 9 "ChairBallot$Row" "kind" "[I", Cond.fieldLink RX0 18 "ChairBallot$Row" "weight" "[I", Cond.methodLink RX0 37 yX0_has, Cond.static yX2_votesAs, Cond.initialized RX2, Cond.code yX2_votesAs cX2_votesAs 2 (some .int), Cond.methodLink RX2 99 yX0_side, Cond.instanceMethod yX0_side, Cond.selects RX0 yX0_side yX0_side, Cond.code yX0_side cX0_side 2 (some .int), Cond.fieldLink RX0 15 "ChairBallot$Row" "stripe" "[I", Cond.fieldLink RX0 21 "ChairBallot$Row" "looks" "[I", Cond.methodLink RX0 52 yX0_meetsNext, Cond.instanceMethod yX0_meetsNext, Cond.selects RX0 yX0_meetsNext yX0_meetsNext, Cond.code yX0_meetsNext cX0_meetsNext 2 (some .boolean)]
def wsX2_ofChair : List Cond := .code yX2_ofChair cX2_ofChair 3 (some .int) :: ((wsX2_ofChair_r1 ++ wsX2_ofChair_r2) ++ wsX20 ++ wsX00)
def wsX2_paint : List Cond := .code yX2_paint cX2_paint 4 (some .int) :: ([.fieldLink RX2 20 "ChairBallot" "now" "LChairBallot$Row;", .fieldLink RX2 84 "ChairBallot$Row" "stripe" "[I", .methodLink RX2 78 yX0_has, .instanceMethod yX0_has, .selects RX0 yX0_has yX0_has, .initialized RX0, .code yX0_has cX0_has 2 (some .boolean), .fieldLink RX0 24 "ChairBallot$Row" "count" "I", .methodLink RX2 102 yX2_isStripe, .static yX2_isStripe, .initialized RX2, .code yX2_isStripe cX2_isStripe 1 (some .boolean)] ++ wsX20 ++ wsX00)
def wsX2_load : List Cond := .code yX2_load cX2_load 4 (some .int) :: ([.fieldLink RX2 20 "ChairBallot" "now" "LChairBallot$Row;", .fieldLink RX2 87 "ChairBallot$Row" "weight" "[I", .methodLink RX2 78 yX0_has, .instanceMethod yX0_has, .selects RX0 yX0_has yX0_has, .initialized RX0, .code yX0_has cX0_has 2 (some .boolean), .fieldLink RX0 24 "ChairBallot$Row" "count" "I"] ++ wsX20 ++ wsX00)
def wsX2_hasFront : List Cond := .code yX2_hasFront cX2_hasFront 1 (some .boolean) :: ([.fieldLink RX2 20 "ChairBallot" "now" "LChairBallot$Row;", .fieldLink RX2 75 "ChairBallot$Row" "count" "I"] ++ wsX20 ++ wsX00)
def wsX2_poll_r1 : List Cond := [Cond.fieldLink RX2 20 "ChairBallot" "now" "LChairBallot$Row;", Cond.methodLink RX2 105 yX2_hasFront, Cond.instanceMethod yX2_hasFront, Cond.selects RX2 yX2_hasFront yX2_hasFront, Cond.initialized RX2, Cond.code yX2_hasFront cX2_hasFront 1 (some .boolean), Cond.fieldLink RX2 75 "ChairBallot$Row" "count" "I", Cond.methodLink RX2 109 yX0_votesOf, Cond.instanceMethod yX0_votesOf, Cond.selects RX0 yX0_votesOf yX0_votesOf, Cond.initialized RX0, Cond.code yX0_votesOf cX0_votesOf 2 (some .int), Cond.methodLink RX0 64 yX0_chairsOf, Cond.instanceMethod yX0_chairsOf, Cond.selects RX0 yX0_chairsOf yX0_chairsOf, Cond.code yX0_chairsOf cX0_chairsOf 4 (some .int), Cond.fieldLink RX0 24 "ChairBallot$Row" "count" "I", Cond.methodLink RX0 55 yX0_side, Cond.instanceMethod yX0_side, Cond.selects RX0 yX0_side yX0_side, Cond.code yX0_side cX0_side 2 (some .int), Cond.fieldLink RX0 15 "ChairBallot$Row" "stripe" "[I", Cond.fieldLink RX0 21 "ChairBallot$Row" "looks" "[I", Cond.methodLink RX0 37 yX0_has]
def wsX2_poll_r2 : List Cond := [Cond.instanceMethod yX0_has, Cond.selects RX0 yX0_has yX0_has, Cond.code yX0_has cX0_has 2 (some .boolean), Cond.methodLink RX0 45 yX0_isFolded, Cond.instanceMethod yX0_isFolded, Cond.selects RX0 yX0_isFolded yX0_isFolded, Cond.code yX0_isFolded cX0_isFolded 2 (some .boolean), Cond.fieldLink RX0 28 "ChairBallot$Row" "folded" "I", Cond.methodLink RX0 52 yX0_meetsNext, Cond.instanceMethod yX0_meetsNext, Cond.selects RX0 yX0_meetsNext yX0_meetsNext, Cond.code yX0_meetsNext cX0_meetsNext 2 (some .boolean), Cond.methodLink RX0 67 yX0_votesIn, Cond.instanceMethod yX0_votesIn, Cond.selects RX0 yX0_votesIn yX0_votesIn, Cond.code yX0_votesIn cX0_votesIn 4 (some .int), Cond.static yX2_isIn, Cond.code yX2_isIn cX2_isIn 2 (some .boolean), Cond.methodLink RX0 58 yX0_votes, Cond.instanceMethod yX0_votes, Cond.selects RX0 yX0_votes yX0_votes, Cond.code yX0_votes cX0_votes 2 (some .int), Cond.methodLink RX0 48 yX0_votesWhenOpen, Cond.instanceMethod yX0_votesWhenOpen]
def wsX2_poll_r3 : List Cond := [Cond.selects RX0 yX0_votesWhenOpen yX0_votesWhenOpen, Cond.code yX0_votesWhenOpen cX0_votesWhenOpen 2 (some .int), Cond.fieldLink RX0 9 "ChairBallot$Row" "kind" "[I", Cond.fieldLink RX0 18 "ChairBallot$Row" "weight" "[I", Cond.static yX2_votesAs, Cond.code yX2_votesAs cX2_votesAs 2 (some .int), Cond.methodLink RX2 112 yX0_isCarried, Cond.instanceMethod yX0_isCarried, Cond.selects RX0 yX0_isCarried yX0_isCarried, Cond.code yX0_isCarried cX0_isCarried 3 (some .boolean), Cond.methodLink RX0 61 yX0_tilt, Cond.instanceMethod yX0_tilt, Cond.selects RX0 yX0_tilt yX0_tilt, Cond.code yX0_tilt cX0_tilt 2 (some .int), Cond.methodLink RX2 115 yX0_chairsOf]
def wsX2_poll : List Cond := .code yX2_poll cX2_poll 2 (some .int) :: ((wsX2_poll_r1 ++ (wsX2_poll_r2 ++ wsX2_poll_r3)) ++ wsX20 ++ wsX00)
def wsX2_turn : List Cond := .code yX2_turn cX2_turn 4 (some .int) :: ([.fieldLink RX2 20 "ChairBallot" "now" "LChairBallot$Row;", .fieldLink RX2 90 "ChairBallot$Row" "looks" "[I", .methodLink RX2 78 yX0_has, .instanceMethod yX0_has, .selects RX0 yX0_has yX0_has, .initialized RX0, .code yX0_has cX0_has 2 (some .boolean), .fieldLink RX0 24 "ChairBallot$Row" "count" "I", .methodLink RX2 127 yX2_isWay, .static yX2_isWay, .initialized RX2, .code yX2_isWay cX2_isWay 1 (some .boolean), .methodLink RX2 139 yX0_turned, .instanceMethod yX0_turned, .selects RX0 yX0_turned yX0_turned, .code yX0_turned cX0_turned 3 (some .boolean), .fieldLink RX0 21 "ChairBallot$Row" "looks" "[I", .methodLink RX0 37 yX0_has, .methodLink RX0 45 yX0_isFolded, .instanceMethod yX0_isFolded, .selects RX0 yX0_isFolded yX0_isFolded, .code yX0_isFolded cX0_isFolded 2 (some .boolean), .fieldLink RX0 28 "ChairBallot$Row" "folded" "I"] ++ wsX20 ++ wsX00)
def wsX2_gust : List Cond := .code yX2_gust cX2_gust 3 (some .int) :: ([.fieldLink RX2 20 "ChairBallot" "now" "LChairBallot$Row;", .methodLink RX2 105 yX2_hasFront, .instanceMethod yX2_hasFront, .selects RX2 yX2_hasFront yX2_hasFront, .initialized RX2, .code yX2_hasFront cX2_hasFront 1 (some .boolean), .fieldLink RX2 75 "ChairBallot$Row" "count" "I", .methodLink RX2 127 yX2_isWay, .static yX2_isWay, .code yX2_isWay cX2_isWay 1 (some .boolean), .methodLink RX2 142 yX0_blown, .instanceMethod yX0_blown, .selects RX0 yX0_blown yX0_blown, .initialized RX0, .code yX0_blown cX0_blown 5 (some .int), .fieldLink RX0 24 "ChairBallot$Row" "count" "I", .fieldLink RX0 18 "ChairBallot$Row" "weight" "[I", .fieldLink RX0 21 "ChairBallot$Row" "looks" "[I", .methodLink RX0 45 yX0_isFolded, .instanceMethod yX0_isFolded, .selects RX0 yX0_isFolded yX0_isFolded, .code yX0_isFolded cX0_isFolded 2 (some .boolean), .fieldLink RX0 28 "ChairBallot$Row" "folded" "I"] ++ wsX20 ++ wsX00)
def wsX2_rain : List Cond := .code yX2_rain cX2_rain 1 (some .int) :: ([.fieldLink RX2 20 "ChairBallot" "now" "LChairBallot$Row;", .methodLink RX2 105 yX2_hasFront, .instanceMethod yX2_hasFront, .selects RX2 yX2_hasFront yX2_hasFront, .initialized RX2, .code yX2_hasFront cX2_hasFront 1 (some .boolean), .fieldLink RX2 75 "ChairBallot$Row" "count" "I", .methodLink RX2 145 yX0_foldedByRain, .instanceMethod yX0_foldedByRain, .selects RX0 yX0_foldedByRain yX0_foldedByRain, .initialized RX0, .code yX0_foldedByRain cX0_foldedByRain 2 (some .int), .fieldLink RX0 28 "ChairBallot$Row" "folded" "I", .fieldLink RX0 24 "ChairBallot$Row" "count" "I", .methodLink RX0 74 yJ6_bitCount_0f7a4, .static yJ6_bitCount_0f7a4, .initialized RJ6, .code yJ6_bitCount_0f7a4 cJ6_bitCount_0f7a4 1 (some .int), .constant RJ6 265 (1431655765), .constant RJ6 266 (858993459), .constant RJ6 267 (252645135)] ++ wsX20 ++ wsX00)
def wsX2_open_r1 : List Cond := [Cond.fieldLink RX2 20 "ChairBallot" "now" "LChairBallot$Row;", Cond.fieldLink RX2 136 "ChairBallot$Row" "folded" "I", Cond.methodLink RX2 78 yX0_has, Cond.instanceMethod yX0_has, Cond.selects RX0 yX0_has yX0_has, Cond.initialized RX0, Cond.code yX0_has cX0_has 2 (some .boolean), Cond.fieldLink RX0 24 "ChairBallot$Row" "count" "I", Cond.methodLink RX2 149 yX0_opened, Cond.instanceMethod yX0_opened, Cond.selects RX0 yX0_opened yX0_opened, Cond.code yX0_opened cX0_opened 2 (some .boolean), Cond.fieldLink RX0 28 "ChairBallot$Row" "folded" "I", Cond.methodLink RX0 37 yX0_has, Cond.methodLink RX0 45 yX0_isFolded, Cond.instanceMethod yX0_isFolded, Cond.selects RX0 yX0_isFolded yX0_isFolded, Cond.code yX0_isFolded cX0_isFolded 2 (some .boolean), Cond.methodLink RX2 152 yJ6_bitCount_0f7a4, Cond.static yJ6_bitCount_0f7a4, Cond.initialized RJ6, Cond.code yJ6_bitCount_0f7a4 cJ6_bitCount_0f7a4 1 (some .int), Cond.constant RJ6 265 (1431655765), Cond.constant RJ6 266 (858993459)]
def wsX2_open_r2 : List Cond := [Cond.constant RJ6 267 (252645135)]
def wsX2_open : List Cond := .code yX2_open cX2_open 2 (some .int) :: ((wsX2_open_r1 ++ wsX2_open_r2) ++ wsX20 ++ wsX00)
def wsX2_isAskedOfDay : List Cond := .code yX2_isAskedOfDay cX2_isAskedOfDay 1 (some .boolean) :: ([])
def wsX2_refusalOfPair : List Cond := .code yX2_refusalOfPair cX2_refusalOfPair 3 (some .int) :: ([.fieldLink RX2 20 "ChairBallot" "now" "LChairBallot$Row;", .methodLink RX2 78 yX0_has, .instanceMethod yX0_has, .selects RX0 yX0_has yX0_has, .initialized RX0, .code yX0_has cX0_has 2 (some .boolean), .fieldLink RX0 24 "ChairBallot$Row" "count" "I"] ++ wsX20 ++ wsX00)
def wsX2_refusalOfPairs : List Cond := .code yX2_refusalOfPairs cX2_refusalOfPairs 6 (some .int) :: ([.methodLink RX2 118 yX1_at, .instanceMethod yX1_at, .selects RX1 yX1_at yX1_at, .initialized RX1, .code yX1_at cX1_at 2 (some .int), .fieldLink RX1 9 "ChairBallot$Sheet" "cells" "[I", .methodLink RX1 32 yX1_holds, .instanceMethod yX1_holds, .selects RX1 yX1_holds yX1_holds, .code yX1_holds cX1_holds 3 (some .boolean), .fieldLink RX1 23 "ChairBallot$Sheet" "length" "I", .methodLink RX2 167 yX2_refusalOfPair, .instanceMethod yX2_refusalOfPair, .selects RX2 yX2_refusalOfPair yX2_refusalOfPair, .initialized RX2, .code yX2_refusalOfPair cX2_refusalOfPair 3 (some .int), .fieldLink RX2 20 "ChairBallot" "now" "LChairBallot$Row;", .methodLink RX2 78 yX0_has, .instanceMethod yX0_has, .selects RX0 yX0_has yX0_has, .initialized RX0, .code yX0_has cX0_has 2 (some .boolean), .fieldLink RX0 24 "ChairBallot$Row" "count" "I"] ++ wsX10 ++ wsX20 ++ wsX00)
def wsX2_answerOfDay_r1 : List Cond := [Cond.fieldLink RX2 24 "ChairBallot" "trial" "LChairBallot$Row;", Cond.fieldLink RX2 20 "ChairBallot" "now" "LChairBallot$Row;", Cond.fieldLink RX2 136 "ChairBallot$Row" "folded" "I", Cond.fieldLink RX2 90 "ChairBallot$Row" "looks" "[I", Cond.methodLink RX2 170 yX0_becomes, Cond.instanceMethod yX0_becomes, Cond.selects RX0 yX0_becomes yX0_becomes, Cond.initialized RX0, Cond.code yX0_becomes cX0_becomes 2 none, Cond.fieldLink RX0 9 "ChairBallot$Row" "kind" "[I", Cond.methodLink RX0 31 arraycopyName, Cond.native arraycopyName, Cond.static arraycopyName, Cond.initialized "java/lang/System", Cond.fieldLink RX0 15 "ChairBallot$Row" "stripe" "[I", Cond.fieldLink RX0 18 "ChairBallot$Row" "weight" "[I", Cond.fieldLink RX0 21 "ChairBallot$Row" "looks" "[I", Cond.fieldLink RX0 24 "ChairBallot$Row" "count" "I", Cond.fieldLink RX0 28 "ChairBallot$Row" "folded" "I", Cond.methodLink RX2 118 yX1_at, Cond.instanceMethod yX1_at, Cond.selects RX1 yX1_at yX1_at, Cond.initialized RX1, Cond.code yX1_at cX1_at 2 (some .int)]
def wsX2_answerOfDay_r2 : List Cond := [Cond.fieldLink RX1 9 "ChairBallot$Sheet" "cells" "[I", Cond.methodLink RX1 32 yX1_holds, Cond.instanceMethod yX1_holds, Cond.selects RX1 yX1_holds yX1_holds, Cond.code yX1_holds cX1_holds 3 (some .boolean), Cond.fieldLink RX1 23 "ChairBallot$Sheet" "length" "I", Cond.methodLink RX2 174 yX0_acted, Cond.instanceMethod yX0_acted, Cond.selects RX0 yX0_acted yX0_acted, Cond.code yX0_acted cX0_acted 3 (some .boolean), Cond.methodLink RX0 79 yX0_opened, Cond.instanceMethod yX0_opened, Cond.selects RX0 yX0_opened yX0_opened, Cond.code yX0_opened cX0_opened 2 (some .boolean), Cond.methodLink RX0 37 yX0_has, Cond.instanceMethod yX0_has, Cond.selects RX0 yX0_has yX0_has, Cond.code yX0_has cX0_has 2 (some .boolean), Cond.methodLink RX0 45 yX0_isFolded, Cond.instanceMethod yX0_isFolded, Cond.selects RX0 yX0_isFolded yX0_isFolded, Cond.code yX0_isFolded cX0_isFolded 2 (some .boolean), Cond.methodLink RX0 82 yX0_foldedByRain, Cond.instanceMethod yX0_foldedByRain]
def wsX2_answerOfDay_r3 : List Cond := [Cond.selects RX0 yX0_foldedByRain yX0_foldedByRain, Cond.code yX0_foldedByRain cX0_foldedByRain 2 (some .int), Cond.methodLink RX0 74 yJ6_bitCount_0f7a4, Cond.static yJ6_bitCount_0f7a4, Cond.initialized RJ6, Cond.code yJ6_bitCount_0f7a4 cJ6_bitCount_0f7a4 1 (some .int), Cond.constant RJ6 265 (1431655765), Cond.constant RJ6 266 (858993459), Cond.constant RJ6 267 (252645135), Cond.methodLink RX0 86 yX0_blown, Cond.instanceMethod yX0_blown, Cond.selects RX0 yX0_blown yX0_blown, Cond.code yX0_blown cX0_blown 5 (some .int), Cond.methodLink RX0 89 yX0_turned, Cond.instanceMethod yX0_turned, Cond.selects RX0 yX0_turned yX0_turned, Cond.code yX0_turned cX0_turned 3 (some .boolean), Cond.methodLink RX2 112 yX0_isCarried, Cond.instanceMethod yX0_isCarried, Cond.selects RX0 yX0_isCarried yX0_isCarried, Cond.code yX0_isCarried cX0_isCarried 3 (some .boolean), Cond.methodLink RX0 61 yX0_tilt, Cond.instanceMethod yX0_tilt, Cond.selects RX0 yX0_tilt yX0_tilt]
def wsX2_answerOfDay_r4 : List Cond := [Cond.code yX0_tilt cX0_tilt 2 (some .int), Cond.methodLink RX0 55 yX0_side, Cond.instanceMethod yX0_side, Cond.selects RX0 yX0_side yX0_side, Cond.code yX0_side cX0_side 2 (some .int), Cond.methodLink RX0 52 yX0_meetsNext, Cond.instanceMethod yX0_meetsNext, Cond.selects RX0 yX0_meetsNext yX0_meetsNext, Cond.code yX0_meetsNext cX0_meetsNext 2 (some .boolean), Cond.methodLink RX0 58 yX0_votes, Cond.instanceMethod yX0_votes, Cond.selects RX0 yX0_votes yX0_votes, Cond.code yX0_votes cX0_votes 2 (some .int), Cond.methodLink RX0 48 yX0_votesWhenOpen, Cond.instanceMethod yX0_votesWhenOpen, Cond.selects RX0 yX0_votesWhenOpen yX0_votesWhenOpen, Cond.code yX0_votesWhenOpen cX0_votesWhenOpen 2 (some .int), Cond.static yX2_votesAs, Cond.initialized RX2, Cond.code yX2_votesAs cX2_votesAs 2 (some .int), Cond.methodLink RX2 109 yX0_votesOf, Cond.instanceMethod yX0_votesOf, Cond.selects RX0 yX0_votesOf yX0_votesOf, Cond.code yX0_votesOf cX0_votesOf 2 (some .int)]
def wsX2_answerOfDay_r5 : List Cond := [Cond.methodLink RX0 64 yX0_chairsOf, Cond.instanceMethod yX0_chairsOf, Cond.selects RX0 yX0_chairsOf yX0_chairsOf, Cond.code yX0_chairsOf cX0_chairsOf 4 (some .int), Cond.methodLink RX0 67 yX0_votesIn, Cond.instanceMethod yX0_votesIn, Cond.selects RX0 yX0_votesIn yX0_votesIn, Cond.code yX0_votesIn cX0_votesIn 4 (some .int), Cond.static yX2_isIn, Cond.code yX2_isIn cX2_isIn 2 (some .boolean), Cond.methodLink RX2 78 yX0_has]
def wsX2_answerOfDay : List Cond := .code yX2_answerOfDay cX2_answerOfDay 7 (some .int) :: ((wsX2_answerOfDay_r1 ++ (wsX2_answerOfDay_r2 ++ (wsX2_answerOfDay_r3 ++ (wsX2_answerOfDay_r4 ++ wsX2_answerOfDay_r5)))) ++ wsX20 ++ wsX00 ++ wsX10)
def wsX2_day_r1 : List Cond := [Cond.fieldLink RX2 44 "ChairBallot" "latestFault" "I", Cond.methodLink RX2 48 yX2_sheetAt, Cond.instanceMethod yX2_sheetAt, Cond.selects RX2 yX2_sheetAt yX2_sheetAt, Cond.initialized RX2, Cond.code yX2_sheetAt cX2_sheetAt 2 (some (.object "ChairBallot$Sheet")), Cond.fieldLink RX2 13 "ChairBallot" "sheets" "[LChairBallot$Sheet;", Cond.methodLink RX2 52 yX2_isLane, Cond.static yX2_isLane, Cond.code yX2_isLane cX2_isLane 1 (some .boolean), Cond.methodLink RX2 157 yX2_isAskedOfDay, Cond.static yX2_isAskedOfDay, Cond.code yX2_isAskedOfDay cX2_isAskedOfDay 1 (some .boolean), Cond.methodLink RX2 105 yX2_hasFront, Cond.instanceMethod yX2_hasFront, Cond.selects RX2 yX2_hasFront yX2_hasFront, Cond.code yX2_hasFront cX2_hasFront 1 (some .boolean), Cond.fieldLink RX2 20 "ChairBallot" "now" "LChairBallot$Row;", Cond.fieldLink RX2 75 "ChairBallot$Row" "count" "I", Cond.methodLink RX2 56 yX1_faultAs, Cond.instanceMethod yX1_faultAs, Cond.selects RX1 yX1_faultAs yX1_faultAs, Cond.initialized RX1, Cond.code yX1_faultAs cX1_faultAs 2 (some .int)]
def wsX2_day_r2 : List Cond := [Cond.fieldLink RX1 15 "ChairBallot$Sheet" "hasRow" "Z", Cond.fieldLink RX1 19 "ChairBallot$Sheet" "lane" "I", Cond.methodLink RX2 60 yX2_faulted, Cond.instanceMethod yX2_faulted, Cond.selects RX2 yX2_faulted yX2_faulted, Cond.code yX2_faulted cX2_faulted 2 (some .int), Cond.methodLink RX2 63 yX1_holds, Cond.instanceMethod yX1_holds, Cond.selects RX1 yX1_holds yX1_holds, Cond.code yX1_holds cX1_holds 3 (some .boolean), Cond.fieldLink RX1 23 "ChairBallot$Sheet" "length" "I", Cond.methodLink RX2 160 yX2_refusalOfPairs, Cond.instanceMethod yX2_refusalOfPairs, Cond.selects RX2 yX2_refusalOfPairs yX2_refusalOfPairs, Cond.code yX2_refusalOfPairs cX2_refusalOfPairs 6 (some .int), Cond.methodLink RX2 118 yX1_at, Cond.instanceMethod yX1_at, Cond.selects RX1 yX1_at yX1_at, Cond.code yX1_at cX1_at 2 (some .int), Cond.fieldLink RX1 9 "ChairBallot$Sheet" "cells" "[I", Cond.methodLink RX1 32 yX1_holds, Cond.methodLink RX2 167 yX2_refusalOfPair, Cond.instanceMethod yX2_refusalOfPair, Cond.selects RX2 yX2_refusalOfPair yX2_refusalOfPair]
def wsX2_day_r3 : List Cond := [Cond.code yX2_refusalOfPair cX2_refusalOfPair 3 (some .int), Cond.methodLink RX2 78 yX0_has, Cond.instanceMethod yX0_has, Cond.selects RX0 yX0_has yX0_has, Cond.initialized RX0, Cond.code yX0_has cX0_has 2 (some .boolean), Cond.fieldLink RX0 24 "ChairBallot$Row" "count" "I", Cond.methodLink RX2 163 yX2_answerOfDay, Cond.instanceMethod yX2_answerOfDay, Cond.selects RX2 yX2_answerOfDay yX2_answerOfDay, Cond.code yX2_answerOfDay cX2_answerOfDay 7 (some .int), Cond.fieldLink RX2 24 "ChairBallot" "trial" "LChairBallot$Row;", Cond.fieldLink RX2 136 "ChairBallot$Row" "folded" "I", Cond.fieldLink RX2 90 "ChairBallot$Row" "looks" "[I", Cond.methodLink RX2 170 yX0_becomes, Cond.instanceMethod yX0_becomes, Cond.selects RX0 yX0_becomes yX0_becomes, Cond.code yX0_becomes cX0_becomes 2 none, Cond.fieldLink RX0 9 "ChairBallot$Row" "kind" "[I", Cond.methodLink RX0 31 arraycopyName, Cond.native arraycopyName, Cond.static arraycopyName, Cond.initialized "java/lang/System", Cond.fieldLink RX0 15 "ChairBallot$Row" "stripe" "[I"]
def wsX2_day_r4 : List Cond := [Cond.fieldLink RX0 18 "ChairBallot$Row" "weight" "[I", Cond.fieldLink RX0 21 "ChairBallot$Row" "looks" "[I", Cond.fieldLink RX0 28 "ChairBallot$Row" "folded" "I", Cond.methodLink RX2 174 yX0_acted, Cond.instanceMethod yX0_acted, Cond.selects RX0 yX0_acted yX0_acted, Cond.code yX0_acted cX0_acted 3 (some .boolean), Cond.methodLink RX0 79 yX0_opened, Cond.instanceMethod yX0_opened, Cond.selects RX0 yX0_opened yX0_opened, Cond.code yX0_opened cX0_opened 2 (some .boolean), Cond.methodLink RX0 37 yX0_has, Cond.methodLink RX0 45 yX0_isFolded, Cond.instanceMethod yX0_isFolded, Cond.selects RX0 yX0_isFolded yX0_isFolded, Cond.code yX0_isFolded cX0_isFolded 2 (some .boolean), Cond.methodLink RX0 82 yX0_foldedByRain, Cond.instanceMethod yX0_foldedByRain, Cond.selects RX0 yX0_foldedByRain yX0_foldedByRain, Cond.code yX0_foldedByRain cX0_foldedByRain 2 (some .int), Cond.methodLink RX0 74 yJ6_bitCount_0f7a4, Cond.static yJ6_bitCount_0f7a4, Cond.initialized RJ6, Cond.code yJ6_bitCount_0f7a4 cJ6_bitCount_0f7a4 1 (some .int)]
def wsX2_day_r5 : List Cond := [Cond.constant RJ6 265 (1431655765), Cond.constant RJ6 266 (858993459), Cond.constant RJ6 267 (252645135), Cond.methodLink RX0 86 yX0_blown, Cond.instanceMethod yX0_blown, Cond.selects RX0 yX0_blown yX0_blown, Cond.code yX0_blown cX0_blown 5 (some .int), Cond.methodLink RX0 89 yX0_turned, Cond.instanceMethod yX0_turned, Cond.selects RX0 yX0_turned yX0_turned, Cond.code yX0_turned cX0_turned 3 (some .boolean), Cond.methodLink RX2 112 yX0_isCarried, Cond.instanceMethod yX0_isCarried, Cond.selects RX0 yX0_isCarried yX0_isCarried, Cond.code yX0_isCarried cX0_isCarried 3 (some .boolean), Cond.methodLink RX0 61 yX0_tilt, Cond.instanceMethod yX0_tilt, Cond.selects RX0 yX0_tilt yX0_tilt, Cond.code yX0_tilt cX0_tilt 2 (some .int), Cond.methodLink RX0 55 yX0_side, Cond.instanceMethod yX0_side, Cond.selects RX0 yX0_side yX0_side, Cond.code yX0_side cX0_side 2 (some .int), Cond.methodLink RX0 52 yX0_meetsNext]
def wsX2_day_r6 : List Cond := [Cond.instanceMethod yX0_meetsNext, Cond.selects RX0 yX0_meetsNext yX0_meetsNext, Cond.code yX0_meetsNext cX0_meetsNext 2 (some .boolean), Cond.methodLink RX0 58 yX0_votes, Cond.instanceMethod yX0_votes, Cond.selects RX0 yX0_votes yX0_votes, Cond.code yX0_votes cX0_votes 2 (some .int), Cond.methodLink RX0 48 yX0_votesWhenOpen, Cond.instanceMethod yX0_votesWhenOpen, Cond.selects RX0 yX0_votesWhenOpen yX0_votesWhenOpen, Cond.code yX0_votesWhenOpen cX0_votesWhenOpen 2 (some .int), Cond.static yX2_votesAs, Cond.code yX2_votesAs cX2_votesAs 2 (some .int), Cond.methodLink RX2 109 yX0_votesOf, Cond.instanceMethod yX0_votesOf, Cond.selects RX0 yX0_votesOf yX0_votesOf, Cond.code yX0_votesOf cX0_votesOf 2 (some .int), Cond.methodLink RX0 64 yX0_chairsOf, Cond.instanceMethod yX0_chairsOf, Cond.selects RX0 yX0_chairsOf yX0_chairsOf, Cond.code yX0_chairsOf cX0_chairsOf 4 (some .int), Cond.methodLink RX0 67 yX0_votesIn, Cond.instanceMethod yX0_votesIn, Cond.selects RX0 yX0_votesIn yX0_votesIn]
def wsX2_day_r7 : List Cond := [Cond.code yX0_votesIn cX0_votesIn 4 (some .int), Cond.static yX2_isIn, Cond.code yX2_isIn cX2_isIn 2 (some .boolean)]
def wsX2_day : List Cond := .code yX2_day cX2_day 9 (some .int) :: ((wsX2_day_r1 ++ (wsX2_day_r2 ++ (wsX2_day_r3 ++ (wsX2_day_r4 ++ (wsX2_day_r5 ++ (wsX2_day_r6 ++ wsX2_day_r7)))))) ++ wsX20 ++ wsX00 ++ wsX10)
def wsX2_isCarriedIfAtSea_r1 : List Cond := [Cond.fieldLink RX2 24 "ChairBallot" "trial" "LChairBallot$Row;", Cond.fieldLink RX2 20 "ChairBallot" "now" "LChairBallot$Row;", Cond.fieldLink RX2 75 "ChairBallot$Row" "count" "I", Cond.methodLink RX2 170 yX0_becomes, Cond.instanceMethod yX0_becomes, Cond.selects RX0 yX0_becomes yX0_becomes, Cond.initialized RX0, Cond.code yX0_becomes cX0_becomes 2 none, Cond.fieldLink RX0 9 "ChairBallot$Row" "kind" "[I", Cond.methodLink RX0 31 arraycopyName, Cond.native arraycopyName, Cond.static arraycopyName, Cond.initialized "java/lang/System", Cond.fieldLink RX0 15 "ChairBallot$Row" "stripe" "[I", Cond.fieldLink RX0 18 "ChairBallot$Row" "weight" "[I", Cond.fieldLink RX0 21 "ChairBallot$Row" "looks" "[I", Cond.fieldLink RX0 24 "ChairBallot$Row" "count" "I", Cond.fieldLink RX0 28 "ChairBallot$Row" "folded" "I", Cond.methodLink RX2 204 yX2_isIn, Cond.static yX2_isIn, Cond.initialized RX2, Cond.code yX2_isIn cX2_isIn 2 (some .boolean), Cond.methodLink RX2 139 yX0_turned, Cond.instanceMethod yX0_turned]
def wsX2_isCarriedIfAtSea_r2 : List Cond := [Cond.selects RX0 yX0_turned yX0_turned, Cond.code yX0_turned cX0_turned 3 (some .boolean), Cond.methodLink RX0 37 yX0_has, Cond.instanceMethod yX0_has, Cond.selects RX0 yX0_has yX0_has, Cond.code yX0_has cX0_has 2 (some .boolean), Cond.methodLink RX0 45 yX0_isFolded, Cond.instanceMethod yX0_isFolded, Cond.selects RX0 yX0_isFolded yX0_isFolded, Cond.code yX0_isFolded cX0_isFolded 2 (some .boolean), Cond.methodLink RX2 112 yX0_isCarried, Cond.instanceMethod yX0_isCarried, Cond.selects RX0 yX0_isCarried yX0_isCarried, Cond.code yX0_isCarried cX0_isCarried 3 (some .boolean), Cond.methodLink RX0 61 yX0_tilt, Cond.instanceMethod yX0_tilt, Cond.selects RX0 yX0_tilt yX0_tilt, Cond.code yX0_tilt cX0_tilt 2 (some .int), Cond.methodLink RX0 55 yX0_side, Cond.instanceMethod yX0_side, Cond.selects RX0 yX0_side yX0_side, Cond.code yX0_side cX0_side 2 (some .int), Cond.methodLink RX0 52 yX0_meetsNext, Cond.instanceMethod yX0_meetsNext]
def wsX2_isCarriedIfAtSea_r3 : List Cond := [Cond.selects RX0 yX0_meetsNext yX0_meetsNext, Cond.code yX0_meetsNext cX0_meetsNext 2 (some .boolean), Cond.methodLink RX0 58 yX0_votes, Cond.instanceMethod yX0_votes, Cond.selects RX0 yX0_votes yX0_votes, Cond.code yX0_votes cX0_votes 2 (some .int), Cond.methodLink RX0 48 yX0_votesWhenOpen, Cond.instanceMethod yX0_votesWhenOpen, Cond.selects RX0 yX0_votesWhenOpen yX0_votesWhenOpen, Cond.code yX0_votesWhenOpen cX0_votesWhenOpen 2 (some .int), Cond.static yX2_votesAs, Cond.code yX2_votesAs cX2_votesAs 2 (some .int)]
def wsX2_isCarriedIfAtSea : List Cond := .code yX2_isCarriedIfAtSea cX2_isCarriedIfAtSea 3 (some .boolean) :: ((wsX2_isCarriedIfAtSea_r1 ++ (wsX2_isCarriedIfAtSea_r2 ++ wsX2_isCarriedIfAtSea_r3)) ++ wsX20 ++ wsX00)
def wsX2_swing_r1 : List Cond := [Cond.fieldLink RX2 20 "ChairBallot" "now" "LChairBallot$Row;", Cond.fieldLink RX2 75 "ChairBallot$Row" "count" "I", Cond.fieldLink RX2 136 "ChairBallot$Row" "folded" "I", Cond.methodLink RX2 105 yX2_hasFront, Cond.instanceMethod yX2_hasFront, Cond.selects RX2 yX2_hasFront yX2_hasFront, Cond.initialized RX2, Cond.code yX2_hasFront cX2_hasFront 1 (some .boolean), Cond.methodLink RX2 152 yJ6_bitCount_0f7a4, Cond.static yJ6_bitCount_0f7a4, Cond.initialized RJ6, Cond.code yJ6_bitCount_0f7a4 cJ6_bitCount_0f7a4 1 (some .int), Cond.constant RJ6 265 (1431655765), Cond.constant RJ6 266 (858993459), Cond.constant RJ6 267 (252645135), Cond.methodLink RX2 177 yX2_isCarriedIfAtSea, Cond.instanceMethod yX2_isCarriedIfAtSea, Cond.selects RX2 yX2_isCarriedIfAtSea yX2_isCarriedIfAtSea, Cond.code yX2_isCarriedIfAtSea cX2_isCarriedIfAtSea 3 (some .boolean), Cond.fieldLink RX2 24 "ChairBallot" "trial" "LChairBallot$Row;", Cond.methodLink RX2 170 yX0_becomes, Cond.instanceMethod yX0_becomes, Cond.selects RX0 yX0_becomes yX0_becomes, Cond.initialized RX0]
def wsX2_swing_r2 : List Cond := [Cond.code yX0_becomes cX0_becomes 2 none, Cond.fieldLink RX0 9 "ChairBallot$Row" "kind" "[I", Cond.methodLink RX0 31 arraycopyName, Cond.native arraycopyName, Cond.static arraycopyName, Cond.initialized "java/lang/System", Cond.fieldLink RX0 15 "ChairBallot$Row" "stripe" "[I", Cond.fieldLink RX0 18 "ChairBallot$Row" "weight" "[I", Cond.fieldLink RX0 21 "ChairBallot$Row" "looks" "[I", Cond.fieldLink RX0 24 "ChairBallot$Row" "count" "I", Cond.fieldLink RX0 28 "ChairBallot$Row" "folded" "I", Cond.methodLink RX2 204 yX2_isIn, Cond.static yX2_isIn, Cond.code yX2_isIn cX2_isIn 2 (some .boolean), Cond.methodLink RX2 139 yX0_turned, Cond.instanceMethod yX0_turned, Cond.selects RX0 yX0_turned yX0_turned, Cond.code yX0_turned cX0_turned 3 (some .boolean), Cond.methodLink RX0 37 yX0_has, Cond.instanceMethod yX0_has, Cond.selects RX0 yX0_has yX0_has, Cond.code yX0_has cX0_has 2 (some .boolean), Cond.methodLink RX0 45 yX0_isFolded, Cond.instanceMethod yX0_isFolded]
def wsX2_swing_r3 : List Cond := [Cond.selects RX0 yX0_isFolded yX0_isFolded, Cond.code yX0_isFolded cX0_isFolded 2 (some .boolean), Cond.methodLink RX2 112 yX0_isCarried, Cond.instanceMethod yX0_isCarried, Cond.selects RX0 yX0_isCarried yX0_isCarried, Cond.code yX0_isCarried cX0_isCarried 3 (some .boolean), Cond.methodLink RX0 61 yX0_tilt, Cond.instanceMethod yX0_tilt, Cond.selects RX0 yX0_tilt yX0_tilt, Cond.code yX0_tilt cX0_tilt 2 (some .int), Cond.methodLink RX0 55 yX0_side, Cond.instanceMethod yX0_side, Cond.selects RX0 yX0_side yX0_side, Cond.code yX0_side cX0_side 2 (some .int), Cond.methodLink RX0 52 yX0_meetsNext, Cond.instanceMethod yX0_meetsNext, Cond.selects RX0 yX0_meetsNext yX0_meetsNext, Cond.code yX0_meetsNext cX0_meetsNext 2 (some .boolean), Cond.methodLink RX0 58 yX0_votes, Cond.instanceMethod yX0_votes, Cond.selects RX0 yX0_votes yX0_votes, Cond.code yX0_votes cX0_votes 2 (some .int), Cond.methodLink RX0 48 yX0_votesWhenOpen, Cond.instanceMethod yX0_votesWhenOpen]
def wsX2_swing_r4 : List Cond := [Cond.selects RX0 yX0_votesWhenOpen yX0_votesWhenOpen, Cond.code yX0_votesWhenOpen cX0_votesWhenOpen 2 (some .int), Cond.static yX2_votesAs, Cond.code yX2_votesAs cX2_votesAs 2 (some .int)]
def wsX2_swing : List Cond := .code yX2_swing cX2_swing 6 (some .int) :: ((wsX2_swing_r1 ++ (wsX2_swing_r2 ++ (wsX2_swing_r3 ++ wsX2_swing_r4))) ++ wsX20 ++ wsX00)
def wsX2_blow_r1 : List Cond := [Cond.fieldLink RX2 24 "ChairBallot" "trial" "LChairBallot$Row;", Cond.fieldLink RX2 20 "ChairBallot" "now" "LChairBallot$Row;", Cond.methodLink RX2 105 yX2_hasFront, Cond.instanceMethod yX2_hasFront, Cond.selects RX2 yX2_hasFront yX2_hasFront, Cond.initialized RX2, Cond.code yX2_hasFront cX2_hasFront 1 (some .boolean), Cond.fieldLink RX2 75 "ChairBallot$Row" "count" "I", Cond.methodLink RX2 127 yX2_isWay, Cond.static yX2_isWay, Cond.code yX2_isWay cX2_isWay 1 (some .boolean), Cond.methodLink RX2 170 yX0_becomes, Cond.instanceMethod yX0_becomes, Cond.selects RX0 yX0_becomes yX0_becomes, Cond.initialized RX0, Cond.code yX0_becomes cX0_becomes 2 none, Cond.fieldLink RX0 9 "ChairBallot$Row" "kind" "[I", Cond.methodLink RX0 31 arraycopyName, Cond.native arraycopyName, Cond.static arraycopyName, Cond.initialized "java/lang/System", Cond.fieldLink RX0 15 "ChairBallot$Row" "stripe" "[I", Cond.fieldLink RX0 18 "ChairBallot$Row" "weight" "[I", Cond.fieldLink RX0 21 "ChairBallot$Row" "looks" "[I"]
def wsX2_blow_r2 : List Cond := [Cond.fieldLink RX0 24 "ChairBallot$Row" "count" "I", Cond.fieldLink RX0 28 "ChairBallot$Row" "folded" "I", Cond.methodLink RX2 142 yX0_blown, Cond.instanceMethod yX0_blown, Cond.selects RX0 yX0_blown yX0_blown, Cond.code yX0_blown cX0_blown 5 (some .int), Cond.methodLink RX0 45 yX0_isFolded, Cond.instanceMethod yX0_isFolded, Cond.selects RX0 yX0_isFolded yX0_isFolded, Cond.code yX0_isFolded cX0_isFolded 2 (some .boolean), Cond.methodLink RX2 112 yX0_isCarried, Cond.instanceMethod yX0_isCarried, Cond.selects RX0 yX0_isCarried yX0_isCarried, Cond.code yX0_isCarried cX0_isCarried 3 (some .boolean), Cond.methodLink RX0 61 yX0_tilt, Cond.instanceMethod yX0_tilt, Cond.selects RX0 yX0_tilt yX0_tilt, Cond.code yX0_tilt cX0_tilt 2 (some .int), Cond.methodLink RX0 55 yX0_side, Cond.instanceMethod yX0_side, Cond.selects RX0 yX0_side yX0_side, Cond.code yX0_side cX0_side 2 (some .int), Cond.methodLink RX0 37 yX0_has, Cond.instanceMethod yX0_has]
def wsX2_blow_r3 : List Cond := [Cond.selects RX0 yX0_has yX0_has, Cond.code yX0_has cX0_has 2 (some .boolean), Cond.methodLink RX0 52 yX0_meetsNext, Cond.instanceMethod yX0_meetsNext, Cond.selects RX0 yX0_meetsNext yX0_meetsNext, Cond.code yX0_meetsNext cX0_meetsNext 2 (some .boolean), Cond.methodLink RX0 58 yX0_votes, Cond.instanceMethod yX0_votes, Cond.selects RX0 yX0_votes yX0_votes, Cond.code yX0_votes cX0_votes 2 (some .int), Cond.methodLink RX0 48 yX0_votesWhenOpen, Cond.instanceMethod yX0_votesWhenOpen, Cond.selects RX0 yX0_votesWhenOpen yX0_votesWhenOpen, Cond.code yX0_votesWhenOpen cX0_votesWhenOpen 2 (some .int), Cond.static yX2_votesAs, Cond.code yX2_votesAs cX2_votesAs 2 (some .int)]
def wsX2_blow : List Cond := .code yX2_blow cX2_blow 3 (some .int) :: ((wsX2_blow_r1 ++ (wsX2_blow_r2 ++ wsX2_blow_r3)) ++ wsX20 ++ wsX00)
def wsX2_beginsWard : List Cond := .code yX2_beginsWard cX2_beginsWard 3 (some .boolean) :: ([.fieldLink RX2 20 "ChairBallot" "now" "LChairBallot$Row;", .fieldLink RX2 75 "ChairBallot$Row" "count" "I", .methodLink RX2 204 yX2_isIn, .static yX2_isIn, .initialized RX2, .code yX2_isIn cX2_isIn 2 (some .boolean)] ++ wsX20 ++ wsX00)
def wsX2_wardsWon : List Cond := .code yX2_wardsWon cX2_wardsWon 5 (some .int) :: ([.fieldLink RX2 20 "ChairBallot" "now" "LChairBallot$Row;", .fieldLink RX2 75 "ChairBallot$Row" "count" "I", .fieldLink RX2 27 "ChairBallot" "tilts" "[I", .methodLink RX2 207 yX2_beginsWard, .instanceMethod yX2_beginsWard, .selects RX2 yX2_beginsWard yX2_beginsWard, .initialized RX2, .code yX2_beginsWard cX2_beginsWard 3 (some .boolean), .methodLink RX2 204 yX2_isIn, .static yX2_isIn, .code yX2_isIn cX2_isIn 2 (some .boolean)] ++ wsX20 ++ wsX00)
def wsX2_fairestCuts : List Cond := .code yX2_fairestCuts cX2_fairestCuts 6 (some .int) :: ([.fieldLink RX2 20 "ChairBallot" "now" "LChairBallot$Row;", .fieldLink RX2 75 "ChairBallot$Row" "count" "I", .methodLink RX2 152 yJ6_bitCount_0f7a4, .static yJ6_bitCount_0f7a4, .initialized RJ6, .code yJ6_bitCount_0f7a4 cJ6_bitCount_0f7a4 1 (some .int), .constant RJ6 265 (1431655765), .constant RJ6 266 (858993459), .constant RJ6 267 (252645135), .methodLink RX2 186 yX2_wardsWon, .instanceMethod yX2_wardsWon, .selects RX2 yX2_wardsWon yX2_wardsWon, .initialized RX2, .code yX2_wardsWon cX2_wardsWon 5 (some .int), .fieldLink RX2 27 "ChairBallot" "tilts" "[I", .methodLink RX2 207 yX2_beginsWard, .instanceMethod yX2_beginsWard, .selects RX2 yX2_beginsWard yX2_beginsWard, .code yX2_beginsWard cX2_beginsWard 3 (some .boolean), .methodLink RX2 204 yX2_isIn, .static yX2_isIn, .code yX2_isIn cX2_isIn 2 (some .boolean)] ++ wsX20 ++ wsX00)
def wsX2_firstOfWard : List Cond := .code yX2_firstOfWard cX2_firstOfWard 5 (some .int) :: ([.fieldLink RX2 20 "ChairBallot" "now" "LChairBallot$Row;", .fieldLink RX2 75 "ChairBallot$Row" "count" "I", .methodLink RX2 207 yX2_beginsWard, .instanceMethod yX2_beginsWard, .selects RX2 yX2_beginsWard yX2_beginsWard, .initialized RX2, .code yX2_beginsWard cX2_beginsWard 3 (some .boolean), .methodLink RX2 204 yX2_isIn, .static yX2_isIn, .code yX2_isIn cX2_isIn 2 (some .boolean)] ++ wsX20 ++ wsX00)
def wsX2_wards_r1 : List Cond := [Cond.fieldLink RX2 20 "ChairBallot" "now" "LChairBallot$Row;", Cond.fieldLink RX2 75 "ChairBallot$Row" "count" "I", Cond.fieldLink RX2 27 "ChairBallot" "tilts" "[I", Cond.methodLink RX2 105 yX2_hasFront, Cond.instanceMethod yX2_hasFront, Cond.selects RX2 yX2_hasFront yX2_hasFront, Cond.initialized RX2, Cond.code yX2_hasFront cX2_hasFront 1 (some .boolean), Cond.methodLink RX2 180 yX0_tilt, Cond.instanceMethod yX0_tilt, Cond.selects RX0 yX0_tilt yX0_tilt, Cond.initialized RX0, Cond.code yX0_tilt cX0_tilt 2 (some .int), Cond.methodLink RX0 55 yX0_side, Cond.instanceMethod yX0_side, Cond.selects RX0 yX0_side yX0_side, Cond.code yX0_side cX0_side 2 (some .int), Cond.fieldLink RX0 15 "ChairBallot$Row" "stripe" "[I", Cond.fieldLink RX0 21 "ChairBallot$Row" "looks" "[I", Cond.methodLink RX0 37 yX0_has, Cond.instanceMethod yX0_has, Cond.selects RX0 yX0_has yX0_has, Cond.code yX0_has cX0_has 2 (some .boolean), Cond.fieldLink RX0 24 "ChairBallot$Row" "count" "I"]
def wsX2_wards_r2 : List Cond := [Cond.methodLink RX0 45 yX0_isFolded, Cond.instanceMethod yX0_isFolded, Cond.selects RX0 yX0_isFolded yX0_isFolded, Cond.code yX0_isFolded cX0_isFolded 2 (some .boolean), Cond.fieldLink RX0 28 "ChairBallot$Row" "folded" "I", Cond.methodLink RX0 52 yX0_meetsNext, Cond.instanceMethod yX0_meetsNext, Cond.selects RX0 yX0_meetsNext yX0_meetsNext, Cond.code yX0_meetsNext cX0_meetsNext 2 (some .boolean), Cond.methodLink RX0 58 yX0_votes, Cond.instanceMethod yX0_votes, Cond.selects RX0 yX0_votes yX0_votes, Cond.code yX0_votes cX0_votes 2 (some .int), Cond.methodLink RX0 48 yX0_votesWhenOpen, Cond.instanceMethod yX0_votesWhenOpen, Cond.selects RX0 yX0_votesWhenOpen yX0_votesWhenOpen, Cond.code yX0_votesWhenOpen cX0_votesWhenOpen 2 (some .int), Cond.fieldLink RX0 9 "ChairBallot$Row" "kind" "[I", Cond.fieldLink RX0 18 "ChairBallot$Row" "weight" "[I", Cond.static yX2_votesAs, Cond.code yX2_votesAs cX2_votesAs 2 (some .int), Cond.methodLink RX2 183 yX2_fairestCuts, Cond.instanceMethod yX2_fairestCuts, Cond.selects RX2 yX2_fairestCuts yX2_fairestCuts]
def wsX2_wards_r3 : List Cond := [Cond.code yX2_fairestCuts cX2_fairestCuts 6 (some .int), Cond.methodLink RX2 152 yJ6_bitCount_0f7a4, Cond.static yJ6_bitCount_0f7a4, Cond.initialized RJ6, Cond.code yJ6_bitCount_0f7a4 cJ6_bitCount_0f7a4 1 (some .int), Cond.constant RJ6 265 (1431655765), Cond.constant RJ6 266 (858993459), Cond.constant RJ6 267 (252645135), Cond.methodLink RX2 186 yX2_wardsWon, Cond.instanceMethod yX2_wardsWon, Cond.selects RX2 yX2_wardsWon yX2_wardsWon, Cond.code yX2_wardsWon cX2_wardsWon 5 (some .int), Cond.methodLink RX2 207 yX2_beginsWard, Cond.instanceMethod yX2_beginsWard, Cond.selects RX2 yX2_beginsWard yX2_beginsWard, Cond.code yX2_beginsWard cX2_beginsWard 3 (some .boolean), Cond.methodLink RX2 204 yX2_isIn, Cond.static yX2_isIn, Cond.code yX2_isIn cX2_isIn 2 (some .boolean), Cond.methodLink RX2 189 yX2_firstOfWard, Cond.instanceMethod yX2_firstOfWard, Cond.selects RX2 yX2_firstOfWard yX2_firstOfWard, Cond.code yX2_firstOfWard cX2_firstOfWard 5 (some .int)]
def wsX2_wards : List Cond := .code yX2_wards cX2_wards 4 (some .int) :: ((wsX2_wards_r1 ++ (wsX2_wards_r2 ++ wsX2_wards_r3)) ++ wsX20 ++ wsX00)
def wsX2_isUpperOrLower : List Cond := .code yX2_isUpperOrLower cX2_isUpperOrLower 1 (some .boolean) :: ([])
def wsX2_share : List Cond := .code yX2_share cX2_share 6 (some .long) :: ([])
def wsX2_power_r1 : List Cond := [Cond.constantLong RX2 195 (-9223372036854775808), Cond.fieldLink RX2 20 "ChairBallot" "now" "LChairBallot$Row;", Cond.methodLink RX2 102 yX2_isStripe, Cond.static yX2_isStripe, Cond.initialized RX2, Cond.code yX2_isStripe cX2_isStripe 1 (some .boolean), Cond.methodLink RX2 192 yX2_isUpperOrLower, Cond.static yX2_isUpperOrLower, Cond.code yX2_isUpperOrLower cX2_isUpperOrLower 1 (some .boolean), Cond.methodLink RX2 105 yX2_hasFront, Cond.instanceMethod yX2_hasFront, Cond.selects RX2 yX2_hasFront yX2_hasFront, Cond.code yX2_hasFront cX2_hasFront 1 (some .boolean), Cond.fieldLink RX2 75 "ChairBallot$Row" "count" "I", Cond.methodLink RX2 197 yX0_votesOfStripes, Cond.instanceMethod yX0_votesOfStripes, Cond.selects RX0 yX0_votesOfStripes yX0_votesOfStripes, Cond.initialized RX0, Cond.code yX0_votesOfStripes cX0_votesOfStripes 4 (some .int), Cond.fieldLink RX0 24 "ChairBallot$Row" "count" "I", Cond.fieldLink RX0 15 "ChairBallot$Row" "stripe" "[I", Cond.static yX2_isIn, Cond.code yX2_isIn cX2_isIn 2 (some .boolean), Cond.methodLink RX0 58 yX0_votes]
def wsX2_power_r2 : List Cond := [Cond.instanceMethod yX0_votes, Cond.selects RX0 yX0_votes yX0_votes, Cond.code yX0_votes cX0_votes 2 (some .int), Cond.methodLink RX0 45 yX0_isFolded, Cond.instanceMethod yX0_isFolded, Cond.selects RX0 yX0_isFolded yX0_isFolded, Cond.code yX0_isFolded cX0_isFolded 2 (some .boolean), Cond.fieldLink RX0 28 "ChairBallot$Row" "folded" "I", Cond.methodLink RX0 48 yX0_votesWhenOpen, Cond.instanceMethod yX0_votesWhenOpen, Cond.selects RX0 yX0_votesWhenOpen yX0_votesWhenOpen, Cond.code yX0_votesWhenOpen cX0_votesWhenOpen 2 (some .int), Cond.fieldLink RX0 9 "ChairBallot$Row" "kind" "[I", Cond.fieldLink RX0 18 "ChairBallot$Row" "weight" "[I", Cond.methodLink RX0 37 yX0_has, Cond.instanceMethod yX0_has, Cond.selects RX0 yX0_has yX0_has, Cond.code yX0_has cX0_has 2 (some .boolean), Cond.static yX2_votesAs, Cond.code yX2_votesAs cX2_votesAs 2 (some .int), Cond.methodLink RX2 200 yX2_share, Cond.static yX2_share, Cond.code yX2_share cX2_share 6 (some .long)]
def wsX2_power : List Cond := .code yX2_power cX2_power 8 (some .long) :: ((wsX2_power_r1 ++ wsX2_power_r2) ++ wsX20 ++ wsX00)
def wsX2_reading : List Cond := .code yX2_reading cX2_reading 3 (some .int) :: ([.fieldLink RX2 20 "ChairBallot" "now" "LChairBallot$Row;", .fieldLink RX2 37 "ChairBallot" "readings" "I", .fieldLink RX2 31 "ChairBallot" "readChair" "[I", .fieldLink RX2 34 "ChairBallot" "readVotes" "[I", .methodLink RX2 78 yX0_has, .instanceMethod yX0_has, .selects RX0 yX0_has yX0_has, .initialized RX0, .code yX0_has cX0_has 2 (some .boolean), .fieldLink RX0 24 "ChairBallot$Row" "count" "I"] ++ wsX20 ++ wsX00)
def wsX2_back : List Cond := .code yX2_back cX2_back 2 (some .int) :: ([.fieldLink RX2 37 "ChairBallot" "readings" "I"] ++ wsX20)
def wsX2_allReadingsAreSo : List Cond := .code yX2_allReadingsAreSo cX2_allReadingsAreSo 7 (some .boolean) :: ([.fieldLink RX2 37 "ChairBallot" "readings" "I", .fieldLink RX2 31 "ChairBallot" "readChair" "[I", .fieldLink RX2 20 "ChairBallot" "now" "LChairBallot$Row;", .fieldLink RX2 34 "ChairBallot" "readVotes" "[I", .methodLink RX2 220 yX2_votesAs, .static yX2_votesAs, .initialized RX2, .code yX2_votesAs cX2_votesAs 2 (some .int), .methodLink RX2 223 yX0_votesWhenOpen, .instanceMethod yX0_votesWhenOpen, .selects RX0 yX0_votesWhenOpen yX0_votesWhenOpen, .initialized RX0, .code yX0_votesWhenOpen cX0_votesWhenOpen 2 (some .int), .fieldLink RX0 9 "ChairBallot$Row" "kind" "[I", .fieldLink RX0 18 "ChairBallot$Row" "weight" "[I", .methodLink RX0 37 yX0_has, .instanceMethod yX0_has, .selects RX0 yX0_has yX0_has, .code yX0_has cX0_has 2 (some .boolean), .fieldLink RX0 24 "ChairBallot$Row" "count" "I"] ++ wsX20 ++ wsX00)
def wsX2_weights_r1 : List Cond := [Cond.fieldLink RX2 20 "ChairBallot" "now" "LChairBallot$Row;", Cond.fieldLink RX2 81 "ChairBallot$Row" "kind" "[I", Cond.methodLink RX2 78 yX0_has, Cond.instanceMethod yX0_has, Cond.selects RX0 yX0_has yX0_has, Cond.initialized RX0, Cond.code yX0_has cX0_has 2 (some .boolean), Cond.fieldLink RX0 24 "ChairBallot$Row" "count" "I", Cond.methodLink RX2 210 yX2_allReadingsAreSo, Cond.instanceMethod yX2_allReadingsAreSo, Cond.selects RX2 yX2_allReadingsAreSo yX2_allReadingsAreSo, Cond.initialized RX2, Cond.code yX2_allReadingsAreSo cX2_allReadingsAreSo 7 (some .boolean), Cond.fieldLink RX2 37 "ChairBallot" "readings" "I", Cond.fieldLink RX2 31 "ChairBallot" "readChair" "[I", Cond.fieldLink RX2 34 "ChairBallot" "readVotes" "[I", Cond.methodLink RX2 220 yX2_votesAs, Cond.static yX2_votesAs, Cond.code yX2_votesAs cX2_votesAs 2 (some .int), Cond.methodLink RX2 223 yX0_votesWhenOpen, Cond.instanceMethod yX0_votesWhenOpen, Cond.selects RX0 yX0_votesWhenOpen yX0_votesWhenOpen, Cond.code yX0_votesWhenOpen cX0_votesWhenOpen 2 (some .int), Cond.fieldLink RX0 9 "ChairBallot$Row" "kind" "[I"]
def wsX2_weights_r2 : List Cond := [Cond.fieldLink RX0 18 "ChairBallot$Row" "weight" "[I", Cond.methodLink RX0 37 yX0_has]
def wsX2_weights : List Cond := .code yX2_weights cX2_weights 4 (some .int) :: ((wsX2_weights_r1 ++ wsX2_weights_r2) ++ wsX20 ++ wsX00)
def wsX2_kinds_r1 : List Cond := [Cond.fieldLink RX2 20 "ChairBallot" "now" "LChairBallot$Row;", Cond.fieldLink RX2 87 "ChairBallot$Row" "weight" "[I", Cond.methodLink RX2 78 yX0_has, Cond.instanceMethod yX0_has, Cond.selects RX0 yX0_has yX0_has, Cond.initialized RX0, Cond.code yX0_has cX0_has 2 (some .boolean), Cond.fieldLink RX0 24 "ChairBallot$Row" "count" "I", Cond.methodLink RX2 210 yX2_allReadingsAreSo, Cond.instanceMethod yX2_allReadingsAreSo, Cond.selects RX2 yX2_allReadingsAreSo yX2_allReadingsAreSo, Cond.initialized RX2, Cond.code yX2_allReadingsAreSo cX2_allReadingsAreSo 7 (some .boolean), Cond.fieldLink RX2 37 "ChairBallot" "readings" "I", Cond.fieldLink RX2 31 "ChairBallot" "readChair" "[I", Cond.fieldLink RX2 34 "ChairBallot" "readVotes" "[I", Cond.methodLink RX2 220 yX2_votesAs, Cond.static yX2_votesAs, Cond.code yX2_votesAs cX2_votesAs 2 (some .int), Cond.methodLink RX2 223 yX0_votesWhenOpen, Cond.instanceMethod yX0_votesWhenOpen, Cond.selects RX0 yX0_votesWhenOpen yX0_votesWhenOpen, Cond.code yX0_votesWhenOpen cX0_votesWhenOpen 2 (some .int), Cond.fieldLink RX0 9 "ChairBallot$Row" "kind" "[I"]
def wsX2_kinds_r2 : List Cond := [Cond.fieldLink RX0 18 "ChairBallot$Row" "weight" "[I", Cond.methodLink RX0 37 yX0_has]
def wsX2_kinds : List Cond := .code yX2_kinds cX2_kinds 4 (some .int) :: ((wsX2_kinds_r1 ++ wsX2_kinds_r2) ++ wsX20 ++ wsX00)
def wsX2_waysThatCarry_r1 : List Cond := [Cond.fieldLink RX2 20 "ChairBallot" "now" "LChairBallot$Row;", Cond.methodLink RX2 226 yX0_votesIn, Cond.instanceMethod yX0_votesIn, Cond.selects RX0 yX0_votesIn yX0_votesIn, Cond.initialized RX0, Cond.code yX0_votesIn cX0_votesIn 4 (some .int), Cond.fieldLink RX0 24 "ChairBallot$Row" "count" "I", Cond.static yX2_isIn, Cond.initialized RX2, Cond.code yX2_isIn cX2_isIn 2 (some .boolean), Cond.methodLink RX0 58 yX0_votes, Cond.instanceMethod yX0_votes, Cond.selects RX0 yX0_votes yX0_votes, Cond.code yX0_votes cX0_votes 2 (some .int), Cond.methodLink RX0 45 yX0_isFolded, Cond.instanceMethod yX0_isFolded, Cond.selects RX0 yX0_isFolded yX0_isFolded, Cond.code yX0_isFolded cX0_isFolded 2 (some .boolean), Cond.fieldLink RX0 28 "ChairBallot$Row" "folded" "I", Cond.methodLink RX0 48 yX0_votesWhenOpen, Cond.instanceMethod yX0_votesWhenOpen, Cond.selects RX0 yX0_votesWhenOpen yX0_votesWhenOpen, Cond.code yX0_votesWhenOpen cX0_votesWhenOpen 2 (some .int), Cond.fieldLink RX0 9 "ChairBallot$Row" "kind" "[I"]
def wsX2_waysThatCarry_r2 : List Cond := [Cond.fieldLink RX0 18 "ChairBallot$Row" "weight" "[I", Cond.methodLink RX0 37 yX0_has, Cond.instanceMethod yX0_has, Cond.selects RX0 yX0_has yX0_has, Cond.code yX0_has cX0_has 2 (some .boolean), Cond.static yX2_votesAs, Cond.code yX2_votesAs cX2_votesAs 2 (some .int)]
def wsX2_waysThatCarry : List Cond := .code yX2_waysThatCarry cX2_waysThatCarry 5 (some .int) :: ((wsX2_waysThatCarry_r1 ++ wsX2_waysThatCarry_r2) ++ wsX20 ++ wsX00)
def wsX2_waysDecidedBy_r1 : List Cond := [Cond.fieldLink RX2 20 "ChairBallot" "now" "LChairBallot$Row;", Cond.methodLink RX2 226 yX0_votesIn, Cond.instanceMethod yX0_votesIn, Cond.selects RX0 yX0_votesIn yX0_votesIn, Cond.initialized RX0, Cond.code yX0_votesIn cX0_votesIn 4 (some .int), Cond.fieldLink RX0 24 "ChairBallot$Row" "count" "I", Cond.static yX2_isIn, Cond.initialized RX2, Cond.code yX2_isIn cX2_isIn 2 (some .boolean), Cond.methodLink RX0 58 yX0_votes, Cond.instanceMethod yX0_votes, Cond.selects RX0 yX0_votes yX0_votes, Cond.code yX0_votes cX0_votes 2 (some .int), Cond.methodLink RX0 45 yX0_isFolded, Cond.instanceMethod yX0_isFolded, Cond.selects RX0 yX0_isFolded yX0_isFolded, Cond.code yX0_isFolded cX0_isFolded 2 (some .boolean), Cond.fieldLink RX0 28 "ChairBallot$Row" "folded" "I", Cond.methodLink RX0 48 yX0_votesWhenOpen, Cond.instanceMethod yX0_votesWhenOpen, Cond.selects RX0 yX0_votesWhenOpen yX0_votesWhenOpen, Cond.code yX0_votesWhenOpen cX0_votesWhenOpen 2 (some .int), Cond.fieldLink RX0 9 "ChairBallot$Row" "kind" "[I"]
def wsX2_waysDecidedBy_r2 : List Cond := [Cond.fieldLink RX0 18 "ChairBallot$Row" "weight" "[I", Cond.methodLink RX0 37 yX0_has, Cond.instanceMethod yX0_has, Cond.selects RX0 yX0_has yX0_has, Cond.code yX0_has cX0_has 2 (some .boolean), Cond.static yX2_votesAs, Cond.code yX2_votesAs cX2_votesAs 2 (some .int), Cond.methodLink RX2 96 yX0_votes, Cond.methodLink RX2 204 yX2_isIn]
def wsX2_waysDecidedBy : List Cond := .code yX2_waysDecidedBy cX2_waysDecidedBy 8 (some .int) :: ((wsX2_waysDecidedBy_r1 ++ wsX2_waysDecidedBy_r2) ++ wsX20 ++ wsX00)
def wsX2_odds_r1 : List Cond := [Cond.fieldLink RX2 20 "ChairBallot" "now" "LChairBallot$Row;", Cond.constantLong RX2 195 (-9223372036854775808), Cond.fieldLink RX2 75 "ChairBallot$Row" "count" "I", Cond.methodLink RX2 105 yX2_hasFront, Cond.instanceMethod yX2_hasFront, Cond.selects RX2 yX2_hasFront yX2_hasFront, Cond.initialized RX2, Cond.code yX2_hasFront cX2_hasFront 1 (some .boolean), Cond.methodLink RX2 78 yX0_has, Cond.instanceMethod yX0_has, Cond.selects RX0 yX0_has yX0_has, Cond.initialized RX0, Cond.code yX0_has cX0_has 2 (some .boolean), Cond.fieldLink RX0 24 "ChairBallot$Row" "count" "I", Cond.methodLink RX2 192 yX2_isUpperOrLower, Cond.static yX2_isUpperOrLower, Cond.code yX2_isUpperOrLower cX2_isUpperOrLower 1 (some .boolean), Cond.methodLink RX2 214 yX2_waysThatCarry, Cond.instanceMethod yX2_waysThatCarry, Cond.selects RX2 yX2_waysThatCarry yX2_waysThatCarry, Cond.code yX2_waysThatCarry cX2_waysThatCarry 5 (some .int), Cond.methodLink RX2 226 yX0_votesIn, Cond.instanceMethod yX0_votesIn, Cond.selects RX0 yX0_votesIn yX0_votesIn]
def wsX2_odds_r2 : List Cond := [Cond.code yX0_votesIn cX0_votesIn 4 (some .int), Cond.static yX2_isIn, Cond.code yX2_isIn cX2_isIn 2 (some .boolean), Cond.methodLink RX0 58 yX0_votes, Cond.instanceMethod yX0_votes, Cond.selects RX0 yX0_votes yX0_votes, Cond.code yX0_votes cX0_votes 2 (some .int), Cond.methodLink RX0 45 yX0_isFolded, Cond.instanceMethod yX0_isFolded, Cond.selects RX0 yX0_isFolded yX0_isFolded, Cond.code yX0_isFolded cX0_isFolded 2 (some .boolean), Cond.fieldLink RX0 28 "ChairBallot$Row" "folded" "I", Cond.methodLink RX0 48 yX0_votesWhenOpen, Cond.instanceMethod yX0_votesWhenOpen, Cond.selects RX0 yX0_votesWhenOpen yX0_votesWhenOpen, Cond.code yX0_votesWhenOpen cX0_votesWhenOpen 2 (some .int), Cond.fieldLink RX0 9 "ChairBallot$Row" "kind" "[I", Cond.fieldLink RX0 18 "ChairBallot$Row" "weight" "[I", Cond.methodLink RX0 37 yX0_has, Cond.static yX2_votesAs, Cond.code yX2_votesAs cX2_votesAs 2 (some .int), Cond.methodLink RX2 200 yX2_share, Cond.static yX2_share, Cond.code yX2_share cX2_share 6 (some .long)]
def wsX2_odds_r3 : List Cond := [Cond.methodLink RX2 93 yX0_isFolded, Cond.methodLink RX2 217 yX2_waysDecidedBy, Cond.instanceMethod yX2_waysDecidedBy, Cond.selects RX2 yX2_waysDecidedBy yX2_waysDecidedBy, Cond.code yX2_waysDecidedBy cX2_waysDecidedBy 8 (some .int), Cond.methodLink RX2 96 yX0_votes, Cond.methodLink RX2 204 yX2_isIn]
def wsX2_odds : List Cond := .code yX2_odds cX2_odds 4 (some .long) :: ((wsX2_odds_r1 ++ (wsX2_odds_r2 ++ wsX2_odds_r3)) ++ wsX20 ++ wsX00)
def wsX2_sheet_r1 : List Cond := [Cond.fieldLink RX2 44 "ChairBallot" "latestFault" "I", Cond.methodLink RX2 48 yX2_sheetAt, Cond.instanceMethod yX2_sheetAt, Cond.selects RX2 yX2_sheetAt yX2_sheetAt, Cond.initialized RX2, Cond.code yX2_sheetAt cX2_sheetAt 2 (some (.object "ChairBallot$Sheet")), Cond.fieldLink RX2 13 "ChairBallot" "sheets" "[LChairBallot$Sheet;", Cond.methodLink RX2 52 yX2_isLane, Cond.static yX2_isLane, Cond.code yX2_isLane cX2_isLane 1 (some .boolean), Cond.methodLink RX2 60 yX2_faulted, Cond.instanceMethod yX2_faulted, Cond.selects RX2 yX2_faulted yX2_faulted, Cond.code yX2_faulted cX2_faulted 2 (some .int), Cond.methodLink RX2 229 yX1_getsRow, Cond.instanceMethod yX1_getsRow, Cond.selects RX1 yX1_getsRow yX1_getsRow, Cond.initialized RX1, Cond.code yX1_getsRow cX1_getsRow 4 none, Cond.fieldLink RX1 15 "ChairBallot$Sheet" "hasRow" "Z", Cond.fieldLink RX1 19 "ChairBallot$Sheet" "lane" "I", Cond.methodLink RX1 26 Lib.Math.min.name, Cond.static Lib.Math.min.name, Cond.initialized "java/lang/Math"]
def wsX2_sheet_r2 : List Cond := [Cond.code Lib.Math.min.name Lib.Math.min.code 2 (some .int), Cond.fieldLink RX1 23 "ChairBallot$Sheet" "length" "I", Cond.fieldLink RX1 9 "ChairBallot$Sheet" "cells" "[I"]
def wsX2_sheet : List Cond := .code yX2_sheet cX2_sheet 5 (some .int) :: ((wsX2_sheet_r1 ++ wsX2_sheet_r2) ++ wsX20 ++ wsX10)
def wsX2_lose : List Cond := .code yX2_lose cX2_lose 4 (some .int) :: ([.fieldLink RX2 233 "ChairBallot$Sheet" "hasRow" "Z", .methodLink RX2 48 yX2_sheetAt, .instanceMethod yX2_sheetAt, .selects RX2 yX2_sheetAt yX2_sheetAt, .initialized RX2, .code yX2_sheetAt cX2_sheetAt 2 (some (.object "ChairBallot$Sheet")), .fieldLink RX2 13 "ChairBallot" "sheets" "[LChairBallot$Sheet;"] ++ wsX10 ++ wsX20)
def wsX2_put_r1 : List Cond := [Cond.fieldLink RX2 44 "ChairBallot" "latestFault" "I", Cond.fieldLink RX2 233 "ChairBallot$Sheet" "hasRow" "Z", Cond.methodLink RX2 48 yX2_sheetAt, Cond.instanceMethod yX2_sheetAt, Cond.selects RX2 yX2_sheetAt yX2_sheetAt, Cond.initialized RX2, Cond.code yX2_sheetAt cX2_sheetAt 2 (some (.object "ChairBallot$Sheet")), Cond.fieldLink RX2 13 "ChairBallot" "sheets" "[LChairBallot$Sheet;", Cond.methodLink RX2 60 yX2_faulted, Cond.instanceMethod yX2_faulted, Cond.selects RX2 yX2_faulted yX2_faulted, Cond.code yX2_faulted cX2_faulted 2 (some .int), Cond.methodLink RX2 63 yX1_holds, Cond.instanceMethod yX1_holds, Cond.selects RX1 yX1_holds yX1_holds, Cond.initialized RX1, Cond.code yX1_holds cX1_holds 3 (some .boolean), Cond.fieldLink RX1 23 "ChairBallot$Sheet" "length" "I", Cond.methodLink RX2 237 yX1_becomesAt, Cond.instanceMethod yX1_becomesAt, Cond.selects RX1 yX1_becomesAt yX1_becomesAt, Cond.code yX1_becomesAt cX1_becomesAt 3 none, Cond.fieldLink RX1 9 "ChairBallot$Sheet" "cells" "[I", Cond.methodLink RX1 32 yX1_holds]
def wsX2_put_r2 : List Cond := [Cond.methodLink RX1 36 yX1_cut, Cond.instanceMethod yX1_cut, Cond.selects RX1 yX1_cut yX1_cut, Cond.code yX1_cut cX1_cut 2 (some .int), Cond.fieldLink RX1 19 "ChairBallot$Sheet" "lane" "I"]
def wsX2_put : List Cond := .code yX2_put cX2_put 5 (some .int) :: ((wsX2_put_r1 ++ wsX2_put_r2) ++ wsX20 ++ wsX10)
def wsX2_cell_r1 : List Cond := [Cond.fieldLink RX2 44 "ChairBallot" "latestFault" "I", Cond.constantLong RX2 195 (-9223372036854775808), Cond.methodLink RX2 48 yX2_sheetAt, Cond.instanceMethod yX2_sheetAt, Cond.selects RX2 yX2_sheetAt yX2_sheetAt, Cond.initialized RX2, Cond.code yX2_sheetAt cX2_sheetAt 2 (some (.object "ChairBallot$Sheet")), Cond.fieldLink RX2 13 "ChairBallot" "sheets" "[LChairBallot$Sheet;", Cond.methodLink RX2 52 yX2_isLane, Cond.static yX2_isLane, Cond.code yX2_isLane cX2_isLane 1 (some .boolean), Cond.methodLink RX2 56 yX1_faultAs, Cond.instanceMethod yX1_faultAs, Cond.selects RX1 yX1_faultAs yX1_faultAs, Cond.initialized RX1, Cond.code yX1_faultAs cX1_faultAs 2 (some .int), Cond.fieldLink RX1 15 "ChairBallot$Sheet" "hasRow" "Z", Cond.fieldLink RX1 19 "ChairBallot$Sheet" "lane" "I", Cond.methodLink RX2 63 yX1_holds, Cond.instanceMethod yX1_holds, Cond.selects RX1 yX1_holds yX1_holds, Cond.code yX1_holds cX1_holds 3 (some .boolean), Cond.fieldLink RX1 23 "ChairBallot$Sheet" "length" "I", Cond.methodLink RX2 118 yX1_at]
def wsX2_cell_r2 : List Cond := [Cond.instanceMethod yX1_at, Cond.selects RX1 yX1_at yX1_at, Cond.code yX1_at cX1_at 2 (some .int), Cond.fieldLink RX1 9 "ChairBallot$Sheet" "cells" "[I", Cond.methodLink RX1 32 yX1_holds]
def wsX2_cell : List Cond := .code yX2_cell cX2_cell 5 (some .long) :: ((wsX2_cell_r1 ++ wsX2_cell_r2) ++ wsX20 ++ wsX10)
def wsX2_copy : List Cond := .code yX2_copy cX2_copy 8 (some .int) :: ([.fieldLink RX2 44 "ChairBallot" "latestFault" "I", .fieldLink RX2 233 "ChairBallot$Sheet" "hasRow" "Z", .fieldLink RX2 240 "ChairBallot$Sheet" "lane" "I", .fieldLink RX2 243 "ChairBallot$Sheet" "cells" "[I", .methodLink RX2 246 arraycopyName, .native arraycopyName, .static arraycopyName, .initialized "java/lang/System", .methodLink RX2 48 yX2_sheetAt, .instanceMethod yX2_sheetAt, .selects RX2 yX2_sheetAt yX2_sheetAt, .initialized RX2, .code yX2_sheetAt cX2_sheetAt 2 (some (.object "ChairBallot$Sheet")), .fieldLink RX2 13 "ChairBallot" "sheets" "[LChairBallot$Sheet;", .methodLink RX2 60 yX2_faulted, .instanceMethod yX2_faulted, .selects RX2 yX2_faulted yX2_faulted, .code yX2_faulted cX2_faulted 2 (some .int), .methodLink RX2 63 yX1_holds, .instanceMethod yX1_holds, .selects RX1 yX1_holds yX1_holds, .initialized RX1, .code yX1_holds cX1_holds 3 (some .boolean), .fieldLink RX1 23 "ChairBallot$Sheet" "length" "I"] ++ wsX20 ++ wsX10)
def wsX2_leaveInTrace : List Cond := .code yX2_leaveInTrace cX2_leaveInTrace 2 none :: ([.fieldLink RX2 41 "ChairBallot" "traced" "I"] ++ wsX20)
def wsX2_toldAsPlain : List Cond := .code yX2_toldAsPlain cX2_toldAsPlain 2 (some .int) :: ([.methodLink RX2 261 yX2_leaveInTrace, .instanceMethod yX2_leaveInTrace, .selects RX2 yX2_leaveInTrace yX2_leaveInTrace, .initialized RX2, .code yX2_leaveInTrace cX2_leaveInTrace 2 none, .fieldLink RX2 41 "ChairBallot" "traced" "I"] ++ wsX20)
def wsX2_toldAsShaded : List Cond := .code yX2_toldAsShaded cX2_toldAsShaded 2 (some .int) :: ([.methodLink RX2 261 yX2_leaveInTrace, .instanceMethod yX2_leaveInTrace, .selects RX2 yX2_leaveInTrace yX2_leaveInTrace, .initialized RX2, .code yX2_leaveInTrace cX2_leaveInTrace 2 none, .fieldLink RX2 41 "ChairBallot" "traced" "I", .methodLink RX2 252 yX2_toldAsPlain, .instanceMethod yX2_toldAsPlain, .selects RX2 yX2_toldAsPlain yX2_toldAsPlain, .code yX2_toldAsPlain cX2_toldAsPlain 2 (some .int)] ++ wsX20)
def wsX2_toldAsBroken : List Cond := .code yX2_toldAsBroken cX2_toldAsBroken 3 (some .int) :: ([.methodLink RX2 261 yX2_leaveInTrace, .instanceMethod yX2_leaveInTrace, .selects RX2 yX2_leaveInTrace yX2_leaveInTrace, .initialized RX2, .code yX2_leaveInTrace cX2_leaveInTrace 2 none, .fieldLink RX2 41 "ChairBallot" "traced" "I", .methodLink RX2 255 yX2_toldAsShaded, .instanceMethod yX2_toldAsShaded, .selects RX2 yX2_toldAsShaded yX2_toldAsShaded, .code yX2_toldAsShaded cX2_toldAsShaded 2 (some .int), .methodLink RX2 252 yX2_toldAsPlain, .instanceMethod yX2_toldAsPlain, .selects RX2 yX2_toldAsPlain yX2_toldAsPlain, .code yX2_toldAsPlain cX2_toldAsPlain 2 (some .int)] ++ wsX20)
def wsX2_tell_r1 : List Cond := [Cond.fieldLink RX2 20 "ChairBallot" "now" "LChairBallot$Row;", Cond.fieldLink RX2 81 "ChairBallot$Row" "kind" "[I", Cond.fieldLink RX2 87 "ChairBallot$Row" "weight" "[I", Cond.methodLink RX2 78 yX0_has, Cond.instanceMethod yX0_has, Cond.selects RX0 yX0_has yX0_has, Cond.initialized RX0, Cond.code yX0_has cX0_has 2 (some .boolean), Cond.fieldLink RX0 24 "ChairBallot$Row" "count" "I", Cond.methodLink RX2 252 yX2_toldAsPlain, Cond.instanceMethod yX2_toldAsPlain, Cond.selects RX2 yX2_toldAsPlain yX2_toldAsPlain, Cond.initialized RX2, Cond.code yX2_toldAsPlain cX2_toldAsPlain 2 (some .int), Cond.methodLink RX2 261 yX2_leaveInTrace, Cond.instanceMethod yX2_leaveInTrace, Cond.selects RX2 yX2_leaveInTrace yX2_leaveInTrace, Cond.code yX2_leaveInTrace cX2_leaveInTrace 2 none, Cond.fieldLink RX2 41 "ChairBallot" "traced" "I", Cond.methodLink RX2 255 yX2_toldAsShaded, Cond.instanceMethod yX2_toldAsShaded, Cond.selects RX2 yX2_toldAsShaded yX2_toldAsShaded, Cond.code yX2_toldAsShaded cX2_toldAsShaded 2 (some .int), Cond.methodLink RX2 258 yX2_toldAsBroken]
def wsX2_tell_r2 : List Cond := [Cond.instanceMethod yX2_toldAsBroken, Cond.selects RX2 yX2_toldAsBroken yX2_toldAsBroken, Cond.code yX2_toldAsBroken cX2_toldAsBroken 3 (some .int)]
def wsX2_tell : List Cond := .code yX2_tell cX2_tell 2 (some .int) :: ((wsX2_tell_r1 ++ wsX2_tell_r2) ++ wsX20 ++ wsX00)
def wsX2_chalk : List Cond := .code yX2_chalk cX2_chalk 2 (some .int) :: ([.fieldLink RX2 20 "ChairBallot" "now" "LChairBallot$Row;", .fieldLink RX2 81 "ChairBallot$Row" "kind" "[I", .methodLink RX2 78 yX0_has, .instanceMethod yX0_has, .selects RX0 yX0_has yX0_has, .initialized RX0, .code yX0_has cX0_has 2 (some .boolean), .fieldLink RX0 24 "ChairBallot$Row" "count" "I", .methodLink RX2 261 yX2_leaveInTrace, .instanceMethod yX2_leaveInTrace, .selects RX2 yX2_leaveInTrace yX2_leaveInTrace, .initialized RX2, .code yX2_leaveInTrace cX2_leaveInTrace 2 none, .fieldLink RX2 41 "ChairBallot" "traced" "I"] ++ wsX20 ++ wsX00)
def wsX2_as : List Cond := .code yX2_as cX2_as 3 (some .int) :: ([.fieldLink RX2 44 "ChairBallot" "latestFault" "I", .fieldLink RX2 20 "ChairBallot" "now" "LChairBallot$Row;", .fieldLink RX2 81 "ChairBallot$Row" "kind" "[I", .methodLink RX2 78 yX0_has, .instanceMethod yX0_has, .selects RX0 yX0_has yX0_has, .initialized RX0, .code yX0_has cX0_has 2 (some .boolean), .fieldLink RX0 24 "ChairBallot$Row" "count" "I", .methodLink RX2 60 yX2_faulted, .instanceMethod yX2_faulted, .selects RX2 yX2_faulted yX2_faulted, .initialized RX2, .code yX2_faulted cX2_faulted 2 (some .int)] ++ wsX20 ++ wsX00)
def wsX2_trace : List Cond := .code yX2_trace cX2_trace 1 (some .int) :: ([.fieldLink RX2 41 "ChairBallot" "traced" "I"] ++ wsX20)
def wsX2_fault : List Cond := .code yX2_fault cX2_fault 1 (some .int) :: ([.fieldLink RX2 44 "ChairBallot" "latestFault" "I"] ++ wsX20)
def wsX2_many_r1 : List Cond := [Cond.fieldLink RX2 20 "ChairBallot" "now" "LChairBallot$Row;", Cond.fieldLink RX2 75 "ChairBallot$Row" "count" "I", Cond.fieldLink RX2 136 "ChairBallot$Row" "folded" "I", Cond.fieldLink RX2 37 "ChairBallot" "readings" "I", Cond.methodLink RX2 152 yJ6_bitCount_0f7a4, Cond.static yJ6_bitCount_0f7a4, Cond.initialized RJ6, Cond.code yJ6_bitCount_0f7a4 cJ6_bitCount_0f7a4 1 (some .int), Cond.constant RJ6 265 (1431655765), Cond.constant RJ6 266 (858993459), Cond.constant RJ6 267 (252645135), Cond.methodLink RX2 197 yX0_votesOfStripes, Cond.instanceMethod yX0_votesOfStripes, Cond.selects RX0 yX0_votesOfStripes yX0_votesOfStripes, Cond.initialized RX0, Cond.code yX0_votesOfStripes cX0_votesOfStripes 4 (some .int), Cond.fieldLink RX0 24 "ChairBallot$Row" "count" "I", Cond.fieldLink RX0 15 "ChairBallot$Row" "stripe" "[I", Cond.static yX2_isIn, Cond.initialized RX2, Cond.code yX2_isIn cX2_isIn 2 (some .boolean), Cond.methodLink RX0 58 yX0_votes, Cond.instanceMethod yX0_votes, Cond.selects RX0 yX0_votes yX0_votes]
def wsX2_many_r2 : List Cond := [Cond.code yX0_votes cX0_votes 2 (some .int), Cond.methodLink RX0 45 yX0_isFolded, Cond.instanceMethod yX0_isFolded, Cond.selects RX0 yX0_isFolded yX0_isFolded, Cond.code yX0_isFolded cX0_isFolded 2 (some .boolean), Cond.fieldLink RX0 28 "ChairBallot$Row" "folded" "I", Cond.methodLink RX0 48 yX0_votesWhenOpen, Cond.instanceMethod yX0_votesWhenOpen, Cond.selects RX0 yX0_votesWhenOpen yX0_votesWhenOpen, Cond.code yX0_votesWhenOpen cX0_votesWhenOpen 2 (some .int), Cond.fieldLink RX0 9 "ChairBallot$Row" "kind" "[I", Cond.fieldLink RX0 18 "ChairBallot$Row" "weight" "[I", Cond.methodLink RX0 37 yX0_has, Cond.instanceMethod yX0_has, Cond.selects RX0 yX0_has yX0_has, Cond.code yX0_has cX0_has 2 (some .boolean), Cond.static yX2_votesAs, Cond.code yX2_votesAs cX2_votesAs 2 (some .int)]
def wsX2_many : List Cond := .code yX2_many cX2_many 2 (some .int) :: ((wsX2_many_r1 ++ wsX2_many_r2) ++ wsX20 ++ wsX00)
def wsX3_init : List Cond := .code yX3_init cX3_init 2 none :: ([.methodLink RX3 1 objectInit, .instanceMethod objectInit, .code objectInit ⟨#[0xb1]⟩ 1 none, .arrayClass .int, .fieldLink RX3 7 "ChairBallotModel" "kindOf" "[I", .fieldLink RX3 13 "ChairBallotModel" "stripeOf" "[I", .fieldLink RX3 16 "ChairBallotModel" "weightOf" "[I", .fieldLink RX3 19 "ChairBallotModel" "facesOf" "[I", .fieldLink RX3 22 "ChairBallotModel" "readKind" "[I", .fieldLink RX3 25 "ChairBallotModel" "readStripe" "[I", .fieldLink RX3 28 "ChairBallotModel" "readWeight" "[I", .fieldLink RX3 31 "ChairBallotModel" "readFaces" "[I", .fieldLink RX3 34 "ChairBallotModel" "facesKept" "[I", .fieldLink RX3 37 "ChairBallotModel" "readingOf" "[I", .fieldLink RX3 40 "ChairBallotModel" "readingWas" "[I", .fieldLink RX3 43 "ChairBallotModel" "sheetSize" "[I", .fieldLink RX3 46 "ChairBallotModel" "sheetLane" "[I", .fieldLink RX3 49 "ChairBallotModel" "sheet" "[I", .fieldLink RX3 52 "ChairBallotModel" "hands" "[I"] ++ wsX30)
def wsX3_in : List Cond := .code yX3_in cX3_in 6 (some .boolean) :: ([])
def wsX3_lost : List Cond := .code yX3_lost cX3_lost 0 (some .long) :: ([.constantLong RX3 55 (-9223372036854775808)])
def wsX3_isIn : List Cond := .code yX3_isIn cX3_isIn 2 (some .boolean) :: ([])
def wsX3_bits : List Cond := .code yX3_bits cX3_bits 3 (some .int) :: ([])
def wsX3_share : List Cond := .code yX3_share cX3_share 11 (some .long) :: ([])
def wsX3_refused : List Cond := .code yX3_refused cX3_refused 2 (some .int) :: ([.fieldLink RX3 57 "ChairBallotModel" "fault" "I"] ++ wsX30)
def wsX3_failed : List Cond := .code yX3_failed cX3_failed 2 (some .int) :: ([.fieldLink RX3 57 "ChairBallotModel" "fault" "I"] ++ wsX30)
def wsX3_failedLong : List Cond := .code yX3_failedLong cX3_failedLong 2 (some .long) :: ([.fieldLink RX3 57 "ChairBallotModel" "fault" "I", .methodLink RX3 61 yX3_lost, .static yX3_lost, .initialized RX3, .code yX3_lost cX3_lost 0 (some .long), .constantLong RX3 55 (-9223372036854775808)] ++ wsX30)
def wsX3_noChair : List Cond := .code yX3_noChair cX3_noChair 2 (some .boolean) :: ([.fieldLink RX3 65 "ChairBallotModel" "chairs" "I", .methodLink RX3 68 yX3_in, .static yX3_in, .initialized RX3, .code yX3_in cX3_in 6 (some .boolean)] ++ wsX30)
def wsX3_everyChair : List Cond := .code yX3_everyChair cX3_everyChair 1 (some .int) :: ([.fieldLink RX3 65 "ChairBallotModel" "chairs" "I"] ++ wsX30)
def wsX3_codeAt : List Cond := .code yX3_codeAt cX3_codeAt 3 (some .int) :: ([.fieldLink RX3 72 "ChairBallotModel" "readAt" "I", .fieldLink RX3 49 "ChairBallotModel" "sheet" "[I"] ++ wsX30)
def wsX3_figure : List Cond := .code yX3_figure cX3_figure 8 (some .int) :: ([.fieldLink RX3 72 "ChairBallotModel" "readAt" "I", .methodLink RX3 75 yX3_codeAt, .instanceMethod yX3_codeAt, .selects RX3 yX3_codeAt yX3_codeAt, .initialized RX3, .code yX3_codeAt cX3_codeAt 3 (some .int), .fieldLink RX3 49 "ChairBallotModel" "sheet" "[I", .methodLink RX3 68 yX3_in, .static yX3_in, .code yX3_in cX3_in 6 (some .boolean)] ++ wsX30)
def wsX3_readsChair : List Cond := .code yX3_readsChair cX3_readsChair 7 (some .boolean) :: ([.fieldLink RX3 79 "ChairBallotModel" "readChairs" "I", .fieldLink RX3 72 "ChairBallotModel" "readAt" "I", .fieldLink RX3 22 "ChairBallotModel" "readKind" "[I", .fieldLink RX3 25 "ChairBallotModel" "readStripe" "[I", .fieldLink RX3 28 "ChairBallotModel" "readWeight" "[I", .fieldLink RX3 31 "ChairBallotModel" "readFaces" "[I", .methodLink RX3 75 yX3_codeAt, .instanceMethod yX3_codeAt, .selects RX3 yX3_codeAt yX3_codeAt, .initialized RX3, .code yX3_codeAt cX3_codeAt 3 (some .int), .fieldLink RX3 49 "ChairBallotModel" "sheet" "[I", .methodLink RX3 82 yX3_figure, .instanceMethod yX3_figure, .selects RX3 yX3_figure yX3_figure, .code yX3_figure cX3_figure 8 (some .int), .methodLink RX3 68 yX3_in, .static yX3_in, .code yX3_in cX3_in 6 (some .boolean)] ++ wsX30)
def wsX3_readsFront : List Cond := .code yX3_readsFront cX3_readsFront 4 (some .boolean) :: ([.fieldLink RX3 72 "ChairBallotModel" "readAt" "I", .fieldLink RX3 79 "ChairBallotModel" "readChairs" "I", .methodLink RX3 75 yX3_codeAt, .instanceMethod yX3_codeAt, .selects RX3 yX3_codeAt yX3_codeAt, .initialized RX3, .code yX3_codeAt cX3_codeAt 3 (some .int), .fieldLink RX3 49 "ChairBallotModel" "sheet" "[I", .methodLink RX3 86 yX3_readsChair, .instanceMethod yX3_readsChair, .selects RX3 yX3_readsChair yX3_readsChair, .code yX3_readsChair cX3_readsChair 7 (some .boolean), .fieldLink RX3 22 "ChairBallotModel" "readKind" "[I", .fieldLink RX3 25 "ChairBallotModel" "readStripe" "[I", .fieldLink RX3 28 "ChairBallotModel" "readWeight" "[I", .fieldLink RX3 31 "ChairBallotModel" "readFaces" "[I", .methodLink RX3 82 yX3_figure, .instanceMethod yX3_figure, .selects RX3 yX3_figure yX3_figure, .code yX3_figure cX3_figure 8 (some .int), .methodLink RX3 68 yX3_in, .static yX3_in, .code yX3_in cX3_in 6 (some .boolean)] ++ wsX30)
def wsX3_isBeyond : List Cond := .code yX3_isBeyond cX3_isBeyond 4 (some .boolean) :: ([])
def wsX3_cellsBarred : List Cond := .code yX3_cellsBarred cX3_cellsBarred 6 (some .int) :: ([.fieldLink RX3 43 "ChairBallotModel" "sheetSize" "[I", .fieldLink RX3 46 "ChairBallotModel" "sheetLane" "[I", .methodLink RX3 90 yX3_failed, .instanceMethod yX3_failed, .selects RX3 yX3_failed yX3_failed, .initialized RX3, .code yX3_failed cX3_failed 2 (some .int), .fieldLink RX3 57 "ChairBallotModel" "fault" "I", .methodLink RX3 94 yX3_isBeyond, .static yX3_isBeyond, .code yX3_isBeyond cX3_isBeyond 4 (some .boolean)] ++ wsX30)
def wsX3_noSheet : List Cond := .code yX3_noSheet cX3_noSheet 1 (some .boolean) :: ([.constantLong RX3 138 (3), .methodLink RX3 68 yX3_in, .static yX3_in, .initialized RX3, .code yX3_in cX3_in 6 (some .boolean)])
def wsX3_front_r1 : List Cond := [Cond.constantLong RX3 105 (2), Cond.fieldLink RX3 72 "ChairBallotModel" "readAt" "I", Cond.fieldLink RX3 79 "ChairBallotModel" "readChairs" "I", Cond.fieldLink RX3 65 "ChairBallotModel" "chairs" "I", Cond.fieldLink RX3 114 "ChairBallotModel" "folded" "I", Cond.fieldLink RX3 7 "ChairBallotModel" "kindOf" "[I", Cond.fieldLink RX3 22 "ChairBallotModel" "readKind" "[I", Cond.fieldLink RX3 13 "ChairBallotModel" "stripeOf" "[I", Cond.fieldLink RX3 25 "ChairBallotModel" "readStripe" "[I", Cond.fieldLink RX3 16 "ChairBallotModel" "weightOf" "[I", Cond.fieldLink RX3 28 "ChairBallotModel" "readWeight" "[I", Cond.fieldLink RX3 19 "ChairBallotModel" "facesOf" "[I", Cond.fieldLink RX3 31 "ChairBallotModel" "readFaces" "[I", Cond.fieldLink RX3 117 "ChairBallotModel" "readings" "I", Cond.methodLink RX3 98 yX3_noSheet, Cond.static yX3_noSheet, Cond.initialized RX3, Cond.code yX3_noSheet cX3_noSheet 1 (some .boolean), Cond.constantLong RX3 138 (3), Cond.methodLink RX3 68 yX3_in, Cond.static yX3_in, Cond.code yX3_in cX3_in 6 (some .boolean), Cond.methodLink RX3 102 yX3_refused, Cond.instanceMethod yX3_refused]
def wsX3_front_r2 : List Cond := [Cond.selects RX3 yX3_refused yX3_refused, Cond.code yX3_refused cX3_refused 2 (some .int), Cond.fieldLink RX3 57 "ChairBallotModel" "fault" "I", Cond.methodLink RX3 107 yX3_cellsBarred, Cond.instanceMethod yX3_cellsBarred, Cond.selects RX3 yX3_cellsBarred yX3_cellsBarred, Cond.code yX3_cellsBarred cX3_cellsBarred 6 (some .int), Cond.fieldLink RX3 43 "ChairBallotModel" "sheetSize" "[I", Cond.fieldLink RX3 46 "ChairBallotModel" "sheetLane" "[I", Cond.methodLink RX3 90 yX3_failed, Cond.instanceMethod yX3_failed, Cond.selects RX3 yX3_failed yX3_failed, Cond.code yX3_failed cX3_failed 2 (some .int), Cond.methodLink RX3 94 yX3_isBeyond, Cond.static yX3_isBeyond, Cond.code yX3_isBeyond cX3_isBeyond 4 (some .boolean), Cond.methodLink RX3 111 yX3_readsFront, Cond.instanceMethod yX3_readsFront, Cond.selects RX3 yX3_readsFront yX3_readsFront, Cond.code yX3_readsFront cX3_readsFront 4 (some .boolean), Cond.methodLink RX3 75 yX3_codeAt, Cond.instanceMethod yX3_codeAt, Cond.selects RX3 yX3_codeAt yX3_codeAt, Cond.code yX3_codeAt cX3_codeAt 3 (some .int)]
def wsX3_front_r3 : List Cond := [Cond.fieldLink RX3 49 "ChairBallotModel" "sheet" "[I", Cond.methodLink RX3 86 yX3_readsChair, Cond.instanceMethod yX3_readsChair, Cond.selects RX3 yX3_readsChair yX3_readsChair, Cond.code yX3_readsChair cX3_readsChair 7 (some .boolean), Cond.methodLink RX3 82 yX3_figure, Cond.instanceMethod yX3_figure, Cond.selects RX3 yX3_figure yX3_figure, Cond.code yX3_figure cX3_figure 8 (some .int)]
def wsX3_front : List Cond := .code yX3_front cX3_front 7 (some .int) :: ((wsX3_front_r1 ++ (wsX3_front_r2 ++ wsX3_front_r3)) ++ wsX30)
def wsX3_votesOpen : List Cond := .code yX3_votesOpen cX3_votesOpen 3 (some .int) :: ([.fieldLink RX3 16 "ChairBallotModel" "weightOf" "[I", .fieldLink RX3 7 "ChairBallotModel" "kindOf" "[I"] ++ wsX30)
def wsX3_votesOf : List Cond := .code yX3_votesOf cX3_votesOf 2 (some .int) :: ([.fieldLink RX3 114 "ChairBallotModel" "folded" "I", .methodLink RX3 120 yX3_isIn, .static yX3_isIn, .initialized RX3, .code yX3_isIn cX3_isIn 2 (some .boolean), .methodLink RX3 123 yX3_votesOpen, .instanceMethod yX3_votesOpen, .selects RX3 yX3_votesOpen yX3_votesOpen, .code yX3_votesOpen cX3_votesOpen 3 (some .int), .fieldLink RX3 16 "ChairBallotModel" "weightOf" "[I", .fieldLink RX3 7 "ChairBallotModel" "kindOf" "[I"] ++ wsX30)
def wsX3_meets : List Cond := .code yX3_meets cX3_meets 3 (some .boolean) :: ([.fieldLink RX3 65 "ChairBallotModel" "chairs" "I", .fieldLink RX3 114 "ChairBallotModel" "folded" "I", .fieldLink RX3 19 "ChairBallotModel" "facesOf" "[I", .methodLink RX3 120 yX3_isIn, .static yX3_isIn, .initialized RX3, .code yX3_isIn cX3_isIn 2 (some .boolean)] ++ wsX30)
def wsX3_countsAs : List Cond := .code yX3_countsAs cX3_countsAs 3 (some .int) :: ([.fieldLink RX3 114 "ChairBallotModel" "folded" "I", .fieldLink RX3 13 "ChairBallotModel" "stripeOf" "[I", .fieldLink RX3 19 "ChairBallotModel" "facesOf" "[I", .methodLink RX3 120 yX3_isIn, .static yX3_isIn, .initialized RX3, .code yX3_isIn cX3_isIn 2 (some .boolean), .methodLink RX3 126 yX3_meets, .instanceMethod yX3_meets, .selects RX3 yX3_meets yX3_meets, .code yX3_meets cX3_meets 3 (some .boolean), .fieldLink RX3 65 "ChairBallotModel" "chairs" "I"] ++ wsX30)
def wsX3_ofChair_r1 : List Cond := [Cond.fieldLink RX3 7 "ChairBallotModel" "kindOf" "[I", Cond.fieldLink RX3 13 "ChairBallotModel" "stripeOf" "[I", Cond.fieldLink RX3 16 "ChairBallotModel" "weightOf" "[I", Cond.fieldLink RX3 19 "ChairBallotModel" "facesOf" "[I", Cond.fieldLink RX3 114 "ChairBallotModel" "folded" "I", Cond.methodLink RX3 129 yX3_noChair, Cond.instanceMethod yX3_noChair, Cond.selects RX3 yX3_noChair yX3_noChair, Cond.initialized RX3, Cond.code yX3_noChair cX3_noChair 2 (some .boolean), Cond.fieldLink RX3 65 "ChairBallotModel" "chairs" "I", Cond.methodLink RX3 68 yX3_in, Cond.static yX3_in, Cond.code yX3_in cX3_in 6 (some .boolean), Cond.methodLink RX3 132 yX3_votesOf, Cond.instanceMethod yX3_votesOf, Cond.selects RX3 yX3_votesOf yX3_votesOf, Cond.code yX3_votesOf cX3_votesOf 2 (some .int), Cond.methodLink RX3 120 yX3_isIn, Cond.static yX3_isIn, Cond.code yX3_isIn cX3_isIn 2 (some .boolean), Cond.methodLink RX3 123 yX3_votesOpen, Cond.instanceMethod yX3_votesOpen, Cond.selects RX3 yX3_votesOpen yX3_votesOpen]
def wsX3_ofChair_r2 : List Cond := [Cond.code yX3_votesOpen cX3_votesOpen 3 (some .int), Cond.methodLink RX3 135 yX3_countsAs, Cond.instanceMethod yX3_countsAs, Cond.selects RX3 yX3_countsAs yX3_countsAs, Cond.code yX3_countsAs cX3_countsAs 3 (some .int), Cond.methodLink RX3 126 yX3_meets, Cond.instanceMethod yX3_meets, Cond.selects RX3 yX3_meets yX3_meets, Cond.code yX3_meets cX3_meets 3 (some .boolean)]
def wsX3_ofChair : List Cond := .code yX3_ofChair cX3_ofChair 3 (some .int) :: ((wsX3_ofChair_r1 ++ wsX3_ofChair_r2) ++ wsX30)
def wsX3_paint : List Cond := .code yX3_paint cX3_paint 4 (some .int) :: ([.constantLong RX3 138 (3), .fieldLink RX3 13 "ChairBallotModel" "stripeOf" "[I", .methodLink RX3 129 yX3_noChair, .instanceMethod yX3_noChair, .selects RX3 yX3_noChair yX3_noChair, .initialized RX3, .code yX3_noChair cX3_noChair 2 (some .boolean), .fieldLink RX3 65 "ChairBallotModel" "chairs" "I", .methodLink RX3 68 yX3_in, .static yX3_in, .code yX3_in cX3_in 6 (some .boolean)] ++ wsX30)
def wsX3_load : List Cond := .code yX3_load cX3_load 4 (some .int) :: ([.constantLong RX3 140 (9), .fieldLink RX3 16 "ChairBallotModel" "weightOf" "[I", .methodLink RX3 129 yX3_noChair, .instanceMethod yX3_noChair, .selects RX3 yX3_noChair yX3_noChair, .initialized RX3, .code yX3_noChair cX3_noChair 2 (some .boolean), .fieldLink RX3 65 "ChairBallotModel" "chairs" "I", .methodLink RX3 68 yX3_in, .static yX3_in, .code yX3_in cX3_in 6 (some .boolean)] ++ wsX30)
def wsX3_whoIs : List Cond := .code yX3_whoIs cX3_whoIs 4 (some .int) :: ([.fieldLink RX3 65 "ChairBallotModel" "chairs" "I", .methodLink RX3 135 yX3_countsAs, .instanceMethod yX3_countsAs, .selects RX3 yX3_countsAs yX3_countsAs, .initialized RX3, .code yX3_countsAs cX3_countsAs 3 (some .int), .fieldLink RX3 114 "ChairBallotModel" "folded" "I", .fieldLink RX3 13 "ChairBallotModel" "stripeOf" "[I", .fieldLink RX3 19 "ChairBallotModel" "facesOf" "[I", .methodLink RX3 120 yX3_isIn, .static yX3_isIn, .code yX3_isIn cX3_isIn 2 (some .boolean), .methodLink RX3 126 yX3_meets, .instanceMethod yX3_meets, .selects RX3 yX3_meets yX3_meets, .code yX3_meets cX3_meets 3 (some .boolean)] ++ wsX30)
def wsX3_votesIn : List Cond := .code yX3_votesIn cX3_votesIn 4 (some .int) :: ([.fieldLink RX3 65 "ChairBallotModel" "chairs" "I", .methodLink RX3 120 yX3_isIn, .static yX3_isIn, .initialized RX3, .code yX3_isIn cX3_isIn 2 (some .boolean), .methodLink RX3 132 yX3_votesOf, .instanceMethod yX3_votesOf, .selects RX3 yX3_votesOf yX3_votesOf, .code yX3_votesOf cX3_votesOf 2 (some .int), .fieldLink RX3 114 "ChairBallotModel" "folded" "I", .methodLink RX3 123 yX3_votesOpen, .instanceMethod yX3_votesOpen, .selects RX3 yX3_votesOpen yX3_votesOpen, .code yX3_votesOpen cX3_votesOpen 3 (some .int), .fieldLink RX3 16 "ChairBallotModel" "weightOf" "[I", .fieldLink RX3 7 "ChairBallotModel" "kindOf" "[I"] ++ wsX30)
def wsX3_isCarried_r1 : List Cond := [Cond.methodLink RX3 142 yX3_whoIs, Cond.instanceMethod yX3_whoIs, Cond.selects RX3 yX3_whoIs yX3_whoIs, Cond.initialized RX3, Cond.code yX3_whoIs cX3_whoIs 4 (some .int), Cond.fieldLink RX3 65 "ChairBallotModel" "chairs" "I", Cond.methodLink RX3 135 yX3_countsAs, Cond.instanceMethod yX3_countsAs, Cond.selects RX3 yX3_countsAs yX3_countsAs, Cond.code yX3_countsAs cX3_countsAs 3 (some .int), Cond.fieldLink RX3 114 "ChairBallotModel" "folded" "I", Cond.fieldLink RX3 13 "ChairBallotModel" "stripeOf" "[I", Cond.fieldLink RX3 19 "ChairBallotModel" "facesOf" "[I", Cond.methodLink RX3 120 yX3_isIn, Cond.static yX3_isIn, Cond.code yX3_isIn cX3_isIn 2 (some .boolean), Cond.methodLink RX3 126 yX3_meets, Cond.instanceMethod yX3_meets, Cond.selects RX3 yX3_meets yX3_meets, Cond.code yX3_meets cX3_meets 3 (some .boolean), Cond.methodLink RX3 145 yX3_votesIn, Cond.instanceMethod yX3_votesIn, Cond.selects RX3 yX3_votesIn yX3_votesIn, Cond.code yX3_votesIn cX3_votesIn 4 (some .int)]
def wsX3_isCarried_r2 : List Cond := [Cond.methodLink RX3 132 yX3_votesOf, Cond.instanceMethod yX3_votesOf, Cond.selects RX3 yX3_votesOf yX3_votesOf, Cond.code yX3_votesOf cX3_votesOf 2 (some .int), Cond.methodLink RX3 123 yX3_votesOpen, Cond.instanceMethod yX3_votesOpen, Cond.selects RX3 yX3_votesOpen yX3_votesOpen, Cond.code yX3_votesOpen cX3_votesOpen 3 (some .int), Cond.fieldLink RX3 16 "ChairBallotModel" "weightOf" "[I", Cond.fieldLink RX3 7 "ChairBallotModel" "kindOf" "[I"]
def wsX3_isCarried : List Cond := .code yX3_isCarried cX3_isCarried 1 (some .boolean) :: ((wsX3_isCarried_r1 ++ wsX3_isCarried_r2) ++ wsX30)
def wsX3_poll_r1 : List Cond := [Cond.fieldLink RX3 65 "ChairBallotModel" "chairs" "I", Cond.methodLink RX3 142 yX3_whoIs, Cond.instanceMethod yX3_whoIs, Cond.selects RX3 yX3_whoIs yX3_whoIs, Cond.initialized RX3, Cond.code yX3_whoIs cX3_whoIs 4 (some .int), Cond.methodLink RX3 135 yX3_countsAs, Cond.instanceMethod yX3_countsAs, Cond.selects RX3 yX3_countsAs yX3_countsAs, Cond.code yX3_countsAs cX3_countsAs 3 (some .int), Cond.fieldLink RX3 114 "ChairBallotModel" "folded" "I", Cond.fieldLink RX3 13 "ChairBallotModel" "stripeOf" "[I", Cond.fieldLink RX3 19 "ChairBallotModel" "facesOf" "[I", Cond.methodLink RX3 120 yX3_isIn, Cond.static yX3_isIn, Cond.code yX3_isIn cX3_isIn 2 (some .boolean), Cond.methodLink RX3 126 yX3_meets, Cond.instanceMethod yX3_meets, Cond.selects RX3 yX3_meets yX3_meets, Cond.code yX3_meets cX3_meets 3 (some .boolean), Cond.methodLink RX3 145 yX3_votesIn, Cond.instanceMethod yX3_votesIn, Cond.selects RX3 yX3_votesIn yX3_votesIn, Cond.code yX3_votesIn cX3_votesIn 4 (some .int)]
def wsX3_poll_r2 : List Cond := [Cond.methodLink RX3 132 yX3_votesOf, Cond.instanceMethod yX3_votesOf, Cond.selects RX3 yX3_votesOf yX3_votesOf, Cond.code yX3_votesOf cX3_votesOf 2 (some .int), Cond.methodLink RX3 123 yX3_votesOpen, Cond.instanceMethod yX3_votesOpen, Cond.selects RX3 yX3_votesOpen yX3_votesOpen, Cond.code yX3_votesOpen cX3_votesOpen 3 (some .int), Cond.fieldLink RX3 16 "ChairBallotModel" "weightOf" "[I", Cond.fieldLink RX3 7 "ChairBallotModel" "kindOf" "[I", Cond.methodLink RX3 148 yX3_isCarried, Cond.instanceMethod yX3_isCarried, Cond.selects RX3 yX3_isCarried yX3_isCarried, Cond.code yX3_isCarried cX3_isCarried 1 (some .boolean)]
def wsX3_poll : List Cond := .code yX3_poll cX3_poll 2 (some .int) :: ((wsX3_poll_r1 ++ wsX3_poll_r2) ++ wsX30)
def wsX3_turn : List Cond := .code yX3_turn cX3_turn 4 (some .int) :: ([.constantLong RX3 138 (3), .fieldLink RX3 114 "ChairBallotModel" "folded" "I", .fieldLink RX3 19 "ChairBallotModel" "facesOf" "[I", .methodLink RX3 129 yX3_noChair, .instanceMethod yX3_noChair, .selects RX3 yX3_noChair yX3_noChair, .initialized RX3, .code yX3_noChair cX3_noChair 2 (some .boolean), .fieldLink RX3 65 "ChairBallotModel" "chairs" "I", .methodLink RX3 68 yX3_in, .static yX3_in, .code yX3_in cX3_in 6 (some .boolean), .methodLink RX3 120 yX3_isIn, .static yX3_isIn, .code yX3_isIn cX3_isIn 2 (some .boolean)] ++ wsX30)
def wsX3_blown : List Cond := .code yX3_blown cX3_blown 5 (some .int) :: ([.fieldLink RX3 65 "ChairBallotModel" "chairs" "I", .fieldLink RX3 114 "ChairBallotModel" "folded" "I", .fieldLink RX3 16 "ChairBallotModel" "weightOf" "[I", .fieldLink RX3 19 "ChairBallotModel" "facesOf" "[I", .methodLink RX3 120 yX3_isIn, .static yX3_isIn, .initialized RX3, .code yX3_isIn cX3_isIn 2 (some .boolean)] ++ wsX30)
def wsX3_gust : List Cond := .code yX3_gust cX3_gust 3 (some .int) :: ([.fieldLink RX3 65 "ChairBallotModel" "chairs" "I", .constantLong RX3 138 (3), .constantLong RX3 152 (10), .methodLink RX3 68 yX3_in, .static yX3_in, .initialized RX3, .code yX3_in cX3_in 6 (some .boolean), .methodLink RX3 154 yX3_blown, .instanceMethod yX3_blown, .selects RX3 yX3_blown yX3_blown, .code yX3_blown cX3_blown 5 (some .int), .fieldLink RX3 114 "ChairBallotModel" "folded" "I", .fieldLink RX3 16 "ChairBallotModel" "weightOf" "[I", .fieldLink RX3 19 "ChairBallotModel" "facesOf" "[I", .methodLink RX3 120 yX3_isIn, .static yX3_isIn, .code yX3_isIn cX3_isIn 2 (some .boolean)] ++ wsX30)
def wsX3_rain : List Cond := .code yX3_rain cX3_rain 2 (some .int) :: ([.fieldLink RX3 65 "ChairBallotModel" "chairs" "I", .fieldLink RX3 114 "ChairBallotModel" "folded" "I", .methodLink RX3 157 yX3_bits, .static yX3_bits, .initialized RX3, .code yX3_bits cX3_bits 3 (some .int), .methodLink RX3 160 yX3_everyChair, .instanceMethod yX3_everyChair, .selects RX3 yX3_everyChair yX3_everyChair, .code yX3_everyChair cX3_everyChair 1 (some .int)] ++ wsX30)
def wsX3_open : List Cond := .code yX3_open cX3_open 2 (some .int) :: ([.fieldLink RX3 114 "ChairBallotModel" "folded" "I", .methodLink RX3 129 yX3_noChair, .instanceMethod yX3_noChair, .selects RX3 yX3_noChair yX3_noChair, .initialized RX3, .code yX3_noChair cX3_noChair 2 (some .boolean), .fieldLink RX3 65 "ChairBallotModel" "chairs" "I", .methodLink RX3 68 yX3_in, .static yX3_in, .code yX3_in cX3_in 6 (some .boolean), .methodLink RX3 120 yX3_isIn, .static yX3_isIn, .code yX3_isIn cX3_isIn 2 (some .boolean), .methodLink RX3 157 yX3_bits, .static yX3_bits, .code yX3_bits cX3_bits 3 (some .int)] ++ wsX30)
def wsX3_keepAll : List Cond := .code yX3_keepAll cX3_keepAll 2 none :: ([.fieldLink RX3 114 "ChairBallotModel" "folded" "I", .fieldLink RX3 164 "ChairBallotModel" "foldedKept" "I", .fieldLink RX3 65 "ChairBallotModel" "chairs" "I", .fieldLink RX3 34 "ChairBallotModel" "facesKept" "[I", .fieldLink RX3 19 "ChairBallotModel" "facesOf" "[I"] ++ wsX30)
def wsX3_bringBack : List Cond := .code yX3_bringBack cX3_bringBack 2 none :: ([.fieldLink RX3 164 "ChairBallotModel" "foldedKept" "I", .fieldLink RX3 114 "ChairBallotModel" "folded" "I", .fieldLink RX3 65 "ChairBallotModel" "chairs" "I", .fieldLink RX3 19 "ChairBallotModel" "facesOf" "[I", .fieldLink RX3 34 "ChairBallotModel" "facesKept" "[I"] ++ wsX30)
def wsX3_pairsBarred : List Cond := .code yX3_pairsBarred cX3_pairsBarred 7 (some .int) :: ([.fieldLink RX3 49 "ChairBallotModel" "sheet" "[I", .constantLong RX3 167 (4), .constantLong RX3 169 (7), .constantLong RX3 152 (10), .constantLong RX3 140 (9), .methodLink RX3 68 yX3_in, .static yX3_in, .initialized RX3, .code yX3_in cX3_in 6 (some .boolean), .methodLink RX3 129 yX3_noChair, .instanceMethod yX3_noChair, .selects RX3 yX3_noChair yX3_noChair, .code yX3_noChair cX3_noChair 2 (some .boolean), .fieldLink RX3 65 "ChairBallotModel" "chairs" "I"] ++ wsX30)
def wsX3_didPair_r1 : List Cond := [Cond.fieldLink RX3 114 "ChairBallotModel" "folded" "I", Cond.methodLink RX3 171 yX3_turn, Cond.instanceMethod yX3_turn, Cond.selects RX3 yX3_turn yX3_turn, Cond.initialized RX3, Cond.code yX3_turn cX3_turn 4 (some .int), Cond.constantLong RX3 138 (3), Cond.fieldLink RX3 19 "ChairBallotModel" "facesOf" "[I", Cond.methodLink RX3 129 yX3_noChair, Cond.instanceMethod yX3_noChair, Cond.selects RX3 yX3_noChair yX3_noChair, Cond.code yX3_noChair cX3_noChair 2 (some .boolean), Cond.fieldLink RX3 65 "ChairBallotModel" "chairs" "I", Cond.methodLink RX3 68 yX3_in, Cond.static yX3_in, Cond.code yX3_in cX3_in 6 (some .boolean), Cond.methodLink RX3 120 yX3_isIn, Cond.static yX3_isIn, Cond.code yX3_isIn cX3_isIn 2 (some .boolean), Cond.methodLink RX3 174 yX3_open, Cond.instanceMethod yX3_open, Cond.selects RX3 yX3_open yX3_open, Cond.code yX3_open cX3_open 2 (some .int), Cond.methodLink RX3 157 yX3_bits]
def wsX3_didPair_r2 : List Cond := [Cond.static yX3_bits, Cond.code yX3_bits cX3_bits 3 (some .int), Cond.methodLink RX3 160 yX3_everyChair, Cond.instanceMethod yX3_everyChair, Cond.selects RX3 yX3_everyChair yX3_everyChair, Cond.code yX3_everyChair cX3_everyChair 1 (some .int), Cond.methodLink RX3 154 yX3_blown, Cond.instanceMethod yX3_blown, Cond.selects RX3 yX3_blown yX3_blown, Cond.code yX3_blown cX3_blown 5 (some .int), Cond.fieldLink RX3 16 "ChairBallotModel" "weightOf" "[I"]
def wsX3_didPair : List Cond := .code yX3_didPair cX3_didPair 3 (some .boolean) :: ((wsX3_didPair_r1 ++ wsX3_didPair_r2) ++ wsX30)
def wsX3_dayBy_r1 : List Cond := [Cond.fieldLink RX3 49 "ChairBallotModel" "sheet" "[I", Cond.fieldLink RX3 19 "ChairBallotModel" "facesOf" "[I", Cond.fieldLink RX3 114 "ChairBallotModel" "folded" "I", Cond.methodLink RX3 177 yX3_didPair, Cond.instanceMethod yX3_didPair, Cond.selects RX3 yX3_didPair yX3_didPair, Cond.initialized RX3, Cond.code yX3_didPair cX3_didPair 3 (some .boolean), Cond.methodLink RX3 171 yX3_turn, Cond.instanceMethod yX3_turn, Cond.selects RX3 yX3_turn yX3_turn, Cond.code yX3_turn cX3_turn 4 (some .int), Cond.constantLong RX3 138 (3), Cond.methodLink RX3 129 yX3_noChair, Cond.instanceMethod yX3_noChair, Cond.selects RX3 yX3_noChair yX3_noChair, Cond.code yX3_noChair cX3_noChair 2 (some .boolean), Cond.fieldLink RX3 65 "ChairBallotModel" "chairs" "I", Cond.methodLink RX3 68 yX3_in, Cond.static yX3_in, Cond.code yX3_in cX3_in 6 (some .boolean), Cond.methodLink RX3 120 yX3_isIn, Cond.static yX3_isIn, Cond.code yX3_isIn cX3_isIn 2 (some .boolean)]
def wsX3_dayBy_r2 : List Cond := [Cond.methodLink RX3 174 yX3_open, Cond.instanceMethod yX3_open, Cond.selects RX3 yX3_open yX3_open, Cond.code yX3_open cX3_open 2 (some .int), Cond.methodLink RX3 157 yX3_bits, Cond.static yX3_bits, Cond.code yX3_bits cX3_bits 3 (some .int), Cond.methodLink RX3 160 yX3_everyChair, Cond.instanceMethod yX3_everyChair, Cond.selects RX3 yX3_everyChair yX3_everyChair, Cond.code yX3_everyChair cX3_everyChair 1 (some .int), Cond.methodLink RX3 154 yX3_blown, Cond.instanceMethod yX3_blown, Cond.selects RX3 yX3_blown yX3_blown, Cond.code yX3_blown cX3_blown 5 (some .int), Cond.fieldLink RX3 16 "ChairBallotModel" "weightOf" "[I", Cond.methodLink RX3 148 yX3_isCarried, Cond.instanceMethod yX3_isCarried, Cond.selects RX3 yX3_isCarried yX3_isCarried, Cond.code yX3_isCarried cX3_isCarried 1 (some .boolean), Cond.methodLink RX3 142 yX3_whoIs, Cond.instanceMethod yX3_whoIs, Cond.selects RX3 yX3_whoIs yX3_whoIs, Cond.code yX3_whoIs cX3_whoIs 4 (some .int)]
def wsX3_dayBy_r3 : List Cond := [Cond.methodLink RX3 135 yX3_countsAs, Cond.instanceMethod yX3_countsAs, Cond.selects RX3 yX3_countsAs yX3_countsAs, Cond.code yX3_countsAs cX3_countsAs 3 (some .int), Cond.fieldLink RX3 13 "ChairBallotModel" "stripeOf" "[I", Cond.methodLink RX3 126 yX3_meets, Cond.instanceMethod yX3_meets, Cond.selects RX3 yX3_meets yX3_meets, Cond.code yX3_meets cX3_meets 3 (some .boolean), Cond.methodLink RX3 145 yX3_votesIn, Cond.instanceMethod yX3_votesIn, Cond.selects RX3 yX3_votesIn yX3_votesIn, Cond.code yX3_votesIn cX3_votesIn 4 (some .int), Cond.methodLink RX3 132 yX3_votesOf, Cond.instanceMethod yX3_votesOf, Cond.selects RX3 yX3_votesOf yX3_votesOf, Cond.code yX3_votesOf cX3_votesOf 2 (some .int), Cond.methodLink RX3 123 yX3_votesOpen, Cond.instanceMethod yX3_votesOpen, Cond.selects RX3 yX3_votesOpen yX3_votesOpen, Cond.code yX3_votesOpen cX3_votesOpen 3 (some .int), Cond.fieldLink RX3 7 "ChairBallotModel" "kindOf" "[I"]
def wsX3_dayBy : List Cond := .code yX3_dayBy cX3_dayBy 7 (some .int) :: ((wsX3_dayBy_r1 ++ (wsX3_dayBy_r2 ++ wsX3_dayBy_r3)) ++ wsX30)
def wsX3_day_r1 : List Cond := [Cond.constantLong RX3 105 (2), Cond.constantLong RX3 180 (20), Cond.constantLong RX3 167 (4), Cond.constantLong RX3 152 (10), Cond.constantLong RX3 182 (17), Cond.fieldLink RX3 65 "ChairBallotModel" "chairs" "I", Cond.methodLink RX3 98 yX3_noSheet, Cond.static yX3_noSheet, Cond.initialized RX3, Cond.code yX3_noSheet cX3_noSheet 1 (some .boolean), Cond.constantLong RX3 138 (3), Cond.methodLink RX3 68 yX3_in, Cond.static yX3_in, Cond.code yX3_in cX3_in 6 (some .boolean), Cond.methodLink RX3 102 yX3_refused, Cond.instanceMethod yX3_refused, Cond.selects RX3 yX3_refused yX3_refused, Cond.code yX3_refused cX3_refused 2 (some .int), Cond.fieldLink RX3 57 "ChairBallotModel" "fault" "I", Cond.methodLink RX3 107 yX3_cellsBarred, Cond.instanceMethod yX3_cellsBarred, Cond.selects RX3 yX3_cellsBarred yX3_cellsBarred, Cond.code yX3_cellsBarred cX3_cellsBarred 6 (some .int), Cond.fieldLink RX3 43 "ChairBallotModel" "sheetSize" "[I"]
def wsX3_day_r2 : List Cond := [Cond.fieldLink RX3 46 "ChairBallotModel" "sheetLane" "[I", Cond.methodLink RX3 90 yX3_failed, Cond.instanceMethod yX3_failed, Cond.selects RX3 yX3_failed yX3_failed, Cond.code yX3_failed cX3_failed 2 (some .int), Cond.methodLink RX3 94 yX3_isBeyond, Cond.static yX3_isBeyond, Cond.code yX3_isBeyond cX3_isBeyond 4 (some .boolean), Cond.methodLink RX3 184 yX3_pairsBarred, Cond.instanceMethod yX3_pairsBarred, Cond.selects RX3 yX3_pairsBarred yX3_pairsBarred, Cond.code yX3_pairsBarred cX3_pairsBarred 7 (some .int), Cond.fieldLink RX3 49 "ChairBallotModel" "sheet" "[I", Cond.constantLong RX3 169 (7), Cond.constantLong RX3 140 (9), Cond.methodLink RX3 129 yX3_noChair, Cond.instanceMethod yX3_noChair, Cond.selects RX3 yX3_noChair yX3_noChair, Cond.code yX3_noChair cX3_noChair 2 (some .boolean), Cond.methodLink RX3 187 yX3_keepAll, Cond.instanceMethod yX3_keepAll, Cond.selects RX3 yX3_keepAll yX3_keepAll, Cond.code yX3_keepAll cX3_keepAll 2 none, Cond.fieldLink RX3 114 "ChairBallotModel" "folded" "I"]
def wsX3_day_r3 : List Cond := [Cond.fieldLink RX3 164 "ChairBallotModel" "foldedKept" "I", Cond.fieldLink RX3 34 "ChairBallotModel" "facesKept" "[I", Cond.fieldLink RX3 19 "ChairBallotModel" "facesOf" "[I", Cond.methodLink RX3 190 yX3_dayBy, Cond.instanceMethod yX3_dayBy, Cond.selects RX3 yX3_dayBy yX3_dayBy, Cond.code yX3_dayBy cX3_dayBy 7 (some .int), Cond.methodLink RX3 177 yX3_didPair, Cond.instanceMethod yX3_didPair, Cond.selects RX3 yX3_didPair yX3_didPair, Cond.code yX3_didPair cX3_didPair 3 (some .boolean), Cond.methodLink RX3 171 yX3_turn, Cond.instanceMethod yX3_turn, Cond.selects RX3 yX3_turn yX3_turn, Cond.code yX3_turn cX3_turn 4 (some .int), Cond.methodLink RX3 120 yX3_isIn, Cond.static yX3_isIn, Cond.code yX3_isIn cX3_isIn 2 (some .boolean), Cond.methodLink RX3 174 yX3_open, Cond.instanceMethod yX3_open, Cond.selects RX3 yX3_open yX3_open, Cond.code yX3_open cX3_open 2 (some .int), Cond.methodLink RX3 157 yX3_bits, Cond.static yX3_bits]
def wsX3_day_r4 : List Cond := [Cond.code yX3_bits cX3_bits 3 (some .int), Cond.methodLink RX3 160 yX3_everyChair, Cond.instanceMethod yX3_everyChair, Cond.selects RX3 yX3_everyChair yX3_everyChair, Cond.code yX3_everyChair cX3_everyChair 1 (some .int), Cond.methodLink RX3 154 yX3_blown, Cond.instanceMethod yX3_blown, Cond.selects RX3 yX3_blown yX3_blown, Cond.code yX3_blown cX3_blown 5 (some .int), Cond.fieldLink RX3 16 "ChairBallotModel" "weightOf" "[I", Cond.methodLink RX3 148 yX3_isCarried, Cond.instanceMethod yX3_isCarried, Cond.selects RX3 yX3_isCarried yX3_isCarried, Cond.code yX3_isCarried cX3_isCarried 1 (some .boolean), Cond.methodLink RX3 142 yX3_whoIs, Cond.instanceMethod yX3_whoIs, Cond.selects RX3 yX3_whoIs yX3_whoIs, Cond.code yX3_whoIs cX3_whoIs 4 (some .int), Cond.methodLink RX3 135 yX3_countsAs, Cond.instanceMethod yX3_countsAs, Cond.selects RX3 yX3_countsAs yX3_countsAs, Cond.code yX3_countsAs cX3_countsAs 3 (some .int), Cond.fieldLink RX3 13 "ChairBallotModel" "stripeOf" "[I", Cond.methodLink RX3 126 yX3_meets]
def wsX3_day_r5 : List Cond := [Cond.instanceMethod yX3_meets, Cond.selects RX3 yX3_meets yX3_meets, Cond.code yX3_meets cX3_meets 3 (some .boolean), Cond.methodLink RX3 145 yX3_votesIn, Cond.instanceMethod yX3_votesIn, Cond.selects RX3 yX3_votesIn yX3_votesIn, Cond.code yX3_votesIn cX3_votesIn 4 (some .int), Cond.methodLink RX3 132 yX3_votesOf, Cond.instanceMethod yX3_votesOf, Cond.selects RX3 yX3_votesOf yX3_votesOf, Cond.code yX3_votesOf cX3_votesOf 2 (some .int), Cond.methodLink RX3 123 yX3_votesOpen, Cond.instanceMethod yX3_votesOpen, Cond.selects RX3 yX3_votesOpen yX3_votesOpen, Cond.code yX3_votesOpen cX3_votesOpen 3 (some .int), Cond.fieldLink RX3 7 "ChairBallotModel" "kindOf" "[I", Cond.methodLink RX3 194 yX3_bringBack, Cond.instanceMethod yX3_bringBack, Cond.selects RX3 yX3_bringBack yX3_bringBack, Cond.code yX3_bringBack cX3_bringBack 2 none]
def wsX3_day : List Cond := .code yX3_day cX3_day 8 (some .int) :: ((wsX3_day_r1 ++ (wsX3_day_r2 ++ (wsX3_day_r3 ++ (wsX3_day_r4 ++ wsX3_day_r5)))) ++ wsX30)
def wsX3_swing_r1 : List Cond := [Cond.fieldLink RX3 65 "ChairBallotModel" "chairs" "I", Cond.fieldLink RX3 19 "ChairBallotModel" "facesOf" "[I", Cond.fieldLink RX3 114 "ChairBallotModel" "folded" "I", Cond.methodLink RX3 187 yX3_keepAll, Cond.instanceMethod yX3_keepAll, Cond.selects RX3 yX3_keepAll yX3_keepAll, Cond.initialized RX3, Cond.code yX3_keepAll cX3_keepAll 2 none, Cond.fieldLink RX3 164 "ChairBallotModel" "foldedKept" "I", Cond.fieldLink RX3 34 "ChairBallotModel" "facesKept" "[I", Cond.methodLink RX3 160 yX3_everyChair, Cond.instanceMethod yX3_everyChair, Cond.selects RX3 yX3_everyChair yX3_everyChair, Cond.code yX3_everyChair cX3_everyChair 1 (some .int), Cond.methodLink RX3 120 yX3_isIn, Cond.static yX3_isIn, Cond.code yX3_isIn cX3_isIn 2 (some .boolean), Cond.methodLink RX3 148 yX3_isCarried, Cond.instanceMethod yX3_isCarried, Cond.selects RX3 yX3_isCarried yX3_isCarried, Cond.code yX3_isCarried cX3_isCarried 1 (some .boolean), Cond.methodLink RX3 142 yX3_whoIs, Cond.instanceMethod yX3_whoIs, Cond.selects RX3 yX3_whoIs yX3_whoIs]
def wsX3_swing_r2 : List Cond := [Cond.code yX3_whoIs cX3_whoIs 4 (some .int), Cond.methodLink RX3 135 yX3_countsAs, Cond.instanceMethod yX3_countsAs, Cond.selects RX3 yX3_countsAs yX3_countsAs, Cond.code yX3_countsAs cX3_countsAs 3 (some .int), Cond.fieldLink RX3 13 "ChairBallotModel" "stripeOf" "[I", Cond.methodLink RX3 126 yX3_meets, Cond.instanceMethod yX3_meets, Cond.selects RX3 yX3_meets yX3_meets, Cond.code yX3_meets cX3_meets 3 (some .boolean), Cond.methodLink RX3 145 yX3_votesIn, Cond.instanceMethod yX3_votesIn, Cond.selects RX3 yX3_votesIn yX3_votesIn, Cond.code yX3_votesIn cX3_votesIn 4 (some .int), Cond.methodLink RX3 132 yX3_votesOf, Cond.instanceMethod yX3_votesOf, Cond.selects RX3 yX3_votesOf yX3_votesOf, Cond.code yX3_votesOf cX3_votesOf 2 (some .int), Cond.methodLink RX3 123 yX3_votesOpen, Cond.instanceMethod yX3_votesOpen, Cond.selects RX3 yX3_votesOpen yX3_votesOpen, Cond.code yX3_votesOpen cX3_votesOpen 3 (some .int), Cond.fieldLink RX3 16 "ChairBallotModel" "weightOf" "[I", Cond.fieldLink RX3 7 "ChairBallotModel" "kindOf" "[I"]
def wsX3_swing_r3 : List Cond := [Cond.methodLink RX3 194 yX3_bringBack, Cond.instanceMethod yX3_bringBack, Cond.selects RX3 yX3_bringBack yX3_bringBack, Cond.code yX3_bringBack cX3_bringBack 2 none, Cond.methodLink RX3 157 yX3_bits, Cond.static yX3_bits, Cond.code yX3_bits cX3_bits 3 (some .int)]
def wsX3_swing : List Cond := .code yX3_swing cX3_swing 4 (some .int) :: ((wsX3_swing_r1 ++ (wsX3_swing_r2 ++ wsX3_swing_r3)) ++ wsX30)
def wsX3_blow_r1 : List Cond := [Cond.fieldLink RX3 65 "ChairBallotModel" "chairs" "I", Cond.constantLong RX3 138 (3), Cond.methodLink RX3 68 yX3_in, Cond.static yX3_in, Cond.initialized RX3, Cond.code yX3_in cX3_in 6 (some .boolean), Cond.methodLink RX3 187 yX3_keepAll, Cond.instanceMethod yX3_keepAll, Cond.selects RX3 yX3_keepAll yX3_keepAll, Cond.code yX3_keepAll cX3_keepAll 2 none, Cond.fieldLink RX3 114 "ChairBallotModel" "folded" "I", Cond.fieldLink RX3 164 "ChairBallotModel" "foldedKept" "I", Cond.fieldLink RX3 34 "ChairBallotModel" "facesKept" "[I", Cond.fieldLink RX3 19 "ChairBallotModel" "facesOf" "[I", Cond.methodLink RX3 154 yX3_blown, Cond.instanceMethod yX3_blown, Cond.selects RX3 yX3_blown yX3_blown, Cond.code yX3_blown cX3_blown 5 (some .int), Cond.fieldLink RX3 16 "ChairBallotModel" "weightOf" "[I", Cond.methodLink RX3 120 yX3_isIn, Cond.static yX3_isIn, Cond.code yX3_isIn cX3_isIn 2 (some .boolean), Cond.methodLink RX3 148 yX3_isCarried, Cond.instanceMethod yX3_isCarried]
def wsX3_blow_r2 : List Cond := [Cond.selects RX3 yX3_isCarried yX3_isCarried, Cond.code yX3_isCarried cX3_isCarried 1 (some .boolean), Cond.methodLink RX3 142 yX3_whoIs, Cond.instanceMethod yX3_whoIs, Cond.selects RX3 yX3_whoIs yX3_whoIs, Cond.code yX3_whoIs cX3_whoIs 4 (some .int), Cond.methodLink RX3 135 yX3_countsAs, Cond.instanceMethod yX3_countsAs, Cond.selects RX3 yX3_countsAs yX3_countsAs, Cond.code yX3_countsAs cX3_countsAs 3 (some .int), Cond.fieldLink RX3 13 "ChairBallotModel" "stripeOf" "[I", Cond.methodLink RX3 126 yX3_meets, Cond.instanceMethod yX3_meets, Cond.selects RX3 yX3_meets yX3_meets, Cond.code yX3_meets cX3_meets 3 (some .boolean), Cond.methodLink RX3 145 yX3_votesIn, Cond.instanceMethod yX3_votesIn, Cond.selects RX3 yX3_votesIn yX3_votesIn, Cond.code yX3_votesIn cX3_votesIn 4 (some .int), Cond.methodLink RX3 132 yX3_votesOf, Cond.instanceMethod yX3_votesOf, Cond.selects RX3 yX3_votesOf yX3_votesOf, Cond.code yX3_votesOf cX3_votesOf 2 (some .int), Cond.methodLink RX3 123 yX3_votesOpen]
def wsX3_blow_r3 : List Cond := [Cond.instanceMethod yX3_votesOpen, Cond.selects RX3 yX3_votesOpen yX3_votesOpen, Cond.code yX3_votesOpen cX3_votesOpen 3 (some .int), Cond.fieldLink RX3 7 "ChairBallotModel" "kindOf" "[I", Cond.methodLink RX3 194 yX3_bringBack, Cond.instanceMethod yX3_bringBack, Cond.selects RX3 yX3_bringBack yX3_bringBack, Cond.code yX3_bringBack cX3_bringBack 2 none]
def wsX3_blow : List Cond := .code yX3_blow cX3_blow 4 (some .int) :: ((wsX3_blow_r1 ++ (wsX3_blow_r2 ++ wsX3_blow_r3)) ++ wsX30)
def wsX3_wonBy_r1 : List Cond := [Cond.fieldLink RX3 65 "ChairBallotModel" "chairs" "I", Cond.methodLink RX3 135 yX3_countsAs, Cond.instanceMethod yX3_countsAs, Cond.selects RX3 yX3_countsAs yX3_countsAs, Cond.initialized RX3, Cond.code yX3_countsAs cX3_countsAs 3 (some .int), Cond.fieldLink RX3 114 "ChairBallotModel" "folded" "I", Cond.fieldLink RX3 13 "ChairBallotModel" "stripeOf" "[I", Cond.fieldLink RX3 19 "ChairBallotModel" "facesOf" "[I", Cond.methodLink RX3 120 yX3_isIn, Cond.static yX3_isIn, Cond.code yX3_isIn cX3_isIn 2 (some .boolean), Cond.methodLink RX3 126 yX3_meets, Cond.instanceMethod yX3_meets, Cond.selects RX3 yX3_meets yX3_meets, Cond.code yX3_meets cX3_meets 3 (some .boolean), Cond.methodLink RX3 132 yX3_votesOf, Cond.instanceMethod yX3_votesOf, Cond.selects RX3 yX3_votesOf yX3_votesOf, Cond.code yX3_votesOf cX3_votesOf 2 (some .int), Cond.methodLink RX3 123 yX3_votesOpen, Cond.instanceMethod yX3_votesOpen, Cond.selects RX3 yX3_votesOpen yX3_votesOpen, Cond.code yX3_votesOpen cX3_votesOpen 3 (some .int)]
def wsX3_wonBy_r2 : List Cond := [Cond.fieldLink RX3 16 "ChairBallotModel" "weightOf" "[I", Cond.fieldLink RX3 7 "ChairBallotModel" "kindOf" "[I"]
def wsX3_wonBy : List Cond := .code yX3_wonBy cX3_wonBy 6 (some .int) :: ((wsX3_wonBy_r1 ++ wsX3_wonBy_r2) ++ wsX30)
def wsX3_beginOf : List Cond := .code yX3_beginOf cX3_beginOf 4 (some .int) :: ([.methodLink RX3 120 yX3_isIn, .static yX3_isIn, .initialized RX3, .code yX3_isIn cX3_isIn 2 (some .boolean)])
def wsX3_isAhead : List Cond := .code yX3_isAhead cX3_isAhead 3 (some .boolean) :: ([])
def wsX3_wards_r1 : List Cond := [Cond.fieldLink RX3 65 "ChairBallotModel" "chairs" "I", Cond.constantLong RX3 197 (8), Cond.constantLong RX3 199 (-1), Cond.constantLong RX3 169 (7), Cond.methodLink RX3 68 yX3_in, Cond.static yX3_in, Cond.initialized RX3, Cond.code yX3_in cX3_in 6 (some .boolean), Cond.methodLink RX3 160 yX3_everyChair, Cond.instanceMethod yX3_everyChair, Cond.selects RX3 yX3_everyChair yX3_everyChair, Cond.code yX3_everyChair cX3_everyChair 1 (some .int), Cond.methodLink RX3 157 yX3_bits, Cond.static yX3_bits, Cond.code yX3_bits cX3_bits 3 (some .int), Cond.methodLink RX3 201 yX3_wonBy, Cond.instanceMethod yX3_wonBy, Cond.selects RX3 yX3_wonBy yX3_wonBy, Cond.code yX3_wonBy cX3_wonBy 6 (some .int), Cond.methodLink RX3 135 yX3_countsAs, Cond.instanceMethod yX3_countsAs, Cond.selects RX3 yX3_countsAs yX3_countsAs, Cond.code yX3_countsAs cX3_countsAs 3 (some .int), Cond.fieldLink RX3 114 "ChairBallotModel" "folded" "I"]
def wsX3_wards_r2 : List Cond := [Cond.fieldLink RX3 13 "ChairBallotModel" "stripeOf" "[I", Cond.fieldLink RX3 19 "ChairBallotModel" "facesOf" "[I", Cond.methodLink RX3 120 yX3_isIn, Cond.static yX3_isIn, Cond.code yX3_isIn cX3_isIn 2 (some .boolean), Cond.methodLink RX3 126 yX3_meets, Cond.instanceMethod yX3_meets, Cond.selects RX3 yX3_meets yX3_meets, Cond.code yX3_meets cX3_meets 3 (some .boolean), Cond.methodLink RX3 132 yX3_votesOf, Cond.instanceMethod yX3_votesOf, Cond.selects RX3 yX3_votesOf yX3_votesOf, Cond.code yX3_votesOf cX3_votesOf 2 (some .int), Cond.methodLink RX3 123 yX3_votesOpen, Cond.instanceMethod yX3_votesOpen, Cond.selects RX3 yX3_votesOpen yX3_votesOpen, Cond.code yX3_votesOpen cX3_votesOpen 3 (some .int), Cond.fieldLink RX3 16 "ChairBallotModel" "weightOf" "[I", Cond.fieldLink RX3 7 "ChairBallotModel" "kindOf" "[I", Cond.methodLink RX3 204 yX3_isAhead, Cond.static yX3_isAhead, Cond.code yX3_isAhead cX3_isAhead 3 (some .boolean), Cond.methodLink RX3 207 yX3_beginOf, Cond.static yX3_beginOf]
def wsX3_wards_r3 : List Cond := [Cond.code yX3_beginOf cX3_beginOf 4 (some .int)]
def wsX3_wards : List Cond := .code yX3_wards cX3_wards 8 (some .int) :: ((wsX3_wards_r1 ++ (wsX3_wards_r2 ++ wsX3_wards_r3)) ++ wsX30)
def wsX3_votesBy : List Cond := .code yX3_votesBy cX3_votesBy 4 (some .int) :: ([.fieldLink RX3 65 "ChairBallotModel" "chairs" "I", .fieldLink RX3 13 "ChairBallotModel" "stripeOf" "[I", .methodLink RX3 120 yX3_isIn, .static yX3_isIn, .initialized RX3, .code yX3_isIn cX3_isIn 2 (some .boolean), .methodLink RX3 132 yX3_votesOf, .instanceMethod yX3_votesOf, .selects RX3 yX3_votesOf yX3_votesOf, .code yX3_votesOf cX3_votesOf 2 (some .int), .fieldLink RX3 114 "ChairBallotModel" "folded" "I", .methodLink RX3 123 yX3_votesOpen, .instanceMethod yX3_votesOpen, .selects RX3 yX3_votesOpen yX3_votesOpen, .code yX3_votesOpen cX3_votesOpen 3 (some .int), .fieldLink RX3 16 "ChairBallotModel" "weightOf" "[I", .fieldLink RX3 7 "ChairBallotModel" "kindOf" "[I"] ++ wsX30)
def wsX3_power_r1 : List Cond := [Cond.constantLong RX3 138 (3), Cond.fieldLink RX3 65 "ChairBallotModel" "chairs" "I", Cond.constantLong RX3 197 (8), Cond.methodLink RX3 68 yX3_in, Cond.static yX3_in, Cond.initialized RX3, Cond.code yX3_in cX3_in 6 (some .boolean), Cond.methodLink RX3 61 yX3_lost, Cond.static yX3_lost, Cond.code yX3_lost cX3_lost 0 (some .long), Cond.constantLong RX3 55 (-9223372036854775808), Cond.methodLink RX3 210 yX3_votesBy, Cond.instanceMethod yX3_votesBy, Cond.selects RX3 yX3_votesBy yX3_votesBy, Cond.code yX3_votesBy cX3_votesBy 4 (some .int), Cond.fieldLink RX3 13 "ChairBallotModel" "stripeOf" "[I", Cond.methodLink RX3 120 yX3_isIn, Cond.static yX3_isIn, Cond.code yX3_isIn cX3_isIn 2 (some .boolean), Cond.methodLink RX3 132 yX3_votesOf, Cond.instanceMethod yX3_votesOf, Cond.selects RX3 yX3_votesOf yX3_votesOf, Cond.code yX3_votesOf cX3_votesOf 2 (some .int), Cond.fieldLink RX3 114 "ChairBallotModel" "folded" "I"]
def wsX3_power_r2 : List Cond := [Cond.methodLink RX3 123 yX3_votesOpen, Cond.instanceMethod yX3_votesOpen, Cond.selects RX3 yX3_votesOpen yX3_votesOpen, Cond.code yX3_votesOpen cX3_votesOpen 3 (some .int), Cond.fieldLink RX3 16 "ChairBallotModel" "weightOf" "[I", Cond.fieldLink RX3 7 "ChairBallotModel" "kindOf" "[I", Cond.methodLink RX3 213 yX3_share, Cond.static yX3_share, Cond.code yX3_share cX3_share 11 (some .long)]
def wsX3_power : List Cond := .code yX3_power cX3_power 8 (some .long) :: ((wsX3_power_r1 ++ wsX3_power_r2) ++ wsX30)
def wsX3_reading : List Cond := .code yX3_reading cX3_reading 3 (some .int) :: ([.constantLong RX3 152 (10), .fieldLink RX3 117 "ChairBallotModel" "readings" "I", .fieldLink RX3 37 "ChairBallotModel" "readingOf" "[I", .fieldLink RX3 40 "ChairBallotModel" "readingWas" "[I", .methodLink RX3 129 yX3_noChair, .instanceMethod yX3_noChair, .selects RX3 yX3_noChair yX3_noChair, .initialized RX3, .code yX3_noChair cX3_noChair 2 (some .boolean), .fieldLink RX3 65 "ChairBallotModel" "chairs" "I", .methodLink RX3 68 yX3_in, .static yX3_in, .code yX3_in cX3_in 6 (some .boolean)] ++ wsX30)
def wsX3_back : List Cond := .code yX3_back cX3_back 2 (some .int) :: ([.fieldLink RX3 117 "ChairBallotModel" "readings" "I", .methodLink RX3 68 yX3_in, .static yX3_in, .initialized RX3, .code yX3_in cX3_in 6 (some .boolean)] ++ wsX30)
def wsX3_areSo : List Cond := .code yX3_areSo cX3_areSo 3 (some .boolean) :: ([.fieldLink RX3 117 "ChairBallotModel" "readings" "I", .fieldLink RX3 37 "ChairBallotModel" "readingOf" "[I", .fieldLink RX3 40 "ChairBallotModel" "readingWas" "[I", .methodLink RX3 123 yX3_votesOpen, .instanceMethod yX3_votesOpen, .selects RX3 yX3_votesOpen yX3_votesOpen, .initialized RX3, .code yX3_votesOpen cX3_votesOpen 3 (some .int), .fieldLink RX3 16 "ChairBallotModel" "weightOf" "[I", .fieldLink RX3 7 "ChairBallotModel" "kindOf" "[I"] ++ wsX30)
def wsX3_weights : List Cond := .code yX3_weights cX3_weights 5 (some .int) :: ([.fieldLink RX3 16 "ChairBallotModel" "weightOf" "[I", .methodLink RX3 129 yX3_noChair, .instanceMethod yX3_noChair, .selects RX3 yX3_noChair yX3_noChair, .initialized RX3, .code yX3_noChair cX3_noChair 2 (some .boolean), .fieldLink RX3 65 "ChairBallotModel" "chairs" "I", .methodLink RX3 68 yX3_in, .static yX3_in, .code yX3_in cX3_in 6 (some .boolean), .methodLink RX3 217 yX3_areSo, .instanceMethod yX3_areSo, .selects RX3 yX3_areSo yX3_areSo, .code yX3_areSo cX3_areSo 3 (some .boolean), .fieldLink RX3 117 "ChairBallotModel" "readings" "I", .fieldLink RX3 37 "ChairBallotModel" "readingOf" "[I", .fieldLink RX3 40 "ChairBallotModel" "readingWas" "[I", .methodLink RX3 123 yX3_votesOpen, .instanceMethod yX3_votesOpen, .selects RX3 yX3_votesOpen yX3_votesOpen, .code yX3_votesOpen cX3_votesOpen 3 (some .int), .fieldLink RX3 7 "ChairBallotModel" "kindOf" "[I"] ++ wsX30)
def wsX3_kinds : List Cond := .code yX3_kinds cX3_kinds 5 (some .int) :: ([.fieldLink RX3 7 "ChairBallotModel" "kindOf" "[I", .methodLink RX3 129 yX3_noChair, .instanceMethod yX3_noChair, .selects RX3 yX3_noChair yX3_noChair, .initialized RX3, .code yX3_noChair cX3_noChair 2 (some .boolean), .fieldLink RX3 65 "ChairBallotModel" "chairs" "I", .methodLink RX3 68 yX3_in, .static yX3_in, .code yX3_in cX3_in 6 (some .boolean), .methodLink RX3 217 yX3_areSo, .instanceMethod yX3_areSo, .selects RX3 yX3_areSo yX3_areSo, .code yX3_areSo cX3_areSo 3 (some .boolean), .fieldLink RX3 117 "ChairBallotModel" "readings" "I", .fieldLink RX3 37 "ChairBallotModel" "readingOf" "[I", .fieldLink RX3 40 "ChairBallotModel" "readingWas" "[I", .methodLink RX3 123 yX3_votesOpen, .instanceMethod yX3_votesOpen, .selects RX3 yX3_votesOpen yX3_votesOpen, .code yX3_votesOpen cX3_votesOpen 3 (some .int), .fieldLink RX3 16 "ChairBallotModel" "weightOf" "[I"] ++ wsX30)
def wsX3_moreBy : List Cond := .code yX3_moreBy cX3_moreBy 4 (some .int) :: ([.fieldLink RX3 65 "ChairBallotModel" "chairs" "I", .methodLink RX3 120 yX3_isIn, .static yX3_isIn, .initialized RX3, .code yX3_isIn cX3_isIn 2 (some .boolean), .methodLink RX3 132 yX3_votesOf, .instanceMethod yX3_votesOf, .selects RX3 yX3_votesOf yX3_votesOf, .code yX3_votesOf cX3_votesOf 2 (some .int), .fieldLink RX3 114 "ChairBallotModel" "folded" "I", .methodLink RX3 123 yX3_votesOpen, .instanceMethod yX3_votesOpen, .selects RX3 yX3_votesOpen yX3_votesOpen, .code yX3_votesOpen cX3_votesOpen 3 (some .int), .fieldLink RX3 16 "ChairBallotModel" "weightOf" "[I", .fieldLink RX3 7 "ChairBallotModel" "kindOf" "[I"] ++ wsX30)
def wsX3_odds_r1 : List Cond := [Cond.fieldLink RX3 65 "ChairBallotModel" "chairs" "I", Cond.fieldLink RX3 114 "ChairBallotModel" "folded" "I", Cond.methodLink RX3 129 yX3_noChair, Cond.instanceMethod yX3_noChair, Cond.selects RX3 yX3_noChair yX3_noChair, Cond.initialized RX3, Cond.code yX3_noChair cX3_noChair 2 (some .boolean), Cond.methodLink RX3 68 yX3_in, Cond.static yX3_in, Cond.code yX3_in cX3_in 6 (some .boolean), Cond.methodLink RX3 120 yX3_isIn, Cond.static yX3_isIn, Cond.code yX3_isIn cX3_isIn 2 (some .boolean), Cond.methodLink RX3 61 yX3_lost, Cond.static yX3_lost, Cond.code yX3_lost cX3_lost 0 (some .long), Cond.constantLong RX3 55 (-9223372036854775808), Cond.methodLink RX3 160 yX3_everyChair, Cond.instanceMethod yX3_everyChair, Cond.selects RX3 yX3_everyChair yX3_everyChair, Cond.code yX3_everyChair cX3_everyChair 1 (some .int), Cond.methodLink RX3 220 yX3_moreBy, Cond.instanceMethod yX3_moreBy, Cond.selects RX3 yX3_moreBy yX3_moreBy]
def wsX3_odds_r2 : List Cond := [Cond.code yX3_moreBy cX3_moreBy 4 (some .int), Cond.methodLink RX3 132 yX3_votesOf, Cond.instanceMethod yX3_votesOf, Cond.selects RX3 yX3_votesOf yX3_votesOf, Cond.code yX3_votesOf cX3_votesOf 2 (some .int), Cond.methodLink RX3 123 yX3_votesOpen, Cond.instanceMethod yX3_votesOpen, Cond.selects RX3 yX3_votesOpen yX3_votesOpen, Cond.code yX3_votesOpen cX3_votesOpen 3 (some .int), Cond.fieldLink RX3 16 "ChairBallotModel" "weightOf" "[I", Cond.fieldLink RX3 7 "ChairBallotModel" "kindOf" "[I", Cond.methodLink RX3 213 yX3_share, Cond.static yX3_share, Cond.code yX3_share cX3_share 11 (some .long)]
def wsX3_odds : List Cond := .code yX3_odds cX3_odds 10 (some .long) :: ((wsX3_odds_r1 ++ wsX3_odds_r2) ++ wsX30)
def wsX3_sheet : List Cond := .code yX3_sheet cX3_sheet 5 (some .int) :: ([.constantLong RX3 105 (2), .fieldLink RX3 43 "ChairBallotModel" "sheetSize" "[I", .fieldLink RX3 46 "ChairBallotModel" "sheetLane" "[I", .fieldLink RX3 49 "ChairBallotModel" "sheet" "[I", .methodLink RX3 98 yX3_noSheet, .static yX3_noSheet, .initialized RX3, .code yX3_noSheet cX3_noSheet 1 (some .boolean), .constantLong RX3 138 (3), .methodLink RX3 68 yX3_in, .static yX3_in, .code yX3_in cX3_in 6 (some .boolean), .methodLink RX3 102 yX3_refused, .instanceMethod yX3_refused, .selects RX3 yX3_refused yX3_refused, .code yX3_refused cX3_refused 2 (some .int), .fieldLink RX3 57 "ChairBallotModel" "fault" "I", .methodLink RX3 90 yX3_failed, .instanceMethod yX3_failed, .selects RX3 yX3_failed yX3_failed, .code yX3_failed cX3_failed 2 (some .int)] ++ wsX30)
def wsX3_lose : List Cond := .code yX3_lose cX3_lose 3 (some .int) :: ([.fieldLink RX3 43 "ChairBallotModel" "sheetSize" "[I", .methodLink RX3 98 yX3_noSheet, .static yX3_noSheet, .initialized RX3, .code yX3_noSheet cX3_noSheet 1 (some .boolean), .constantLong RX3 138 (3), .methodLink RX3 68 yX3_in, .static yX3_in, .code yX3_in cX3_in 6 (some .boolean)] ++ wsX30)
def wsX3_noCell : List Cond := .code yX3_noCell cX3_noCell 3 (some .int) :: ([.fieldLink RX3 43 "ChairBallotModel" "sheetSize" "[I", .methodLink RX3 68 yX3_in, .static yX3_in, .initialized RX3, .code yX3_in cX3_in 6 (some .boolean)] ++ wsX30)
def wsX3_put : List Cond := .code yX3_put cX3_put 4 (some .int) :: ([.fieldLink RX3 49 "ChairBallotModel" "sheet" "[I", .fieldLink RX3 46 "ChairBallotModel" "sheetLane" "[I", .methodLink RX3 98 yX3_noSheet, .static yX3_noSheet, .initialized RX3, .code yX3_noSheet cX3_noSheet 1 (some .boolean), .constantLong RX3 138 (3), .methodLink RX3 68 yX3_in, .static yX3_in, .code yX3_in cX3_in 6 (some .boolean), .methodLink RX3 102 yX3_refused, .instanceMethod yX3_refused, .selects RX3 yX3_refused yX3_refused, .code yX3_refused cX3_refused 2 (some .int), .fieldLink RX3 57 "ChairBallotModel" "fault" "I", .methodLink RX3 223 yX3_noCell, .instanceMethod yX3_noCell, .selects RX3 yX3_noCell yX3_noCell, .code yX3_noCell cX3_noCell 3 (some .int), .fieldLink RX3 43 "ChairBallotModel" "sheetSize" "[I", .methodLink RX3 90 yX3_failed, .instanceMethod yX3_failed, .selects RX3 yX3_failed yX3_failed, .code yX3_failed cX3_failed 2 (some .int)] ++ wsX30)
def wsX3_cell_r1 : List Cond := [Cond.fieldLink RX3 57 "ChairBallotModel" "fault" "I", Cond.constantLong RX3 105 (2), Cond.fieldLink RX3 43 "ChairBallotModel" "sheetSize" "[I", Cond.fieldLink RX3 46 "ChairBallotModel" "sheetLane" "[I", Cond.fieldLink RX3 49 "ChairBallotModel" "sheet" "[I", Cond.methodLink RX3 98 yX3_noSheet, Cond.static yX3_noSheet, Cond.initialized RX3, Cond.code yX3_noSheet cX3_noSheet 1 (some .boolean), Cond.constantLong RX3 138 (3), Cond.methodLink RX3 68 yX3_in, Cond.static yX3_in, Cond.code yX3_in cX3_in 6 (some .boolean), Cond.methodLink RX3 61 yX3_lost, Cond.static yX3_lost, Cond.code yX3_lost cX3_lost 0 (some .long), Cond.constantLong RX3 55 (-9223372036854775808), Cond.methodLink RX3 226 yX3_failedLong, Cond.instanceMethod yX3_failedLong, Cond.selects RX3 yX3_failedLong yX3_failedLong, Cond.code yX3_failedLong cX3_failedLong 2 (some .long), Cond.methodLink RX3 223 yX3_noCell, Cond.instanceMethod yX3_noCell, Cond.selects RX3 yX3_noCell yX3_noCell]
def wsX3_cell_r2 : List Cond := [Cond.code yX3_noCell cX3_noCell 3 (some .int)]
def wsX3_cell : List Cond := .code yX3_cell cX3_cell 4 (some .long) :: ((wsX3_cell_r1 ++ wsX3_cell_r2) ++ wsX30)
def wsX3_copy : List Cond := .code yX3_copy cX3_copy 7 (some .int) :: ([.fieldLink RX3 43 "ChairBallotModel" "sheetSize" "[I", .fieldLink RX3 46 "ChairBallotModel" "sheetLane" "[I", .fieldLink RX3 52 "ChairBallotModel" "hands" "[I", .fieldLink RX3 49 "ChairBallotModel" "sheet" "[I", .methodLink RX3 98 yX3_noSheet, .static yX3_noSheet, .initialized RX3, .code yX3_noSheet cX3_noSheet 1 (some .boolean), .constantLong RX3 138 (3), .methodLink RX3 68 yX3_in, .static yX3_in, .code yX3_in cX3_in 6 (some .boolean), .methodLink RX3 102 yX3_refused, .instanceMethod yX3_refused, .selects RX3 yX3_refused yX3_refused, .code yX3_refused cX3_refused 2 (some .int), .fieldLink RX3 57 "ChairBallotModel" "fault" "I", .methodLink RX3 90 yX3_failed, .instanceMethod yX3_failed, .selects RX3 yX3_failed yX3_failed, .code yX3_failed cX3_failed 2 (some .int), .methodLink RX3 94 yX3_isBeyond, .static yX3_isBeyond, .code yX3_isBeyond cX3_isBeyond 4 (some .boolean)] ++ wsX30)
def wsX3_traced : List Cond := .code yX3_traced cX3_traced 2 none :: ([.fieldLink RX3 230 "ChairBallotModel" "traceNow" "I"] ++ wsX30)
def wsX3_tell : List Cond := .code yX3_tell cX3_tell 4 (some .int) :: ([.fieldLink RX3 7 "ChairBallotModel" "kindOf" "[I", .fieldLink RX3 16 "ChairBallotModel" "weightOf" "[I", .methodLink RX3 129 yX3_noChair, .instanceMethod yX3_noChair, .selects RX3 yX3_noChair yX3_noChair, .initialized RX3, .code yX3_noChair cX3_noChair 2 (some .boolean), .fieldLink RX3 65 "ChairBallotModel" "chairs" "I", .methodLink RX3 68 yX3_in, .static yX3_in, .code yX3_in cX3_in 6 (some .boolean), .methodLink RX3 233 yX3_traced, .instanceMethod yX3_traced, .selects RX3 yX3_traced yX3_traced, .code yX3_traced cX3_traced 2 none, .fieldLink RX3 230 "ChairBallotModel" "traceNow" "I"] ++ wsX30)
def wsX3_chalk : List Cond := .code yX3_chalk cX3_chalk 2 (some .int) :: ([.fieldLink RX3 7 "ChairBallotModel" "kindOf" "[I", .methodLink RX3 129 yX3_noChair, .instanceMethod yX3_noChair, .selects RX3 yX3_noChair yX3_noChair, .initialized RX3, .code yX3_noChair cX3_noChair 2 (some .boolean), .fieldLink RX3 65 "ChairBallotModel" "chairs" "I", .methodLink RX3 68 yX3_in, .static yX3_in, .code yX3_in cX3_in 6 (some .boolean), .methodLink RX3 233 yX3_traced, .instanceMethod yX3_traced, .selects RX3 yX3_traced yX3_traced, .code yX3_traced cX3_traced 2 none, .fieldLink RX3 230 "ChairBallotModel" "traceNow" "I"] ++ wsX30)
def wsX3_as : List Cond := .code yX3_as cX3_as 3 (some .int) :: ([.constantLong RX3 105 (2), .fieldLink RX3 7 "ChairBallotModel" "kindOf" "[I", .methodLink RX3 129 yX3_noChair, .instanceMethod yX3_noChair, .selects RX3 yX3_noChair yX3_noChair, .initialized RX3, .code yX3_noChair cX3_noChair 2 (some .boolean), .fieldLink RX3 65 "ChairBallotModel" "chairs" "I", .methodLink RX3 68 yX3_in, .static yX3_in, .code yX3_in cX3_in 6 (some .boolean), .methodLink RX3 102 yX3_refused, .instanceMethod yX3_refused, .selects RX3 yX3_refused yX3_refused, .code yX3_refused cX3_refused 2 (some .int), .fieldLink RX3 57 "ChairBallotModel" "fault" "I", .methodLink RX3 90 yX3_failed, .instanceMethod yX3_failed, .selects RX3 yX3_failed yX3_failed, .code yX3_failed cX3_failed 2 (some .int)] ++ wsX30)
def wsX3_trace : List Cond := .code yX3_trace cX3_trace 1 (some .int) :: ([.fieldLink RX3 230 "ChairBallotModel" "traceNow" "I"] ++ wsX30)
def wsX3_fault : List Cond := .code yX3_fault cX3_fault 1 (some .int) :: ([.fieldLink RX3 57 "ChairBallotModel" "fault" "I"] ++ wsX30)
def wsX3_many_r1 : List Cond := [Cond.fieldLink RX3 65 "ChairBallotModel" "chairs" "I", Cond.fieldLink RX3 114 "ChairBallotModel" "folded" "I", Cond.fieldLink RX3 117 "ChairBallotModel" "readings" "I", Cond.methodLink RX3 157 yX3_bits, Cond.static yX3_bits, Cond.initialized RX3, Cond.code yX3_bits cX3_bits 3 (some .int), Cond.methodLink RX3 160 yX3_everyChair, Cond.instanceMethod yX3_everyChair, Cond.selects RX3 yX3_everyChair yX3_everyChair, Cond.code yX3_everyChair cX3_everyChair 1 (some .int), Cond.methodLink RX3 145 yX3_votesIn, Cond.instanceMethod yX3_votesIn, Cond.selects RX3 yX3_votesIn yX3_votesIn, Cond.code yX3_votesIn cX3_votesIn 4 (some .int), Cond.methodLink RX3 120 yX3_isIn, Cond.static yX3_isIn, Cond.code yX3_isIn cX3_isIn 2 (some .boolean), Cond.methodLink RX3 132 yX3_votesOf, Cond.instanceMethod yX3_votesOf, Cond.selects RX3 yX3_votesOf yX3_votesOf, Cond.code yX3_votesOf cX3_votesOf 2 (some .int), Cond.methodLink RX3 123 yX3_votesOpen, Cond.instanceMethod yX3_votesOpen]
def wsX3_many_r2 : List Cond := [Cond.selects RX3 yX3_votesOpen yX3_votesOpen, Cond.code yX3_votesOpen cX3_votesOpen 3 (some .int), Cond.fieldLink RX3 16 "ChairBallotModel" "weightOf" "[I", Cond.fieldLink RX3 7 "ChairBallotModel" "kindOf" "[I"]
def wsX3_many : List Cond := .code yX3_many cX3_many 2 (some .int) :: ((wsX3_many_r1 ++ wsX3_many_r2) ++ wsX30)
def wsJ9_min_7cf53 : List Cond := .code yJ9_min_7cf53 cJ9_min_7cf53 2 (some .int) :: ([])
def wsL_law_r1 : List Cond := [Cond.classLink RL 7 RX2, Cond.instantiable RX2 9, Cond.initialized RX2, Cond.classLink RL 10 RX3, Cond.instantiable RX3 23, Cond.initialized RX3, Cond.methodLink RL 9 yX2_init, Cond.instanceMethod yX2_init, Cond.code yX2_init cX2_init 2 none, Cond.methodLink RX2 3 objectInit, Cond.instanceMethod objectInit, Cond.code objectInit ⟨#[0xb1]⟩ 1 none, Cond.classLink RX2 11 RX1, Cond.fieldLink RX2 13 "ChairBallot" "sheets" "[LChairBallot$Sheet;", Cond.classLink RX2 17 RX0, Cond.instantiable RX0 6, Cond.initialized RX0, Cond.fieldLink RX2 20 "ChairBallot" "now" "LChairBallot$Row;", Cond.fieldLink RX2 24 "ChairBallot" "trial" "LChairBallot$Row;", Cond.arrayClass .int, Cond.fieldLink RX2 27 "ChairBallot" "tilts" "[I", Cond.fieldLink RX2 31 "ChairBallot" "readChair" "[I", Cond.fieldLink RX2 34 "ChairBallot" "readVotes" "[I", Cond.fieldLink RX2 37 "ChairBallot" "readings" "I"]
def wsL_law_r2 : List Cond := [Cond.fieldLink RX2 41 "ChairBallot" "traced" "I", Cond.fieldLink RX2 44 "ChairBallot" "latestFault" "I", Cond.instantiable RX1 4, Cond.initialized RX1, Cond.instanceMethod yX0_init, Cond.code yX0_init cX0_init 1 none, Cond.methodLink RX0 3 objectInit, Cond.fieldLink RX0 9 "ChairBallot$Row" "kind" "[I", Cond.fieldLink RX0 15 "ChairBallot$Row" "stripe" "[I", Cond.fieldLink RX0 18 "ChairBallot$Row" "weight" "[I", Cond.fieldLink RX0 21 "ChairBallot$Row" "looks" "[I", Cond.fieldLink RX0 24 "ChairBallot$Row" "count" "I", Cond.fieldLink RX0 28 "ChairBallot$Row" "folded" "I", Cond.instanceMethod yX1_init, Cond.code yX1_init cX1_init 1 none, Cond.methodLink RX1 3 objectInit, Cond.fieldLink RX1 9 "ChairBallot$Sheet" "cells" "[I", Cond.fieldLink RX1 15 "ChairBallot$Sheet" "hasRow" "Z", Cond.fieldLink RX1 19 "ChairBallot$Sheet" "lane" "I", Cond.fieldLink RX1 23 "ChairBallot$Sheet" "length" "I", Cond.methodLink RL 12 yX3_init, Cond.instanceMethod yX3_init, Cond.code yX3_init cX3_init 2 none, Cond.methodLink RX3 1 objectInit]
def wsL_law_r3 : List Cond := [Cond.fieldLink RX3 7 "ChairBallotModel" "kindOf" "[I", Cond.fieldLink RX3 13 "ChairBallotModel" "stripeOf" "[I", Cond.fieldLink RX3 16 "ChairBallotModel" "weightOf" "[I", Cond.fieldLink RX3 19 "ChairBallotModel" "facesOf" "[I", Cond.fieldLink RX3 22 "ChairBallotModel" "readKind" "[I", Cond.fieldLink RX3 25 "ChairBallotModel" "readStripe" "[I", Cond.fieldLink RX3 28 "ChairBallotModel" "readWeight" "[I", Cond.fieldLink RX3 31 "ChairBallotModel" "readFaces" "[I", Cond.fieldLink RX3 34 "ChairBallotModel" "facesKept" "[I", Cond.fieldLink RX3 37 "ChairBallotModel" "readingOf" "[I", Cond.fieldLink RX3 40 "ChairBallotModel" "readingWas" "[I", Cond.fieldLink RX3 43 "ChairBallotModel" "sheetSize" "[I", Cond.fieldLink RX3 46 "ChairBallotModel" "sheetLane" "[I", Cond.fieldLink RX3 49 "ChairBallotModel" "sheet" "[I", Cond.fieldLink RX3 52 "ChairBallotModel" "hands" "[I", Cond.methodLink RL 13 yX2_front, Cond.instanceMethod yX2_front, Cond.selects RX2 yX2_front yX2_front, Cond.code yX2_front cX2_front 8 (some .int), Cond.fieldLink RX2 75 "ChairBallot$Row" "count" "I", Cond.methodLink RX2 48 yX2_sheetAt, Cond.instanceMethod yX2_sheetAt, Cond.selects RX2 yX2_sheetAt yX2_sheetAt, Cond.code yX2_sheetAt cX2_sheetAt 2 (some (.object "ChairBallot$Sheet"))]
def wsL_law_r4 : List Cond := [Cond.methodLink RX2 52 yX2_isLane, Cond.static yX2_isLane, Cond.code yX2_isLane cX2_isLane 1 (some .boolean), Cond.methodLink RX2 56 yX1_faultAs, Cond.instanceMethod yX1_faultAs, Cond.selects RX1 yX1_faultAs yX1_faultAs, Cond.code yX1_faultAs cX1_faultAs 2 (some .int), Cond.methodLink RX2 60 yX2_faulted, Cond.instanceMethod yX2_faulted, Cond.selects RX2 yX2_faulted yX2_faulted, Cond.code yX2_faulted cX2_faulted 2 (some .int), Cond.methodLink RX2 63 yX1_holds, Cond.instanceMethod yX1_holds, Cond.selects RX1 yX1_holds yX1_holds, Cond.code yX1_holds cX1_holds 3 (some .boolean), Cond.methodLink RX2 67 yX2_firstFaultOfText, Cond.static yX2_firstFaultOfText, Cond.code yX2_firstFaultOfText cX2_firstFaultOfText 4 (some .int), Cond.methodLink RX2 118 yX1_at, Cond.instanceMethod yX1_at, Cond.selects RX1 yX1_at yX1_at, Cond.code yX1_at cX1_at 2 (some .int), Cond.methodLink RX1 32 yX1_holds, Cond.methodLink RX2 121 yX2_goesOn]
def wsL_law_r5 : List Cond := [Cond.static yX2_goesOn, Cond.code yX2_goesOn cX2_goesOn 2 (some .boolean), Cond.methodLink RX2 124 yX2_kindOf, Cond.static yX2_kindOf, Cond.code yX2_kindOf cX2_kindOf 1 (some .int), Cond.methodLink RX2 102 yX2_isStripe, Cond.static yX2_isStripe, Cond.code yX2_isStripe cX2_isStripe 1 (some .boolean), Cond.methodLink RX2 127 yX2_isWay, Cond.static yX2_isWay, Cond.code yX2_isWay cX2_isWay 1 (some .boolean), Cond.methodLink RX2 71 yX2_takeText, Cond.instanceMethod yX2_takeText, Cond.selects RX2 yX2_takeText yX2_takeText, Cond.code yX2_takeText cX2_takeText 6 none, Cond.methodLink RX2 130 Lib.Math.min.name, Cond.static Lib.Math.min.name, Cond.initialized "java/lang/Math", Cond.code Lib.Math.min.name Lib.Math.min.code 2 (some .int), Cond.fieldLink RX2 136 "ChairBallot$Row" "folded" "I", Cond.fieldLink RX2 81 "ChairBallot$Row" "kind" "[I", Cond.fieldLink RX2 84 "ChairBallot$Row" "stripe" "[I", Cond.fieldLink RX2 87 "ChairBallot$Row" "weight" "[I", Cond.fieldLink RX2 90 "ChairBallot$Row" "looks" "[I"]
def wsL_law_r6 : List Cond := [Cond.methodLink RL 17 yX3_front, Cond.instanceMethod yX3_front, Cond.selects RX3 yX3_front yX3_front, Cond.code yX3_front cX3_front 7 (some .int), Cond.constantLong RX3 105 (2), Cond.fieldLink RX3 72 "ChairBallotModel" "readAt" "I", Cond.fieldLink RX3 79 "ChairBallotModel" "readChairs" "I", Cond.fieldLink RX3 65 "ChairBallotModel" "chairs" "I", Cond.fieldLink RX3 114 "ChairBallotModel" "folded" "I", Cond.fieldLink RX3 117 "ChairBallotModel" "readings" "I", Cond.methodLink RX3 98 yX3_noSheet, Cond.static yX3_noSheet, Cond.code yX3_noSheet cX3_noSheet 1 (some .boolean), Cond.constantLong RX3 138 (3), Cond.methodLink RX3 68 yX3_in, Cond.static yX3_in, Cond.code yX3_in cX3_in 6 (some .boolean), Cond.methodLink RX3 102 yX3_refused, Cond.instanceMethod yX3_refused, Cond.selects RX3 yX3_refused yX3_refused, Cond.code yX3_refused cX3_refused 2 (some .int), Cond.fieldLink RX3 57 "ChairBallotModel" "fault" "I", Cond.methodLink RX3 107 yX3_cellsBarred, Cond.instanceMethod yX3_cellsBarred]
def wsL_law_r7 : List Cond := [Cond.selects RX3 yX3_cellsBarred yX3_cellsBarred, Cond.code yX3_cellsBarred cX3_cellsBarred 6 (some .int), Cond.methodLink RX3 90 yX3_failed, Cond.instanceMethod yX3_failed, Cond.selects RX3 yX3_failed yX3_failed, Cond.code yX3_failed cX3_failed 2 (some .int), Cond.methodLink RX3 94 yX3_isBeyond, Cond.static yX3_isBeyond, Cond.code yX3_isBeyond cX3_isBeyond 4 (some .boolean), Cond.methodLink RX3 111 yX3_readsFront, Cond.instanceMethod yX3_readsFront, Cond.selects RX3 yX3_readsFront yX3_readsFront, Cond.code yX3_readsFront cX3_readsFront 4 (some .boolean), Cond.methodLink RX3 75 yX3_codeAt, Cond.instanceMethod yX3_codeAt, Cond.selects RX3 yX3_codeAt yX3_codeAt, Cond.code yX3_codeAt cX3_codeAt 3 (some .int), Cond.methodLink RX3 86 yX3_readsChair, Cond.instanceMethod yX3_readsChair, Cond.selects RX3 yX3_readsChair yX3_readsChair, Cond.code yX3_readsChair cX3_readsChair 7 (some .boolean), Cond.methodLink RX3 82 yX3_figure, Cond.instanceMethod yX3_figure, Cond.selects RX3 yX3_figure yX3_figure]
def wsL_law_r8 : List Cond := [Cond.code yX3_figure cX3_figure 8 (some .int), Cond.methodLink RL 18 yX2_ofChair, Cond.instanceMethod yX2_ofChair, Cond.selects RX2 yX2_ofChair yX2_ofChair, Cond.code yX2_ofChair cX2_ofChair 3 (some .int), Cond.methodLink RX2 78 yX0_has, Cond.instanceMethod yX0_has, Cond.selects RX0 yX0_has yX0_has, Cond.code yX0_has cX0_has 2 (some .boolean), Cond.methodLink RX2 93 yX0_isFolded, Cond.instanceMethod yX0_isFolded, Cond.selects RX0 yX0_isFolded yX0_isFolded, Cond.code yX0_isFolded cX0_isFolded 2 (some .boolean), Cond.methodLink RX2 96 yX0_votes, Cond.instanceMethod yX0_votes, Cond.selects RX0 yX0_votes yX0_votes, Cond.code yX0_votes cX0_votes 2 (some .int), Cond.methodLink RX0 45 yX0_isFolded, Cond.methodLink RX0 48 yX0_votesWhenOpen, Cond.instanceMethod yX0_votesWhenOpen, Cond.selects RX0 yX0_votesWhenOpen yX0_votesWhenOpen, Cond.code yX0_votesWhenOpen cX0_votesWhenOpen 2 (some .int), Cond.methodLink RX0 37 yX0_has, Cond.static yX2_votesAs]
def wsL_law_r9 : List Cond := [Cond.code yX2_votesAs cX2_votesAs 2 (some .int), Cond.methodLink RX2 99 yX0_side, Cond.instanceMethod yX0_side, Cond.selects RX0 yX0_side yX0_side, Cond.code yX0_side cX0_side 2 (some .int), Cond.methodLink RX0 52 yX0_meetsNext, Cond.instanceMethod yX0_meetsNext, Cond.selects RX0 yX0_meetsNext yX0_meetsNext, Cond.code yX0_meetsNext cX0_meetsNext 2 (some .boolean), Cond.methodLink RL 22 yX3_ofChair, Cond.instanceMethod yX3_ofChair, Cond.selects RX3 yX3_ofChair yX3_ofChair, Cond.code yX3_ofChair cX3_ofChair 3 (some .int), Cond.methodLink RX3 129 yX3_noChair, Cond.instanceMethod yX3_noChair, Cond.selects RX3 yX3_noChair yX3_noChair, Cond.code yX3_noChair cX3_noChair 2 (some .boolean), Cond.methodLink RX3 132 yX3_votesOf, Cond.instanceMethod yX3_votesOf, Cond.selects RX3 yX3_votesOf yX3_votesOf, Cond.code yX3_votesOf cX3_votesOf 2 (some .int), Cond.methodLink RX3 120 yX3_isIn, Cond.static yX3_isIn, Cond.code yX3_isIn cX3_isIn 2 (some .boolean)]
def wsL_law_r10 : List Cond := [Cond.methodLink RX3 123 yX3_votesOpen, Cond.instanceMethod yX3_votesOpen, Cond.selects RX3 yX3_votesOpen yX3_votesOpen, Cond.code yX3_votesOpen cX3_votesOpen 3 (some .int), Cond.methodLink RX3 135 yX3_countsAs, Cond.instanceMethod yX3_countsAs, Cond.selects RX3 yX3_countsAs yX3_countsAs, Cond.code yX3_countsAs cX3_countsAs 3 (some .int), Cond.methodLink RX3 126 yX3_meets, Cond.instanceMethod yX3_meets, Cond.selects RX3 yX3_meets yX3_meets, Cond.code yX3_meets cX3_meets 3 (some .boolean), Cond.methodLink RL 23 yX2_paint, Cond.instanceMethod yX2_paint, Cond.selects RX2 yX2_paint yX2_paint, Cond.code yX2_paint cX2_paint 4 (some .int), Cond.methodLink RL 26 yX3_paint, Cond.instanceMethod yX3_paint, Cond.selects RX3 yX3_paint yX3_paint, Cond.code yX3_paint cX3_paint 4 (some .int), Cond.methodLink RL 27 yX2_load, Cond.instanceMethod yX2_load, Cond.selects RX2 yX2_load yX2_load, Cond.code yX2_load cX2_load 4 (some .int)]
def wsL_law_r11 : List Cond := [Cond.methodLink RL 30 yX3_load, Cond.instanceMethod yX3_load, Cond.selects RX3 yX3_load yX3_load, Cond.code yX3_load cX3_load 4 (some .int), Cond.constantLong RX3 140 (9), Cond.methodLink RL 31 yX2_poll, Cond.instanceMethod yX2_poll, Cond.selects RX2 yX2_poll yX2_poll, Cond.code yX2_poll cX2_poll 2 (some .int), Cond.methodLink RX2 105 yX2_hasFront, Cond.instanceMethod yX2_hasFront, Cond.selects RX2 yX2_hasFront yX2_hasFront, Cond.code yX2_hasFront cX2_hasFront 1 (some .boolean), Cond.methodLink RX2 109 yX0_votesOf, Cond.instanceMethod yX0_votesOf, Cond.selects RX0 yX0_votesOf yX0_votesOf, Cond.code yX0_votesOf cX0_votesOf 2 (some .int), Cond.methodLink RX0 64 yX0_chairsOf, Cond.instanceMethod yX0_chairsOf, Cond.selects RX0 yX0_chairsOf yX0_chairsOf, Cond.code yX0_chairsOf cX0_chairsOf 4 (some .int), Cond.methodLink RX0 55 yX0_side, Cond.methodLink RX0 67 yX0_votesIn, Cond.instanceMethod yX0_votesIn]
def wsL_law_r12 : List Cond := [Cond.selects RX0 yX0_votesIn yX0_votesIn, Cond.code yX0_votesIn cX0_votesIn 4 (some .int), Cond.static yX2_isIn, Cond.code yX2_isIn cX2_isIn 2 (some .boolean), Cond.methodLink RX0 58 yX0_votes, Cond.methodLink RX2 112 yX0_isCarried, Cond.instanceMethod yX0_isCarried, Cond.selects RX0 yX0_isCarried yX0_isCarried, Cond.code yX0_isCarried cX0_isCarried 3 (some .boolean), Cond.methodLink RX0 61 yX0_tilt, Cond.instanceMethod yX0_tilt, Cond.selects RX0 yX0_tilt yX0_tilt, Cond.code yX0_tilt cX0_tilt 2 (some .int), Cond.methodLink RX2 115 yX0_chairsOf, Cond.methodLink RL 35 yX3_poll, Cond.instanceMethod yX3_poll, Cond.selects RX3 yX3_poll yX3_poll, Cond.code yX3_poll cX3_poll 2 (some .int), Cond.methodLink RX3 142 yX3_whoIs, Cond.instanceMethod yX3_whoIs, Cond.selects RX3 yX3_whoIs yX3_whoIs, Cond.code yX3_whoIs cX3_whoIs 4 (some .int), Cond.methodLink RX3 145 yX3_votesIn, Cond.instanceMethod yX3_votesIn]
def wsL_law_r13 : List Cond := [Cond.selects RX3 yX3_votesIn yX3_votesIn, Cond.code yX3_votesIn cX3_votesIn 4 (some .int), Cond.methodLink RX3 148 yX3_isCarried, Cond.instanceMethod yX3_isCarried, Cond.selects RX3 yX3_isCarried yX3_isCarried, Cond.code yX3_isCarried cX3_isCarried 1 (some .boolean), Cond.methodLink RL 36 yX2_turn, Cond.instanceMethod yX2_turn, Cond.selects RX2 yX2_turn yX2_turn, Cond.code yX2_turn cX2_turn 4 (some .int), Cond.methodLink RX2 139 yX0_turned, Cond.instanceMethod yX0_turned, Cond.selects RX0 yX0_turned yX0_turned, Cond.code yX0_turned cX0_turned 3 (some .boolean), Cond.methodLink RL 39 yX3_turn, Cond.instanceMethod yX3_turn, Cond.selects RX3 yX3_turn yX3_turn, Cond.code yX3_turn cX3_turn 4 (some .int), Cond.methodLink RL 40 yX2_gust, Cond.instanceMethod yX2_gust, Cond.selects RX2 yX2_gust yX2_gust, Cond.code yX2_gust cX2_gust 3 (some .int), Cond.methodLink RX2 142 yX0_blown, Cond.instanceMethod yX0_blown]
def wsL_law_r14 : List Cond := [Cond.selects RX0 yX0_blown yX0_blown, Cond.code yX0_blown cX0_blown 5 (some .int), Cond.methodLink RL 43 yX3_gust, Cond.instanceMethod yX3_gust, Cond.selects RX3 yX3_gust yX3_gust, Cond.code yX3_gust cX3_gust 3 (some .int), Cond.constantLong RX3 152 (10), Cond.methodLink RX3 154 yX3_blown, Cond.instanceMethod yX3_blown, Cond.selects RX3 yX3_blown yX3_blown, Cond.code yX3_blown cX3_blown 5 (some .int), Cond.methodLink RL 44 yX2_rain, Cond.instanceMethod yX2_rain, Cond.selects RX2 yX2_rain yX2_rain, Cond.code yX2_rain cX2_rain 1 (some .int), Cond.methodLink RX2 145 yX0_foldedByRain, Cond.instanceMethod yX0_foldedByRain, Cond.selects RX0 yX0_foldedByRain yX0_foldedByRain, Cond.code yX0_foldedByRain cX0_foldedByRain 2 (some .int), Cond.methodLink RX0 74 yJ6_bitCount_0f7a4, Cond.static yJ6_bitCount_0f7a4, Cond.initialized RJ6, Cond.code yJ6_bitCount_0f7a4 cJ6_bitCount_0f7a4 1 (some .int), Cond.constant RJ6 265 (1431655765)]
def wsL_law_r15 : List Cond := [Cond.constant RJ6 266 (858993459), Cond.constant RJ6 267 (252645135), Cond.methodLink RL 48 yX3_rain, Cond.instanceMethod yX3_rain, Cond.selects RX3 yX3_rain yX3_rain, Cond.code yX3_rain cX3_rain 2 (some .int), Cond.methodLink RX3 157 yX3_bits, Cond.static yX3_bits, Cond.code yX3_bits cX3_bits 3 (some .int), Cond.methodLink RX3 160 yX3_everyChair, Cond.instanceMethod yX3_everyChair, Cond.selects RX3 yX3_everyChair yX3_everyChair, Cond.code yX3_everyChair cX3_everyChair 1 (some .int), Cond.methodLink RL 49 yX2_open, Cond.instanceMethod yX2_open, Cond.selects RX2 yX2_open yX2_open, Cond.code yX2_open cX2_open 2 (some .int), Cond.methodLink RX2 149 yX0_opened, Cond.instanceMethod yX0_opened, Cond.selects RX0 yX0_opened yX0_opened, Cond.code yX0_opened cX0_opened 2 (some .boolean), Cond.methodLink RX2 152 yJ6_bitCount_0f7a4, Cond.methodLink RL 52 yX3_open, Cond.instanceMethod yX3_open]
def wsL_law_r16 : List Cond := [Cond.selects RX3 yX3_open yX3_open, Cond.code yX3_open cX3_open 2 (some .int), Cond.methodLink RL 53 yX2_day, Cond.instanceMethod yX2_day, Cond.selects RX2 yX2_day yX2_day, Cond.code yX2_day cX2_day 9 (some .int), Cond.methodLink RX2 157 yX2_isAskedOfDay, Cond.static yX2_isAskedOfDay, Cond.code yX2_isAskedOfDay cX2_isAskedOfDay 1 (some .boolean), Cond.methodLink RX2 160 yX2_refusalOfPairs, Cond.instanceMethod yX2_refusalOfPairs, Cond.selects RX2 yX2_refusalOfPairs yX2_refusalOfPairs, Cond.code yX2_refusalOfPairs cX2_refusalOfPairs 6 (some .int), Cond.methodLink RX2 167 yX2_refusalOfPair, Cond.instanceMethod yX2_refusalOfPair, Cond.selects RX2 yX2_refusalOfPair yX2_refusalOfPair, Cond.code yX2_refusalOfPair cX2_refusalOfPair 3 (some .int), Cond.methodLink RX2 163 yX2_answerOfDay, Cond.instanceMethod yX2_answerOfDay, Cond.selects RX2 yX2_answerOfDay yX2_answerOfDay, Cond.code yX2_answerOfDay cX2_answerOfDay 7 (some .int), Cond.methodLink RX2 170 yX0_becomes, Cond.instanceMethod yX0_becomes, Cond.selects RX0 yX0_becomes yX0_becomes]
def wsL_law_r17 : List Cond := [Cond.code yX0_becomes cX0_becomes 2 none, Cond.methodLink RX0 31 arraycopyName, Cond.native arraycopyName, Cond.static arraycopyName, Cond.initialized "java/lang/System", Cond.methodLink RX2 174 yX0_acted, Cond.instanceMethod yX0_acted, Cond.selects RX0 yX0_acted yX0_acted, Cond.code yX0_acted cX0_acted 3 (some .boolean), Cond.methodLink RX0 79 yX0_opened, Cond.methodLink RX0 82 yX0_foldedByRain, Cond.methodLink RX0 86 yX0_blown, Cond.methodLink RX0 89 yX0_turned, Cond.methodLink RL 57 yX3_day, Cond.instanceMethod yX3_day, Cond.selects RX3 yX3_day yX3_day, Cond.code yX3_day cX3_day 8 (some .int), Cond.constantLong RX3 180 (20), Cond.constantLong RX3 167 (4), Cond.constantLong RX3 182 (17), Cond.methodLink RX3 184 yX3_pairsBarred, Cond.instanceMethod yX3_pairsBarred, Cond.selects RX3 yX3_pairsBarred yX3_pairsBarred, Cond.code yX3_pairsBarred cX3_pairsBarred 7 (some .int)]
def wsL_law_r18 : List Cond := [Cond.constantLong RX3 169 (7), Cond.methodLink RX3 187 yX3_keepAll, Cond.instanceMethod yX3_keepAll, Cond.selects RX3 yX3_keepAll yX3_keepAll, Cond.code yX3_keepAll cX3_keepAll 2 none, Cond.fieldLink RX3 164 "ChairBallotModel" "foldedKept" "I", Cond.methodLink RX3 190 yX3_dayBy, Cond.instanceMethod yX3_dayBy, Cond.selects RX3 yX3_dayBy yX3_dayBy, Cond.code yX3_dayBy cX3_dayBy 7 (some .int), Cond.methodLink RX3 177 yX3_didPair, Cond.instanceMethod yX3_didPair, Cond.selects RX3 yX3_didPair yX3_didPair, Cond.code yX3_didPair cX3_didPair 3 (some .boolean), Cond.methodLink RX3 171 yX3_turn, Cond.methodLink RX3 174 yX3_open, Cond.methodLink RX3 194 yX3_bringBack, Cond.instanceMethod yX3_bringBack, Cond.selects RX3 yX3_bringBack yX3_bringBack, Cond.code yX3_bringBack cX3_bringBack 2 none, Cond.methodLink RL 58 yX2_swing, Cond.instanceMethod yX2_swing, Cond.selects RX2 yX2_swing yX2_swing, Cond.code yX2_swing cX2_swing 6 (some .int)]
def wsL_law_r19 : List Cond := [Cond.methodLink RX2 177 yX2_isCarriedIfAtSea, Cond.instanceMethod yX2_isCarriedIfAtSea, Cond.selects RX2 yX2_isCarriedIfAtSea yX2_isCarriedIfAtSea, Cond.code yX2_isCarriedIfAtSea cX2_isCarriedIfAtSea 3 (some .boolean), Cond.methodLink RX2 204 yX2_isIn, Cond.methodLink RL 61 yX3_swing, Cond.instanceMethod yX3_swing, Cond.selects RX3 yX3_swing yX3_swing, Cond.code yX3_swing cX3_swing 4 (some .int), Cond.methodLink RL 62 yX2_blow, Cond.instanceMethod yX2_blow, Cond.selects RX2 yX2_blow yX2_blow, Cond.code yX2_blow cX2_blow 3 (some .int), Cond.methodLink RL 65 yX3_blow, Cond.instanceMethod yX3_blow, Cond.selects RX3 yX3_blow yX3_blow, Cond.code yX3_blow cX3_blow 4 (some .int), Cond.methodLink RL 66 yX2_wards, Cond.instanceMethod yX2_wards, Cond.selects RX2 yX2_wards yX2_wards, Cond.code yX2_wards cX2_wards 4 (some .int), Cond.methodLink RX2 180 yX0_tilt, Cond.methodLink RX2 183 yX2_fairestCuts, Cond.instanceMethod yX2_fairestCuts]
def wsL_law_r20 : List Cond := [Cond.selects RX2 yX2_fairestCuts yX2_fairestCuts, Cond.code yX2_fairestCuts cX2_fairestCuts 6 (some .int), Cond.methodLink RX2 186 yX2_wardsWon, Cond.instanceMethod yX2_wardsWon, Cond.selects RX2 yX2_wardsWon yX2_wardsWon, Cond.code yX2_wardsWon cX2_wardsWon 5 (some .int), Cond.methodLink RX2 207 yX2_beginsWard, Cond.instanceMethod yX2_beginsWard, Cond.selects RX2 yX2_beginsWard yX2_beginsWard, Cond.code yX2_beginsWard cX2_beginsWard 3 (some .boolean), Cond.methodLink RX2 189 yX2_firstOfWard, Cond.instanceMethod yX2_firstOfWard, Cond.selects RX2 yX2_firstOfWard yX2_firstOfWard, Cond.code yX2_firstOfWard cX2_firstOfWard 5 (some .int), Cond.methodLink RL 69 yX3_wards, Cond.instanceMethod yX3_wards, Cond.selects RX3 yX3_wards yX3_wards, Cond.code yX3_wards cX3_wards 8 (some .int), Cond.constantLong RX3 197 (8), Cond.constantLong RX3 199 (-1), Cond.methodLink RX3 201 yX3_wonBy, Cond.instanceMethod yX3_wonBy, Cond.selects RX3 yX3_wonBy yX3_wonBy, Cond.code yX3_wonBy cX3_wonBy 6 (some .int)]
def wsL_law_r21 : List Cond := [Cond.methodLink RX3 204 yX3_isAhead, Cond.static yX3_isAhead, Cond.code yX3_isAhead cX3_isAhead 3 (some .boolean), Cond.methodLink RX3 207 yX3_beginOf, Cond.static yX3_beginOf, Cond.code yX3_beginOf cX3_beginOf 4 (some .int), Cond.methodLink RL 70 yX2_power, Cond.instanceMethod yX2_power, Cond.selects RX2 yX2_power yX2_power, Cond.code yX2_power cX2_power 8 (some .long), Cond.constantLong RX2 195 (-9223372036854775808), Cond.methodLink RX2 192 yX2_isUpperOrLower, Cond.static yX2_isUpperOrLower, Cond.code yX2_isUpperOrLower cX2_isUpperOrLower 1 (some .boolean), Cond.methodLink RX2 197 yX0_votesOfStripes, Cond.instanceMethod yX0_votesOfStripes, Cond.selects RX0 yX0_votesOfStripes yX0_votesOfStripes, Cond.code yX0_votesOfStripes cX0_votesOfStripes 4 (some .int), Cond.methodLink RX2 200 yX2_share, Cond.static yX2_share, Cond.code yX2_share cX2_share 6 (some .long), Cond.methodLink RL 74 yX3_power, Cond.instanceMethod yX3_power, Cond.selects RX3 yX3_power yX3_power]
def wsL_law_r22 : List Cond := [Cond.code yX3_power cX3_power 8 (some .long), Cond.methodLink RX3 61 yX3_lost, Cond.static yX3_lost, Cond.code yX3_lost cX3_lost 0 (some .long), Cond.constantLong RX3 55 (-9223372036854775808), Cond.methodLink RX3 210 yX3_votesBy, Cond.instanceMethod yX3_votesBy, Cond.selects RX3 yX3_votesBy yX3_votesBy, Cond.code yX3_votesBy cX3_votesBy 4 (some .int), Cond.methodLink RX3 213 yX3_share, Cond.static yX3_share, Cond.code yX3_share cX3_share 11 (some .long), Cond.methodLink RL 75 yX2_reading, Cond.instanceMethod yX2_reading, Cond.selects RX2 yX2_reading yX2_reading, Cond.code yX2_reading cX2_reading 3 (some .int), Cond.methodLink RL 78 yX3_reading, Cond.instanceMethod yX3_reading, Cond.selects RX3 yX3_reading yX3_reading, Cond.code yX3_reading cX3_reading 3 (some .int), Cond.methodLink RL 79 yX2_back, Cond.instanceMethod yX2_back, Cond.selects RX2 yX2_back yX2_back, Cond.code yX2_back cX2_back 2 (some .int)]
def wsL_law_r23 : List Cond := [Cond.methodLink RL 82 yX3_back, Cond.instanceMethod yX3_back, Cond.selects RX3 yX3_back yX3_back, Cond.code yX3_back cX3_back 2 (some .int), Cond.methodLink RL 83 yX2_weights, Cond.instanceMethod yX2_weights, Cond.selects RX2 yX2_weights yX2_weights, Cond.code yX2_weights cX2_weights 4 (some .int), Cond.methodLink RX2 210 yX2_allReadingsAreSo, Cond.instanceMethod yX2_allReadingsAreSo, Cond.selects RX2 yX2_allReadingsAreSo yX2_allReadingsAreSo, Cond.code yX2_allReadingsAreSo cX2_allReadingsAreSo 7 (some .boolean), Cond.methodLink RX2 220 yX2_votesAs, Cond.methodLink RX2 223 yX0_votesWhenOpen, Cond.methodLink RL 86 yX3_weights, Cond.instanceMethod yX3_weights, Cond.selects RX3 yX3_weights yX3_weights, Cond.code yX3_weights cX3_weights 5 (some .int), Cond.methodLink RX3 217 yX3_areSo, Cond.instanceMethod yX3_areSo, Cond.selects RX3 yX3_areSo yX3_areSo, Cond.code yX3_areSo cX3_areSo 3 (some .boolean), Cond.methodLink RL 87 yX2_kinds, Cond.instanceMethod yX2_kinds]
def wsL_law_r24 : List Cond := [Cond.selects RX2 yX2_kinds yX2_kinds, Cond.code yX2_kinds cX2_kinds 4 (some .int), Cond.methodLink RL 90 yX3_kinds, Cond.instanceMethod yX3_kinds, Cond.selects RX3 yX3_kinds yX3_kinds, Cond.code yX3_kinds cX3_kinds 5 (some .int), Cond.methodLink RL 91 yX2_odds, Cond.instanceMethod yX2_odds, Cond.selects RX2 yX2_odds yX2_odds, Cond.code yX2_odds cX2_odds 4 (some .long), Cond.methodLink RX2 214 yX2_waysThatCarry, Cond.instanceMethod yX2_waysThatCarry, Cond.selects RX2 yX2_waysThatCarry yX2_waysThatCarry, Cond.code yX2_waysThatCarry cX2_waysThatCarry 5 (some .int), Cond.methodLink RX2 226 yX0_votesIn, Cond.methodLink RX2 217 yX2_waysDecidedBy, Cond.instanceMethod yX2_waysDecidedBy, Cond.selects RX2 yX2_waysDecidedBy yX2_waysDecidedBy, Cond.code yX2_waysDecidedBy cX2_waysDecidedBy 8 (some .int), Cond.methodLink RL 94 yX3_odds, Cond.instanceMethod yX3_odds, Cond.selects RX3 yX3_odds yX3_odds, Cond.code yX3_odds cX3_odds 10 (some .long), Cond.methodLink RX3 220 yX3_moreBy]
def wsL_law_r25 : List Cond := [Cond.instanceMethod yX3_moreBy, Cond.selects RX3 yX3_moreBy yX3_moreBy, Cond.code yX3_moreBy cX3_moreBy 4 (some .int), Cond.methodLink RL 95 yX2_sheet, Cond.instanceMethod yX2_sheet, Cond.selects RX2 yX2_sheet yX2_sheet, Cond.code yX2_sheet cX2_sheet 5 (some .int), Cond.methodLink RX2 229 yX1_getsRow, Cond.instanceMethod yX1_getsRow, Cond.selects RX1 yX1_getsRow yX1_getsRow, Cond.code yX1_getsRow cX1_getsRow 4 none, Cond.methodLink RX1 26 Lib.Math.min.name, Cond.methodLink RL 99 yX3_sheet, Cond.instanceMethod yX3_sheet, Cond.selects RX3 yX3_sheet yX3_sheet, Cond.code yX3_sheet cX3_sheet 5 (some .int), Cond.methodLink RL 100 yX2_lose, Cond.instanceMethod yX2_lose, Cond.selects RX2 yX2_lose yX2_lose, Cond.code yX2_lose cX2_lose 4 (some .int), Cond.fieldLink RX2 233 "ChairBallot$Sheet" "hasRow" "Z", Cond.methodLink RL 103 yX3_lose, Cond.instanceMethod yX3_lose, Cond.selects RX3 yX3_lose yX3_lose]
def wsL_law_r26 : List Cond := [Cond.code yX3_lose cX3_lose 3 (some .int), Cond.methodLink RL 104 yX2_put, Cond.instanceMethod yX2_put, Cond.selects RX2 yX2_put yX2_put, Cond.code yX2_put cX2_put 5 (some .int), Cond.methodLink RX2 237 yX1_becomesAt, Cond.instanceMethod yX1_becomesAt, Cond.selects RX1 yX1_becomesAt yX1_becomesAt, Cond.code yX1_becomesAt cX1_becomesAt 3 none, Cond.methodLink RX1 36 yX1_cut, Cond.instanceMethod yX1_cut, Cond.selects RX1 yX1_cut yX1_cut, Cond.code yX1_cut cX1_cut 2 (some .int), Cond.methodLink RL 107 yX3_put, Cond.instanceMethod yX3_put, Cond.selects RX3 yX3_put yX3_put, Cond.code yX3_put cX3_put 4 (some .int), Cond.methodLink RX3 223 yX3_noCell, Cond.instanceMethod yX3_noCell, Cond.selects RX3 yX3_noCell yX3_noCell, Cond.code yX3_noCell cX3_noCell 3 (some .int), Cond.methodLink RL 108 yX2_cell, Cond.instanceMethod yX2_cell, Cond.selects RX2 yX2_cell yX2_cell]
def wsL_law_r27 : List Cond := [Cond.code yX2_cell cX2_cell 5 (some .long), Cond.methodLink RL 112 yX3_cell, Cond.instanceMethod yX3_cell, Cond.selects RX3 yX3_cell yX3_cell, Cond.code yX3_cell cX3_cell 4 (some .long), Cond.methodLink RX3 226 yX3_failedLong, Cond.instanceMethod yX3_failedLong, Cond.selects RX3 yX3_failedLong yX3_failedLong, Cond.code yX3_failedLong cX3_failedLong 2 (some .long), Cond.methodLink RL 113 yX2_copy, Cond.instanceMethod yX2_copy, Cond.selects RX2 yX2_copy yX2_copy, Cond.code yX2_copy cX2_copy 8 (some .int), Cond.fieldLink RX2 240 "ChairBallot$Sheet" "lane" "I", Cond.fieldLink RX2 243 "ChairBallot$Sheet" "cells" "[I", Cond.methodLink RX2 246 arraycopyName, Cond.methodLink RL 116 yX3_copy, Cond.instanceMethod yX3_copy, Cond.selects RX3 yX3_copy yX3_copy, Cond.code yX3_copy cX3_copy 7 (some .int), Cond.methodLink RL 117 yX2_tell, Cond.instanceMethod yX2_tell, Cond.selects RX2 yX2_tell yX2_tell, Cond.code yX2_tell cX2_tell 2 (some .int)]
def wsL_law_r28 : List Cond := [Cond.methodLink RX2 252 yX2_toldAsPlain, Cond.instanceMethod yX2_toldAsPlain, Cond.selects RX2 yX2_toldAsPlain yX2_toldAsPlain, Cond.code yX2_toldAsPlain cX2_toldAsPlain 2 (some .int), Cond.methodLink RX2 261 yX2_leaveInTrace, Cond.instanceMethod yX2_leaveInTrace, Cond.selects RX2 yX2_leaveInTrace yX2_leaveInTrace, Cond.code yX2_leaveInTrace cX2_leaveInTrace 2 none, Cond.methodLink RX2 255 yX2_toldAsShaded, Cond.instanceMethod yX2_toldAsShaded, Cond.selects RX2 yX2_toldAsShaded yX2_toldAsShaded, Cond.code yX2_toldAsShaded cX2_toldAsShaded 2 (some .int), Cond.methodLink RX2 258 yX2_toldAsBroken, Cond.instanceMethod yX2_toldAsBroken, Cond.selects RX2 yX2_toldAsBroken yX2_toldAsBroken, Cond.code yX2_toldAsBroken cX2_toldAsBroken 3 (some .int), Cond.methodLink RL 120 yX3_tell, Cond.instanceMethod yX3_tell, Cond.selects RX3 yX3_tell yX3_tell, Cond.code yX3_tell cX3_tell 4 (some .int), Cond.methodLink RX3 233 yX3_traced, Cond.instanceMethod yX3_traced, Cond.selects RX3 yX3_traced yX3_traced, Cond.code yX3_traced cX3_traced 2 none]
def wsL_law_r29 : List Cond := [Cond.fieldLink RX3 230 "ChairBallotModel" "traceNow" "I", Cond.methodLink RL 121 yX2_chalk, Cond.instanceMethod yX2_chalk, Cond.selects RX2 yX2_chalk yX2_chalk, Cond.code yX2_chalk cX2_chalk 2 (some .int), Cond.methodLink RL 124 yX3_chalk, Cond.instanceMethod yX3_chalk, Cond.selects RX3 yX3_chalk yX3_chalk, Cond.code yX3_chalk cX3_chalk 2 (some .int), Cond.methodLink RL 125 yX2_as, Cond.instanceMethod yX2_as, Cond.selects RX2 yX2_as yX2_as, Cond.code yX2_as cX2_as 3 (some .int), Cond.methodLink RL 128 yX3_as, Cond.instanceMethod yX3_as, Cond.selects RX3 yX3_as yX3_as, Cond.code yX3_as cX3_as 3 (some .int), Cond.methodLink RL 129 yX2_trace, Cond.instanceMethod yX2_trace, Cond.selects RX2 yX2_trace yX2_trace, Cond.code yX2_trace cX2_trace 1 (some .int), Cond.methodLink RL 132 yX3_trace, Cond.instanceMethod yX3_trace, Cond.selects RX3 yX3_trace yX3_trace]
def wsL_law_r30 : List Cond := [Cond.code yX3_trace cX3_trace 1 (some .int), Cond.methodLink RL 133 yX2_fault, Cond.instanceMethod yX2_fault, Cond.selects RX2 yX2_fault yX2_fault, Cond.code yX2_fault cX2_fault 1 (some .int), Cond.methodLink RL 136 yX3_fault, Cond.instanceMethod yX3_fault, Cond.selects RX3 yX3_fault yX3_fault, Cond.code yX3_fault cX3_fault 1 (some .int), Cond.methodLink RL 137 yX2_many, Cond.instanceMethod yX2_many, Cond.selects RX2 yX2_many yX2_many, Cond.code yX2_many cX2_many 2 (some .int), Cond.methodLink RL 140 yX3_many, Cond.instanceMethod yX3_many, Cond.selects RX3 yX3_many yX3_many, Cond.code yX3_many cX3_many 2 (some .int)]
def wsL_law : List Cond := (wsL_law_r1 ++ (wsL_law_r2 ++ (wsL_law_r3 ++ (wsL_law_r4 ++ (wsL_law_r5 ++ (wsL_law_r6 ++ (wsL_law_r7 ++ (wsL_law_r8 ++ (wsL_law_r9 ++ (wsL_law_r10 ++ (wsL_law_r11 ++ (wsL_law_r12 ++ (wsL_law_r13 ++ (wsL_law_r14 ++ (wsL_law_r15 ++ (wsL_law_r16 ++ (wsL_law_r17 ++ (wsL_law_r18 ++ (wsL_law_r19 ++ (wsL_law_r20 ++ (wsL_law_r21 ++ (wsL_law_r22 ++ (wsL_law_r23 ++ (wsL_law_r24 ++ (wsL_law_r25 ++ (wsL_law_r26 ++ (wsL_law_r27 ++ (wsL_law_r28 ++ (wsL_law_r29 ++ wsL_law_r30))))))))))))))))))))))))))))) ++ wsX20 ++ wsX30 ++ wsX00 ++ wsX10 ++ ([] : List Cond)
abbrev vwCl : List vw_C := [(RX0, TX0, 6), (RX1, TX1, 4), (RX2, TX2, 9), (RX3, TX3, 23)]
end
section
theorem dX0_init_0 : decode cX0_init 0 = .ok (.aload_n 0, 1) := by decide +kernel
theorem dX0_init_1 : decode cX0_init 1 = .ok (.invokespecial 3, 3) := by decide +kernel
theorem dX0_init_4 : decode cX0_init 4 = .ok (.aload_n 0, 1) := by decide +kernel
theorem dX0_init_5 : decode cX0_init 5 = .ok (.bipush 8, 2) := by decide +kernel
theorem dX0_init_7 : decode cX0_init 7 = .ok (.newarray .int, 2) := by decide +kernel
theorem dX0_init_9 : decode cX0_init 9 = .ok (.putfield 9, 3) := by decide +kernel
theorem dX0_init_12 : decode cX0_init 12 = .ok (.aload_n 0, 1) := by decide +kernel
theorem dX0_init_13 : decode cX0_init 13 = .ok (.bipush 8, 2) := by decide +kernel
theorem dX0_init_15 : decode cX0_init 15 = .ok (.newarray .int, 2) := by decide +kernel
theorem dX0_init_17 : decode cX0_init 17 = .ok (.putfield 15, 3) := by decide +kernel
theorem dX0_init_20 : decode cX0_init 20 = .ok (.aload_n 0, 1) := by decide +kernel
theorem dX0_init_21 : decode cX0_init 21 = .ok (.bipush 8, 2) := by decide +kernel
theorem dX0_init_23 : decode cX0_init 23 = .ok (.newarray .int, 2) := by decide +kernel
theorem dX0_init_25 : decode cX0_init 25 = .ok (.putfield 18, 3) := by decide +kernel
theorem dX0_init_28 : decode cX0_init 28 = .ok (.aload_n 0, 1) := by decide +kernel
theorem dX0_init_29 : decode cX0_init 29 = .ok (.bipush 8, 2) := by decide +kernel
theorem dX0_init_31 : decode cX0_init 31 = .ok (.newarray .int, 2) := by decide +kernel
theorem dX0_init_33 : decode cX0_init 33 = .ok (.putfield 21, 3) := by decide +kernel
theorem dX0_init_36 : decode cX0_init 36 = .ok (.aload_n 0, 1) := by decide +kernel
theorem dX0_init_37 : decode cX0_init 37 = .ok (.iconst 0, 1) := by decide +kernel
theorem dX0_init_38 : decode cX0_init 38 = .ok (.putfield 24, 3) := by decide +kernel
theorem dX0_init_41 : decode cX0_init 41 = .ok (.aload_n 0, 1) := by decide +kernel
theorem dX0_init_42 : decode cX0_init 42 = .ok (.iconst 0, 1) := by decide +kernel
theorem dX0_init_43 : decode cX0_init 43 = .ok (.putfield 28, 3) := by decide +kernel
theorem dX0_init_46 : decode cX0_init 46 = .ok (.return_, 1) := by decide +kernel
theorem dX0_has_0 : decode cX0_has 0 = .ok (.iload_n 1, 1) := by decide +kernel
theorem dX0_has_1 : decode cX0_has 1 = .ok (.ifCond .lt 15, 3) := by decide +kernel
theorem dX0_has_4 : decode cX0_has 4 = .ok (.iload_n 1, 1) := by decide +kernel
theorem dX0_has_5 : decode cX0_has 5 = .ok (.aload_n 0, 1) := by decide +kernel
theorem dX0_has_6 : decode cX0_has 6 = .ok (.getfield 24, 3) := by decide +kernel
theorem dX0_has_9 : decode cX0_has 9 = .ok (.if_icmp .ge 7, 3) := by decide +kernel
theorem dX0_has_12 : decode cX0_has 12 = .ok (.iconst 1, 1) := by decide +kernel
theorem dX0_has_13 : decode cX0_has 13 = .ok (.goto 4, 3) := by decide +kernel
theorem dX0_has_16 : decode cX0_has 16 = .ok (.iconst 0, 1) := by decide +kernel
theorem dX0_has_17 : decode cX0_has 17 = .ok (.ireturn, 1) := by decide +kernel
theorem dX0_isFolded_0 : decode cX0_isFolded 0 = .ok (.aload_n 0, 1) := by decide +kernel
theorem dX0_isFolded_1 : decode cX0_isFolded 1 = .ok (.getfield 28, 3) := by decide +kernel
theorem dX0_isFolded_4 : decode cX0_isFolded 4 = .ok (.iload_n 1, 1) := by decide +kernel
theorem dX0_isFolded_5 : decode cX0_isFolded 5 = .ok (.ishr, 1) := by decide +kernel
theorem dX0_isFolded_6 : decode cX0_isFolded 6 = .ok (.iconst 1, 1) := by decide +kernel
theorem dX0_isFolded_7 : decode cX0_isFolded 7 = .ok (.iand, 1) := by decide +kernel
theorem dX0_isFolded_8 : decode cX0_isFolded 8 = .ok (.ifCond .eq 7, 3) := by decide +kernel
theorem dX0_isFolded_11 : decode cX0_isFolded 11 = .ok (.iconst 1, 1) := by decide +kernel
theorem dX0_isFolded_12 : decode cX0_isFolded 12 = .ok (.goto 4, 3) := by decide +kernel
theorem dX0_isFolded_15 : decode cX0_isFolded 15 = .ok (.iconst 0, 1) := by decide +kernel
theorem dX0_isFolded_16 : decode cX0_isFolded 16 = .ok (.ireturn, 1) := by decide +kernel
theorem dX0_becomes_0 : decode cX0_becomes 0 = .ok (.aload_n 1, 1) := by decide +kernel
theorem dX0_becomes_1 : decode cX0_becomes 1 = .ok (.getfield 9, 3) := by decide +kernel
theorem dX0_becomes_4 : decode cX0_becomes 4 = .ok (.iconst 0, 1) := by decide +kernel
theorem dX0_becomes_5 : decode cX0_becomes 5 = .ok (.aload_n 0, 1) := by decide +kernel
theorem dX0_becomes_6 : decode cX0_becomes 6 = .ok (.getfield 9, 3) := by decide +kernel
theorem dX0_becomes_9 : decode cX0_becomes 9 = .ok (.iconst 0, 1) := by decide +kernel
theorem dX0_becomes_10 : decode cX0_becomes 10 = .ok (.bipush 8, 2) := by decide +kernel
theorem dX0_becomes_12 : decode cX0_becomes 12 = .ok (.invokestatic 31, 3) := by decide +kernel
theorem dX0_becomes_15 : decode cX0_becomes 15 = .ok (.aload_n 1, 1) := by decide +kernel
theorem dX0_becomes_16 : decode cX0_becomes 16 = .ok (.getfield 15, 3) := by decide +kernel
theorem dX0_becomes_19 : decode cX0_becomes 19 = .ok (.iconst 0, 1) := by decide +kernel
theorem dX0_becomes_20 : decode cX0_becomes 20 = .ok (.aload_n 0, 1) := by decide +kernel
theorem dX0_becomes_21 : decode cX0_becomes 21 = .ok (.getfield 15, 3) := by decide +kernel
theorem dX0_becomes_24 : decode cX0_becomes 24 = .ok (.iconst 0, 1) := by decide +kernel
theorem dX0_becomes_25 : decode cX0_becomes 25 = .ok (.bipush 8, 2) := by decide +kernel
theorem dX0_becomes_27 : decode cX0_becomes 27 = .ok (.invokestatic 31, 3) := by decide +kernel
theorem dX0_becomes_30 : decode cX0_becomes 30 = .ok (.aload_n 1, 1) := by decide +kernel
theorem dX0_becomes_31 : decode cX0_becomes 31 = .ok (.getfield 18, 3) := by decide +kernel
theorem dX0_becomes_34 : decode cX0_becomes 34 = .ok (.iconst 0, 1) := by decide +kernel
theorem dX0_becomes_35 : decode cX0_becomes 35 = .ok (.aload_n 0, 1) := by decide +kernel
theorem dX0_becomes_36 : decode cX0_becomes 36 = .ok (.getfield 18, 3) := by decide +kernel
theorem dX0_becomes_39 : decode cX0_becomes 39 = .ok (.iconst 0, 1) := by decide +kernel
theorem dX0_becomes_40 : decode cX0_becomes 40 = .ok (.bipush 8, 2) := by decide +kernel
theorem dX0_becomes_42 : decode cX0_becomes 42 = .ok (.invokestatic 31, 3) := by decide +kernel
theorem dX0_becomes_45 : decode cX0_becomes 45 = .ok (.aload_n 1, 1) := by decide +kernel
theorem dX0_becomes_46 : decode cX0_becomes 46 = .ok (.getfield 21, 3) := by decide +kernel
theorem dX0_becomes_49 : decode cX0_becomes 49 = .ok (.iconst 0, 1) := by decide +kernel
theorem dX0_becomes_50 : decode cX0_becomes 50 = .ok (.aload_n 0, 1) := by decide +kernel
theorem dX0_becomes_51 : decode cX0_becomes 51 = .ok (.getfield 21, 3) := by decide +kernel
theorem dX0_becomes_54 : decode cX0_becomes 54 = .ok (.iconst 0, 1) := by decide +kernel
theorem dX0_becomes_55 : decode cX0_becomes 55 = .ok (.bipush 8, 2) := by decide +kernel
theorem dX0_becomes_57 : decode cX0_becomes 57 = .ok (.invokestatic 31, 3) := by decide +kernel
theorem dX0_becomes_60 : decode cX0_becomes 60 = .ok (.aload_n 0, 1) := by decide +kernel
theorem dX0_becomes_61 : decode cX0_becomes 61 = .ok (.aload_n 1, 1) := by decide +kernel
theorem dX0_becomes_62 : decode cX0_becomes 62 = .ok (.getfield 24, 3) := by decide +kernel
theorem dX0_becomes_65 : decode cX0_becomes 65 = .ok (.putfield 24, 3) := by decide +kernel
theorem dX0_becomes_68 : decode cX0_becomes 68 = .ok (.aload_n 0, 1) := by decide +kernel
theorem dX0_becomes_69 : decode cX0_becomes 69 = .ok (.aload_n 1, 1) := by decide +kernel
theorem dX0_becomes_70 : decode cX0_becomes 70 = .ok (.getfield 28, 3) := by decide +kernel
theorem dX0_becomes_73 : decode cX0_becomes 73 = .ok (.putfield 28, 3) := by decide +kernel
theorem dX0_becomes_76 : decode cX0_becomes 76 = .ok (.return_, 1) := by decide +kernel
set_option maxRecDepth 20000 in
theorem ggX0_votesWhenOpen_X0_has : GoodIn wsX0_votesWhenOpen wsX0_has := goodIn_r _ [7, 8, 12, 13, 14, 15, 16, 17] (by decide +kernel) (by decide +kernel)
set_option maxRecDepth 20000 in
theorem gX0_votesWhenOpen_X0_has : GoodIn wsX0_votesWhenOpen (wsV RX0 37 RX0 yX0_has wsX0_has) := goodIn_app (goodIn_of _ (by decide +kernel)) ggX0_votesWhenOpen_X0_has
set_option maxRecDepth 20000 in
theorem ggX0_votesWhenOpen_X2_votesAs : GoodIn wsX0_votesWhenOpen wsX2_votesAs := goodIn_r _ [11] (by decide +kernel) (by decide +kernel)
set_option maxRecDepth 20000 in
theorem gX0_votesWhenOpen_X2_votesAs_n41 : GoodIn wsX0_votesWhenOpen (wsX2_votesAs) := ggX0_votesWhenOpen_X2_votesAs
theorem dX0_votesWhenOpen_0 : decode cX0_votesWhenOpen 0 = .ok (.aload_n 0, 1) := by decide +kernel
theorem dX0_votesWhenOpen_1 : decode cX0_votesWhenOpen 1 = .ok (.iload_n 1, 1) := by decide +kernel
theorem dX0_votesWhenOpen_2 : decode cX0_votesWhenOpen 2 = .ok (.invokevirtual 37, 3) := by decide +kernel
theorem dX0_votesWhenOpen_5 : decode cX0_votesWhenOpen 5 = .ok (.ifCond .eq 21, 3) := by decide +kernel
theorem dX0_votesWhenOpen_8 : decode cX0_votesWhenOpen 8 = .ok (.aload_n 0, 1) := by decide +kernel
theorem dX0_votesWhenOpen_9 : decode cX0_votesWhenOpen 9 = .ok (.getfield 9, 3) := by decide +kernel
theorem dX0_votesWhenOpen_12 : decode cX0_votesWhenOpen 12 = .ok (.iload_n 1, 1) := by decide +kernel
theorem dX0_votesWhenOpen_13 : decode cX0_votesWhenOpen 13 = .ok (.iaload, 1) := by decide +kernel
theorem dX0_votesWhenOpen_14 : decode cX0_votesWhenOpen 14 = .ok (.aload_n 0, 1) := by decide +kernel
theorem dX0_votesWhenOpen_15 : decode cX0_votesWhenOpen 15 = .ok (.getfield 18, 3) := by decide +kernel
theorem dX0_votesWhenOpen_18 : decode cX0_votesWhenOpen 18 = .ok (.iload_n 1, 1) := by decide +kernel
theorem dX0_votesWhenOpen_19 : decode cX0_votesWhenOpen 19 = .ok (.iaload, 1) := by decide +kernel
theorem dX0_votesWhenOpen_20 : decode cX0_votesWhenOpen 20 = .ok (.invokestatic 41, 3) := by decide +kernel
theorem dX0_votesWhenOpen_23 : decode cX0_votesWhenOpen 23 = .ok (.goto 4, 3) := by decide +kernel
theorem dX0_votesWhenOpen_26 : decode cX0_votesWhenOpen 26 = .ok (.iconst 0, 1) := by decide +kernel
theorem dX0_votesWhenOpen_27 : decode cX0_votesWhenOpen 27 = .ok (.ireturn, 1) := by decide +kernel
set_option maxRecDepth 20000 in
theorem ggX0_votes_X0_isFolded : GoodIn wsX0_votes wsX0_isFolded := goodIn_r _ [5, 6, 21, 22, 23, 24, 25, 26] (by decide +kernel) (by decide +kernel)
set_option maxRecDepth 20000 in
theorem gX0_votes_X0_isFolded : GoodIn wsX0_votes (wsV RX0 45 RX0 yX0_isFolded wsX0_isFolded) := goodIn_app (goodIn_of _ (by decide +kernel)) ggX0_votes_X0_isFolded
set_option maxRecDepth 20000 in
theorem ggX0_votes_X0_votesWhenOpen : GoodIn wsX0_votes wsX0_votesWhenOpen := goodIn_r _ [10, 11, 12, 13, 14, 15, 4, 16, 17, 18, 19, 20, 21, 22, 23, 24, 25, 26] (by decide +kernel) (by decide +kernel)
set_option maxRecDepth 20000 in
theorem gX0_votes_X0_votesWhenOpen : GoodIn wsX0_votes (wsV RX0 48 RX0 yX0_votesWhenOpen wsX0_votesWhenOpen) := goodIn_app (goodIn_of _ (by decide +kernel)) ggX0_votes_X0_votesWhenOpen
theorem dX0_votes_0 : decode cX0_votes 0 = .ok (.aload_n 0, 1) := by decide +kernel
theorem dX0_votes_1 : decode cX0_votes 1 = .ok (.iload_n 1, 1) := by decide +kernel
theorem dX0_votes_2 : decode cX0_votes 2 = .ok (.invokevirtual 45, 3) := by decide +kernel
theorem dX0_votes_5 : decode cX0_votes 5 = .ok (.ifCond .eq 7, 3) := by decide +kernel
theorem dX0_votes_8 : decode cX0_votes 8 = .ok (.iconst 0, 1) := by decide +kernel
theorem dX0_votes_9 : decode cX0_votes 9 = .ok (.goto 8, 3) := by decide +kernel
theorem dX0_votes_12 : decode cX0_votes 12 = .ok (.aload_n 0, 1) := by decide +kernel
theorem dX0_votes_13 : decode cX0_votes 13 = .ok (.iload_n 1, 1) := by decide +kernel
theorem dX0_votes_14 : decode cX0_votes 14 = .ok (.invokevirtual 48, 3) := by decide +kernel
theorem dX0_votes_17 : decode cX0_votes 17 = .ok (.ireturn, 1) := by decide +kernel
set_option maxRecDepth 20000 in
theorem ggX0_meetsNext_X0_has : GoodIn wsX0_meetsNext wsX0_has := goodIn_r _ [6, 7, 13, 14, 15, 16, 17, 18] (by decide +kernel) (by decide +kernel)
set_option maxRecDepth 20000 in
theorem gX0_meetsNext_X0_has : GoodIn wsX0_meetsNext (wsV RX0 37 RX0 yX0_has wsX0_has) := goodIn_app (goodIn_of _ (by decide +kernel)) ggX0_meetsNext_X0_has
set_option maxRecDepth 20000 in
theorem ggX0_meetsNext_X0_isFolded : GoodIn wsX0_meetsNext wsX0_isFolded := goodIn_r _ [11, 12, 13, 14, 15, 16, 17, 18] (by decide +kernel) (by decide +kernel)
set_option maxRecDepth 20000 in
theorem gX0_meetsNext_X0_isFolded : GoodIn wsX0_meetsNext (wsV RX0 45 RX0 yX0_isFolded wsX0_isFolded) := goodIn_app (goodIn_of _ (by decide +kernel)) ggX0_meetsNext_X0_isFolded
theorem dX0_meetsNext_0 : decode cX0_meetsNext 0 = .ok (.aload_n 0, 1) := by decide +kernel
theorem dX0_meetsNext_1 : decode cX0_meetsNext 1 = .ok (.iload_n 1, 1) := by decide +kernel
theorem dX0_meetsNext_2 : decode cX0_meetsNext 2 = .ok (.invokevirtual 37, 3) := by decide +kernel
theorem dX0_meetsNext_5 : decode cX0_meetsNext 5 = .ok (.ifCond .eq 57, 3) := by decide +kernel
theorem dX0_meetsNext_8 : decode cX0_meetsNext 8 = .ok (.aload_n 0, 1) := by decide +kernel
theorem dX0_meetsNext_9 : decode cX0_meetsNext 9 = .ok (.iload_n 1, 1) := by decide +kernel
theorem dX0_meetsNext_10 : decode cX0_meetsNext 10 = .ok (.iconst 1, 1) := by decide +kernel
theorem dX0_meetsNext_11 : decode cX0_meetsNext 11 = .ok (.iadd, 1) := by decide +kernel
theorem dX0_meetsNext_12 : decode cX0_meetsNext 12 = .ok (.invokevirtual 37, 3) := by decide +kernel
theorem dX0_meetsNext_15 : decode cX0_meetsNext 15 = .ok (.ifCond .eq 47, 3) := by decide +kernel
theorem dX0_meetsNext_18 : decode cX0_meetsNext 18 = .ok (.aload_n 0, 1) := by decide +kernel
theorem dX0_meetsNext_19 : decode cX0_meetsNext 19 = .ok (.iload_n 1, 1) := by decide +kernel
theorem dX0_meetsNext_20 : decode cX0_meetsNext 20 = .ok (.invokevirtual 45, 3) := by decide +kernel
theorem dX0_meetsNext_23 : decode cX0_meetsNext 23 = .ok (.ifCond .ne 39, 3) := by decide +kernel
theorem dX0_meetsNext_26 : decode cX0_meetsNext 26 = .ok (.aload_n 0, 1) := by decide +kernel
theorem dX0_meetsNext_27 : decode cX0_meetsNext 27 = .ok (.iload_n 1, 1) := by decide +kernel
theorem dX0_meetsNext_28 : decode cX0_meetsNext 28 = .ok (.iconst 1, 1) := by decide +kernel
theorem dX0_meetsNext_29 : decode cX0_meetsNext 29 = .ok (.iadd, 1) := by decide +kernel
theorem dX0_meetsNext_30 : decode cX0_meetsNext 30 = .ok (.invokevirtual 45, 3) := by decide +kernel
theorem dX0_meetsNext_33 : decode cX0_meetsNext 33 = .ok (.ifCond .ne 29, 3) := by decide +kernel
theorem dX0_meetsNext_36 : decode cX0_meetsNext 36 = .ok (.aload_n 0, 1) := by decide +kernel
theorem dX0_meetsNext_37 : decode cX0_meetsNext 37 = .ok (.getfield 21, 3) := by decide +kernel
theorem dX0_meetsNext_40 : decode cX0_meetsNext 40 = .ok (.iload_n 1, 1) := by decide +kernel
theorem dX0_meetsNext_41 : decode cX0_meetsNext 41 = .ok (.iaload, 1) := by decide +kernel
theorem dX0_meetsNext_42 : decode cX0_meetsNext 42 = .ok (.iconst 1, 1) := by decide +kernel
theorem dX0_meetsNext_43 : decode cX0_meetsNext 43 = .ok (.if_icmp .ne 19, 3) := by decide +kernel
theorem dX0_meetsNext_46 : decode cX0_meetsNext 46 = .ok (.aload_n 0, 1) := by decide +kernel
theorem dX0_meetsNext_47 : decode cX0_meetsNext 47 = .ok (.getfield 21, 3) := by decide +kernel
theorem dX0_meetsNext_50 : decode cX0_meetsNext 50 = .ok (.iload_n 1, 1) := by decide +kernel
theorem dX0_meetsNext_51 : decode cX0_meetsNext 51 = .ok (.iconst 1, 1) := by decide +kernel
theorem dX0_meetsNext_52 : decode cX0_meetsNext 52 = .ok (.iadd, 1) := by decide +kernel
theorem dX0_meetsNext_53 : decode cX0_meetsNext 53 = .ok (.iaload, 1) := by decide +kernel
theorem dX0_meetsNext_54 : decode cX0_meetsNext 54 = .ok (.iconst 3, 1) := by decide +kernel
theorem dX0_meetsNext_55 : decode cX0_meetsNext 55 = .ok (.if_icmp .ne 7, 3) := by decide +kernel
theorem dX0_meetsNext_58 : decode cX0_meetsNext 58 = .ok (.iconst 1, 1) := by decide +kernel
theorem dX0_meetsNext_59 : decode cX0_meetsNext 59 = .ok (.goto 4, 3) := by decide +kernel
theorem dX0_meetsNext_62 : decode cX0_meetsNext 62 = .ok (.iconst 0, 1) := by decide +kernel
theorem dX0_meetsNext_63 : decode cX0_meetsNext 63 = .ok (.ireturn, 1) := by decide +kernel
set_option maxRecDepth 20000 in
theorem ggX0_side_X0_has : GoodIn wsX0_side wsX0_has := goodIn_r _ [7, 8, 18, 19, 20, 21, 22, 23] (by decide +kernel) (by decide +kernel)
set_option maxRecDepth 20000 in
theorem gX0_side_X0_has : GoodIn wsX0_side (wsV RX0 37 RX0 yX0_has wsX0_has) := goodIn_app (goodIn_of _ (by decide +kernel)) ggX0_side_X0_has
set_option maxRecDepth 20000 in
theorem ggX0_side_X0_isFolded : GoodIn wsX0_side wsX0_isFolded := goodIn_r _ [12, 13, 18, 19, 20, 21, 22, 23] (by decide +kernel) (by decide +kernel)
set_option maxRecDepth 20000 in
theorem gX0_side_X0_isFolded : GoodIn wsX0_side (wsV RX0 45 RX0 yX0_isFolded wsX0_isFolded) := goodIn_app (goodIn_of _ (by decide +kernel)) ggX0_side_X0_isFolded
set_option maxRecDepth 20000 in
theorem ggX0_side_X0_meetsNext : GoodIn wsX0_side wsX0_meetsNext := goodIn_r _ [17, 2, 3, 4, 5, 6, 7, 8, 9, 10, 11, 12, 13, 18, 19, 20, 21, 22, 23] (by decide +kernel) (by decide +kernel)
set_option maxRecDepth 20000 in
theorem gX0_side_X0_meetsNext : GoodIn wsX0_side (wsV RX0 52 RX0 yX0_meetsNext wsX0_meetsNext) := goodIn_app (goodIn_of _ (by decide +kernel)) ggX0_side_X0_meetsNext
theorem dX0_side_0 : decode cX0_side 0 = .ok (.aload_n 0, 1) := by decide +kernel
theorem dX0_side_1 : decode cX0_side 1 = .ok (.iload_n 1, 1) := by decide +kernel
theorem dX0_side_2 : decode cX0_side 2 = .ok (.invokevirtual 37, 3) := by decide +kernel
theorem dX0_side_5 : decode cX0_side 5 = .ok (.ifCond .eq 11, 3) := by decide +kernel
theorem dX0_side_8 : decode cX0_side 8 = .ok (.aload_n 0, 1) := by decide +kernel
theorem dX0_side_9 : decode cX0_side 9 = .ok (.iload_n 1, 1) := by decide +kernel
theorem dX0_side_10 : decode cX0_side 10 = .ok (.invokevirtual 45, 3) := by decide +kernel
theorem dX0_side_13 : decode cX0_side 13 = .ok (.ifCond .eq 5, 3) := by decide +kernel
theorem dX0_side_16 : decode cX0_side 16 = .ok (.iconst 0, 1) := by decide +kernel
theorem dX0_side_17 : decode cX0_side 17 = .ok (.ireturn, 1) := by decide +kernel
theorem dX0_side_18 : decode cX0_side 18 = .ok (.aload_n 0, 1) := by decide +kernel
theorem dX0_side_19 : decode cX0_side 19 = .ok (.iload_n 1, 1) := by decide +kernel
theorem dX0_side_20 : decode cX0_side 20 = .ok (.invokevirtual 52, 3) := by decide +kernel
theorem dX0_side_23 : decode cX0_side 23 = .ok (.ifCond .eq 26, 3) := by decide +kernel
theorem dX0_side_26 : decode cX0_side 26 = .ok (.aload_n 0, 1) := by decide +kernel
theorem dX0_side_27 : decode cX0_side 27 = .ok (.getfield 15, 3) := by decide +kernel
theorem dX0_side_30 : decode cX0_side 30 = .ok (.iload_n 1, 1) := by decide +kernel
theorem dX0_side_31 : decode cX0_side 31 = .ok (.iaload, 1) := by decide +kernel
theorem dX0_side_32 : decode cX0_side 32 = .ok (.aload_n 0, 1) := by decide +kernel
theorem dX0_side_33 : decode cX0_side 33 = .ok (.getfield 15, 3) := by decide +kernel
theorem dX0_side_36 : decode cX0_side 36 = .ok (.iload_n 1, 1) := by decide +kernel
theorem dX0_side_37 : decode cX0_side 37 = .ok (.iconst 1, 1) := by decide +kernel
theorem dX0_side_38 : decode cX0_side 38 = .ok (.iadd, 1) := by decide +kernel
theorem dX0_side_39 : decode cX0_side 39 = .ok (.iaload, 1) := by decide +kernel
theorem dX0_side_40 : decode cX0_side 40 = .ok (.if_icmp .ne 7, 3) := by decide +kernel
theorem dX0_side_43 : decode cX0_side 43 = .ok (.iconst 1, 1) := by decide +kernel
theorem dX0_side_44 : decode cX0_side 44 = .ok (.goto 4, 3) := by decide +kernel
theorem dX0_side_47 : decode cX0_side 47 = .ok (.iconst 2, 1) := by decide +kernel
theorem dX0_side_48 : decode cX0_side 48 = .ok (.ireturn, 1) := by decide +kernel
theorem dX0_side_49 : decode cX0_side 49 = .ok (.aload_n 0, 1) := by decide +kernel
theorem dX0_side_50 : decode cX0_side 50 = .ok (.iload_n 1, 1) := by decide +kernel
theorem dX0_side_51 : decode cX0_side 51 = .ok (.iconst 1, 1) := by decide +kernel
theorem dX0_side_52 : decode cX0_side 52 = .ok (.isub, 1) := by decide +kernel
theorem dX0_side_53 : decode cX0_side 53 = .ok (.invokevirtual 52, 3) := by decide +kernel
theorem dX0_side_56 : decode cX0_side 56 = .ok (.ifCond .eq 26, 3) := by decide +kernel
theorem dX0_side_59 : decode cX0_side 59 = .ok (.aload_n 0, 1) := by decide +kernel
theorem dX0_side_60 : decode cX0_side 60 = .ok (.getfield 15, 3) := by decide +kernel
theorem dX0_side_63 : decode cX0_side 63 = .ok (.iload_n 1, 1) := by decide +kernel
theorem dX0_side_64 : decode cX0_side 64 = .ok (.iaload, 1) := by decide +kernel
theorem dX0_side_65 : decode cX0_side 65 = .ok (.aload_n 0, 1) := by decide +kernel
theorem dX0_side_66 : decode cX0_side 66 = .ok (.getfield 15, 3) := by decide +kernel
theorem dX0_side_69 : decode cX0_side 69 = .ok (.iload_n 1, 1) := by decide +kernel
theorem dX0_side_70 : decode cX0_side 70 = .ok (.iconst 1, 1) := by decide +kernel
theorem dX0_side_71 : decode cX0_side 71 = .ok (.isub, 1) := by decide +kernel
theorem dX0_side_72 : decode cX0_side 72 = .ok (.iaload, 1) := by decide +kernel
theorem dX0_side_73 : decode cX0_side 73 = .ok (.if_icmp .ne 7, 3) := by decide +kernel
theorem dX0_side_76 : decode cX0_side 76 = .ok (.iconst 1, 1) := by decide +kernel
theorem dX0_side_77 : decode cX0_side 77 = .ok (.goto 4, 3) := by decide +kernel
theorem dX0_side_80 : decode cX0_side 80 = .ok (.iconst 2, 1) := by decide +kernel
theorem dX0_side_81 : decode cX0_side 81 = .ok (.ireturn, 1) := by decide +kernel
theorem dX0_side_82 : decode cX0_side 82 = .ok (.aload_n 0, 1) := by decide +kernel
theorem dX0_side_83 : decode cX0_side 83 = .ok (.getfield 21, 3) := by decide +kernel
theorem dX0_side_86 : decode cX0_side 86 = .ok (.iload_n 1, 1) := by decide +kernel
theorem dX0_side_87 : decode cX0_side 87 = .ok (.iaload, 1) := by decide +kernel
theorem dX0_side_88 : decode cX0_side 88 = .ok (.lookupswitch 32 #[(0, 28), (2, 30)], 28) := by decide +kernel
theorem dX0_side_116 : decode cX0_side 116 = .ok (.iconst 1, 1) := by decide +kernel
theorem dX0_side_117 : decode cX0_side 117 = .ok (.ireturn, 1) := by decide +kernel
theorem dX0_side_118 : decode cX0_side 118 = .ok (.iconst 2, 1) := by decide +kernel
theorem dX0_side_119 : decode cX0_side 119 = .ok (.ireturn, 1) := by decide +kernel
theorem dX0_side_120 : decode cX0_side 120 = .ok (.iconst 0, 1) := by decide +kernel
theorem dX0_side_121 : decode cX0_side 121 = .ok (.ireturn, 1) := by decide +kernel
set_option maxRecDepth 20000 in
theorem ggX0_tilt_X0_side : GoodIn wsX0_tilt wsX0_side := goodIn_r _ [5, 6, 7, 8, 9, 10, 4, 11, 12, 13, 14, 15, 16, 17, 18, 19, 20, 21, 35, 36, 37, 38, 39, 40] (by decide +kernel) (by decide +kernel)
set_option maxRecDepth 20000 in
theorem gX0_tilt_X0_side : GoodIn wsX0_tilt (wsV RX0 55 RX0 yX0_side wsX0_side) := goodIn_app (goodIn_of _ (by decide +kernel)) ggX0_tilt_X0_side
set_option maxRecDepth 20000 in
theorem ggX0_tilt_X0_votes : GoodIn wsX0_tilt wsX0_votes := goodIn_r _ [25, 13, 14, 15, 4, 16, 17, 26, 27, 28, 29, 30, 31, 8, 9, 10, 11, 12, 32, 33, 34, 35, 36, 37, 38, 39, 40] (by decide +kernel) (by decide +kernel)
set_option maxRecDepth 20000 in
theorem gX0_tilt_X0_votes : GoodIn wsX0_tilt (wsV RX0 58 RX0 yX0_votes wsX0_votes) := goodIn_app (goodIn_of _ (by decide +kernel)) ggX0_tilt_X0_votes
theorem dX0_tilt_0 : decode cX0_tilt 0 = .ok (.aload_n 0, 1) := by decide +kernel
theorem dX0_tilt_1 : decode cX0_tilt 1 = .ok (.iload_n 1, 1) := by decide +kernel
theorem dX0_tilt_2 : decode cX0_tilt 2 = .ok (.invokevirtual 55, 3) := by decide +kernel
theorem dX0_tilt_5 : decode cX0_tilt 5 = .ok (.lookupswitch 40 #[(1, 27), (2, 33)], 27) := by decide +kernel
theorem dX0_tilt_32 : decode cX0_tilt 32 = .ok (.aload_n 0, 1) := by decide +kernel
theorem dX0_tilt_33 : decode cX0_tilt 33 = .ok (.iload_n 1, 1) := by decide +kernel
theorem dX0_tilt_34 : decode cX0_tilt 34 = .ok (.invokevirtual 58, 3) := by decide +kernel
theorem dX0_tilt_37 : decode cX0_tilt 37 = .ok (.ireturn, 1) := by decide +kernel
theorem dX0_tilt_38 : decode cX0_tilt 38 = .ok (.aload_n 0, 1) := by decide +kernel
theorem dX0_tilt_39 : decode cX0_tilt 39 = .ok (.iload_n 1, 1) := by decide +kernel
theorem dX0_tilt_40 : decode cX0_tilt 40 = .ok (.invokevirtual 58, 3) := by decide +kernel
theorem dX0_tilt_43 : decode cX0_tilt 43 = .ok (.ineg, 1) := by decide +kernel
theorem dX0_tilt_44 : decode cX0_tilt 44 = .ok (.ireturn, 1) := by decide +kernel
theorem dX0_tilt_45 : decode cX0_tilt 45 = .ok (.iconst 0, 1) := by decide +kernel
theorem dX0_tilt_46 : decode cX0_tilt 46 = .ok (.ireturn, 1) := by decide +kernel
set_option maxRecDepth 20000 in
theorem ggX0_isCarried_X0_tilt : GoodIn wsX0_isCarried wsX0_tilt := goodIn_r _ [6, 7, 8, 9, 5, 10, 11, 12, 13, 14, 15, 16, 1, 17, 18, 19, 20, 21, 22, 23, 24, 25, 26, 27, 28, 29, 30, 31, 32, 33, 34, 35, 36, 37, 38, 39, 40, 41, 42, 43, 44] (by decide +kernel) (by decide +kernel)
set_option maxRecDepth 20000 in
theorem gX0_isCarried_X0_tilt : GoodIn wsX0_isCarried (wsV RX0 61 RX0 yX0_tilt wsX0_tilt) := goodIn_app (goodIn_of _ (by decide +kernel)) ggX0_isCarried_X0_tilt
theorem dX0_isCarried_0 : decode cX0_isCarried 0 = .ok (.iconst 0, 1) := by decide +kernel
theorem dX0_isCarried_1 : decode cX0_isCarried 1 = .ok (.istore_n 1, 1) := by decide +kernel
theorem dX0_isCarried_2 : decode cX0_isCarried 2 = .ok (.iconst 0, 1) := by decide +kernel
theorem dX0_isCarried_3 : decode cX0_isCarried 3 = .ok (.istore_n 2, 1) := by decide +kernel
theorem dX0_isCarried_4 : decode cX0_isCarried 4 = .ok (.iload_n 2, 1) := by decide +kernel
theorem dX0_isCarried_5 : decode cX0_isCarried 5 = .ok (.aload_n 0, 1) := by decide +kernel
theorem dX0_isCarried_6 : decode cX0_isCarried 6 = .ok (.getfield 24, 3) := by decide +kernel
theorem dX0_isCarried_9 : decode cX0_isCarried 9 = .ok (.if_icmp .ge 17, 3) := by decide +kernel
theorem dX0_isCarried_12 : decode cX0_isCarried 12 = .ok (.iload_n 1, 1) := by decide +kernel
theorem dX0_isCarried_13 : decode cX0_isCarried 13 = .ok (.aload_n 0, 1) := by decide +kernel
theorem dX0_isCarried_14 : decode cX0_isCarried 14 = .ok (.iload_n 2, 1) := by decide +kernel
theorem dX0_isCarried_15 : decode cX0_isCarried 15 = .ok (.invokevirtual 61, 3) := by decide +kernel
theorem dX0_isCarried_18 : decode cX0_isCarried 18 = .ok (.iadd, 1) := by decide +kernel
theorem dX0_isCarried_19 : decode cX0_isCarried 19 = .ok (.istore_n 1, 1) := by decide +kernel
theorem dX0_isCarried_20 : decode cX0_isCarried 20 = .ok (.iinc 2 1, 3) := by decide +kernel
theorem dX0_isCarried_23 : decode cX0_isCarried 23 = .ok (.goto (-19), 3) := by decide +kernel
theorem dX0_isCarried_26 : decode cX0_isCarried 26 = .ok (.iload_n 1, 1) := by decide +kernel
theorem dX0_isCarried_27 : decode cX0_isCarried 27 = .ok (.ifCond .le 7, 3) := by decide +kernel
theorem dX0_isCarried_30 : decode cX0_isCarried 30 = .ok (.iconst 1, 1) := by decide +kernel
theorem dX0_isCarried_31 : decode cX0_isCarried 31 = .ok (.goto 4, 3) := by decide +kernel
theorem dX0_isCarried_34 : decode cX0_isCarried 34 = .ok (.iconst 0, 1) := by decide +kernel
theorem dX0_isCarried_35 : decode cX0_isCarried 35 = .ok (.ireturn, 1) := by decide +kernel
set_option maxRecDepth 20000 in
theorem ggX0_chairsOf_X0_side : GoodIn wsX0_chairsOf wsX0_side := goodIn_r _ [6, 7, 8, 9, 10, 11, 5, 12, 1, 13, 14, 15, 16, 17, 18, 19, 20, 21, 22, 23, 24, 25, 26, 27] (by decide +kernel) (by decide +kernel)
set_option maxRecDepth 20000 in
theorem gX0_chairsOf_X0_side : GoodIn wsX0_chairsOf (wsV RX0 55 RX0 yX0_side wsX0_side) := goodIn_app (goodIn_of _ (by decide +kernel)) ggX0_chairsOf_X0_side
theorem dX0_chairsOf_0 : decode cX0_chairsOf 0 = .ok (.iconst 0, 1) := by decide +kernel
theorem dX0_chairsOf_1 : decode cX0_chairsOf 1 = .ok (.istore_n 2, 1) := by decide +kernel
theorem dX0_chairsOf_2 : decode cX0_chairsOf 2 = .ok (.iconst 0, 1) := by decide +kernel
theorem dX0_chairsOf_3 : decode cX0_chairsOf 3 = .ok (.istore_n 3, 1) := by decide +kernel
theorem dX0_chairsOf_4 : decode cX0_chairsOf 4 = .ok (.iload_n 3, 1) := by decide +kernel
theorem dX0_chairsOf_5 : decode cX0_chairsOf 5 = .ok (.aload_n 0, 1) := by decide +kernel
theorem dX0_chairsOf_6 : decode cX0_chairsOf 6 = .ok (.getfield 24, 3) := by decide +kernel
theorem dX0_chairsOf_9 : decode cX0_chairsOf 9 = .ok (.if_icmp .ge 24, 3) := by decide +kernel
theorem dX0_chairsOf_12 : decode cX0_chairsOf 12 = .ok (.aload_n 0, 1) := by decide +kernel
theorem dX0_chairsOf_13 : decode cX0_chairsOf 13 = .ok (.iload_n 3, 1) := by decide +kernel
theorem dX0_chairsOf_14 : decode cX0_chairsOf 14 = .ok (.invokevirtual 55, 3) := by decide +kernel
theorem dX0_chairsOf_17 : decode cX0_chairsOf 17 = .ok (.iload_n 1, 1) := by decide +kernel
theorem dX0_chairsOf_18 : decode cX0_chairsOf 18 = .ok (.if_icmp .ne 9, 3) := by decide +kernel
theorem dX0_chairsOf_21 : decode cX0_chairsOf 21 = .ok (.iload_n 2, 1) := by decide +kernel
theorem dX0_chairsOf_22 : decode cX0_chairsOf 22 = .ok (.iconst 1, 1) := by decide +kernel
theorem dX0_chairsOf_23 : decode cX0_chairsOf 23 = .ok (.iload_n 3, 1) := by decide +kernel
theorem dX0_chairsOf_24 : decode cX0_chairsOf 24 = .ok (.ishl, 1) := by decide +kernel
theorem dX0_chairsOf_25 : decode cX0_chairsOf 25 = .ok (.ior, 1) := by decide +kernel
theorem dX0_chairsOf_26 : decode cX0_chairsOf 26 = .ok (.istore_n 2, 1) := by decide +kernel
theorem dX0_chairsOf_27 : decode cX0_chairsOf 27 = .ok (.iinc 3 1, 3) := by decide +kernel
theorem dX0_chairsOf_30 : decode cX0_chairsOf 30 = .ok (.goto (-26), 3) := by decide +kernel
theorem dX0_chairsOf_33 : decode cX0_chairsOf 33 = .ok (.iload_n 2, 1) := by decide +kernel
theorem dX0_chairsOf_34 : decode cX0_chairsOf 34 = .ok (.ireturn, 1) := by decide +kernel
set_option maxRecDepth 20000 in
theorem ggX0_votesOf_X0_chairsOf : GoodIn wsX0_votesOf wsX0_chairsOf := goodIn_r _ [5, 6, 7, 8, 9, 4, 10, 11, 12, 13, 14, 15, 16, 17, 18, 19, 20, 21, 22, 23, 24, 25, 45, 46, 47, 48, 49, 50] (by decide +kernel) (by decide +kernel)
set_option maxRecDepth 20000 in
theorem gX0_votesOf_X0_chairsOf : GoodIn wsX0_votesOf (wsV RX0 64 RX0 yX0_chairsOf wsX0_chairsOf) := goodIn_app (goodIn_of _ (by decide +kernel)) ggX0_votesOf_X0_chairsOf
set_option maxRecDepth 20000 in
theorem ggX0_votesOf_X0_votesIn : GoodIn wsX0_votesOf wsX0_votesIn := goodIn_r _ [29, 6, 30, 31, 32, 33, 34, 35, 4, 36, 17, 18, 19, 20, 21, 37, 38, 39, 40, 41, 42, 13, 14, 15, 16, 43, 44, 45, 46, 47, 48, 49, 50] (by decide +kernel) (by decide +kernel)
set_option maxRecDepth 20000 in
theorem gX0_votesOf_X0_votesIn : GoodIn wsX0_votesOf (wsV RX0 67 RX0 yX0_votesIn wsX0_votesIn) := goodIn_app (goodIn_of _ (by decide +kernel)) ggX0_votesOf_X0_votesIn
theorem dX0_votesOf_0 : decode cX0_votesOf 0 = .ok (.aload_n 0, 1) := by decide +kernel
theorem dX0_votesOf_1 : decode cX0_votesOf 1 = .ok (.aload_n 0, 1) := by decide +kernel
theorem dX0_votesOf_2 : decode cX0_votesOf 2 = .ok (.iload_n 1, 1) := by decide +kernel
theorem dX0_votesOf_3 : decode cX0_votesOf 3 = .ok (.invokevirtual 64, 3) := by decide +kernel
theorem dX0_votesOf_6 : decode cX0_votesOf 6 = .ok (.invokevirtual 67, 3) := by decide +kernel
theorem dX0_votesOf_9 : decode cX0_votesOf 9 = .ok (.ireturn, 1) := by decide +kernel
set_option maxRecDepth 20000 in
theorem ggX0_votesIn_X2_isIn : GoodIn wsX0_votesIn wsX2_isIn := goodIn_r _ [4] (by decide +kernel) (by decide +kernel)
set_option maxRecDepth 20000 in
theorem gX0_votesIn_X2_isIn_n70 : GoodIn wsX0_votesIn (wsX2_isIn) := ggX0_votesIn_X2_isIn
set_option maxRecDepth 20000 in
theorem ggX0_votesIn_X0_votes : GoodIn wsX0_votesIn wsX0_votes := goodIn_r _ [9, 10, 11, 12, 8, 13, 14, 15, 16, 17, 18, 19, 20, 21, 22, 23, 24, 1, 25, 3, 26, 27, 28, 29, 30, 31, 32] (by decide +kernel) (by decide +kernel)
set_option maxRecDepth 20000 in
theorem gX0_votesIn_X0_votes : GoodIn wsX0_votesIn (wsV RX0 58 RX0 yX0_votes wsX0_votes) := goodIn_app (goodIn_of _ (by decide +kernel)) ggX0_votesIn_X0_votes
theorem dX0_votesIn_0 : decode cX0_votesIn 0 = .ok (.iconst 0, 1) := by decide +kernel
theorem dX0_votesIn_1 : decode cX0_votesIn 1 = .ok (.istore_n 2, 1) := by decide +kernel
theorem dX0_votesIn_2 : decode cX0_votesIn 2 = .ok (.iconst 0, 1) := by decide +kernel
theorem dX0_votesIn_3 : decode cX0_votesIn 3 = .ok (.istore_n 3, 1) := by decide +kernel
theorem dX0_votesIn_4 : decode cX0_votesIn 4 = .ok (.iload_n 3, 1) := by decide +kernel
theorem dX0_votesIn_5 : decode cX0_votesIn 5 = .ok (.aload_n 0, 1) := by decide +kernel
theorem dX0_votesIn_6 : decode cX0_votesIn 6 = .ok (.getfield 24, 3) := by decide +kernel
theorem dX0_votesIn_9 : decode cX0_votesIn 9 = .ok (.if_icmp .ge 25, 3) := by decide +kernel
theorem dX0_votesIn_12 : decode cX0_votesIn 12 = .ok (.iload_n 1, 1) := by decide +kernel
theorem dX0_votesIn_13 : decode cX0_votesIn 13 = .ok (.iload_n 3, 1) := by decide +kernel
theorem dX0_votesIn_14 : decode cX0_votesIn 14 = .ok (.invokestatic 70, 3) := by decide +kernel
theorem dX0_votesIn_17 : decode cX0_votesIn 17 = .ok (.ifCond .eq 11, 3) := by decide +kernel
theorem dX0_votesIn_20 : decode cX0_votesIn 20 = .ok (.iload_n 2, 1) := by decide +kernel
theorem dX0_votesIn_21 : decode cX0_votesIn 21 = .ok (.aload_n 0, 1) := by decide +kernel
theorem dX0_votesIn_22 : decode cX0_votesIn 22 = .ok (.iload_n 3, 1) := by decide +kernel
theorem dX0_votesIn_23 : decode cX0_votesIn 23 = .ok (.invokevirtual 58, 3) := by decide +kernel
theorem dX0_votesIn_26 : decode cX0_votesIn 26 = .ok (.iadd, 1) := by decide +kernel
theorem dX0_votesIn_27 : decode cX0_votesIn 27 = .ok (.istore_n 2, 1) := by decide +kernel
theorem dX0_votesIn_28 : decode cX0_votesIn 28 = .ok (.iinc 3 1, 3) := by decide +kernel
theorem dX0_votesIn_31 : decode cX0_votesIn 31 = .ok (.goto (-27), 3) := by decide +kernel
theorem dX0_votesIn_34 : decode cX0_votesIn 34 = .ok (.iload_n 2, 1) := by decide +kernel
theorem dX0_votesIn_35 : decode cX0_votesIn 35 = .ok (.ireturn, 1) := by decide +kernel
set_option maxRecDepth 20000 in
theorem ggX0_votesOfStripes_X2_isIn : GoodIn wsX0_votesOfStripes wsX2_isIn := goodIn_r _ [5] (by decide +kernel) (by decide +kernel)
set_option maxRecDepth 20000 in
theorem gX0_votesOfStripes_X2_isIn_n70 : GoodIn wsX0_votesOfStripes (wsX2_isIn) := ggX0_votesOfStripes_X2_isIn
set_option maxRecDepth 20000 in
theorem ggX0_votesOfStripes_X0_votes : GoodIn wsX0_votesOfStripes wsX0_votes := goodIn_r _ [10, 11, 12, 13, 9, 14, 15, 16, 17, 18, 19, 20, 21, 22, 23, 24, 25, 1, 26, 4, 27, 28, 29, 30, 31, 32, 33] (by decide +kernel) (by decide +kernel)
set_option maxRecDepth 20000 in
theorem gX0_votesOfStripes_X0_votes : GoodIn wsX0_votesOfStripes (wsV RX0 58 RX0 yX0_votes wsX0_votes) := goodIn_app (goodIn_of _ (by decide +kernel)) ggX0_votesOfStripes_X0_votes
theorem dX0_votesOfStripes_0 : decode cX0_votesOfStripes 0 = .ok (.iconst 0, 1) := by decide +kernel
theorem dX0_votesOfStripes_1 : decode cX0_votesOfStripes 1 = .ok (.istore_n 2, 1) := by decide +kernel
theorem dX0_votesOfStripes_2 : decode cX0_votesOfStripes 2 = .ok (.iconst 0, 1) := by decide +kernel
theorem dX0_votesOfStripes_3 : decode cX0_votesOfStripes 3 = .ok (.istore_n 3, 1) := by decide +kernel
theorem dX0_votesOfStripes_4 : decode cX0_votesOfStripes 4 = .ok (.iload_n 3, 1) := by decide +kernel
theorem dX0_votesOfStripes_5 : decode cX0_votesOfStripes 5 = .ok (.aload_n 0, 1) := by decide +kernel
theorem dX0_votesOfStripes_6 : decode cX0_votesOfStripes 6 = .ok (.getfield 24, 3) := by decide +kernel
theorem dX0_votesOfStripes_9 : decode cX0_votesOfStripes 9 = .ok (.if_icmp .ge 30, 3) := by decide +kernel
theorem dX0_votesOfStripes_12 : decode cX0_votesOfStripes 12 = .ok (.iload_n 1, 1) := by decide +kernel
theorem dX0_votesOfStripes_13 : decode cX0_votesOfStripes 13 = .ok (.aload_n 0, 1) := by decide +kernel
theorem dX0_votesOfStripes_14 : decode cX0_votesOfStripes 14 = .ok (.getfield 15, 3) := by decide +kernel
theorem dX0_votesOfStripes_17 : decode cX0_votesOfStripes 17 = .ok (.iload_n 3, 1) := by decide +kernel
theorem dX0_votesOfStripes_18 : decode cX0_votesOfStripes 18 = .ok (.iaload, 1) := by decide +kernel
theorem dX0_votesOfStripes_19 : decode cX0_votesOfStripes 19 = .ok (.invokestatic 70, 3) := by decide +kernel
theorem dX0_votesOfStripes_22 : decode cX0_votesOfStripes 22 = .ok (.ifCond .eq 11, 3) := by decide +kernel
theorem dX0_votesOfStripes_25 : decode cX0_votesOfStripes 25 = .ok (.iload_n 2, 1) := by decide +kernel
theorem dX0_votesOfStripes_26 : decode cX0_votesOfStripes 26 = .ok (.aload_n 0, 1) := by decide +kernel
theorem dX0_votesOfStripes_27 : decode cX0_votesOfStripes 27 = .ok (.iload_n 3, 1) := by decide +kernel
theorem dX0_votesOfStripes_28 : decode cX0_votesOfStripes 28 = .ok (.invokevirtual 58, 3) := by decide +kernel
theorem dX0_votesOfStripes_31 : decode cX0_votesOfStripes 31 = .ok (.iadd, 1) := by decide +kernel
theorem dX0_votesOfStripes_32 : decode cX0_votesOfStripes 32 = .ok (.istore_n 2, 1) := by decide +kernel
theorem dX0_votesOfStripes_33 : decode cX0_votesOfStripes 33 = .ok (.iinc 3 1, 3) := by decide +kernel
theorem dX0_votesOfStripes_36 : decode cX0_votesOfStripes 36 = .ok (.goto (-32), 3) := by decide +kernel
theorem dX0_votesOfStripes_39 : decode cX0_votesOfStripes 39 = .ok (.iload_n 2, 1) := by decide +kernel
theorem dX0_votesOfStripes_40 : decode cX0_votesOfStripes 40 = .ok (.ireturn, 1) := by decide +kernel
set_option maxRecDepth 20000 in
theorem ggX0_turned_X0_has : GoodIn wsX0_turned wsX0_has := goodIn_r _ [6, 7, 13, 14, 15, 16, 17, 18] (by decide +kernel) (by decide +kernel)
set_option maxRecDepth 20000 in
theorem gX0_turned_X0_has : GoodIn wsX0_turned (wsV RX0 37 RX0 yX0_has wsX0_has) := goodIn_app (goodIn_of _ (by decide +kernel)) ggX0_turned_X0_has
set_option maxRecDepth 20000 in
theorem ggX0_turned_X0_isFolded : GoodIn wsX0_turned wsX0_isFolded := goodIn_r _ [11, 12, 13, 14, 15, 16, 17, 18] (by decide +kernel) (by decide +kernel)
set_option maxRecDepth 20000 in
theorem gX0_turned_X0_isFolded : GoodIn wsX0_turned (wsV RX0 45 RX0 yX0_isFolded wsX0_isFolded) := goodIn_app (goodIn_of _ (by decide +kernel)) ggX0_turned_X0_isFolded
theorem dX0_turned_0 : decode cX0_turned 0 = .ok (.aload_n 0, 1) := by decide +kernel
theorem dX0_turned_1 : decode cX0_turned 1 = .ok (.iload_n 1, 1) := by decide +kernel
theorem dX0_turned_2 : decode cX0_turned 2 = .ok (.invokevirtual 37, 3) := by decide +kernel
theorem dX0_turned_5 : decode cX0_turned 5 = .ok (.ifCond .eq 11, 3) := by decide +kernel
theorem dX0_turned_8 : decode cX0_turned 8 = .ok (.aload_n 0, 1) := by decide +kernel
theorem dX0_turned_9 : decode cX0_turned 9 = .ok (.iload_n 1, 1) := by decide +kernel
theorem dX0_turned_10 : decode cX0_turned 10 = .ok (.invokevirtual 45, 3) := by decide +kernel
theorem dX0_turned_13 : decode cX0_turned 13 = .ok (.ifCond .eq 5, 3) := by decide +kernel
theorem dX0_turned_16 : decode cX0_turned 16 = .ok (.iconst 0, 1) := by decide +kernel
theorem dX0_turned_17 : decode cX0_turned 17 = .ok (.ireturn, 1) := by decide +kernel
theorem dX0_turned_18 : decode cX0_turned 18 = .ok (.aload_n 0, 1) := by decide +kernel
theorem dX0_turned_19 : decode cX0_turned 19 = .ok (.getfield 21, 3) := by decide +kernel
theorem dX0_turned_22 : decode cX0_turned 22 = .ok (.iload_n 1, 1) := by decide +kernel
theorem dX0_turned_23 : decode cX0_turned 23 = .ok (.iload_n 2, 1) := by decide +kernel
theorem dX0_turned_24 : decode cX0_turned 24 = .ok (.iastore, 1) := by decide +kernel
theorem dX0_turned_25 : decode cX0_turned 25 = .ok (.iconst 1, 1) := by decide +kernel
theorem dX0_turned_26 : decode cX0_turned 26 = .ok (.ireturn, 1) := by decide +kernel
set_option maxRecDepth 20000 in
theorem ggX0_blown_X0_isFolded : GoodIn wsX0_blown wsX0_isFolded := goodIn_r _ [8, 9, 10, 11, 12, 13, 14, 15] (by decide +kernel) (by decide +kernel)
set_option maxRecDepth 20000 in
theorem gX0_blown_X0_isFolded : GoodIn wsX0_blown (wsV RX0 45 RX0 yX0_isFolded wsX0_isFolded) := goodIn_app (goodIn_of _ (by decide +kernel)) ggX0_blown_X0_isFolded
theorem dX0_blown_0 : decode cX0_blown 0 = .ok (.iconst 0, 1) := by decide +kernel
theorem dX0_blown_1 : decode cX0_blown 1 = .ok (.istore_n 3, 1) := by decide +kernel
theorem dX0_blown_2 : decode cX0_blown 2 = .ok (.iconst 0, 1) := by decide +kernel
theorem dX0_blown_3 : decode cX0_blown 3 = .ok (.istore 4, 2) := by decide +kernel
theorem dX0_blown_5 : decode cX0_blown 5 = .ok (.iload 4, 2) := by decide +kernel
theorem dX0_blown_7 : decode cX0_blown 7 = .ok (.aload_n 0, 1) := by decide +kernel
theorem dX0_blown_8 : decode cX0_blown 8 = .ok (.getfield 24, 3) := by decide +kernel
theorem dX0_blown_11 : decode cX0_blown 11 = .ok (.if_icmp .ge 51, 3) := by decide +kernel
theorem dX0_blown_14 : decode cX0_blown 14 = .ok (.aload_n 0, 1) := by decide +kernel
theorem dX0_blown_15 : decode cX0_blown 15 = .ok (.iload 4, 2) := by decide +kernel
theorem dX0_blown_17 : decode cX0_blown 17 = .ok (.invokevirtual 45, 3) := by decide +kernel
theorem dX0_blown_20 : decode cX0_blown 20 = .ok (.ifCond .ne 36, 3) := by decide +kernel
theorem dX0_blown_23 : decode cX0_blown 23 = .ok (.aload_n 0, 1) := by decide +kernel
theorem dX0_blown_24 : decode cX0_blown 24 = .ok (.getfield 18, 3) := by decide +kernel
theorem dX0_blown_27 : decode cX0_blown 27 = .ok (.iload 4, 2) := by decide +kernel
theorem dX0_blown_29 : decode cX0_blown 29 = .ok (.iaload, 1) := by decide +kernel
theorem dX0_blown_30 : decode cX0_blown 30 = .ok (.iload_n 2, 1) := by decide +kernel
theorem dX0_blown_31 : decode cX0_blown 31 = .ok (.if_icmp .ge 25, 3) := by decide +kernel
theorem dX0_blown_34 : decode cX0_blown 34 = .ok (.aload_n 0, 1) := by decide +kernel
theorem dX0_blown_35 : decode cX0_blown 35 = .ok (.getfield 21, 3) := by decide +kernel
theorem dX0_blown_38 : decode cX0_blown 38 = .ok (.iload 4, 2) := by decide +kernel
theorem dX0_blown_40 : decode cX0_blown 40 = .ok (.iaload, 1) := by decide +kernel
theorem dX0_blown_41 : decode cX0_blown 41 = .ok (.iload_n 1, 1) := by decide +kernel
theorem dX0_blown_42 : decode cX0_blown 42 = .ok (.if_icmp .eq 14, 3) := by decide +kernel
theorem dX0_blown_45 : decode cX0_blown 45 = .ok (.aload_n 0, 1) := by decide +kernel
theorem dX0_blown_46 : decode cX0_blown 46 = .ok (.getfield 21, 3) := by decide +kernel
theorem dX0_blown_49 : decode cX0_blown 49 = .ok (.iload 4, 2) := by decide +kernel
theorem dX0_blown_51 : decode cX0_blown 51 = .ok (.iload_n 1, 1) := by decide +kernel
theorem dX0_blown_52 : decode cX0_blown 52 = .ok (.iastore, 1) := by decide +kernel
theorem dX0_blown_53 : decode cX0_blown 53 = .ok (.iinc 3 1, 3) := by decide +kernel
theorem dX0_blown_56 : decode cX0_blown 56 = .ok (.iinc 4 1, 3) := by decide +kernel
theorem dX0_blown_59 : decode cX0_blown 59 = .ok (.goto (-54), 3) := by decide +kernel
theorem dX0_blown_62 : decode cX0_blown 62 = .ok (.iload_n 3, 1) := by decide +kernel
theorem dX0_blown_63 : decode cX0_blown 63 = .ok (.ireturn, 1) := by decide +kernel
set_option maxRecDepth 20000 in
theorem ggX0_foldedByRain_J6_bitCount_0f7a4 : GoodIn wsX0_foldedByRain wsJ6_bitCount_0f7a4 := goodIn_r _ [6, 7, 8, 9] (by decide +kernel) (by decide +kernel)
set_option maxRecDepth 20000 in
theorem gX0_foldedByRain_J6_bitCount_0f7a4 : GoodIn wsX0_foldedByRain (va_wsS RX0 74 yJ6_bitCount_0f7a4 wsJ6_bitCount_0f7a4) := goodIn_app (goodIn_of _ (by decide +kernel)) ggX0_foldedByRain_J6_bitCount_0f7a4
theorem dX0_foldedByRain_0 : decode cX0_foldedByRain 0 = .ok (.aload_n 0, 1) := by decide +kernel
theorem dX0_foldedByRain_1 : decode cX0_foldedByRain 1 = .ok (.getfield 28, 3) := by decide +kernel
theorem dX0_foldedByRain_4 : decode cX0_foldedByRain 4 = .ok (.invokestatic 74, 3) := by decide +kernel
theorem dX0_foldedByRain_7 : decode cX0_foldedByRain 7 = .ok (.istore_n 1, 1) := by decide +kernel
theorem dX0_foldedByRain_8 : decode cX0_foldedByRain 8 = .ok (.aload_n 0, 1) := by decide +kernel
theorem dX0_foldedByRain_9 : decode cX0_foldedByRain 9 = .ok (.iconst 1, 1) := by decide +kernel
theorem dX0_foldedByRain_10 : decode cX0_foldedByRain 10 = .ok (.aload_n 0, 1) := by decide +kernel
theorem dX0_foldedByRain_11 : decode cX0_foldedByRain 11 = .ok (.getfield 24, 3) := by decide +kernel
theorem dX0_foldedByRain_14 : decode cX0_foldedByRain 14 = .ok (.ishl, 1) := by decide +kernel
theorem dX0_foldedByRain_15 : decode cX0_foldedByRain 15 = .ok (.iconst 1, 1) := by decide +kernel
theorem dX0_foldedByRain_16 : decode cX0_foldedByRain 16 = .ok (.isub, 1) := by decide +kernel
theorem dX0_foldedByRain_17 : decode cX0_foldedByRain 17 = .ok (.putfield 28, 3) := by decide +kernel
theorem dX0_foldedByRain_20 : decode cX0_foldedByRain 20 = .ok (.aload_n 0, 1) := by decide +kernel
theorem dX0_foldedByRain_21 : decode cX0_foldedByRain 21 = .ok (.getfield 24, 3) := by decide +kernel
theorem dX0_foldedByRain_24 : decode cX0_foldedByRain 24 = .ok (.iload_n 1, 1) := by decide +kernel
theorem dX0_foldedByRain_25 : decode cX0_foldedByRain 25 = .ok (.isub, 1) := by decide +kernel
theorem dX0_foldedByRain_26 : decode cX0_foldedByRain 26 = .ok (.ireturn, 1) := by decide +kernel
set_option maxRecDepth 20000 in
theorem ggX0_opened_X0_has : GoodIn wsX0_opened wsX0_has := goodIn_r _ [6, 7, 12, 13, 14, 15, 16, 17] (by decide +kernel) (by decide +kernel)
set_option maxRecDepth 20000 in
theorem gX0_opened_X0_has : GoodIn wsX0_opened (wsV RX0 37 RX0 yX0_has wsX0_has) := goodIn_app (goodIn_of _ (by decide +kernel)) ggX0_opened_X0_has
set_option maxRecDepth 20000 in
theorem ggX0_opened_X0_isFolded : GoodIn wsX0_opened wsX0_isFolded := goodIn_r _ [11, 1, 12, 13, 14, 15, 16, 17] (by decide +kernel) (by decide +kernel)
set_option maxRecDepth 20000 in
theorem gX0_opened_X0_isFolded : GoodIn wsX0_opened (wsV RX0 45 RX0 yX0_isFolded wsX0_isFolded) := goodIn_app (goodIn_of _ (by decide +kernel)) ggX0_opened_X0_isFolded
theorem dX0_opened_0 : decode cX0_opened 0 = .ok (.aload_n 0, 1) := by decide +kernel
theorem dX0_opened_1 : decode cX0_opened 1 = .ok (.iload_n 1, 1) := by decide +kernel
theorem dX0_opened_2 : decode cX0_opened 2 = .ok (.invokevirtual 37, 3) := by decide +kernel
theorem dX0_opened_5 : decode cX0_opened 5 = .ok (.ifCond .eq 11, 3) := by decide +kernel
theorem dX0_opened_8 : decode cX0_opened 8 = .ok (.aload_n 0, 1) := by decide +kernel
theorem dX0_opened_9 : decode cX0_opened 9 = .ok (.iload_n 1, 1) := by decide +kernel
theorem dX0_opened_10 : decode cX0_opened 10 = .ok (.invokevirtual 45, 3) := by decide +kernel
theorem dX0_opened_13 : decode cX0_opened 13 = .ok (.ifCond .ne 5, 3) := by decide +kernel
theorem dX0_opened_16 : decode cX0_opened 16 = .ok (.iconst 0, 1) := by decide +kernel
theorem dX0_opened_17 : decode cX0_opened 17 = .ok (.ireturn, 1) := by decide +kernel
theorem dX0_opened_18 : decode cX0_opened 18 = .ok (.aload_n 0, 1) := by decide +kernel
theorem dX0_opened_19 : decode cX0_opened 19 = .ok (.dup, 1) := by decide +kernel
theorem dX0_opened_20 : decode cX0_opened 20 = .ok (.getfield 28, 3) := by decide +kernel
theorem dX0_opened_23 : decode cX0_opened 23 = .ok (.iconst 1, 1) := by decide +kernel
theorem dX0_opened_24 : decode cX0_opened 24 = .ok (.iload_n 1, 1) := by decide +kernel
theorem dX0_opened_25 : decode cX0_opened 25 = .ok (.ishl, 1) := by decide +kernel
theorem dX0_opened_26 : decode cX0_opened 26 = .ok (.iconst (-1), 1) := by decide +kernel
theorem dX0_opened_27 : decode cX0_opened 27 = .ok (.ixor, 1) := by decide +kernel
theorem dX0_opened_28 : decode cX0_opened 28 = .ok (.iand, 1) := by decide +kernel
theorem dX0_opened_29 : decode cX0_opened 29 = .ok (.putfield 28, 3) := by decide +kernel
theorem dX0_opened_32 : decode cX0_opened 32 = .ok (.iconst 1, 1) := by decide +kernel
theorem dX0_opened_33 : decode cX0_opened 33 = .ok (.ireturn, 1) := by decide +kernel
set_option maxRecDepth 20000 in
theorem ggX0_acted_X0_opened : GoodIn wsX0_acted wsX0_opened := goodIn_r _ [5, 6, 7, 8, 9, 4, 10, 11, 12, 13, 14, 15, 37, 38, 39, 40, 41, 42] (by decide +kernel) (by decide +kernel)
set_option maxRecDepth 20000 in
theorem gX0_acted_X0_opened : GoodIn wsX0_acted (wsV RX0 79 RX0 yX0_opened wsX0_opened) := goodIn_app (goodIn_of _ (by decide +kernel)) ggX0_acted_X0_opened
set_option maxRecDepth 20000 in
theorem ggX0_acted_X0_foldedByRain : GoodIn wsX0_acted wsX0_foldedByRain := goodIn_r _ [19, 6, 11, 20, 21, 22, 23, 24, 25, 26, 37, 38, 39, 40, 41, 42] (by decide +kernel) (by decide +kernel)
set_option maxRecDepth 20000 in
theorem gX0_acted_X0_foldedByRain : GoodIn wsX0_acted (wsV RX0 82 RX0 yX0_foldedByRain wsX0_foldedByRain) := goodIn_app (goodIn_of _ (by decide +kernel)) ggX0_acted_X0_foldedByRain
set_option maxRecDepth 20000 in
theorem ggX0_acted_X0_blown : GoodIn wsX0_acted wsX0_blown := goodIn_r _ [30, 11, 31, 32, 12, 13, 14, 4, 15, 6, 37, 38, 39, 40, 41, 42] (by decide +kernel) (by decide +kernel)
set_option maxRecDepth 20000 in
theorem gX0_acted_X0_blown : GoodIn wsX0_acted (wsV RX0 86 RX0 yX0_blown wsX0_blown) := goodIn_app (goodIn_of _ (by decide +kernel)) ggX0_acted_X0_blown
set_option maxRecDepth 20000 in
theorem ggX0_acted_X0_turned : GoodIn wsX0_acted wsX0_turned := goodIn_r _ [36, 32, 7, 8, 9, 4, 10, 11, 12, 13, 14, 15, 6, 37, 38, 39, 40, 41, 42] (by decide +kernel) (by decide +kernel)
set_option maxRecDepth 20000 in
theorem gX0_acted_X0_turned : GoodIn wsX0_acted (wsV RX0 89 RX0 yX0_turned wsX0_turned) := goodIn_app (goodIn_of _ (by decide +kernel)) ggX0_acted_X0_turned
theorem dX0_acted_0 : decode cX0_acted 0 = .ok (.iload_n 2, 1) := by decide +kernel
theorem dX0_acted_1 : decode cX0_acted 1 = .ok (.bipush 9, 2) := by decide +kernel
theorem dX0_acted_3 : decode cX0_acted 3 = .ok (.if_icmp .ne 9, 3) := by decide +kernel
theorem dX0_acted_6 : decode cX0_acted 6 = .ok (.aload_n 0, 1) := by decide +kernel
theorem dX0_acted_7 : decode cX0_acted 7 = .ok (.iload_n 1, 1) := by decide +kernel
theorem dX0_acted_8 : decode cX0_acted 8 = .ok (.invokevirtual 79, 3) := by decide +kernel
theorem dX0_acted_11 : decode cX0_acted 11 = .ok (.ireturn, 1) := by decide +kernel
theorem dX0_acted_12 : decode cX0_acted 12 = .ok (.iload_n 2, 1) := by decide +kernel
theorem dX0_acted_13 : decode cX0_acted 13 = .ok (.bipush 8, 2) := by decide +kernel
theorem dX0_acted_15 : decode cX0_acted 15 = .ok (.if_icmp .ne 10, 3) := by decide +kernel
theorem dX0_acted_18 : decode cX0_acted 18 = .ok (.aload_n 0, 1) := by decide +kernel
theorem dX0_acted_19 : decode cX0_acted 19 = .ok (.invokevirtual 82, 3) := by decide +kernel
theorem dX0_acted_22 : decode cX0_acted 22 = .ok (.pop, 1) := by decide +kernel
theorem dX0_acted_23 : decode cX0_acted 23 = .ok (.iconst 1, 1) := by decide +kernel
theorem dX0_acted_24 : decode cX0_acted 24 = .ok (.ireturn, 1) := by decide +kernel
theorem dX0_acted_25 : decode cX0_acted 25 = .ok (.iload_n 2, 1) := by decide +kernel
theorem dX0_acted_26 : decode cX0_acted 26 = .ok (.iconst 4, 1) := by decide +kernel
theorem dX0_acted_27 : decode cX0_acted 27 = .ok (.if_icmp .lt 14, 3) := by decide +kernel
theorem dX0_acted_30 : decode cX0_acted 30 = .ok (.aload_n 0, 1) := by decide +kernel
theorem dX0_acted_31 : decode cX0_acted 31 = .ok (.iload_n 2, 1) := by decide +kernel
theorem dX0_acted_32 : decode cX0_acted 32 = .ok (.iconst 4, 1) := by decide +kernel
theorem dX0_acted_33 : decode cX0_acted 33 = .ok (.isub, 1) := by decide +kernel
theorem dX0_acted_34 : decode cX0_acted 34 = .ok (.iload_n 1, 1) := by decide +kernel
theorem dX0_acted_35 : decode cX0_acted 35 = .ok (.invokevirtual 86, 3) := by decide +kernel
theorem dX0_acted_38 : decode cX0_acted 38 = .ok (.pop, 1) := by decide +kernel
theorem dX0_acted_39 : decode cX0_acted 39 = .ok (.iconst 1, 1) := by decide +kernel
theorem dX0_acted_40 : decode cX0_acted 40 = .ok (.ireturn, 1) := by decide +kernel
theorem dX0_acted_41 : decode cX0_acted 41 = .ok (.aload_n 0, 1) := by decide +kernel
theorem dX0_acted_42 : decode cX0_acted 42 = .ok (.iload_n 1, 1) := by decide +kernel
theorem dX0_acted_43 : decode cX0_acted 43 = .ok (.iload_n 2, 1) := by decide +kernel
theorem dX0_acted_44 : decode cX0_acted 44 = .ok (.invokevirtual 89, 3) := by decide +kernel
theorem dX0_acted_47 : decode cX0_acted 47 = .ok (.ireturn, 1) := by decide +kernel
theorem dX1_init_0 : decode cX1_init 0 = .ok (.aload_n 0, 1) := by decide +kernel
theorem dX1_init_1 : decode cX1_init 1 = .ok (.invokespecial 3, 3) := by decide +kernel
theorem dX1_init_4 : decode cX1_init 4 = .ok (.aload_n 0, 1) := by decide +kernel
theorem dX1_init_5 : decode cX1_init 5 = .ok (.bipush 60, 2) := by decide +kernel
theorem dX1_init_7 : decode cX1_init 7 = .ok (.newarray .int, 2) := by decide +kernel
theorem dX1_init_9 : decode cX1_init 9 = .ok (.putfield 9, 3) := by decide +kernel
theorem dX1_init_12 : decode cX1_init 12 = .ok (.aload_n 0, 1) := by decide +kernel
theorem dX1_init_13 : decode cX1_init 13 = .ok (.iconst 0, 1) := by decide +kernel
theorem dX1_init_14 : decode cX1_init 14 = .ok (.putfield 15, 3) := by decide +kernel
theorem dX1_init_17 : decode cX1_init 17 = .ok (.aload_n 0, 1) := by decide +kernel
theorem dX1_init_18 : decode cX1_init 18 = .ok (.iconst 0, 1) := by decide +kernel
theorem dX1_init_19 : decode cX1_init 19 = .ok (.putfield 19, 3) := by decide +kernel
theorem dX1_init_22 : decode cX1_init 22 = .ok (.aload_n 0, 1) := by decide +kernel
theorem dX1_init_23 : decode cX1_init 23 = .ok (.iconst 0, 1) := by decide +kernel
theorem dX1_init_24 : decode cX1_init 24 = .ok (.putfield 23, 3) := by decide +kernel
theorem dX1_init_27 : decode cX1_init 27 = .ok (.return_, 1) := by decide +kernel
theorem dX1_getsRow_0 : decode cX1_getsRow 0 = .ok (.aload_n 0, 1) := by decide +kernel
theorem dX1_getsRow_1 : decode cX1_getsRow 1 = .ok (.iconst 1, 1) := by decide +kernel
theorem dX1_getsRow_2 : decode cX1_getsRow 2 = .ok (.putfield 15, 3) := by decide +kernel
theorem dX1_getsRow_5 : decode cX1_getsRow 5 = .ok (.aload_n 0, 1) := by decide +kernel
theorem dX1_getsRow_6 : decode cX1_getsRow 6 = .ok (.iload_n 1, 1) := by decide +kernel
theorem dX1_getsRow_7 : decode cX1_getsRow 7 = .ok (.putfield 19, 3) := by decide +kernel
theorem dX1_getsRow_10 : decode cX1_getsRow 10 = .ok (.aload_n 0, 1) := by decide +kernel
theorem dX1_getsRow_11 : decode cX1_getsRow 11 = .ok (.iload_n 2, 1) := by decide +kernel
theorem dX1_getsRow_12 : decode cX1_getsRow 12 = .ok (.bipush 60, 2) := by decide +kernel
theorem dX1_getsRow_14 : decode cX1_getsRow 14 = .ok (.invokestatic 26, 3) := by decide +kernel
theorem dX1_getsRow_17 : decode cX1_getsRow 17 = .ok (.putfield 23, 3) := by decide +kernel
theorem dX1_getsRow_20 : decode cX1_getsRow 20 = .ok (.iconst 0, 1) := by decide +kernel
theorem dX1_getsRow_21 : decode cX1_getsRow 21 = .ok (.istore_n 3, 1) := by decide +kernel
theorem dX1_getsRow_22 : decode cX1_getsRow 22 = .ok (.iload_n 3, 1) := by decide +kernel
theorem dX1_getsRow_23 : decode cX1_getsRow 23 = .ok (.aload_n 0, 1) := by decide +kernel
theorem dX1_getsRow_24 : decode cX1_getsRow 24 = .ok (.getfield 23, 3) := by decide +kernel
theorem dX1_getsRow_27 : decode cX1_getsRow 27 = .ok (.if_icmp .ge 16, 3) := by decide +kernel
theorem dX1_getsRow_30 : decode cX1_getsRow 30 = .ok (.aload_n 0, 1) := by decide +kernel
theorem dX1_getsRow_31 : decode cX1_getsRow 31 = .ok (.getfield 9, 3) := by decide +kernel
theorem dX1_getsRow_34 : decode cX1_getsRow 34 = .ok (.iload_n 3, 1) := by decide +kernel
theorem dX1_getsRow_35 : decode cX1_getsRow 35 = .ok (.iconst 0, 1) := by decide +kernel
theorem dX1_getsRow_36 : decode cX1_getsRow 36 = .ok (.iastore, 1) := by decide +kernel
theorem dX1_getsRow_37 : decode cX1_getsRow 37 = .ok (.iinc 3 1, 3) := by decide +kernel
theorem dX1_getsRow_40 : decode cX1_getsRow 40 = .ok (.goto (-18), 3) := by decide +kernel
theorem dX1_getsRow_43 : decode cX1_getsRow 43 = .ok (.return_, 1) := by decide +kernel
theorem dX1_faultAs_0 : decode cX1_faultAs 0 = .ok (.aload_n 0, 1) := by decide +kernel
theorem dX1_faultAs_1 : decode cX1_faultAs 1 = .ok (.getfield 15, 3) := by decide +kernel
theorem dX1_faultAs_4 : decode cX1_faultAs 4 = .ok (.ifCond .ne 5, 3) := by decide +kernel
theorem dX1_faultAs_7 : decode cX1_faultAs 7 = .ok (.iconst 1, 1) := by decide +kernel
theorem dX1_faultAs_8 : decode cX1_faultAs 8 = .ok (.ireturn, 1) := by decide +kernel
theorem dX1_faultAs_9 : decode cX1_faultAs 9 = .ok (.aload_n 0, 1) := by decide +kernel
theorem dX1_faultAs_10 : decode cX1_faultAs 10 = .ok (.getfield 19, 3) := by decide +kernel
theorem dX1_faultAs_13 : decode cX1_faultAs 13 = .ok (.iload_n 1, 1) := by decide +kernel
theorem dX1_faultAs_14 : decode cX1_faultAs 14 = .ok (.if_icmp .ne 7, 3) := by decide +kernel
theorem dX1_faultAs_17 : decode cX1_faultAs 17 = .ok (.iconst 0, 1) := by decide +kernel
theorem dX1_faultAs_18 : decode cX1_faultAs 18 = .ok (.goto 4, 3) := by decide +kernel
theorem dX1_faultAs_21 : decode cX1_faultAs 21 = .ok (.iconst 2, 1) := by decide +kernel
theorem dX1_faultAs_22 : decode cX1_faultAs 22 = .ok (.ireturn, 1) := by decide +kernel
theorem dX1_holds_0 : decode cX1_holds 0 = .ok (.iload_n 1, 1) := by decide +kernel
theorem dX1_holds_1 : decode cX1_holds 1 = .ok (.ifCond .lt 29, 3) := by decide +kernel
theorem dX1_holds_4 : decode cX1_holds 4 = .ok (.iload_n 1, 1) := by decide +kernel
theorem dX1_holds_5 : decode cX1_holds 5 = .ok (.aload_n 0, 1) := by decide +kernel
theorem dX1_holds_6 : decode cX1_holds 6 = .ok (.getfield 23, 3) := by decide +kernel
theorem dX1_holds_9 : decode cX1_holds 9 = .ok (.if_icmp .gt 21, 3) := by decide +kernel
theorem dX1_holds_12 : decode cX1_holds 12 = .ok (.iload_n 2, 1) := by decide +kernel
theorem dX1_holds_13 : decode cX1_holds 13 = .ok (.ifCond .lt 17, 3) := by decide +kernel
theorem dX1_holds_16 : decode cX1_holds 16 = .ok (.iload_n 2, 1) := by decide +kernel
theorem dX1_holds_17 : decode cX1_holds 17 = .ok (.aload_n 0, 1) := by decide +kernel
theorem dX1_holds_18 : decode cX1_holds 18 = .ok (.getfield 23, 3) := by decide +kernel
theorem dX1_holds_21 : decode cX1_holds 21 = .ok (.iload_n 1, 1) := by decide +kernel
theorem dX1_holds_22 : decode cX1_holds 22 = .ok (.isub, 1) := by decide +kernel
theorem dX1_holds_23 : decode cX1_holds 23 = .ok (.if_icmp .gt 7, 3) := by decide +kernel
theorem dX1_holds_26 : decode cX1_holds 26 = .ok (.iconst 1, 1) := by decide +kernel
theorem dX1_holds_27 : decode cX1_holds 27 = .ok (.goto 4, 3) := by decide +kernel
theorem dX1_holds_30 : decode cX1_holds 30 = .ok (.iconst 0, 1) := by decide +kernel
theorem dX1_holds_31 : decode cX1_holds 31 = .ok (.ireturn, 1) := by decide +kernel
set_option maxRecDepth 20000 in
theorem ggX1_at_X1_holds : GoodIn wsX1_at wsX1_holds := goodIn_r _ [6, 7, 8, 9, 10, 11] (by decide +kernel) (by decide +kernel)
set_option maxRecDepth 20000 in
theorem gX1_at_X1_holds : GoodIn wsX1_at (wsV RX1 32 RX1 yX1_holds wsX1_holds) := goodIn_app (goodIn_of _ (by decide +kernel)) ggX1_at_X1_holds
theorem dX1_at_0 : decode cX1_at 0 = .ok (.aload_n 0, 1) := by decide +kernel
theorem dX1_at_1 : decode cX1_at 1 = .ok (.iload_n 1, 1) := by decide +kernel
theorem dX1_at_2 : decode cX1_at 2 = .ok (.iconst 1, 1) := by decide +kernel
theorem dX1_at_3 : decode cX1_at 3 = .ok (.invokevirtual 32, 3) := by decide +kernel
theorem dX1_at_6 : decode cX1_at 6 = .ok (.ifCond .eq 12, 3) := by decide +kernel
theorem dX1_at_9 : decode cX1_at 9 = .ok (.aload_n 0, 1) := by decide +kernel
theorem dX1_at_10 : decode cX1_at 10 = .ok (.getfield 9, 3) := by decide +kernel
theorem dX1_at_13 : decode cX1_at 13 = .ok (.iload_n 1, 1) := by decide +kernel
theorem dX1_at_14 : decode cX1_at 14 = .ok (.iaload, 1) := by decide +kernel
theorem dX1_at_15 : decode cX1_at 15 = .ok (.goto 4, 3) := by decide +kernel
theorem dX1_at_18 : decode cX1_at 18 = .ok (.iconst 0, 1) := by decide +kernel
theorem dX1_at_19 : decode cX1_at 19 = .ok (.ireturn, 1) := by decide +kernel
set_option maxRecDepth 20000 in
theorem ggX1_becomesAt_X1_holds : GoodIn wsX1_becomesAt wsX1_holds := goodIn_r _ [6, 7, 13, 14, 15, 16] (by decide +kernel) (by decide +kernel)
set_option maxRecDepth 20000 in
theorem gX1_becomesAt_X1_holds : GoodIn wsX1_becomesAt (wsV RX1 32 RX1 yX1_holds wsX1_holds) := goodIn_app (goodIn_of _ (by decide +kernel)) ggX1_becomesAt_X1_holds
set_option maxRecDepth 20000 in
theorem ggX1_becomesAt_X1_cut : GoodIn wsX1_becomesAt wsX1_cut := goodIn_r _ [11, 12, 13, 14, 15, 16] (by decide +kernel) (by decide +kernel)
set_option maxRecDepth 20000 in
theorem gX1_becomesAt_X1_cut : GoodIn wsX1_becomesAt (wsV RX1 36 RX1 yX1_cut wsX1_cut) := goodIn_app (goodIn_of _ (by decide +kernel)) ggX1_becomesAt_X1_cut
theorem dX1_becomesAt_0 : decode cX1_becomesAt 0 = .ok (.aload_n 0, 1) := by decide +kernel
theorem dX1_becomesAt_1 : decode cX1_becomesAt 1 = .ok (.iload_n 1, 1) := by decide +kernel
theorem dX1_becomesAt_2 : decode cX1_becomesAt 2 = .ok (.iconst 1, 1) := by decide +kernel
theorem dX1_becomesAt_3 : decode cX1_becomesAt 3 = .ok (.invokevirtual 32, 3) := by decide +kernel
theorem dX1_becomesAt_6 : decode cX1_becomesAt 6 = .ok (.ifCond .eq 14, 3) := by decide +kernel
theorem dX1_becomesAt_9 : decode cX1_becomesAt 9 = .ok (.aload_n 0, 1) := by decide +kernel
theorem dX1_becomesAt_10 : decode cX1_becomesAt 10 = .ok (.getfield 9, 3) := by decide +kernel
theorem dX1_becomesAt_13 : decode cX1_becomesAt 13 = .ok (.iload_n 1, 1) := by decide +kernel
theorem dX1_becomesAt_14 : decode cX1_becomesAt 14 = .ok (.aload_n 0, 1) := by decide +kernel
theorem dX1_becomesAt_15 : decode cX1_becomesAt 15 = .ok (.iload_n 2, 1) := by decide +kernel
theorem dX1_becomesAt_16 : decode cX1_becomesAt 16 = .ok (.invokevirtual 36, 3) := by decide +kernel
theorem dX1_becomesAt_19 : decode cX1_becomesAt 19 = .ok (.iastore, 1) := by decide +kernel
theorem dX1_becomesAt_20 : decode cX1_becomesAt 20 = .ok (.return_, 1) := by decide +kernel
theorem dX1_cut_0 : decode cX1_cut 0 = .ok (.aload_n 0, 1) := by decide +kernel
theorem dX1_cut_1 : decode cX1_cut 1 = .ok (.getfield 19, 3) := by decide +kernel
theorem dX1_cut_4 : decode cX1_cut 4 = .ok (.lookupswitch 34 #[(0, 28), (1, 31)], 28) := by decide +kernel
theorem dX1_cut_32 : decode cX1_cut 32 = .ok (.iload_n 1, 1) := by decide +kernel
theorem dX1_cut_33 : decode cX1_cut 33 = .ok (.i2b, 1) := by decide +kernel
theorem dX1_cut_34 : decode cX1_cut 34 = .ok (.ireturn, 1) := by decide +kernel
theorem dX1_cut_35 : decode cX1_cut 35 = .ok (.iload_n 1, 1) := by decide +kernel
theorem dX1_cut_36 : decode cX1_cut 36 = .ok (.i2s, 1) := by decide +kernel
theorem dX1_cut_37 : decode cX1_cut 37 = .ok (.ireturn, 1) := by decide +kernel
theorem dX1_cut_38 : decode cX1_cut 38 = .ok (.iload_n 1, 1) := by decide +kernel
theorem dX1_cut_39 : decode cX1_cut 39 = .ok (.ireturn, 1) := by decide +kernel
set_option maxRecDepth 20000 in
theorem ggX2_init_X0_init : GoodIn wsX2_init wsX0_init := goodIn_r _ [21, 22, 2, 3, 11, 23, 24, 25, 26, 27, 28, 45, 46, 47, 48, 49, 50] (by decide +kernel) (by decide +kernel)
set_option maxRecDepth 20000 in
theorem gX2_init_X0_init_n19 : GoodIn wsX2_init (wsX0_init) := ggX2_init_X0_init
set_option maxRecDepth 20000 in
theorem ggX2_init_X1_init : GoodIn wsX2_init wsX1_init := goodIn_r _ [30, 31, 2, 3, 11, 32, 33, 34, 35, 51, 52, 53, 54] (by decide +kernel) (by decide +kernel)
set_option maxRecDepth 20000 in
theorem gX2_init_X1_init_n47 : GoodIn wsX2_init (wsX1_init) := ggX2_init_X1_init
theorem dX2_init_0 : decode cX2_init 0 = .ok (.aload_n 0, 1) := by decide +kernel
theorem dX2_init_1 : decode cX2_init 1 = .ok (.invokespecial 3, 3) := by decide +kernel
theorem dX2_init_4 : decode cX2_init 4 = .ok (.aload_n 0, 1) := by decide +kernel
theorem dX2_init_5 : decode cX2_init 5 = .ok (.iconst 4, 1) := by decide +kernel
theorem dX2_init_6 : decode cX2_init 6 = .ok (.anewarray 11, 3) := by decide +kernel
theorem dX2_init_9 : decode cX2_init 9 = .ok (.putfield 13, 3) := by decide +kernel
theorem dX2_init_12 : decode cX2_init 12 = .ok (.aload_n 0, 1) := by decide +kernel
theorem dX2_init_13 : decode cX2_init 13 = .ok (.new 17, 3) := by decide +kernel
theorem dX2_init_16 : decode cX2_init 16 = .ok (.dup, 1) := by decide +kernel
theorem dX2_init_17 : decode cX2_init 17 = .ok (.invokespecial 19, 3) := by decide +kernel
theorem dX2_init_20 : decode cX2_init 20 = .ok (.putfield 20, 3) := by decide +kernel
theorem dX2_init_23 : decode cX2_init 23 = .ok (.aload_n 0, 1) := by decide +kernel
theorem dX2_init_24 : decode cX2_init 24 = .ok (.new 17, 3) := by decide +kernel
theorem dX2_init_27 : decode cX2_init 27 = .ok (.dup, 1) := by decide +kernel
theorem dX2_init_28 : decode cX2_init 28 = .ok (.invokespecial 19, 3) := by decide +kernel
theorem dX2_init_31 : decode cX2_init 31 = .ok (.putfield 24, 3) := by decide +kernel
theorem dX2_init_34 : decode cX2_init 34 = .ok (.aload_n 0, 1) := by decide +kernel
theorem dX2_init_35 : decode cX2_init 35 = .ok (.bipush 8, 2) := by decide +kernel
theorem dX2_init_37 : decode cX2_init 37 = .ok (.newarray .int, 2) := by decide +kernel
theorem dX2_init_39 : decode cX2_init 39 = .ok (.putfield 27, 3) := by decide +kernel
theorem dX2_init_42 : decode cX2_init 42 = .ok (.aload_n 0, 1) := by decide +kernel
theorem dX2_init_43 : decode cX2_init 43 = .ok (.bipush 8, 2) := by decide +kernel
theorem dX2_init_45 : decode cX2_init 45 = .ok (.newarray .int, 2) := by decide +kernel
theorem dX2_init_47 : decode cX2_init 47 = .ok (.putfield 31, 3) := by decide +kernel
theorem dX2_init_50 : decode cX2_init 50 = .ok (.aload_n 0, 1) := by decide +kernel
theorem dX2_init_51 : decode cX2_init 51 = .ok (.bipush 8, 2) := by decide +kernel
theorem dX2_init_53 : decode cX2_init 53 = .ok (.newarray .int, 2) := by decide +kernel
theorem dX2_init_55 : decode cX2_init 55 = .ok (.putfield 34, 3) := by decide +kernel
theorem dX2_init_58 : decode cX2_init 58 = .ok (.aload_n 0, 1) := by decide +kernel
theorem dX2_init_59 : decode cX2_init 59 = .ok (.iconst 0, 1) := by decide +kernel
theorem dX2_init_60 : decode cX2_init 60 = .ok (.putfield 37, 3) := by decide +kernel
theorem dX2_init_63 : decode cX2_init 63 = .ok (.aload_n 0, 1) := by decide +kernel
theorem dX2_init_64 : decode cX2_init 64 = .ok (.iconst 0, 1) := by decide +kernel
theorem dX2_init_65 : decode cX2_init 65 = .ok (.putfield 41, 3) := by decide +kernel
theorem dX2_init_68 : decode cX2_init 68 = .ok (.aload_n 0, 1) := by decide +kernel
theorem dX2_init_69 : decode cX2_init 69 = .ok (.iconst 0, 1) := by decide +kernel
theorem dX2_init_70 : decode cX2_init 70 = .ok (.putfield 44, 3) := by decide +kernel
theorem dX2_init_73 : decode cX2_init 73 = .ok (.iconst 0, 1) := by decide +kernel
theorem dX2_init_74 : decode cX2_init 74 = .ok (.istore_n 1, 1) := by decide +kernel
theorem dX2_init_75 : decode cX2_init 75 = .ok (.iload_n 1, 1) := by decide +kernel
theorem dX2_init_76 : decode cX2_init 76 = .ok (.aload_n 0, 1) := by decide +kernel
theorem dX2_init_77 : decode cX2_init 77 = .ok (.getfield 13, 3) := by decide +kernel
theorem dX2_init_80 : decode cX2_init 80 = .ok (.arraylength, 1) := by decide +kernel
theorem dX2_init_81 : decode cX2_init 81 = .ok (.if_icmp .ge 22, 3) := by decide +kernel
theorem dX2_init_84 : decode cX2_init 84 = .ok (.aload_n 0, 1) := by decide +kernel
theorem dX2_init_85 : decode cX2_init 85 = .ok (.getfield 13, 3) := by decide +kernel
theorem dX2_init_88 : decode cX2_init 88 = .ok (.iload_n 1, 1) := by decide +kernel
theorem dX2_init_89 : decode cX2_init 89 = .ok (.new 11, 3) := by decide +kernel
theorem dX2_init_92 : decode cX2_init 92 = .ok (.dup, 1) := by decide +kernel
theorem dX2_init_93 : decode cX2_init 93 = .ok (.invokespecial 47, 3) := by decide +kernel
theorem dX2_init_96 : decode cX2_init 96 = .ok (.aastore, 1) := by decide +kernel
theorem dX2_init_97 : decode cX2_init 97 = .ok (.iinc 1 1, 3) := by decide +kernel
theorem dX2_init_100 : decode cX2_init 100 = .ok (.goto (-25), 3) := by decide +kernel
theorem dX2_init_103 : decode cX2_init 103 = .ok (.return_, 1) := by decide +kernel
set_option maxRecDepth 20000 in
theorem ggX2_front_X2_sheetAt : GoodIn wsX2_front wsX2_sheetAt := goodIn_r _ [8, 9, 64, 65, 66, 67, 68, 69, 70, 71, 72] (by decide +kernel) (by decide +kernel)
set_option maxRecDepth 20000 in
theorem gX2_front_X2_sheetAt : GoodIn wsX2_front (wsV RX2 48 RX2 yX2_sheetAt wsX2_sheetAt) := goodIn_app (goodIn_of _ (by decide +kernel)) ggX2_front_X2_sheetAt
set_option maxRecDepth 20000 in
theorem ggX2_front_X2_isLane : GoodIn wsX2_front wsX2_isLane := goodIn_r _ [12] (by decide +kernel) (by decide +kernel)
set_option maxRecDepth 20000 in
theorem gX2_front_X2_isLane : GoodIn wsX2_front (va_wsS RX2 52 yX2_isLane wsX2_isLane) := goodIn_app (goodIn_of _ (by decide +kernel)) ggX2_front_X2_isLane
set_option maxRecDepth 20000 in
theorem ggX2_front_X1_faultAs : GoodIn wsX2_front wsX1_faultAs := goodIn_r _ [17, 18, 19, 79, 80, 81, 82] (by decide +kernel) (by decide +kernel)
set_option maxRecDepth 20000 in
theorem gX2_front_X1_faultAs : GoodIn wsX2_front (wsV RX2 56 RX1 yX1_faultAs wsX1_faultAs) := goodIn_app (goodIn_of _ (by decide +kernel)) ggX2_front_X1_faultAs
set_option maxRecDepth 20000 in
theorem ggX2_front_X2_faulted : GoodIn wsX2_front wsX2_faulted := goodIn_r _ [23, 1, 64, 65, 66, 67, 68, 69, 70, 71, 72] (by decide +kernel) (by decide +kernel)
set_option maxRecDepth 20000 in
theorem gX2_front_X2_faulted : GoodIn wsX2_front (wsV RX2 60 RX2 yX2_faulted wsX2_faulted) := goodIn_app (goodIn_of _ (by decide +kernel)) ggX2_front_X2_faulted
set_option maxRecDepth 20000 in
theorem ggX2_front_X1_holds : GoodIn wsX2_front wsX1_holds := goodIn_r _ [27, 28, 79, 80, 81, 82] (by decide +kernel) (by decide +kernel)
set_option maxRecDepth 20000 in
theorem gX2_front_X1_holds : GoodIn wsX2_front (wsV RX2 63 RX1 yX1_holds wsX1_holds) := goodIn_app (goodIn_of _ (by decide +kernel)) ggX2_front_X1_holds
set_option maxRecDepth 20000 in
theorem ggX2_front_X2_firstFaultOfText : GoodIn wsX2_front wsX2_firstFaultOfText := goodIn_r _ [31, 32, 33, 34, 16, 35, 36, 37, 25, 26, 27, 28, 38, 39, 7, 40, 41, 42, 43, 44, 45, 46, 47, 48, 49, 79, 80, 81, 82] (by decide +kernel) (by decide +kernel)
set_option maxRecDepth 20000 in
theorem gX2_front_X2_firstFaultOfText : GoodIn wsX2_front (va_wsS RX2 67 yX2_firstFaultOfText wsX2_firstFaultOfText) := goodIn_app (goodIn_of _ (by decide +kernel)) ggX2_front_X2_firstFaultOfText
set_option maxRecDepth 20000 in
theorem ggX2_front_X2_takeText : GoodIn wsX2_front wsX2_takeText := goodIn_r _ [53, 2, 54, 55, 56, 57, 3, 58, 59, 60, 61, 62, 63, 32, 33, 34, 16, 35, 36, 37, 25, 26, 27, 28, 41, 42, 7, 43, 64, 65, 66, 67, 68, 69, 70, 71, 72, 73, 74, 75, 76, 77, 78, 79, 80, 81, 82] (by decide +kernel) (by decide +kernel)
set_option maxRecDepth 20000 in
theorem gX2_front_X2_takeText : GoodIn wsX2_front (wsV RX2 71 RX2 yX2_takeText wsX2_takeText) := goodIn_app (goodIn_of _ (by decide +kernel)) ggX2_front_X2_takeText
theorem dX2_front_0 : decode cX2_front 0 = .ok (.aload_n 0, 1) := by decide +kernel
theorem dX2_front_1 : decode cX2_front 1 = .ok (.iconst 0, 1) := by decide +kernel
theorem dX2_front_2 : decode cX2_front 2 = .ok (.putfield 44, 3) := by decide +kernel
theorem dX2_front_5 : decode cX2_front 5 = .ok (.aload_n 0, 1) := by decide +kernel
theorem dX2_front_6 : decode cX2_front 6 = .ok (.iload_n 1, 1) := by decide +kernel
theorem dX2_front_7 : decode cX2_front 7 = .ok (.invokevirtual 48, 3) := by decide +kernel
theorem dX2_front_10 : decode cX2_front 10 = .ok (.astore 5, 2) := by decide +kernel
theorem dX2_front_12 : decode cX2_front 12 = .ok (.aload 5, 2) := by decide +kernel
theorem dX2_front_14 : decode cX2_front 14 = .ok (.ifnonnull 5, 3) := by decide +kernel
theorem dX2_front_17 : decode cX2_front 17 = .ok (.iconst (-1), 1) := by decide +kernel
theorem dX2_front_18 : decode cX2_front 18 = .ok (.ireturn, 1) := by decide +kernel
theorem dX2_front_19 : decode cX2_front 19 = .ok (.iload_n 2, 1) := by decide +kernel
theorem dX2_front_20 : decode cX2_front 20 = .ok (.invokestatic 52, 3) := by decide +kernel
theorem dX2_front_23 : decode cX2_front 23 = .ok (.ifCond .ne 6, 3) := by decide +kernel
theorem dX2_front_26 : decode cX2_front 26 = .ok (.bipush (-2), 2) := by decide +kernel
theorem dX2_front_28 : decode cX2_front 28 = .ok (.ireturn, 1) := by decide +kernel
theorem dX2_front_29 : decode cX2_front 29 = .ok (.aload 5, 2) := by decide +kernel
theorem dX2_front_31 : decode cX2_front 31 = .ok (.iload_n 2, 1) := by decide +kernel
theorem dX2_front_32 : decode cX2_front 32 = .ok (.invokevirtual 56, 3) := by decide +kernel
theorem dX2_front_35 : decode cX2_front 35 = .ok (.istore 6, 2) := by decide +kernel
theorem dX2_front_37 : decode cX2_front 37 = .ok (.iload 6, 2) := by decide +kernel
theorem dX2_front_39 : decode cX2_front 39 = .ok (.ifCond .eq 10, 3) := by decide +kernel
theorem dX2_front_42 : decode cX2_front 42 = .ok (.aload_n 0, 1) := by decide +kernel
theorem dX2_front_43 : decode cX2_front 43 = .ok (.iload 6, 2) := by decide +kernel
theorem dX2_front_45 : decode cX2_front 45 = .ok (.invokevirtual 60, 3) := by decide +kernel
theorem dX2_front_48 : decode cX2_front 48 = .ok (.ireturn, 1) := by decide +kernel
theorem dX2_front_49 : decode cX2_front 49 = .ok (.iload 4, 2) := by decide +kernel
theorem dX2_front_51 : decode cX2_front 51 = .ok (.ifCond .ge 9, 3) := by decide +kernel
theorem dX2_front_54 : decode cX2_front 54 = .ok (.aload_n 0, 1) := by decide +kernel
theorem dX2_front_55 : decode cX2_front 55 = .ok (.iconst 4, 1) := by decide +kernel
theorem dX2_front_56 : decode cX2_front 56 = .ok (.invokevirtual 60, 3) := by decide +kernel
theorem dX2_front_59 : decode cX2_front 59 = .ok (.ireturn, 1) := by decide +kernel
theorem dX2_front_60 : decode cX2_front 60 = .ok (.aload 5, 2) := by decide +kernel
theorem dX2_front_62 : decode cX2_front 62 = .ok (.iload_n 3, 1) := by decide +kernel
theorem dX2_front_63 : decode cX2_front 63 = .ok (.iload 4, 2) := by decide +kernel
theorem dX2_front_65 : decode cX2_front 65 = .ok (.invokevirtual 63, 3) := by decide +kernel
theorem dX2_front_68 : decode cX2_front 68 = .ok (.ifCond .ne 9, 3) := by decide +kernel
theorem dX2_front_71 : decode cX2_front 71 = .ok (.aload_n 0, 1) := by decide +kernel
theorem dX2_front_72 : decode cX2_front 72 = .ok (.iconst 3, 1) := by decide +kernel
theorem dX2_front_73 : decode cX2_front 73 = .ok (.invokevirtual 60, 3) := by decide +kernel
theorem dX2_front_76 : decode cX2_front 76 = .ok (.ireturn, 1) := by decide +kernel
theorem dX2_front_77 : decode cX2_front 77 = .ok (.aload 5, 2) := by decide +kernel
theorem dX2_front_79 : decode cX2_front 79 = .ok (.iload_n 3, 1) := by decide +kernel
theorem dX2_front_80 : decode cX2_front 80 = .ok (.iload 4, 2) := by decide +kernel
theorem dX2_front_82 : decode cX2_front 82 = .ok (.invokestatic 67, 3) := by decide +kernel
theorem dX2_front_85 : decode cX2_front 85 = .ok (.istore 7, 2) := by decide +kernel
theorem dX2_front_87 : decode cX2_front 87 = .ok (.iload 7, 2) := by decide +kernel
theorem dX2_front_89 : decode cX2_front 89 = .ok (.bipush (-9), 2) := by decide +kernel
theorem dX2_front_91 : decode cX2_front 91 = .ok (.if_icmp .eq 9, 3) := by decide +kernel
theorem dX2_front_94 : decode cX2_front 94 = .ok (.bipush (-100), 2) := by decide +kernel
theorem dX2_front_96 : decode cX2_front 96 = .ok (.iload 7, 2) := by decide +kernel
theorem dX2_front_98 : decode cX2_front 98 = .ok (.isub, 1) := by decide +kernel
theorem dX2_front_99 : decode cX2_front 99 = .ok (.ireturn, 1) := by decide +kernel
theorem dX2_front_100 : decode cX2_front 100 = .ok (.aload_n 0, 1) := by decide +kernel
theorem dX2_front_101 : decode cX2_front 101 = .ok (.aload 5, 2) := by decide +kernel
theorem dX2_front_103 : decode cX2_front 103 = .ok (.iload_n 3, 1) := by decide +kernel
theorem dX2_front_104 : decode cX2_front 104 = .ok (.iload 4, 2) := by decide +kernel
theorem dX2_front_106 : decode cX2_front 106 = .ok (.invokevirtual 71, 3) := by decide +kernel
theorem dX2_front_109 : decode cX2_front 109 = .ok (.aload_n 0, 1) := by decide +kernel
theorem dX2_front_110 : decode cX2_front 110 = .ok (.getfield 20, 3) := by decide +kernel
theorem dX2_front_113 : decode cX2_front 113 = .ok (.getfield 75, 3) := by decide +kernel
theorem dX2_front_116 : decode cX2_front 116 = .ok (.ireturn, 1) := by decide +kernel
set_option maxRecDepth 20000 in
theorem ggX2_ofChair_X0_has : GoodIn wsX2_ofChair wsX0_has := goodIn_r _ [10, 11, 51, 52, 53, 54, 55, 56] (by decide +kernel) (by decide +kernel)
set_option maxRecDepth 20000 in
theorem gX2_ofChair_X0_has : GoodIn wsX2_ofChair (wsV RX2 78 RX0 yX0_has wsX0_has) := goodIn_app (goodIn_of _ (by decide +kernel)) ggX2_ofChair_X0_has
set_option maxRecDepth 20000 in
theorem ggX2_ofChair_X0_isFolded : GoodIn wsX2_ofChair wsX0_isFolded := goodIn_r _ [15, 16, 51, 52, 53, 54, 55, 56] (by decide +kernel) (by decide +kernel)
set_option maxRecDepth 20000 in
theorem gX2_ofChair_X0_isFolded : GoodIn wsX2_ofChair (wsV RX2 93 RX0 yX0_isFolded wsX0_isFolded) := goodIn_app (goodIn_of _ (by decide +kernel)) ggX2_ofChair_X0_isFolded
set_option maxRecDepth 20000 in
theorem ggX2_ofChair_X0_votes : GoodIn wsX2_ofChair wsX0_votes := goodIn_r _ [20, 21, 13, 14, 9, 15, 16, 22, 23, 24, 25, 26, 27, 28, 7, 8, 10, 11, 29, 30, 31, 51, 52, 53, 54, 55, 56] (by decide +kernel) (by decide +kernel)
set_option maxRecDepth 20000 in
theorem gX2_ofChair_X0_votes : GoodIn wsX2_ofChair (wsV RX2 96 RX0 yX0_votes wsX0_votes) := goodIn_app (goodIn_of _ (by decide +kernel)) ggX2_ofChair_X0_votes
set_option maxRecDepth 20000 in
theorem ggX2_ofChair_X0_side : GoodIn wsX2_ofChair wsX0_side := goodIn_r _ [35, 36, 37, 28, 7, 8, 9, 10, 11, 21, 13, 14, 15, 16, 38, 39, 40, 41, 51, 52, 53, 54, 55, 56] (by decide +kernel) (by decide +kernel)
set_option maxRecDepth 20000 in
theorem gX2_ofChair_X0_side : GoodIn wsX2_ofChair (wsV RX2 99 RX0 yX0_side wsX0_side) := goodIn_app (goodIn_of _ (by decide +kernel)) ggX2_ofChair_X0_side
theorem dX2_ofChair_0 : decode cX2_ofChair 0 = .ok (.aload_n 0, 1) := by decide +kernel
theorem dX2_ofChair_1 : decode cX2_ofChair 1 = .ok (.getfield 20, 3) := by decide +kernel
theorem dX2_ofChair_4 : decode cX2_ofChair 4 = .ok (.iload_n 1, 1) := by decide +kernel
theorem dX2_ofChair_5 : decode cX2_ofChair 5 = .ok (.invokevirtual 78, 3) := by decide +kernel
theorem dX2_ofChair_8 : decode cX2_ofChair 8 = .ok (.ifCond .ne 5, 3) := by decide +kernel
theorem dX2_ofChair_11 : decode cX2_ofChair 11 = .ok (.iconst (-1), 1) := by decide +kernel
theorem dX2_ofChair_12 : decode cX2_ofChair 12 = .ok (.ireturn, 1) := by decide +kernel
theorem dX2_ofChair_13 : decode cX2_ofChair 13 = .ok (.iload_n 2, 1) := by decide +kernel
theorem dX2_ofChair_14 : decode cX2_ofChair 14 = .ok (.tableswitch 117 0 6 #[42, 52, 62, 72, 82, 99, 108], 42) := by decide +kernel
theorem dX2_ofChair_56 : decode cX2_ofChair 56 = .ok (.aload_n 0, 1) := by decide +kernel
theorem dX2_ofChair_57 : decode cX2_ofChair 57 = .ok (.getfield 20, 3) := by decide +kernel
theorem dX2_ofChair_60 : decode cX2_ofChair 60 = .ok (.getfield 81, 3) := by decide +kernel
theorem dX2_ofChair_63 : decode cX2_ofChair 63 = .ok (.iload_n 1, 1) := by decide +kernel
theorem dX2_ofChair_64 : decode cX2_ofChair 64 = .ok (.iaload, 1) := by decide +kernel
theorem dX2_ofChair_65 : decode cX2_ofChair 65 = .ok (.ireturn, 1) := by decide +kernel
theorem dX2_ofChair_66 : decode cX2_ofChair 66 = .ok (.aload_n 0, 1) := by decide +kernel
theorem dX2_ofChair_67 : decode cX2_ofChair 67 = .ok (.getfield 20, 3) := by decide +kernel
theorem dX2_ofChair_70 : decode cX2_ofChair 70 = .ok (.getfield 84, 3) := by decide +kernel
theorem dX2_ofChair_73 : decode cX2_ofChair 73 = .ok (.iload_n 1, 1) := by decide +kernel
theorem dX2_ofChair_74 : decode cX2_ofChair 74 = .ok (.iaload, 1) := by decide +kernel
theorem dX2_ofChair_75 : decode cX2_ofChair 75 = .ok (.ireturn, 1) := by decide +kernel
theorem dX2_ofChair_76 : decode cX2_ofChair 76 = .ok (.aload_n 0, 1) := by decide +kernel
theorem dX2_ofChair_77 : decode cX2_ofChair 77 = .ok (.getfield 20, 3) := by decide +kernel
theorem dX2_ofChair_80 : decode cX2_ofChair 80 = .ok (.getfield 87, 3) := by decide +kernel
theorem dX2_ofChair_83 : decode cX2_ofChair 83 = .ok (.iload_n 1, 1) := by decide +kernel
theorem dX2_ofChair_84 : decode cX2_ofChair 84 = .ok (.iaload, 1) := by decide +kernel
theorem dX2_ofChair_85 : decode cX2_ofChair 85 = .ok (.ireturn, 1) := by decide +kernel
theorem dX2_ofChair_86 : decode cX2_ofChair 86 = .ok (.aload_n 0, 1) := by decide +kernel
theorem dX2_ofChair_87 : decode cX2_ofChair 87 = .ok (.getfield 20, 3) := by decide +kernel
theorem dX2_ofChair_90 : decode cX2_ofChair 90 = .ok (.getfield 90, 3) := by decide +kernel
theorem dX2_ofChair_93 : decode cX2_ofChair 93 = .ok (.iload_n 1, 1) := by decide +kernel
theorem dX2_ofChair_94 : decode cX2_ofChair 94 = .ok (.iaload, 1) := by decide +kernel
theorem dX2_ofChair_95 : decode cX2_ofChair 95 = .ok (.ireturn, 1) := by decide +kernel
theorem dX2_ofChair_96 : decode cX2_ofChair 96 = .ok (.aload_n 0, 1) := by decide +kernel
theorem dX2_ofChair_97 : decode cX2_ofChair 97 = .ok (.getfield 20, 3) := by decide +kernel
theorem dX2_ofChair_100 : decode cX2_ofChair 100 = .ok (.iload_n 1, 1) := by decide +kernel
theorem dX2_ofChair_101 : decode cX2_ofChair 101 = .ok (.invokevirtual 93, 3) := by decide +kernel
theorem dX2_ofChair_104 : decode cX2_ofChair 104 = .ok (.ifCond .eq 7, 3) := by decide +kernel
theorem dX2_ofChair_107 : decode cX2_ofChair 107 = .ok (.iconst 1, 1) := by decide +kernel
theorem dX2_ofChair_108 : decode cX2_ofChair 108 = .ok (.goto 4, 3) := by decide +kernel
theorem dX2_ofChair_111 : decode cX2_ofChair 111 = .ok (.iconst 0, 1) := by decide +kernel
theorem dX2_ofChair_112 : decode cX2_ofChair 112 = .ok (.ireturn, 1) := by decide +kernel
theorem dX2_ofChair_113 : decode cX2_ofChair 113 = .ok (.aload_n 0, 1) := by decide +kernel
theorem dX2_ofChair_114 : decode cX2_ofChair 114 = .ok (.getfield 20, 3) := by decide +kernel
theorem dX2_ofChair_117 : decode cX2_ofChair 117 = .ok (.iload_n 1, 1) := by decide +kernel
theorem dX2_ofChair_118 : decode cX2_ofChair 118 = .ok (.invokevirtual 96, 3) := by decide +kernel
theorem dX2_ofChair_121 : decode cX2_ofChair 121 = .ok (.ireturn, 1) := by decide +kernel
theorem dX2_ofChair_122 : decode cX2_ofChair 122 = .ok (.aload_n 0, 1) := by decide +kernel
theorem dX2_ofChair_123 : decode cX2_ofChair 123 = .ok (.getfield 20, 3) := by decide +kernel
theorem dX2_ofChair_126 : decode cX2_ofChair 126 = .ok (.iload_n 1, 1) := by decide +kernel
theorem dX2_ofChair_127 : decode cX2_ofChair 127 = .ok (.invokevirtual 99, 3) := by decide +kernel
theorem dX2_ofChair_130 : decode cX2_ofChair 130 = .ok (.ireturn, 1) := by decide +kernel
theorem dX2_ofChair_131 : decode cX2_ofChair 131 = .ok (.bipush (-2), 2) := by decide +kernel
theorem dX2_ofChair_133 : decode cX2_ofChair 133 = .ok (.ireturn, 1) := by decide +kernel
set_option maxRecDepth 20000 in
theorem ggX2_paint_X0_has : GoodIn wsX2_paint wsX0_has := goodIn_r _ [7, 8, 22, 23, 24, 25, 26, 27] (by decide +kernel) (by decide +kernel)
set_option maxRecDepth 20000 in
theorem gX2_paint_X0_has : GoodIn wsX2_paint (wsV RX2 78 RX0 yX0_has wsX0_has) := goodIn_app (goodIn_of _ (by decide +kernel)) ggX2_paint_X0_has
set_option maxRecDepth 20000 in
theorem ggX2_paint_X2_isStripe : GoodIn wsX2_paint wsX2_isStripe := goodIn_r _ [12] (by decide +kernel) (by decide +kernel)
set_option maxRecDepth 20000 in
theorem gX2_paint_X2_isStripe : GoodIn wsX2_paint (va_wsS RX2 102 yX2_isStripe wsX2_isStripe) := goodIn_app (goodIn_of _ (by decide +kernel)) ggX2_paint_X2_isStripe
theorem dX2_paint_0 : decode cX2_paint 0 = .ok (.aload_n 0, 1) := by decide +kernel
theorem dX2_paint_1 : decode cX2_paint 1 = .ok (.getfield 20, 3) := by decide +kernel
theorem dX2_paint_4 : decode cX2_paint 4 = .ok (.iload_n 1, 1) := by decide +kernel
theorem dX2_paint_5 : decode cX2_paint 5 = .ok (.invokevirtual 78, 3) := by decide +kernel
theorem dX2_paint_8 : decode cX2_paint 8 = .ok (.ifCond .ne 5, 3) := by decide +kernel
theorem dX2_paint_11 : decode cX2_paint 11 = .ok (.iconst (-1), 1) := by decide +kernel
theorem dX2_paint_12 : decode cX2_paint 12 = .ok (.ireturn, 1) := by decide +kernel
theorem dX2_paint_13 : decode cX2_paint 13 = .ok (.iload_n 2, 1) := by decide +kernel
theorem dX2_paint_14 : decode cX2_paint 14 = .ok (.invokestatic 102, 3) := by decide +kernel
theorem dX2_paint_17 : decode cX2_paint 17 = .ok (.ifCond .ne 6, 3) := by decide +kernel
theorem dX2_paint_20 : decode cX2_paint 20 = .ok (.bipush (-2), 2) := by decide +kernel
theorem dX2_paint_22 : decode cX2_paint 22 = .ok (.ireturn, 1) := by decide +kernel
theorem dX2_paint_23 : decode cX2_paint 23 = .ok (.aload_n 0, 1) := by decide +kernel
theorem dX2_paint_24 : decode cX2_paint 24 = .ok (.getfield 20, 3) := by decide +kernel
theorem dX2_paint_27 : decode cX2_paint 27 = .ok (.getfield 84, 3) := by decide +kernel
theorem dX2_paint_30 : decode cX2_paint 30 = .ok (.iload_n 1, 1) := by decide +kernel
theorem dX2_paint_31 : decode cX2_paint 31 = .ok (.iaload, 1) := by decide +kernel
theorem dX2_paint_32 : decode cX2_paint 32 = .ok (.istore_n 3, 1) := by decide +kernel
theorem dX2_paint_33 : decode cX2_paint 33 = .ok (.aload_n 0, 1) := by decide +kernel
theorem dX2_paint_34 : decode cX2_paint 34 = .ok (.getfield 20, 3) := by decide +kernel
theorem dX2_paint_37 : decode cX2_paint 37 = .ok (.getfield 84, 3) := by decide +kernel
theorem dX2_paint_40 : decode cX2_paint 40 = .ok (.iload_n 1, 1) := by decide +kernel
theorem dX2_paint_41 : decode cX2_paint 41 = .ok (.iload_n 2, 1) := by decide +kernel
theorem dX2_paint_42 : decode cX2_paint 42 = .ok (.iastore, 1) := by decide +kernel
theorem dX2_paint_43 : decode cX2_paint 43 = .ok (.iload_n 3, 1) := by decide +kernel
theorem dX2_paint_44 : decode cX2_paint 44 = .ok (.ireturn, 1) := by decide +kernel
set_option maxRecDepth 20000 in
theorem ggX2_load_X0_has : GoodIn wsX2_load wsX0_has := goodIn_r _ [7, 8, 18, 19, 20, 21, 22, 23] (by decide +kernel) (by decide +kernel)
set_option maxRecDepth 20000 in
theorem gX2_load_X0_has : GoodIn wsX2_load (wsV RX2 78 RX0 yX0_has wsX0_has) := goodIn_app (goodIn_of _ (by decide +kernel)) ggX2_load_X0_has
theorem dX2_load_0 : decode cX2_load 0 = .ok (.aload_n 0, 1) := by decide +kernel
theorem dX2_load_1 : decode cX2_load 1 = .ok (.getfield 20, 3) := by decide +kernel
theorem dX2_load_4 : decode cX2_load 4 = .ok (.iload_n 1, 1) := by decide +kernel
theorem dX2_load_5 : decode cX2_load 5 = .ok (.invokevirtual 78, 3) := by decide +kernel
theorem dX2_load_8 : decode cX2_load 8 = .ok (.ifCond .ne 5, 3) := by decide +kernel
theorem dX2_load_11 : decode cX2_load 11 = .ok (.iconst (-1), 1) := by decide +kernel
theorem dX2_load_12 : decode cX2_load 12 = .ok (.ireturn, 1) := by decide +kernel
theorem dX2_load_13 : decode cX2_load 13 = .ok (.iload_n 2, 1) := by decide +kernel
theorem dX2_load_14 : decode cX2_load 14 = .ok (.iconst 1, 1) := by decide +kernel
theorem dX2_load_15 : decode cX2_load 15 = .ok (.if_icmp .lt 9, 3) := by decide +kernel
theorem dX2_load_18 : decode cX2_load 18 = .ok (.iload_n 2, 1) := by decide +kernel
theorem dX2_load_19 : decode cX2_load 19 = .ok (.bipush 9, 2) := by decide +kernel
theorem dX2_load_21 : decode cX2_load 21 = .ok (.if_icmp .le 6, 3) := by decide +kernel
theorem dX2_load_24 : decode cX2_load 24 = .ok (.bipush (-2), 2) := by decide +kernel
theorem dX2_load_26 : decode cX2_load 26 = .ok (.ireturn, 1) := by decide +kernel
theorem dX2_load_27 : decode cX2_load 27 = .ok (.aload_n 0, 1) := by decide +kernel
theorem dX2_load_28 : decode cX2_load 28 = .ok (.getfield 20, 3) := by decide +kernel
theorem dX2_load_31 : decode cX2_load 31 = .ok (.getfield 87, 3) := by decide +kernel
theorem dX2_load_34 : decode cX2_load 34 = .ok (.iload_n 1, 1) := by decide +kernel
theorem dX2_load_35 : decode cX2_load 35 = .ok (.iaload, 1) := by decide +kernel
theorem dX2_load_36 : decode cX2_load 36 = .ok (.istore_n 3, 1) := by decide +kernel
theorem dX2_load_37 : decode cX2_load 37 = .ok (.aload_n 0, 1) := by decide +kernel
theorem dX2_load_38 : decode cX2_load 38 = .ok (.getfield 20, 3) := by decide +kernel
theorem dX2_load_41 : decode cX2_load 41 = .ok (.getfield 87, 3) := by decide +kernel
theorem dX2_load_44 : decode cX2_load 44 = .ok (.iload_n 1, 1) := by decide +kernel
theorem dX2_load_45 : decode cX2_load 45 = .ok (.iload_n 2, 1) := by decide +kernel
theorem dX2_load_46 : decode cX2_load 46 = .ok (.iastore, 1) := by decide +kernel
theorem dX2_load_47 : decode cX2_load 47 = .ok (.iload_n 3, 1) := by decide +kernel
theorem dX2_load_48 : decode cX2_load 48 = .ok (.ireturn, 1) := by decide +kernel
set_option maxRecDepth 20000 in
theorem ggX2_poll_X2_hasFront : GoodIn wsX2_poll wsX2_hasFront := goodIn_r _ [6, 1, 7, 64, 65, 66, 67, 68, 69, 70, 71, 72, 73, 74, 75, 76, 77, 78] (by decide +kernel) (by decide +kernel)
set_option maxRecDepth 20000 in
theorem gX2_poll_X2_hasFront : GoodIn wsX2_poll (wsV RX2 105 RX2 yX2_hasFront wsX2_hasFront) := goodIn_app (goodIn_of _ (by decide +kernel)) ggX2_poll_X2_hasFront
set_option maxRecDepth 20000 in
theorem ggX2_poll_X0_votesOf : GoodIn wsX2_poll wsX0_votesOf := goodIn_r _ [12, 13, 14, 15, 11, 16, 17, 18, 19, 20, 21, 22, 23, 24, 25, 26, 27, 28, 29, 30, 31, 32, 33, 34, 35, 36, 37, 38, 39, 40, 41, 5, 42, 43, 44, 45, 46, 47, 48, 49, 50, 51, 52, 53, 54, 73, 74, 75, 76, 77, 78] (by decide +kernel) (by decide +kernel)
set_option maxRecDepth 20000 in
theorem gX2_poll_X0_votesOf : GoodIn wsX2_poll (wsV RX2 109 RX0 yX0_votesOf wsX0_votesOf) := goodIn_app (goodIn_of _ (by decide +kernel)) ggX2_poll_X0_votesOf
set_option maxRecDepth 20000 in
theorem ggX2_poll_X0_isCarried : GoodIn wsX2_poll wsX0_isCarried := goodIn_r _ [58, 17, 59, 60, 61, 11, 62, 18, 19, 20, 21, 22, 23, 24, 25, 26, 27, 28, 29, 30, 31, 32, 33, 34, 35, 36, 43, 44, 45, 46, 47, 48, 49, 50, 51, 52, 53, 5, 54, 73, 74, 75, 76, 77, 78] (by decide +kernel) (by decide +kernel)
set_option maxRecDepth 20000 in
theorem gX2_poll_X0_isCarried : GoodIn wsX2_poll (wsV RX2 112 RX0 yX0_isCarried wsX0_isCarried) := goodIn_app (goodIn_of _ (by decide +kernel)) ggX2_poll_X0_isCarried
set_option maxRecDepth 20000 in
theorem ggX2_poll_X0_chairsOf : GoodIn wsX2_poll wsX0_chairsOf := goodIn_r _ [16, 17, 18, 19, 20, 11, 21, 22, 23, 24, 25, 26, 27, 28, 29, 30, 31, 32, 33, 34, 35, 36, 73, 74, 75, 76, 77, 78] (by decide +kernel) (by decide +kernel)
set_option maxRecDepth 20000 in
theorem gX2_poll_X0_chairsOf : GoodIn wsX2_poll (wsV RX2 115 RX0 yX0_chairsOf wsX0_chairsOf) := goodIn_app (goodIn_of _ (by decide +kernel)) ggX2_poll_X0_chairsOf
theorem dX2_poll_0 : decode cX2_poll 0 = .ok (.aload_n 0, 1) := by decide +kernel
theorem dX2_poll_1 : decode cX2_poll 1 = .ok (.invokevirtual 105, 3) := by decide +kernel
theorem dX2_poll_4 : decode cX2_poll 4 = .ok (.ifCond .ne 6, 3) := by decide +kernel
theorem dX2_poll_7 : decode cX2_poll 7 = .ok (.bipush (-3), 2) := by decide +kernel
theorem dX2_poll_9 : decode cX2_poll 9 = .ok (.ireturn, 1) := by decide +kernel
theorem dX2_poll_10 : decode cX2_poll 10 = .ok (.iload_n 1, 1) := by decide +kernel
theorem dX2_poll_11 : decode cX2_poll 11 = .ok (.tableswitch 85 0 4 #[33, 42, 51, 67, 76], 33) := by decide +kernel
theorem dX2_poll_44 : decode cX2_poll 44 = .ok (.aload_n 0, 1) := by decide +kernel
theorem dX2_poll_45 : decode cX2_poll 45 = .ok (.getfield 20, 3) := by decide +kernel
theorem dX2_poll_48 : decode cX2_poll 48 = .ok (.iconst 1, 1) := by decide +kernel
theorem dX2_poll_49 : decode cX2_poll 49 = .ok (.invokevirtual 109, 3) := by decide +kernel
theorem dX2_poll_52 : decode cX2_poll 52 = .ok (.ireturn, 1) := by decide +kernel
theorem dX2_poll_53 : decode cX2_poll 53 = .ok (.aload_n 0, 1) := by decide +kernel
theorem dX2_poll_54 : decode cX2_poll 54 = .ok (.getfield 20, 3) := by decide +kernel
theorem dX2_poll_57 : decode cX2_poll 57 = .ok (.iconst 2, 1) := by decide +kernel
theorem dX2_poll_58 : decode cX2_poll 58 = .ok (.invokevirtual 109, 3) := by decide +kernel
theorem dX2_poll_61 : decode cX2_poll 61 = .ok (.ireturn, 1) := by decide +kernel
theorem dX2_poll_62 : decode cX2_poll 62 = .ok (.aload_n 0, 1) := by decide +kernel
theorem dX2_poll_63 : decode cX2_poll 63 = .ok (.getfield 20, 3) := by decide +kernel
theorem dX2_poll_66 : decode cX2_poll 66 = .ok (.invokevirtual 112, 3) := by decide +kernel
theorem dX2_poll_69 : decode cX2_poll 69 = .ok (.ifCond .eq 7, 3) := by decide +kernel
theorem dX2_poll_72 : decode cX2_poll 72 = .ok (.iconst 1, 1) := by decide +kernel
theorem dX2_poll_73 : decode cX2_poll 73 = .ok (.goto 4, 3) := by decide +kernel
theorem dX2_poll_76 : decode cX2_poll 76 = .ok (.iconst 0, 1) := by decide +kernel
theorem dX2_poll_77 : decode cX2_poll 77 = .ok (.ireturn, 1) := by decide +kernel
theorem dX2_poll_78 : decode cX2_poll 78 = .ok (.aload_n 0, 1) := by decide +kernel
theorem dX2_poll_79 : decode cX2_poll 79 = .ok (.getfield 20, 3) := by decide +kernel
theorem dX2_poll_82 : decode cX2_poll 82 = .ok (.iconst 1, 1) := by decide +kernel
theorem dX2_poll_83 : decode cX2_poll 83 = .ok (.invokevirtual 115, 3) := by decide +kernel
theorem dX2_poll_86 : decode cX2_poll 86 = .ok (.ireturn, 1) := by decide +kernel
theorem dX2_poll_87 : decode cX2_poll 87 = .ok (.aload_n 0, 1) := by decide +kernel
theorem dX2_poll_88 : decode cX2_poll 88 = .ok (.getfield 20, 3) := by decide +kernel
theorem dX2_poll_91 : decode cX2_poll 91 = .ok (.iconst 2, 1) := by decide +kernel
theorem dX2_poll_92 : decode cX2_poll 92 = .ok (.invokevirtual 115, 3) := by decide +kernel
theorem dX2_poll_95 : decode cX2_poll 95 = .ok (.ireturn, 1) := by decide +kernel
theorem dX2_poll_96 : decode cX2_poll 96 = .ok (.bipush (-2), 2) := by decide +kernel
theorem dX2_poll_98 : decode cX2_poll 98 = .ok (.ireturn, 1) := by decide +kernel
set_option maxRecDepth 20000 in
theorem ggX2_firstFaultOfText_X1_at : GoodIn wsX2_firstFaultOfText wsX1_at := goodIn_r _ [5, 6, 7, 8, 9, 4, 10, 11, 25, 26, 27, 28] (by decide +kernel) (by decide +kernel)
set_option maxRecDepth 20000 in
theorem gX2_firstFaultOfText_X1_at : GoodIn wsX2_firstFaultOfText (wsV RX2 118 RX1 yX1_at wsX1_at) := goodIn_app (goodIn_of _ (by decide +kernel)) ggX2_firstFaultOfText_X1_at
set_option maxRecDepth 20000 in
theorem ggX2_firstFaultOfText_X2_goesOn : GoodIn wsX2_firstFaultOfText wsX2_goesOn := goodIn_r _ [15, 16, 17, 14, 18, 19, 20, 21, 22, 23, 24] (by decide +kernel) (by decide +kernel)
set_option maxRecDepth 20000 in
theorem gX2_firstFaultOfText_X2_goesOn : GoodIn wsX2_firstFaultOfText (va_wsS RX2 121 yX2_goesOn wsX2_goesOn) := goodIn_app (goodIn_of _ (by decide +kernel)) ggX2_firstFaultOfText_X2_goesOn
theorem dX2_firstFaultOfText_0 : decode cX2_firstFaultOfText 0 = .ok (.iconst 0, 1) := by decide +kernel
theorem dX2_firstFaultOfText_1 : decode cX2_firstFaultOfText 1 = .ok (.istore_n 3, 1) := by decide +kernel
theorem dX2_firstFaultOfText_2 : decode cX2_firstFaultOfText 2 = .ok (.iload_n 3, 1) := by decide +kernel
theorem dX2_firstFaultOfText_3 : decode cX2_firstFaultOfText 3 = .ok (.iload_n 2, 1) := by decide +kernel
theorem dX2_firstFaultOfText_4 : decode cX2_firstFaultOfText 4 = .ok (.if_icmp .ge 25, 3) := by decide +kernel
theorem dX2_firstFaultOfText_7 : decode cX2_firstFaultOfText 7 = .ok (.iload_n 3, 1) := by decide +kernel
theorem dX2_firstFaultOfText_8 : decode cX2_firstFaultOfText 8 = .ok (.aload_n 0, 1) := by decide +kernel
theorem dX2_firstFaultOfText_9 : decode cX2_firstFaultOfText 9 = .ok (.iload_n 1, 1) := by decide +kernel
theorem dX2_firstFaultOfText_10 : decode cX2_firstFaultOfText 10 = .ok (.iload_n 3, 1) := by decide +kernel
theorem dX2_firstFaultOfText_11 : decode cX2_firstFaultOfText 11 = .ok (.iadd, 1) := by decide +kernel
theorem dX2_firstFaultOfText_12 : decode cX2_firstFaultOfText 12 = .ok (.invokevirtual 118, 3) := by decide +kernel
theorem dX2_firstFaultOfText_15 : decode cX2_firstFaultOfText 15 = .ok (.invokestatic 121, 3) := by decide +kernel
theorem dX2_firstFaultOfText_18 : decode cX2_firstFaultOfText 18 = .ok (.ifCond .ne 5, 3) := by decide +kernel
theorem dX2_firstFaultOfText_21 : decode cX2_firstFaultOfText 21 = .ok (.iload_n 3, 1) := by decide +kernel
theorem dX2_firstFaultOfText_22 : decode cX2_firstFaultOfText 22 = .ok (.ireturn, 1) := by decide +kernel
theorem dX2_firstFaultOfText_23 : decode cX2_firstFaultOfText 23 = .ok (.iinc 3 1, 3) := by decide +kernel
theorem dX2_firstFaultOfText_26 : decode cX2_firstFaultOfText 26 = .ok (.goto (-24), 3) := by decide +kernel
theorem dX2_firstFaultOfText_29 : decode cX2_firstFaultOfText 29 = .ok (.iload_n 2, 1) := by decide +kernel
theorem dX2_firstFaultOfText_30 : decode cX2_firstFaultOfText 30 = .ok (.bipush 10, 2) := by decide +kernel
theorem dX2_firstFaultOfText_32 : decode cX2_firstFaultOfText 32 = .ok (.if_icmp .le 15, 3) := by decide +kernel
theorem dX2_firstFaultOfText_35 : decode cX2_firstFaultOfText 35 = .ok (.iload_n 2, 1) := by decide +kernel
theorem dX2_firstFaultOfText_36 : decode cX2_firstFaultOfText 36 = .ok (.iconst 1, 1) := by decide +kernel
theorem dX2_firstFaultOfText_37 : decode cX2_firstFaultOfText 37 = .ok (.isub, 1) := by decide +kernel
theorem dX2_firstFaultOfText_38 : decode cX2_firstFaultOfText 38 = .ok (.iconst 5, 1) := by decide +kernel
theorem dX2_firstFaultOfText_39 : decode cX2_firstFaultOfText 39 = .ok (.irem, 1) := by decide +kernel
theorem dX2_firstFaultOfText_40 : decode cX2_firstFaultOfText 40 = .ok (.ifCond .ne 7, 3) := by decide +kernel
theorem dX2_firstFaultOfText_43 : decode cX2_firstFaultOfText 43 = .ok (.iconst 1, 1) := by decide +kernel
theorem dX2_firstFaultOfText_44 : decode cX2_firstFaultOfText 44 = .ok (.goto 4, 3) := by decide +kernel
theorem dX2_firstFaultOfText_47 : decode cX2_firstFaultOfText 47 = .ok (.iconst 0, 1) := by decide +kernel
theorem dX2_firstFaultOfText_48 : decode cX2_firstFaultOfText 48 = .ok (.istore_n 3, 1) := by decide +kernel
theorem dX2_firstFaultOfText_49 : decode cX2_firstFaultOfText 49 = .ok (.iload_n 3, 1) := by decide +kernel
theorem dX2_firstFaultOfText_50 : decode cX2_firstFaultOfText 50 = .ok (.ifCond .eq 8, 3) := by decide +kernel
theorem dX2_firstFaultOfText_53 : decode cX2_firstFaultOfText 53 = .ok (.bipush (-9), 2) := by decide +kernel
theorem dX2_firstFaultOfText_55 : decode cX2_firstFaultOfText 55 = .ok (.goto 4, 3) := by decide +kernel
theorem dX2_firstFaultOfText_58 : decode cX2_firstFaultOfText 58 = .ok (.iload_n 2, 1) := by decide +kernel
theorem dX2_firstFaultOfText_59 : decode cX2_firstFaultOfText 59 = .ok (.ireturn, 1) := by decide +kernel
set_option maxRecDepth 20000 in
theorem ggX2_goesOn_X2_kindOf : GoodIn wsX2_goesOn wsX2_kindOf := goodIn_r _ [4] (by decide +kernel) (by decide +kernel)
set_option maxRecDepth 20000 in
theorem gX2_goesOn_X2_kindOf : GoodIn wsX2_goesOn (va_wsS RX2 124 yX2_kindOf wsX2_kindOf) := goodIn_app (goodIn_of _ (by decide +kernel)) ggX2_goesOn_X2_kindOf
set_option maxRecDepth 20000 in
theorem ggX2_goesOn_X2_isStripe : GoodIn wsX2_goesOn wsX2_isStripe := goodIn_r _ [7] (by decide +kernel) (by decide +kernel)
set_option maxRecDepth 20000 in
theorem gX2_goesOn_X2_isStripe : GoodIn wsX2_goesOn (va_wsS RX2 102 yX2_isStripe wsX2_isStripe) := goodIn_app (goodIn_of _ (by decide +kernel)) ggX2_goesOn_X2_isStripe
set_option maxRecDepth 20000 in
theorem ggX2_goesOn_X2_isWay : GoodIn wsX2_goesOn wsX2_isWay := goodIn_r _ [10] (by decide +kernel) (by decide +kernel)
set_option maxRecDepth 20000 in
theorem gX2_goesOn_X2_isWay : GoodIn wsX2_goesOn (va_wsS RX2 127 yX2_isWay wsX2_isWay) := goodIn_app (goodIn_of _ (by decide +kernel)) ggX2_goesOn_X2_isWay
theorem dX2_goesOn_0 : decode cX2_goesOn 0 = .ok (.iload_n 0, 1) := by decide +kernel
theorem dX2_goesOn_1 : decode cX2_goesOn 1 = .ok (.ifCond .ne 15, 3) := by decide +kernel
theorem dX2_goesOn_4 : decode cX2_goesOn 4 = .ok (.iload_n 1, 1) := by decide +kernel
theorem dX2_goesOn_5 : decode cX2_goesOn 5 = .ok (.bipush 102, 2) := by decide +kernel
theorem dX2_goesOn_7 : decode cX2_goesOn 7 = .ok (.if_icmp .ne 7, 3) := by decide +kernel
theorem dX2_goesOn_10 : decode cX2_goesOn 10 = .ok (.iconst 1, 1) := by decide +kernel
theorem dX2_goesOn_11 : decode cX2_goesOn 11 = .ok (.goto 4, 3) := by decide +kernel
theorem dX2_goesOn_14 : decode cX2_goesOn 14 = .ok (.iconst 0, 1) := by decide +kernel
theorem dX2_goesOn_15 : decode cX2_goesOn 15 = .ok (.ireturn, 1) := by decide +kernel
theorem dX2_goesOn_16 : decode cX2_goesOn 16 = .ok (.iload_n 0, 1) := by decide +kernel
theorem dX2_goesOn_17 : decode cX2_goesOn 17 = .ok (.bipush 40, 2) := by decide +kernel
theorem dX2_goesOn_19 : decode cX2_goesOn 19 = .ok (.if_icmp .le 5, 3) := by decide +kernel
theorem dX2_goesOn_22 : decode cX2_goesOn 22 = .ok (.iconst 0, 1) := by decide +kernel
theorem dX2_goesOn_23 : decode cX2_goesOn 23 = .ok (.ireturn, 1) := by decide +kernel
theorem dX2_goesOn_24 : decode cX2_goesOn 24 = .ok (.iload_n 0, 1) := by decide +kernel
theorem dX2_goesOn_25 : decode cX2_goesOn 25 = .ok (.iconst 1, 1) := by decide +kernel
theorem dX2_goesOn_26 : decode cX2_goesOn 26 = .ok (.isub, 1) := by decide +kernel
theorem dX2_goesOn_27 : decode cX2_goesOn 27 = .ok (.iconst 5, 1) := by decide +kernel
theorem dX2_goesOn_28 : decode cX2_goesOn 28 = .ok (.irem, 1) := by decide +kernel
theorem dX2_goesOn_29 : decode cX2_goesOn 29 = .ok (.tableswitch 84 0 3 #[31, 43, 58, 66], 31) := by decide +kernel
theorem dX2_goesOn_60 : decode cX2_goesOn 60 = .ok (.iload_n 1, 1) := by decide +kernel
theorem dX2_goesOn_61 : decode cX2_goesOn 61 = .ok (.bipush 59, 2) := by decide +kernel
theorem dX2_goesOn_63 : decode cX2_goesOn 63 = .ok (.if_icmp .ne 7, 3) := by decide +kernel
theorem dX2_goesOn_66 : decode cX2_goesOn 66 = .ok (.iconst 1, 1) := by decide +kernel
theorem dX2_goesOn_67 : decode cX2_goesOn 67 = .ok (.goto 4, 3) := by decide +kernel
theorem dX2_goesOn_70 : decode cX2_goesOn 70 = .ok (.iconst 0, 1) := by decide +kernel
theorem dX2_goesOn_71 : decode cX2_goesOn 71 = .ok (.ireturn, 1) := by decide +kernel
theorem dX2_goesOn_72 : decode cX2_goesOn 72 = .ok (.iload_n 1, 1) := by decide +kernel
theorem dX2_goesOn_73 : decode cX2_goesOn 73 = .ok (.invokestatic 124, 3) := by decide +kernel
theorem dX2_goesOn_76 : decode cX2_goesOn 76 = .ok (.bipush (-9), 2) := by decide +kernel
theorem dX2_goesOn_78 : decode cX2_goesOn 78 = .ok (.if_icmp .eq 7, 3) := by decide +kernel
theorem dX2_goesOn_81 : decode cX2_goesOn 81 = .ok (.iconst 1, 1) := by decide +kernel
theorem dX2_goesOn_82 : decode cX2_goesOn 82 = .ok (.goto 4, 3) := by decide +kernel
theorem dX2_goesOn_85 : decode cX2_goesOn 85 = .ok (.iconst 0, 1) := by decide +kernel
theorem dX2_goesOn_86 : decode cX2_goesOn 86 = .ok (.ireturn, 1) := by decide +kernel
theorem dX2_goesOn_87 : decode cX2_goesOn 87 = .ok (.iload_n 1, 1) := by decide +kernel
theorem dX2_goesOn_88 : decode cX2_goesOn 88 = .ok (.bipush 48, 2) := by decide +kernel
theorem dX2_goesOn_90 : decode cX2_goesOn 90 = .ok (.isub, 1) := by decide +kernel
theorem dX2_goesOn_91 : decode cX2_goesOn 91 = .ok (.invokestatic 102, 3) := by decide +kernel
theorem dX2_goesOn_94 : decode cX2_goesOn 94 = .ok (.ireturn, 1) := by decide +kernel
theorem dX2_goesOn_95 : decode cX2_goesOn 95 = .ok (.iload_n 1, 1) := by decide +kernel
theorem dX2_goesOn_96 : decode cX2_goesOn 96 = .ok (.bipush 49, 2) := by decide +kernel
theorem dX2_goesOn_98 : decode cX2_goesOn 98 = .ok (.if_icmp .lt 13, 3) := by decide +kernel
theorem dX2_goesOn_101 : decode cX2_goesOn 101 = .ok (.iload_n 1, 1) := by decide +kernel
theorem dX2_goesOn_102 : decode cX2_goesOn 102 = .ok (.bipush 57, 2) := by decide +kernel
theorem dX2_goesOn_104 : decode cX2_goesOn 104 = .ok (.if_icmp .gt 7, 3) := by decide +kernel
theorem dX2_goesOn_107 : decode cX2_goesOn 107 = .ok (.iconst 1, 1) := by decide +kernel
theorem dX2_goesOn_108 : decode cX2_goesOn 108 = .ok (.goto 4, 3) := by decide +kernel
theorem dX2_goesOn_111 : decode cX2_goesOn 111 = .ok (.iconst 0, 1) := by decide +kernel
theorem dX2_goesOn_112 : decode cX2_goesOn 112 = .ok (.ireturn, 1) := by decide +kernel
theorem dX2_goesOn_113 : decode cX2_goesOn 113 = .ok (.iload_n 1, 1) := by decide +kernel
theorem dX2_goesOn_114 : decode cX2_goesOn 114 = .ok (.bipush 48, 2) := by decide +kernel
theorem dX2_goesOn_116 : decode cX2_goesOn 116 = .ok (.isub, 1) := by decide +kernel
theorem dX2_goesOn_117 : decode cX2_goesOn 117 = .ok (.invokestatic 127, 3) := by decide +kernel
theorem dX2_goesOn_120 : decode cX2_goesOn 120 = .ok (.ireturn, 1) := by decide +kernel
theorem dX2_kindOf_0 : decode cX2_kindOf 0 = .ok (.iload_n 0, 1) := by decide +kernel
theorem dX2_kindOf_1 : decode cX2_kindOf 1 = .ok (.lookupswitch 41 #[(98, 39), (112, 35), (115, 37)], 35) := by decide +kernel
theorem dX2_kindOf_36 : decode cX2_kindOf 36 = .ok (.iconst 0, 1) := by decide +kernel
theorem dX2_kindOf_37 : decode cX2_kindOf 37 = .ok (.ireturn, 1) := by decide +kernel
theorem dX2_kindOf_38 : decode cX2_kindOf 38 = .ok (.iconst 1, 1) := by decide +kernel
theorem dX2_kindOf_39 : decode cX2_kindOf 39 = .ok (.ireturn, 1) := by decide +kernel
theorem dX2_kindOf_40 : decode cX2_kindOf 40 = .ok (.iconst 2, 1) := by decide +kernel
theorem dX2_kindOf_41 : decode cX2_kindOf 41 = .ok (.ireturn, 1) := by decide +kernel
theorem dX2_kindOf_42 : decode cX2_kindOf 42 = .ok (.bipush (-9), 2) := by decide +kernel
theorem dX2_kindOf_44 : decode cX2_kindOf 44 = .ok (.ireturn, 1) := by decide +kernel
set_option maxRecDepth 20000 in
theorem ggX2_takeText_X1_at : GoodIn wsX2_takeText wsX1_at := goodIn_r _ [17, 18, 19, 20, 21, 16, 22, 23, 43, 44, 45, 46] (by decide +kernel) (by decide +kernel)
set_option maxRecDepth 20000 in
theorem gX2_takeText_X1_at : GoodIn wsX2_takeText (wsV RX2 118 RX1 yX1_at wsX1_at) := goodIn_app (goodIn_of _ (by decide +kernel)) ggX2_takeText_X1_at
set_option maxRecDepth 20000 in
theorem ggX2_takeText_X2_kindOf : GoodIn wsX2_takeText wsX2_kindOf := goodIn_r _ [27] (by decide +kernel) (by decide +kernel)
set_option maxRecDepth 20000 in
theorem gX2_takeText_X2_kindOf : GoodIn wsX2_takeText (va_wsS RX2 124 yX2_kindOf wsX2_kindOf) := goodIn_app (goodIn_of _ (by decide +kernel)) ggX2_takeText_X2_kindOf
theorem dX2_takeText_0 : decode cX2_takeText 0 = .ok (.aload_n 0, 1) := by decide +kernel
theorem dX2_takeText_1 : decode cX2_takeText 1 = .ok (.getfield 20, 3) := by decide +kernel
theorem dX2_takeText_4 : decode cX2_takeText 4 = .ok (.iload_n 3, 1) := by decide +kernel
theorem dX2_takeText_5 : decode cX2_takeText 5 = .ok (.iconst 1, 1) := by decide +kernel
theorem dX2_takeText_6 : decode cX2_takeText 6 = .ok (.isub, 1) := by decide +kernel
theorem dX2_takeText_7 : decode cX2_takeText 7 = .ok (.iconst 5, 1) := by decide +kernel
theorem dX2_takeText_8 : decode cX2_takeText 8 = .ok (.idiv, 1) := by decide +kernel
theorem dX2_takeText_9 : decode cX2_takeText 9 = .ok (.bipush 8, 2) := by decide +kernel
theorem dX2_takeText_11 : decode cX2_takeText 11 = .ok (.invokestatic 130, 3) := by decide +kernel
theorem dX2_takeText_14 : decode cX2_takeText 14 = .ok (.putfield 75, 3) := by decide +kernel
theorem dX2_takeText_17 : decode cX2_takeText 17 = .ok (.aload_n 0, 1) := by decide +kernel
theorem dX2_takeText_18 : decode cX2_takeText 18 = .ok (.getfield 20, 3) := by decide +kernel
theorem dX2_takeText_21 : decode cX2_takeText 21 = .ok (.iconst 0, 1) := by decide +kernel
theorem dX2_takeText_22 : decode cX2_takeText 22 = .ok (.putfield 136, 3) := by decide +kernel
theorem dX2_takeText_25 : decode cX2_takeText 25 = .ok (.aload_n 0, 1) := by decide +kernel
theorem dX2_takeText_26 : decode cX2_takeText 26 = .ok (.iconst 0, 1) := by decide +kernel
theorem dX2_takeText_27 : decode cX2_takeText 27 = .ok (.putfield 37, 3) := by decide +kernel
theorem dX2_takeText_30 : decode cX2_takeText 30 = .ok (.iconst 0, 1) := by decide +kernel
theorem dX2_takeText_31 : decode cX2_takeText 31 = .ok (.istore 4, 2) := by decide +kernel
theorem dX2_takeText_33 : decode cX2_takeText 33 = .ok (.iload 4, 2) := by decide +kernel
theorem dX2_takeText_35 : decode cX2_takeText 35 = .ok (.aload_n 0, 1) := by decide +kernel
theorem dX2_takeText_36 : decode cX2_takeText 36 = .ok (.getfield 20, 3) := by decide +kernel
theorem dX2_takeText_39 : decode cX2_takeText 39 = .ok (.getfield 75, 3) := by decide +kernel
theorem dX2_takeText_42 : decode cX2_takeText 42 = .ok (.if_icmp .ge 101, 3) := by decide +kernel
theorem dX2_takeText_45 : decode cX2_takeText 45 = .ok (.iload_n 2, 1) := by decide +kernel
theorem dX2_takeText_46 : decode cX2_takeText 46 = .ok (.iconst 2, 1) := by decide +kernel
theorem dX2_takeText_47 : decode cX2_takeText 47 = .ok (.iadd, 1) := by decide +kernel
theorem dX2_takeText_48 : decode cX2_takeText 48 = .ok (.iload 4, 2) := by decide +kernel
theorem dX2_takeText_50 : decode cX2_takeText 50 = .ok (.iconst 5, 1) := by decide +kernel
theorem dX2_takeText_51 : decode cX2_takeText 51 = .ok (.imul, 1) := by decide +kernel
theorem dX2_takeText_52 : decode cX2_takeText 52 = .ok (.iadd, 1) := by decide +kernel
theorem dX2_takeText_53 : decode cX2_takeText 53 = .ok (.istore 5, 2) := by decide +kernel
theorem dX2_takeText_55 : decode cX2_takeText 55 = .ok (.aload_n 0, 1) := by decide +kernel
theorem dX2_takeText_56 : decode cX2_takeText 56 = .ok (.getfield 20, 3) := by decide +kernel
theorem dX2_takeText_59 : decode cX2_takeText 59 = .ok (.getfield 81, 3) := by decide +kernel
theorem dX2_takeText_62 : decode cX2_takeText 62 = .ok (.iload 4, 2) := by decide +kernel
theorem dX2_takeText_64 : decode cX2_takeText 64 = .ok (.aload_n 1, 1) := by decide +kernel
theorem dX2_takeText_65 : decode cX2_takeText 65 = .ok (.iload 5, 2) := by decide +kernel
theorem dX2_takeText_67 : decode cX2_takeText 67 = .ok (.invokevirtual 118, 3) := by decide +kernel
theorem dX2_takeText_70 : decode cX2_takeText 70 = .ok (.invokestatic 124, 3) := by decide +kernel
theorem dX2_takeText_73 : decode cX2_takeText 73 = .ok (.iastore, 1) := by decide +kernel
theorem dX2_takeText_74 : decode cX2_takeText 74 = .ok (.aload_n 0, 1) := by decide +kernel
theorem dX2_takeText_75 : decode cX2_takeText 75 = .ok (.getfield 20, 3) := by decide +kernel
theorem dX2_takeText_78 : decode cX2_takeText 78 = .ok (.getfield 84, 3) := by decide +kernel
theorem dX2_takeText_81 : decode cX2_takeText 81 = .ok (.iload 4, 2) := by decide +kernel
theorem dX2_takeText_83 : decode cX2_takeText 83 = .ok (.aload_n 1, 1) := by decide +kernel
theorem dX2_takeText_84 : decode cX2_takeText 84 = .ok (.iload 5, 2) := by decide +kernel
theorem dX2_takeText_86 : decode cX2_takeText 86 = .ok (.iconst 1, 1) := by decide +kernel
theorem dX2_takeText_87 : decode cX2_takeText 87 = .ok (.iadd, 1) := by decide +kernel
theorem dX2_takeText_88 : decode cX2_takeText 88 = .ok (.invokevirtual 118, 3) := by decide +kernel
theorem dX2_takeText_91 : decode cX2_takeText 91 = .ok (.bipush 48, 2) := by decide +kernel
theorem dX2_takeText_93 : decode cX2_takeText 93 = .ok (.isub, 1) := by decide +kernel
end
section
theorem dX2_takeText_94 : decode cX2_takeText 94 = .ok (.iastore, 1) := by decide +kernel
theorem dX2_takeText_95 : decode cX2_takeText 95 = .ok (.aload_n 0, 1) := by decide +kernel
theorem dX2_takeText_96 : decode cX2_takeText 96 = .ok (.getfield 20, 3) := by decide +kernel
theorem dX2_takeText_99 : decode cX2_takeText 99 = .ok (.getfield 87, 3) := by decide +kernel
theorem dX2_takeText_102 : decode cX2_takeText 102 = .ok (.iload 4, 2) := by decide +kernel
theorem dX2_takeText_104 : decode cX2_takeText 104 = .ok (.aload_n 1, 1) := by decide +kernel
theorem dX2_takeText_105 : decode cX2_takeText 105 = .ok (.iload 5, 2) := by decide +kernel
theorem dX2_takeText_107 : decode cX2_takeText 107 = .ok (.iconst 2, 1) := by decide +kernel
theorem dX2_takeText_108 : decode cX2_takeText 108 = .ok (.iadd, 1) := by decide +kernel
theorem dX2_takeText_109 : decode cX2_takeText 109 = .ok (.invokevirtual 118, 3) := by decide +kernel
theorem dX2_takeText_112 : decode cX2_takeText 112 = .ok (.bipush 48, 2) := by decide +kernel
theorem dX2_takeText_114 : decode cX2_takeText 114 = .ok (.isub, 1) := by decide +kernel
theorem dX2_takeText_115 : decode cX2_takeText 115 = .ok (.iastore, 1) := by decide +kernel
theorem dX2_takeText_116 : decode cX2_takeText 116 = .ok (.aload_n 0, 1) := by decide +kernel
theorem dX2_takeText_117 : decode cX2_takeText 117 = .ok (.getfield 20, 3) := by decide +kernel
theorem dX2_takeText_120 : decode cX2_takeText 120 = .ok (.getfield 90, 3) := by decide +kernel
theorem dX2_takeText_123 : decode cX2_takeText 123 = .ok (.iload 4, 2) := by decide +kernel
theorem dX2_takeText_125 : decode cX2_takeText 125 = .ok (.aload_n 1, 1) := by decide +kernel
theorem dX2_takeText_126 : decode cX2_takeText 126 = .ok (.iload 5, 2) := by decide +kernel
theorem dX2_takeText_128 : decode cX2_takeText 128 = .ok (.iconst 3, 1) := by decide +kernel
theorem dX2_takeText_129 : decode cX2_takeText 129 = .ok (.iadd, 1) := by decide +kernel
theorem dX2_takeText_130 : decode cX2_takeText 130 = .ok (.invokevirtual 118, 3) := by decide +kernel
theorem dX2_takeText_133 : decode cX2_takeText 133 = .ok (.bipush 48, 2) := by decide +kernel
theorem dX2_takeText_135 : decode cX2_takeText 135 = .ok (.isub, 1) := by decide +kernel
theorem dX2_takeText_136 : decode cX2_takeText 136 = .ok (.iastore, 1) := by decide +kernel
theorem dX2_takeText_137 : decode cX2_takeText 137 = .ok (.iinc 4 1, 3) := by decide +kernel
theorem dX2_takeText_140 : decode cX2_takeText 140 = .ok (.goto (-107), 3) := by decide +kernel
theorem dX2_takeText_143 : decode cX2_takeText 143 = .ok (.return_, 1) := by decide +kernel
theorem dX2_hasFront_0 : decode cX2_hasFront 0 = .ok (.aload_n 0, 1) := by decide +kernel
theorem dX2_hasFront_1 : decode cX2_hasFront 1 = .ok (.getfield 20, 3) := by decide +kernel
theorem dX2_hasFront_4 : decode cX2_hasFront 4 = .ok (.getfield 75, 3) := by decide +kernel
theorem dX2_hasFront_7 : decode cX2_hasFront 7 = .ok (.ifCond .le 7, 3) := by decide +kernel
theorem dX2_hasFront_10 : decode cX2_hasFront 10 = .ok (.iconst 1, 1) := by decide +kernel
theorem dX2_hasFront_11 : decode cX2_hasFront 11 = .ok (.goto 4, 3) := by decide +kernel
theorem dX2_hasFront_14 : decode cX2_hasFront 14 = .ok (.iconst 0, 1) := by decide +kernel
theorem dX2_hasFront_15 : decode cX2_hasFront 15 = .ok (.ireturn, 1) := by decide +kernel
theorem dX2_isStripe_0 : decode cX2_isStripe 0 = .ok (.iload_n 0, 1) := by decide +kernel
theorem dX2_isStripe_1 : decode cX2_isStripe 1 = .ok (.ifCond .lt 12, 3) := by decide +kernel
theorem dX2_isStripe_4 : decode cX2_isStripe 4 = .ok (.iload_n 0, 1) := by decide +kernel
theorem dX2_isStripe_5 : decode cX2_isStripe 5 = .ok (.iconst 4, 1) := by decide +kernel
theorem dX2_isStripe_6 : decode cX2_isStripe 6 = .ok (.if_icmp .ge 7, 3) := by decide +kernel
theorem dX2_isStripe_9 : decode cX2_isStripe 9 = .ok (.iconst 1, 1) := by decide +kernel
theorem dX2_isStripe_10 : decode cX2_isStripe 10 = .ok (.goto 4, 3) := by decide +kernel
theorem dX2_isStripe_13 : decode cX2_isStripe 13 = .ok (.iconst 0, 1) := by decide +kernel
theorem dX2_isStripe_14 : decode cX2_isStripe 14 = .ok (.ireturn, 1) := by decide +kernel
theorem dX2_isWay_0 : decode cX2_isWay 0 = .ok (.iload_n 0, 1) := by decide +kernel
theorem dX2_isWay_1 : decode cX2_isWay 1 = .ok (.ifCond .lt 12, 3) := by decide +kernel
theorem dX2_isWay_4 : decode cX2_isWay 4 = .ok (.iload_n 0, 1) := by decide +kernel
theorem dX2_isWay_5 : decode cX2_isWay 5 = .ok (.iconst 3, 1) := by decide +kernel
theorem dX2_isWay_6 : decode cX2_isWay 6 = .ok (.if_icmp .gt 7, 3) := by decide +kernel
theorem dX2_isWay_9 : decode cX2_isWay 9 = .ok (.iconst 1, 1) := by decide +kernel
theorem dX2_isWay_10 : decode cX2_isWay 10 = .ok (.goto 4, 3) := by decide +kernel
theorem dX2_isWay_13 : decode cX2_isWay 13 = .ok (.iconst 0, 1) := by decide +kernel
theorem dX2_isWay_14 : decode cX2_isWay 14 = .ok (.ireturn, 1) := by decide +kernel
set_option maxRecDepth 20000 in
theorem ggX2_turn_X0_has : GoodIn wsX2_turn wsX0_has := goodIn_r _ [7, 8, 33, 34, 35, 36, 37, 38] (by decide +kernel) (by decide +kernel)
set_option maxRecDepth 20000 in
theorem gX2_turn_X0_has : GoodIn wsX2_turn (wsV RX2 78 RX0 yX0_has wsX0_has) := goodIn_app (goodIn_of _ (by decide +kernel)) ggX2_turn_X0_has
set_option maxRecDepth 20000 in
theorem ggX2_turn_X2_isWay : GoodIn wsX2_turn wsX2_isWay := goodIn_r _ [12] (by decide +kernel) (by decide +kernel)
set_option maxRecDepth 20000 in
theorem gX2_turn_X2_isWay : GoodIn wsX2_turn (va_wsS RX2 127 yX2_isWay wsX2_isWay) := goodIn_app (goodIn_of _ (by decide +kernel)) ggX2_turn_X2_isWay
set_option maxRecDepth 20000 in
theorem ggX2_turn_X0_turned : GoodIn wsX2_turn wsX0_turned := goodIn_r _ [16, 17, 18, 4, 5, 6, 7, 8, 19, 20, 21, 22, 23, 33, 34, 35, 36, 37, 38] (by decide +kernel) (by decide +kernel)
set_option maxRecDepth 20000 in
theorem gX2_turn_X0_turned : GoodIn wsX2_turn (wsV RX2 139 RX0 yX0_turned wsX0_turned) := goodIn_app (goodIn_of _ (by decide +kernel)) ggX2_turn_X0_turned
theorem dX2_turn_0 : decode cX2_turn 0 = .ok (.aload_n 0, 1) := by decide +kernel
theorem dX2_turn_1 : decode cX2_turn 1 = .ok (.getfield 20, 3) := by decide +kernel
theorem dX2_turn_4 : decode cX2_turn 4 = .ok (.iload_n 1, 1) := by decide +kernel
theorem dX2_turn_5 : decode cX2_turn 5 = .ok (.invokevirtual 78, 3) := by decide +kernel
theorem dX2_turn_8 : decode cX2_turn 8 = .ok (.ifCond .ne 5, 3) := by decide +kernel
theorem dX2_turn_11 : decode cX2_turn 11 = .ok (.iconst (-1), 1) := by decide +kernel
theorem dX2_turn_12 : decode cX2_turn 12 = .ok (.ireturn, 1) := by decide +kernel
theorem dX2_turn_13 : decode cX2_turn 13 = .ok (.iload_n 2, 1) := by decide +kernel
theorem dX2_turn_14 : decode cX2_turn 14 = .ok (.invokestatic 127, 3) := by decide +kernel
theorem dX2_turn_17 : decode cX2_turn 17 = .ok (.ifCond .ne 6, 3) := by decide +kernel
theorem dX2_turn_20 : decode cX2_turn 20 = .ok (.bipush (-2), 2) := by decide +kernel
theorem dX2_turn_22 : decode cX2_turn 22 = .ok (.ireturn, 1) := by decide +kernel
theorem dX2_turn_23 : decode cX2_turn 23 = .ok (.aload_n 0, 1) := by decide +kernel
theorem dX2_turn_24 : decode cX2_turn 24 = .ok (.getfield 20, 3) := by decide +kernel
theorem dX2_turn_27 : decode cX2_turn 27 = .ok (.getfield 90, 3) := by decide +kernel
theorem dX2_turn_30 : decode cX2_turn 30 = .ok (.iload_n 1, 1) := by decide +kernel
theorem dX2_turn_31 : decode cX2_turn 31 = .ok (.iaload, 1) := by decide +kernel
theorem dX2_turn_32 : decode cX2_turn 32 = .ok (.istore_n 3, 1) := by decide +kernel
theorem dX2_turn_33 : decode cX2_turn 33 = .ok (.aload_n 0, 1) := by decide +kernel
theorem dX2_turn_34 : decode cX2_turn 34 = .ok (.getfield 20, 3) := by decide +kernel
theorem dX2_turn_37 : decode cX2_turn 37 = .ok (.iload_n 1, 1) := by decide +kernel
theorem dX2_turn_38 : decode cX2_turn 38 = .ok (.iload_n 2, 1) := by decide +kernel
theorem dX2_turn_39 : decode cX2_turn 39 = .ok (.invokevirtual 139, 3) := by decide +kernel
theorem dX2_turn_42 : decode cX2_turn 42 = .ok (.ifCond .eq 7, 3) := by decide +kernel
theorem dX2_turn_45 : decode cX2_turn 45 = .ok (.iload_n 3, 1) := by decide +kernel
theorem dX2_turn_46 : decode cX2_turn 46 = .ok (.goto 5, 3) := by decide +kernel
theorem dX2_turn_49 : decode cX2_turn 49 = .ok (.bipush (-3), 2) := by decide +kernel
theorem dX2_turn_51 : decode cX2_turn 51 = .ok (.ireturn, 1) := by decide +kernel
set_option maxRecDepth 20000 in
theorem ggX2_gust_X2_hasFront : GoodIn wsX2_gust wsX2_hasFront := goodIn_r _ [6, 1, 7, 24, 25, 26, 27, 28, 29, 30, 31, 32, 33, 34, 35, 36, 37, 38] (by decide +kernel) (by decide +kernel)
set_option maxRecDepth 20000 in
theorem gX2_gust_X2_hasFront : GoodIn wsX2_gust (wsV RX2 105 RX2 yX2_hasFront wsX2_hasFront) := goodIn_app (goodIn_of _ (by decide +kernel)) ggX2_gust_X2_hasFront
set_option maxRecDepth 20000 in
theorem ggX2_gust_X2_isWay : GoodIn wsX2_gust wsX2_isWay := goodIn_r _ [10] (by decide +kernel) (by decide +kernel)
set_option maxRecDepth 20000 in
theorem gX2_gust_X2_isWay : GoodIn wsX2_gust (va_wsS RX2 127 yX2_isWay wsX2_isWay) := goodIn_app (goodIn_of _ (by decide +kernel)) ggX2_gust_X2_isWay
set_option maxRecDepth 20000 in
theorem ggX2_gust_X0_blown : GoodIn wsX2_gust wsX0_blown := goodIn_r _ [15, 16, 17, 18, 19, 20, 21, 14, 22, 23, 33, 34, 35, 36, 37, 38] (by decide +kernel) (by decide +kernel)
set_option maxRecDepth 20000 in
theorem gX2_gust_X0_blown : GoodIn wsX2_gust (wsV RX2 142 RX0 yX0_blown wsX0_blown) := goodIn_app (goodIn_of _ (by decide +kernel)) ggX2_gust_X0_blown
theorem dX2_gust_0 : decode cX2_gust 0 = .ok (.aload_n 0, 1) := by decide +kernel
theorem dX2_gust_1 : decode cX2_gust 1 = .ok (.invokevirtual 105, 3) := by decide +kernel
theorem dX2_gust_4 : decode cX2_gust 4 = .ok (.ifCond .ne 6, 3) := by decide +kernel
theorem dX2_gust_7 : decode cX2_gust 7 = .ok (.bipush (-3), 2) := by decide +kernel
theorem dX2_gust_9 : decode cX2_gust 9 = .ok (.ireturn, 1) := by decide +kernel
theorem dX2_gust_10 : decode cX2_gust 10 = .ok (.iload_n 1, 1) := by decide +kernel
theorem dX2_gust_11 : decode cX2_gust 11 = .ok (.invokestatic 127, 3) := by decide +kernel
theorem dX2_gust_14 : decode cX2_gust 14 = .ok (.ifCond .eq 13, 3) := by decide +kernel
theorem dX2_gust_17 : decode cX2_gust 17 = .ok (.iload_n 2, 1) := by decide +kernel
theorem dX2_gust_18 : decode cX2_gust 18 = .ok (.ifCond .lt 9, 3) := by decide +kernel
theorem dX2_gust_21 : decode cX2_gust 21 = .ok (.iload_n 2, 1) := by decide +kernel
theorem dX2_gust_22 : decode cX2_gust 22 = .ok (.bipush 10, 2) := by decide +kernel
theorem dX2_gust_24 : decode cX2_gust 24 = .ok (.if_icmp .le 6, 3) := by decide +kernel
theorem dX2_gust_27 : decode cX2_gust 27 = .ok (.bipush (-2), 2) := by decide +kernel
theorem dX2_gust_29 : decode cX2_gust 29 = .ok (.ireturn, 1) := by decide +kernel
theorem dX2_gust_30 : decode cX2_gust 30 = .ok (.aload_n 0, 1) := by decide +kernel
theorem dX2_gust_31 : decode cX2_gust 31 = .ok (.getfield 20, 3) := by decide +kernel
theorem dX2_gust_34 : decode cX2_gust 34 = .ok (.iload_n 1, 1) := by decide +kernel
theorem dX2_gust_35 : decode cX2_gust 35 = .ok (.iload_n 2, 1) := by decide +kernel
theorem dX2_gust_36 : decode cX2_gust 36 = .ok (.invokevirtual 142, 3) := by decide +kernel
theorem dX2_gust_39 : decode cX2_gust 39 = .ok (.ireturn, 1) := by decide +kernel
set_option maxRecDepth 20000 in
theorem ggX2_rain_X2_hasFront : GoodIn wsX2_rain wsX2_hasFront := goodIn_r _ [6, 1, 7, 22, 23, 24, 25, 26, 27, 28, 29, 30, 31, 32, 33, 34, 35, 36] (by decide +kernel) (by decide +kernel)
set_option maxRecDepth 20000 in
theorem gX2_rain_X2_hasFront : GoodIn wsX2_rain (wsV RX2 105 RX2 yX2_hasFront wsX2_hasFront) := goodIn_app (goodIn_of _ (by decide +kernel)) ggX2_rain_X2_hasFront
set_option maxRecDepth 20000 in
theorem ggX2_rain_X0_foldedByRain : GoodIn wsX2_rain wsX0_foldedByRain := goodIn_r _ [12, 13, 14, 15, 16, 17, 18, 19, 20, 21, 31, 32, 33, 34, 35, 36] (by decide +kernel) (by decide +kernel)
set_option maxRecDepth 20000 in
theorem gX2_rain_X0_foldedByRain : GoodIn wsX2_rain (wsV RX2 145 RX0 yX0_foldedByRain wsX0_foldedByRain) := goodIn_app (goodIn_of _ (by decide +kernel)) ggX2_rain_X0_foldedByRain
theorem dX2_rain_0 : decode cX2_rain 0 = .ok (.aload_n 0, 1) := by decide +kernel
theorem dX2_rain_1 : decode cX2_rain 1 = .ok (.invokevirtual 105, 3) := by decide +kernel
theorem dX2_rain_4 : decode cX2_rain 4 = .ok (.ifCond .ne 6, 3) := by decide +kernel
theorem dX2_rain_7 : decode cX2_rain 7 = .ok (.bipush (-3), 2) := by decide +kernel
theorem dX2_rain_9 : decode cX2_rain 9 = .ok (.ireturn, 1) := by decide +kernel
theorem dX2_rain_10 : decode cX2_rain 10 = .ok (.aload_n 0, 1) := by decide +kernel
theorem dX2_rain_11 : decode cX2_rain 11 = .ok (.getfield 20, 3) := by decide +kernel
theorem dX2_rain_14 : decode cX2_rain 14 = .ok (.invokevirtual 145, 3) := by decide +kernel
theorem dX2_rain_17 : decode cX2_rain 17 = .ok (.ireturn, 1) := by decide +kernel
set_option maxRecDepth 20000 in
theorem ggX2_open_X0_has : GoodIn wsX2_open wsX0_has := goodIn_r _ [7, 8, 35, 36, 37, 38, 39, 40] (by decide +kernel) (by decide +kernel)
set_option maxRecDepth 20000 in
theorem gX2_open_X0_has : GoodIn wsX2_open (wsV RX2 78 RX0 yX0_has wsX0_has) := goodIn_app (goodIn_of _ (by decide +kernel)) ggX2_open_X0_has
set_option maxRecDepth 20000 in
theorem ggX2_open_X0_opened : GoodIn wsX2_open wsX0_opened := goodIn_r _ [12, 13, 14, 4, 5, 6, 7, 8, 15, 16, 17, 18, 35, 36, 37, 38, 39, 40] (by decide +kernel) (by decide +kernel)
set_option maxRecDepth 20000 in
theorem gX2_open_X0_opened : GoodIn wsX2_open (wsV RX2 149 RX0 yX0_opened wsX0_opened) := goodIn_app (goodIn_of _ (by decide +kernel)) ggX2_open_X0_opened
set_option maxRecDepth 20000 in
theorem ggX2_open_J6_bitCount_0f7a4 : GoodIn wsX2_open wsJ6_bitCount_0f7a4 := goodIn_r _ [22, 23, 24, 25] (by decide +kernel) (by decide +kernel)
set_option maxRecDepth 20000 in
theorem gX2_open_J6_bitCount_0f7a4 : GoodIn wsX2_open (va_wsS RX2 152 yJ6_bitCount_0f7a4 wsJ6_bitCount_0f7a4) := goodIn_app (goodIn_of _ (by decide +kernel)) ggX2_open_J6_bitCount_0f7a4
theorem dX2_open_0 : decode cX2_open 0 = .ok (.aload_n 0, 1) := by decide +kernel
theorem dX2_open_1 : decode cX2_open 1 = .ok (.getfield 20, 3) := by decide +kernel
theorem dX2_open_4 : decode cX2_open 4 = .ok (.iload_n 1, 1) := by decide +kernel
theorem dX2_open_5 : decode cX2_open 5 = .ok (.invokevirtual 78, 3) := by decide +kernel
theorem dX2_open_8 : decode cX2_open 8 = .ok (.ifCond .ne 5, 3) := by decide +kernel
theorem dX2_open_11 : decode cX2_open 11 = .ok (.iconst (-1), 1) := by decide +kernel
theorem dX2_open_12 : decode cX2_open 12 = .ok (.ireturn, 1) := by decide +kernel
theorem dX2_open_13 : decode cX2_open 13 = .ok (.aload_n 0, 1) := by decide +kernel
theorem dX2_open_14 : decode cX2_open 14 = .ok (.getfield 20, 3) := by decide +kernel
theorem dX2_open_17 : decode cX2_open 17 = .ok (.iload_n 1, 1) := by decide +kernel
theorem dX2_open_18 : decode cX2_open 18 = .ok (.invokevirtual 149, 3) := by decide +kernel
theorem dX2_open_21 : decode cX2_open 21 = .ok (.ifCond .ne 6, 3) := by decide +kernel
theorem dX2_open_24 : decode cX2_open 24 = .ok (.bipush (-3), 2) := by decide +kernel
theorem dX2_open_26 : decode cX2_open 26 = .ok (.ireturn, 1) := by decide +kernel
theorem dX2_open_27 : decode cX2_open 27 = .ok (.aload_n 0, 1) := by decide +kernel
theorem dX2_open_28 : decode cX2_open 28 = .ok (.getfield 20, 3) := by decide +kernel
theorem dX2_open_31 : decode cX2_open 31 = .ok (.getfield 136, 3) := by decide +kernel
theorem dX2_open_34 : decode cX2_open 34 = .ok (.invokestatic 152, 3) := by decide +kernel
theorem dX2_open_37 : decode cX2_open 37 = .ok (.ireturn, 1) := by decide +kernel
set_option maxRecDepth 20000 in
theorem ggX2_day_X2_sheetAt : GoodIn wsX2_day wsX2_sheetAt := goodIn_r _ [6, 7, 148, 149, 150, 151, 152, 153, 154, 155, 156] (by decide +kernel) (by decide +kernel)
set_option maxRecDepth 20000 in
theorem gX2_day_X2_sheetAt : GoodIn wsX2_day (wsV RX2 48 RX2 yX2_sheetAt wsX2_sheetAt) := goodIn_app (goodIn_of _ (by decide +kernel)) ggX2_day_X2_sheetAt
set_option maxRecDepth 20000 in
theorem ggX2_day_X2_isLane : GoodIn wsX2_day wsX2_isLane := goodIn_r _ [10] (by decide +kernel) (by decide +kernel)
set_option maxRecDepth 20000 in
theorem gX2_day_X2_isLane : GoodIn wsX2_day (va_wsS RX2 52 yX2_isLane wsX2_isLane) := goodIn_app (goodIn_of _ (by decide +kernel)) ggX2_day_X2_isLane
set_option maxRecDepth 20000 in
theorem ggX2_day_X2_isAskedOfDay : GoodIn wsX2_day wsX2_isAskedOfDay := goodIn_r _ [13] (by decide +kernel) (by decide +kernel)
set_option maxRecDepth 20000 in
theorem gX2_day_X2_isAskedOfDay : GoodIn wsX2_day (va_wsS RX2 157 yX2_isAskedOfDay wsX2_isAskedOfDay) := goodIn_app (goodIn_of _ (by decide +kernel)) ggX2_day_X2_isAskedOfDay
set_option maxRecDepth 20000 in
theorem ggX2_day_X2_hasFront : GoodIn wsX2_day wsX2_hasFront := goodIn_r _ [17, 18, 19, 148, 149, 150, 151, 152, 153, 154, 155, 156, 157, 158, 159, 160, 161, 162] (by decide +kernel) (by decide +kernel)
set_option maxRecDepth 20000 in
theorem gX2_day_X2_hasFront : GoodIn wsX2_day (wsV RX2 105 RX2 yX2_hasFront wsX2_hasFront) := goodIn_app (goodIn_of _ (by decide +kernel)) ggX2_day_X2_hasFront
set_option maxRecDepth 20000 in
theorem ggX2_day_X1_faultAs : GoodIn wsX2_day wsX1_faultAs := goodIn_r _ [24, 25, 26, 163, 164, 165, 166] (by decide +kernel) (by decide +kernel)
set_option maxRecDepth 20000 in
theorem gX2_day_X1_faultAs : GoodIn wsX2_day (wsV RX2 56 RX1 yX1_faultAs wsX1_faultAs) := goodIn_app (goodIn_of _ (by decide +kernel)) ggX2_day_X1_faultAs
set_option maxRecDepth 20000 in
theorem ggX2_day_X2_faulted : GoodIn wsX2_day wsX2_faulted := goodIn_r _ [30, 1, 148, 149, 150, 151, 152, 153, 154, 155, 156] (by decide +kernel) (by decide +kernel)
set_option maxRecDepth 20000 in
theorem gX2_day_X2_faulted : GoodIn wsX2_day (wsV RX2 60 RX2 yX2_faulted wsX2_faulted) := goodIn_app (goodIn_of _ (by decide +kernel)) ggX2_day_X2_faulted
set_option maxRecDepth 20000 in
theorem ggX2_day_X1_holds : GoodIn wsX2_day wsX1_holds := goodIn_r _ [34, 35, 163, 164, 165, 166] (by decide +kernel) (by decide +kernel)
set_option maxRecDepth 20000 in
theorem gX2_day_X1_holds : GoodIn wsX2_day (wsV RX2 63 RX1 yX1_holds wsX1_holds) := goodIn_app (goodIn_of _ (by decide +kernel)) ggX2_day_X1_holds
set_option maxRecDepth 20000 in
theorem ggX2_day_X2_refusalOfPairs : GoodIn wsX2_day wsX2_refusalOfPairs := goodIn_r _ [39, 40, 41, 42, 23, 43, 44, 45, 32, 33, 34, 35, 46, 47, 48, 5, 49, 18, 50, 51, 52, 53, 54, 55, 163, 164, 165, 166, 148, 149, 150, 151, 152, 153, 154, 155, 156, 157, 158, 159, 160, 161, 162] (by decide +kernel) (by decide +kernel)
set_option maxRecDepth 20000 in
theorem gX2_day_X2_refusalOfPairs : GoodIn wsX2_day (wsV RX2 160 RX2 yX2_refusalOfPairs wsX2_refusalOfPairs) := goodIn_app (goodIn_of _ (by decide +kernel)) ggX2_day_X2_refusalOfPairs
set_option maxRecDepth 20000 in
theorem ggX2_day_X2_answerOfDay : GoodIn wsX2_day wsX2_answerOfDay := goodIn_r _ [59, 60, 18, 61, 62, 63, 64, 65, 53, 66, 67, 68, 69, 70, 71, 72, 73, 74, 55, 75, 40, 41, 42, 23, 43, 44, 45, 32, 33, 34, 35, 76, 77, 78, 79, 80, 81, 82, 83, 84, 51, 52, 54, 85, 86, 87, 88, 89, 90, 91, 92, 93, 94, 95, 96, 97, 98, 99, 100, 101, 102, 103, 104, 105, 106, 107, 108, 109, 110, 111, 112, 113, 114, 115, 116, 117, 118, 119, 120, 121, 122, 123, 124, 125, 126, 127, 128, 129, 130, 131, 132, 5, 133, 134, 135, 136, 137, 138, 139, 140, 141, 142, 143, 144, 145, 146, 147, 50, 148, 149, 150, 151, 152, 153, 154, 155, 156, 157, 158, 159, 160, 161, 162, 163, 164, 165, 166] (by decide +kernel) (by decide +kernel)
set_option maxRecDepth 20000 in
theorem gX2_day_X2_answerOfDay : GoodIn wsX2_day (wsV RX2 163 RX2 yX2_answerOfDay wsX2_answerOfDay) := goodIn_app (goodIn_of _ (by decide +kernel)) ggX2_day_X2_answerOfDay
theorem dX2_day_0 : decode cX2_day 0 = .ok (.aload_n 0, 1) := by decide +kernel
theorem dX2_day_1 : decode cX2_day 1 = .ok (.iconst 0, 1) := by decide +kernel
theorem dX2_day_2 : decode cX2_day 2 = .ok (.putfield 44, 3) := by decide +kernel
theorem dX2_day_5 : decode cX2_day 5 = .ok (.aload_n 0, 1) := by decide +kernel
theorem dX2_day_6 : decode cX2_day 6 = .ok (.iload_n 1, 1) := by decide +kernel
theorem dX2_day_7 : decode cX2_day 7 = .ok (.invokevirtual 48, 3) := by decide +kernel
theorem dX2_day_10 : decode cX2_day 10 = .ok (.astore 6, 2) := by decide +kernel
theorem dX2_day_12 : decode cX2_day 12 = .ok (.aload 6, 2) := by decide +kernel
theorem dX2_day_14 : decode cX2_day 14 = .ok (.ifnonnull 5, 3) := by decide +kernel
theorem dX2_day_17 : decode cX2_day 17 = .ok (.iconst (-1), 1) := by decide +kernel
theorem dX2_day_18 : decode cX2_day 18 = .ok (.ireturn, 1) := by decide +kernel
theorem dX2_day_19 : decode cX2_day 19 = .ok (.iload_n 2, 1) := by decide +kernel
theorem dX2_day_20 : decode cX2_day 20 = .ok (.invokestatic 52, 3) := by decide +kernel
theorem dX2_day_23 : decode cX2_day 23 = .ok (.ifCond .eq 23, 3) := by decide +kernel
theorem dX2_day_26 : decode cX2_day 26 = .ok (.iload 4, 2) := by decide +kernel
theorem dX2_day_28 : decode cX2_day 28 = .ok (.ifCond .lt 18, 3) := by decide +kernel
theorem dX2_day_31 : decode cX2_day 31 = .ok (.iload 4, 2) := by decide +kernel
theorem dX2_day_33 : decode cX2_day 33 = .ok (.bipush 20, 2) := by decide +kernel
theorem dX2_day_35 : decode cX2_day 35 = .ok (.if_icmp .gt 11, 3) := by decide +kernel
theorem dX2_day_38 : decode cX2_day 38 = .ok (.iload 5, 2) := by decide +kernel
theorem dX2_day_40 : decode cX2_day 40 = .ok (.invokestatic 157, 3) := by decide +kernel
theorem dX2_day_43 : decode cX2_day 43 = .ok (.ifCond .ne 6, 3) := by decide +kernel
theorem dX2_day_46 : decode cX2_day 46 = .ok (.bipush (-2), 2) := by decide +kernel
theorem dX2_day_48 : decode cX2_day 48 = .ok (.ireturn, 1) := by decide +kernel
theorem dX2_day_49 : decode cX2_day 49 = .ok (.aload_n 0, 1) := by decide +kernel
theorem dX2_day_50 : decode cX2_day 50 = .ok (.invokevirtual 105, 3) := by decide +kernel
theorem dX2_day_53 : decode cX2_day 53 = .ok (.ifCond .ne 6, 3) := by decide +kernel
theorem dX2_day_56 : decode cX2_day 56 = .ok (.bipush (-3), 2) := by decide +kernel
theorem dX2_day_58 : decode cX2_day 58 = .ok (.ireturn, 1) := by decide +kernel
theorem dX2_day_59 : decode cX2_day 59 = .ok (.aload 6, 2) := by decide +kernel
theorem dX2_day_61 : decode cX2_day 61 = .ok (.iload_n 2, 1) := by decide +kernel
theorem dX2_day_62 : decode cX2_day 62 = .ok (.invokevirtual 56, 3) := by decide +kernel
theorem dX2_day_65 : decode cX2_day 65 = .ok (.istore 7, 2) := by decide +kernel
theorem dX2_day_67 : decode cX2_day 67 = .ok (.iload 7, 2) := by decide +kernel
theorem dX2_day_69 : decode cX2_day 69 = .ok (.ifCond .eq 10, 3) := by decide +kernel
theorem dX2_day_72 : decode cX2_day 72 = .ok (.aload_n 0, 1) := by decide +kernel
theorem dX2_day_73 : decode cX2_day 73 = .ok (.iload 7, 2) := by decide +kernel
theorem dX2_day_75 : decode cX2_day 75 = .ok (.invokevirtual 60, 3) := by decide +kernel
theorem dX2_day_78 : decode cX2_day 78 = .ok (.ireturn, 1) := by decide +kernel
theorem dX2_day_79 : decode cX2_day 79 = .ok (.aload 6, 2) := by decide +kernel
theorem dX2_day_81 : decode cX2_day 81 = .ok (.iload_n 3, 1) := by decide +kernel
theorem dX2_day_82 : decode cX2_day 82 = .ok (.iconst 2, 1) := by decide +kernel
theorem dX2_day_83 : decode cX2_day 83 = .ok (.iload 4, 2) := by decide +kernel
theorem dX2_day_85 : decode cX2_day 85 = .ok (.imul, 1) := by decide +kernel
theorem dX2_day_86 : decode cX2_day 86 = .ok (.invokevirtual 63, 3) := by decide +kernel
theorem dX2_day_89 : decode cX2_day 89 = .ok (.ifCond .ne 9, 3) := by decide +kernel
theorem dX2_day_92 : decode cX2_day 92 = .ok (.aload_n 0, 1) := by decide +kernel
theorem dX2_day_93 : decode cX2_day 93 = .ok (.iconst 3, 1) := by decide +kernel
theorem dX2_day_94 : decode cX2_day 94 = .ok (.invokevirtual 60, 3) := by decide +kernel
theorem dX2_day_97 : decode cX2_day 97 = .ok (.ireturn, 1) := by decide +kernel
theorem dX2_day_98 : decode cX2_day 98 = .ok (.aload_n 0, 1) := by decide +kernel
theorem dX2_day_99 : decode cX2_day 99 = .ok (.aload 6, 2) := by decide +kernel
theorem dX2_day_101 : decode cX2_day 101 = .ok (.iload_n 3, 1) := by decide +kernel
theorem dX2_day_102 : decode cX2_day 102 = .ok (.iload 4, 2) := by decide +kernel
theorem dX2_day_104 : decode cX2_day 104 = .ok (.invokevirtual 160, 3) := by decide +kernel
theorem dX2_day_107 : decode cX2_day 107 = .ok (.istore 8, 2) := by decide +kernel
theorem dX2_day_109 : decode cX2_day 109 = .ok (.iload 8, 2) := by decide +kernel
theorem dX2_day_111 : decode cX2_day 111 = .ok (.ifCond .eq 6, 3) := by decide +kernel
theorem dX2_day_114 : decode cX2_day 114 = .ok (.iload 8, 2) := by decide +kernel
theorem dX2_day_116 : decode cX2_day 116 = .ok (.ireturn, 1) := by decide +kernel
theorem dX2_day_117 : decode cX2_day 117 = .ok (.aload_n 0, 1) := by decide +kernel
theorem dX2_day_118 : decode cX2_day 118 = .ok (.aload 6, 2) := by decide +kernel
theorem dX2_day_120 : decode cX2_day 120 = .ok (.iload_n 3, 1) := by decide +kernel
theorem dX2_day_121 : decode cX2_day 121 = .ok (.iload 4, 2) := by decide +kernel
theorem dX2_day_123 : decode cX2_day 123 = .ok (.iload 5, 2) := by decide +kernel
theorem dX2_day_125 : decode cX2_day 125 = .ok (.invokevirtual 163, 3) := by decide +kernel
theorem dX2_day_128 : decode cX2_day 128 = .ok (.ireturn, 1) := by decide +kernel
theorem dX2_isAskedOfDay_0 : decode cX2_isAskedOfDay 0 = .ok (.iload_n 0, 1) := by decide +kernel
theorem dX2_isAskedOfDay_1 : decode cX2_isAskedOfDay 1 = .ok (.ifCond .lt 8, 3) := by decide +kernel
theorem dX2_isAskedOfDay_4 : decode cX2_isAskedOfDay 4 = .ok (.iload_n 0, 1) := by decide +kernel
theorem dX2_isAskedOfDay_5 : decode cX2_isAskedOfDay 5 = .ok (.iconst 4, 1) := by decide +kernel
theorem dX2_isAskedOfDay_6 : decode cX2_isAskedOfDay 6 = .ok (.if_icmp .le 15, 3) := by decide +kernel
theorem dX2_isAskedOfDay_9 : decode cX2_isAskedOfDay 9 = .ok (.iload_n 0, 1) := by decide +kernel
theorem dX2_isAskedOfDay_10 : decode cX2_isAskedOfDay 10 = .ok (.bipush 10, 2) := by decide +kernel
theorem dX2_isAskedOfDay_12 : decode cX2_isAskedOfDay 12 = .ok (.if_icmp .lt 13, 3) := by decide +kernel
theorem dX2_isAskedOfDay_15 : decode cX2_isAskedOfDay 15 = .ok (.iload_n 0, 1) := by decide +kernel
theorem dX2_isAskedOfDay_16 : decode cX2_isAskedOfDay 16 = .ok (.bipush 18, 2) := by decide +kernel
theorem dX2_isAskedOfDay_18 : decode cX2_isAskedOfDay 18 = .ok (.if_icmp .ge 7, 3) := by decide +kernel
theorem dX2_isAskedOfDay_21 : decode cX2_isAskedOfDay 21 = .ok (.iconst 1, 1) := by decide +kernel
theorem dX2_isAskedOfDay_22 : decode cX2_isAskedOfDay 22 = .ok (.goto 4, 3) := by decide +kernel
theorem dX2_isAskedOfDay_25 : decode cX2_isAskedOfDay 25 = .ok (.iconst 0, 1) := by decide +kernel
theorem dX2_isAskedOfDay_26 : decode cX2_isAskedOfDay 26 = .ok (.ireturn, 1) := by decide +kernel
set_option maxRecDepth 20000 in
theorem ggX2_refusalOfPairs_X1_at : GoodIn wsX2_refusalOfPairs wsX1_at := goodIn_r _ [5, 6, 7, 8, 9, 4, 10, 11, 24, 25, 26, 27] (by decide +kernel) (by decide +kernel)
set_option maxRecDepth 20000 in
theorem gX2_refusalOfPairs_X1_at : GoodIn wsX2_refusalOfPairs (wsV RX2 118 RX1 yX1_at wsX1_at) := goodIn_app (goodIn_of _ (by decide +kernel)) ggX2_refusalOfPairs_X1_at
set_option maxRecDepth 20000 in
theorem ggX2_refusalOfPairs_X2_refusalOfPair : GoodIn wsX2_refusalOfPairs wsX2_refusalOfPair := goodIn_r _ [16, 17, 18, 19, 20, 21, 22, 23, 28, 29, 30, 31, 32, 33, 34, 35, 36, 37, 38, 39, 40, 41, 42] (by decide +kernel) (by decide +kernel)
set_option maxRecDepth 20000 in
theorem gX2_refusalOfPairs_X2_refusalOfPair : GoodIn wsX2_refusalOfPairs (wsV RX2 167 RX2 yX2_refusalOfPair wsX2_refusalOfPair) := goodIn_app (goodIn_of _ (by decide +kernel)) ggX2_refusalOfPairs_X2_refusalOfPair
theorem dX2_refusalOfPairs_0 : decode cX2_refusalOfPairs 0 = .ok (.iconst 0, 1) := by decide +kernel
theorem dX2_refusalOfPairs_1 : decode cX2_refusalOfPairs 1 = .ok (.istore 4, 2) := by decide +kernel
theorem dX2_refusalOfPairs_3 : decode cX2_refusalOfPairs 3 = .ok (.iload 4, 2) := by decide +kernel
theorem dX2_refusalOfPairs_5 : decode cX2_refusalOfPairs 5 = .ok (.iload_n 3, 1) := by decide +kernel
theorem dX2_refusalOfPairs_6 : decode cX2_refusalOfPairs 6 = .ok (.if_icmp .ge 45, 3) := by decide +kernel
theorem dX2_refusalOfPairs_9 : decode cX2_refusalOfPairs 9 = .ok (.aload_n 0, 1) := by decide +kernel
theorem dX2_refusalOfPairs_10 : decode cX2_refusalOfPairs 10 = .ok (.aload_n 1, 1) := by decide +kernel
theorem dX2_refusalOfPairs_11 : decode cX2_refusalOfPairs 11 = .ok (.iload_n 2, 1) := by decide +kernel
theorem dX2_refusalOfPairs_12 : decode cX2_refusalOfPairs 12 = .ok (.iconst 2, 1) := by decide +kernel
theorem dX2_refusalOfPairs_13 : decode cX2_refusalOfPairs 13 = .ok (.iload 4, 2) := by decide +kernel
theorem dX2_refusalOfPairs_15 : decode cX2_refusalOfPairs 15 = .ok (.imul, 1) := by decide +kernel
theorem dX2_refusalOfPairs_16 : decode cX2_refusalOfPairs 16 = .ok (.iadd, 1) := by decide +kernel
theorem dX2_refusalOfPairs_17 : decode cX2_refusalOfPairs 17 = .ok (.invokevirtual 118, 3) := by decide +kernel
theorem dX2_refusalOfPairs_20 : decode cX2_refusalOfPairs 20 = .ok (.aload_n 1, 1) := by decide +kernel
theorem dX2_refusalOfPairs_21 : decode cX2_refusalOfPairs 21 = .ok (.iload_n 2, 1) := by decide +kernel
theorem dX2_refusalOfPairs_22 : decode cX2_refusalOfPairs 22 = .ok (.iconst 2, 1) := by decide +kernel
theorem dX2_refusalOfPairs_23 : decode cX2_refusalOfPairs 23 = .ok (.iload 4, 2) := by decide +kernel
theorem dX2_refusalOfPairs_25 : decode cX2_refusalOfPairs 25 = .ok (.imul, 1) := by decide +kernel
theorem dX2_refusalOfPairs_26 : decode cX2_refusalOfPairs 26 = .ok (.iadd, 1) := by decide +kernel
theorem dX2_refusalOfPairs_27 : decode cX2_refusalOfPairs 27 = .ok (.iconst 1, 1) := by decide +kernel
theorem dX2_refusalOfPairs_28 : decode cX2_refusalOfPairs 28 = .ok (.iadd, 1) := by decide +kernel
theorem dX2_refusalOfPairs_29 : decode cX2_refusalOfPairs 29 = .ok (.invokevirtual 118, 3) := by decide +kernel
theorem dX2_refusalOfPairs_32 : decode cX2_refusalOfPairs 32 = .ok (.invokevirtual 167, 3) := by decide +kernel
theorem dX2_refusalOfPairs_35 : decode cX2_refusalOfPairs 35 = .ok (.istore 5, 2) := by decide +kernel
theorem dX2_refusalOfPairs_37 : decode cX2_refusalOfPairs 37 = .ok (.iload 5, 2) := by decide +kernel
theorem dX2_refusalOfPairs_39 : decode cX2_refusalOfPairs 39 = .ok (.ifCond .eq 6, 3) := by decide +kernel
theorem dX2_refusalOfPairs_42 : decode cX2_refusalOfPairs 42 = .ok (.iload 5, 2) := by decide +kernel
theorem dX2_refusalOfPairs_44 : decode cX2_refusalOfPairs 44 = .ok (.ireturn, 1) := by decide +kernel
theorem dX2_refusalOfPairs_45 : decode cX2_refusalOfPairs 45 = .ok (.iinc 4 1, 3) := by decide +kernel
theorem dX2_refusalOfPairs_48 : decode cX2_refusalOfPairs 48 = .ok (.goto (-45), 3) := by decide +kernel
theorem dX2_refusalOfPairs_51 : decode cX2_refusalOfPairs 51 = .ok (.iconst 0, 1) := by decide +kernel
theorem dX2_refusalOfPairs_52 : decode cX2_refusalOfPairs 52 = .ok (.ireturn, 1) := by decide +kernel
set_option maxRecDepth 20000 in
theorem ggX2_refusalOfPair_X0_has : GoodIn wsX2_refusalOfPair wsX0_has := goodIn_r _ [6, 7, 17, 18, 19, 20, 21, 22] (by decide +kernel) (by decide +kernel)
set_option maxRecDepth 20000 in
theorem gX2_refusalOfPair_X0_has : GoodIn wsX2_refusalOfPair (wsV RX2 78 RX0 yX0_has wsX0_has) := goodIn_app (goodIn_of _ (by decide +kernel)) ggX2_refusalOfPair_X0_has
theorem dX2_refusalOfPair_0 : decode cX2_refusalOfPair 0 = .ok (.iload_n 2, 1) := by decide +kernel
theorem dX2_refusalOfPair_1 : decode cX2_refusalOfPair 1 = .ok (.ifCond .lt 9, 3) := by decide +kernel
theorem dX2_refusalOfPair_4 : decode cX2_refusalOfPair 4 = .ok (.iload_n 2, 1) := by decide +kernel
theorem dX2_refusalOfPair_5 : decode cX2_refusalOfPair 5 = .ok (.bipush 9, 2) := by decide +kernel
theorem dX2_refusalOfPair_7 : decode cX2_refusalOfPair 7 = .ok (.if_icmp .le 6, 3) := by decide +kernel
theorem dX2_refusalOfPair_10 : decode cX2_refusalOfPair 10 = .ok (.bipush (-2), 2) := by decide +kernel
theorem dX2_refusalOfPair_12 : decode cX2_refusalOfPair 12 = .ok (.ireturn, 1) := by decide +kernel
theorem dX2_refusalOfPair_13 : decode cX2_refusalOfPair 13 = .ok (.iload_n 2, 1) := by decide +kernel
theorem dX2_refusalOfPair_14 : decode cX2_refusalOfPair 14 = .ok (.bipush 8, 2) := by decide +kernel
theorem dX2_refusalOfPair_16 : decode cX2_refusalOfPair 16 = .ok (.if_icmp .ne 14, 3) := by decide +kernel
theorem dX2_refusalOfPair_19 : decode cX2_refusalOfPair 19 = .ok (.iload_n 1, 1) := by decide +kernel
theorem dX2_refusalOfPair_20 : decode cX2_refusalOfPair 20 = .ok (.ifCond .ne 7, 3) := by decide +kernel
theorem dX2_refusalOfPair_23 : decode cX2_refusalOfPair 23 = .ok (.iconst 0, 1) := by decide +kernel
theorem dX2_refusalOfPair_24 : decode cX2_refusalOfPair 24 = .ok (.goto 5, 3) := by decide +kernel
theorem dX2_refusalOfPair_27 : decode cX2_refusalOfPair 27 = .ok (.bipush (-2), 2) := by decide +kernel
theorem dX2_refusalOfPair_29 : decode cX2_refusalOfPair 29 = .ok (.ireturn, 1) := by decide +kernel
theorem dX2_refusalOfPair_30 : decode cX2_refusalOfPair 30 = .ok (.iload_n 2, 1) := by decide +kernel
theorem dX2_refusalOfPair_31 : decode cX2_refusalOfPair 31 = .ok (.iconst 4, 1) := by decide +kernel
theorem dX2_refusalOfPair_32 : decode cX2_refusalOfPair 32 = .ok (.if_icmp .lt 26, 3) := by decide +kernel
theorem dX2_refusalOfPair_35 : decode cX2_refusalOfPair 35 = .ok (.iload_n 2, 1) := by decide +kernel
theorem dX2_refusalOfPair_36 : decode cX2_refusalOfPair 36 = .ok (.bipush 8, 2) := by decide +kernel
theorem dX2_refusalOfPair_38 : decode cX2_refusalOfPair 38 = .ok (.if_icmp .ge 20, 3) := by decide +kernel
theorem dX2_refusalOfPair_41 : decode cX2_refusalOfPair 41 = .ok (.iload_n 1, 1) := by decide +kernel
theorem dX2_refusalOfPair_42 : decode cX2_refusalOfPair 42 = .ok (.ifCond .lt 13, 3) := by decide +kernel
theorem dX2_refusalOfPair_45 : decode cX2_refusalOfPair 45 = .ok (.iload_n 1, 1) := by decide +kernel
theorem dX2_refusalOfPair_46 : decode cX2_refusalOfPair 46 = .ok (.bipush 10, 2) := by decide +kernel
theorem dX2_refusalOfPair_48 : decode cX2_refusalOfPair 48 = .ok (.if_icmp .gt 7, 3) := by decide +kernel
theorem dX2_refusalOfPair_51 : decode cX2_refusalOfPair 51 = .ok (.iconst 0, 1) := by decide +kernel
theorem dX2_refusalOfPair_52 : decode cX2_refusalOfPair 52 = .ok (.goto 5, 3) := by decide +kernel
theorem dX2_refusalOfPair_55 : decode cX2_refusalOfPair 55 = .ok (.bipush (-2), 2) := by decide +kernel
theorem dX2_refusalOfPair_57 : decode cX2_refusalOfPair 57 = .ok (.ireturn, 1) := by decide +kernel
theorem dX2_refusalOfPair_58 : decode cX2_refusalOfPair 58 = .ok (.aload_n 0, 1) := by decide +kernel
theorem dX2_refusalOfPair_59 : decode cX2_refusalOfPair 59 = .ok (.getfield 20, 3) := by decide +kernel
theorem dX2_refusalOfPair_62 : decode cX2_refusalOfPair 62 = .ok (.iload_n 1, 1) := by decide +kernel
theorem dX2_refusalOfPair_63 : decode cX2_refusalOfPair 63 = .ok (.invokevirtual 78, 3) := by decide +kernel
theorem dX2_refusalOfPair_66 : decode cX2_refusalOfPair 66 = .ok (.ifCond .eq 7, 3) := by decide +kernel
theorem dX2_refusalOfPair_69 : decode cX2_refusalOfPair 69 = .ok (.iconst 0, 1) := by decide +kernel
theorem dX2_refusalOfPair_70 : decode cX2_refusalOfPair 70 = .ok (.goto 4, 3) := by decide +kernel
theorem dX2_refusalOfPair_73 : decode cX2_refusalOfPair 73 = .ok (.iconst (-1), 1) := by decide +kernel
theorem dX2_refusalOfPair_74 : decode cX2_refusalOfPair 74 = .ok (.ireturn, 1) := by decide +kernel
set_option maxRecDepth 20000 in
theorem ggX2_answerOfDay_X0_becomes : GoodIn wsX2_answerOfDay wsX0_becomes := goodIn_r _ [9, 10, 11, 12, 13, 14, 15, 16, 17, 18, 19, 117, 118, 119, 120, 121, 122] (by decide +kernel) (by decide +kernel)
set_option maxRecDepth 20000 in
theorem gX2_answerOfDay_X0_becomes : GoodIn wsX2_answerOfDay (wsV RX2 170 RX0 yX0_becomes wsX0_becomes) := goodIn_app (goodIn_of _ (by decide +kernel)) ggX2_answerOfDay_X0_becomes
set_option maxRecDepth 20000 in
theorem ggX2_answerOfDay_X1_at : GoodIn wsX2_answerOfDay wsX1_at := goodIn_r _ [24, 25, 26, 27, 28, 23, 29, 30, 123, 124, 125, 126] (by decide +kernel) (by decide +kernel)
set_option maxRecDepth 20000 in
theorem gX2_answerOfDay_X1_at : GoodIn wsX2_answerOfDay (wsV RX2 118 RX1 yX1_at wsX1_at) := goodIn_app (goodIn_of _ (by decide +kernel)) ggX2_answerOfDay_X1_at
set_option maxRecDepth 20000 in
theorem ggX2_answerOfDay_X0_acted : GoodIn wsX2_answerOfDay wsX0_acted := goodIn_r _ [34, 35, 36, 37, 8, 38, 19, 39, 40, 41, 42, 18, 43, 44, 45, 46, 47, 48, 49, 50, 51, 52, 53, 54, 55, 56, 57, 58, 59, 60, 61, 16, 17, 62, 63, 64, 65, 117, 118, 119, 120, 121, 122] (by decide +kernel) (by decide +kernel)
set_option maxRecDepth 20000 in
theorem gX2_answerOfDay_X0_acted : GoodIn wsX2_answerOfDay (wsV RX2 174 RX0 yX0_acted wsX0_acted) := goodIn_app (goodIn_of _ (by decide +kernel)) ggX2_answerOfDay_X0_acted
set_option maxRecDepth 20000 in
theorem ggX2_answerOfDay_X0_isCarried : GoodIn wsX2_answerOfDay wsX0_isCarried := goodIn_r _ [69, 18, 70, 71, 72, 8, 73, 74, 75, 76, 77, 15, 17, 39, 40, 41, 42, 43, 44, 45, 46, 19, 78, 79, 80, 81, 82, 83, 84, 85, 86, 87, 88, 89, 10, 16, 90, 91, 92, 117, 118, 119, 120, 121, 122] (by decide +kernel) (by decide +kernel)
set_option maxRecDepth 20000 in
theorem gX2_answerOfDay_X0_isCarried : GoodIn wsX2_answerOfDay (wsV RX2 112 RX0 yX0_isCarried wsX0_isCarried) := goodIn_app (goodIn_of _ (by decide +kernel)) ggX2_answerOfDay_X0_isCarried
set_option maxRecDepth 20000 in
theorem ggX2_answerOfDay_X0_votesOf : GoodIn wsX2_answerOfDay wsX0_votesOf := goodIn_r _ [96, 97, 98, 99, 8, 100, 18, 74, 75, 76, 77, 15, 17, 39, 40, 41, 42, 43, 44, 45, 46, 19, 78, 79, 80, 81, 101, 102, 103, 104, 105, 91, 106, 82, 83, 84, 85, 86, 87, 88, 89, 10, 16, 90, 92, 117, 118, 119, 120, 121, 122] (by decide +kernel) (by decide +kernel)
set_option maxRecDepth 20000 in
theorem gX2_answerOfDay_X0_votesOf : GoodIn wsX2_answerOfDay (wsV RX2 109 RX0 yX0_votesOf wsX0_votesOf) := goodIn_app (goodIn_of _ (by decide +kernel)) ggX2_answerOfDay_X0_votesOf
set_option maxRecDepth 20000 in
theorem ggX2_answerOfDay_X0_has : GoodIn wsX2_answerOfDay wsX0_has := goodIn_r _ [42, 18, 117, 118, 119, 120, 121, 122] (by decide +kernel) (by decide +kernel)
set_option maxRecDepth 20000 in
theorem gX2_answerOfDay_X0_has : GoodIn wsX2_answerOfDay (wsV RX2 78 RX0 yX0_has wsX0_has) := goodIn_app (goodIn_of _ (by decide +kernel)) ggX2_answerOfDay_X0_has
theorem dX2_answerOfDay_0 : decode cX2_answerOfDay 0 = .ok (.iconst 0, 1) := by decide +kernel
theorem dX2_answerOfDay_1 : decode cX2_answerOfDay 1 = .ok (.istore 5, 2) := by decide +kernel
theorem dX2_answerOfDay_3 : decode cX2_answerOfDay 3 = .ok (.aload_n 0, 1) := by decide +kernel
theorem dX2_answerOfDay_4 : decode cX2_answerOfDay 4 = .ok (.getfield 24, 3) := by decide +kernel
theorem dX2_answerOfDay_7 : decode cX2_answerOfDay 7 = .ok (.aload_n 0, 1) := by decide +kernel
theorem dX2_answerOfDay_8 : decode cX2_answerOfDay 8 = .ok (.getfield 20, 3) := by decide +kernel
theorem dX2_answerOfDay_11 : decode cX2_answerOfDay 11 = .ok (.invokevirtual 170, 3) := by decide +kernel
theorem dX2_answerOfDay_14 : decode cX2_answerOfDay 14 = .ok (.iconst 0, 1) := by decide +kernel
theorem dX2_answerOfDay_15 : decode cX2_answerOfDay 15 = .ok (.istore 6, 2) := by decide +kernel
theorem dX2_answerOfDay_17 : decode cX2_answerOfDay 17 = .ok (.iload 6, 2) := by decide +kernel
theorem dX2_answerOfDay_19 : decode cX2_answerOfDay 19 = .ok (.iload_n 3, 1) := by decide +kernel
theorem dX2_answerOfDay_20 : decode cX2_answerOfDay 20 = .ok (.if_icmp .ge 71, 3) := by decide +kernel
theorem dX2_answerOfDay_23 : decode cX2_answerOfDay 23 = .ok (.aload_n 0, 1) := by decide +kernel
theorem dX2_answerOfDay_24 : decode cX2_answerOfDay 24 = .ok (.getfield 24, 3) := by decide +kernel
theorem dX2_answerOfDay_27 : decode cX2_answerOfDay 27 = .ok (.aload_n 1, 1) := by decide +kernel
theorem dX2_answerOfDay_28 : decode cX2_answerOfDay 28 = .ok (.iload_n 2, 1) := by decide +kernel
theorem dX2_answerOfDay_29 : decode cX2_answerOfDay 29 = .ok (.iconst 2, 1) := by decide +kernel
theorem dX2_answerOfDay_30 : decode cX2_answerOfDay 30 = .ok (.iload 6, 2) := by decide +kernel
theorem dX2_answerOfDay_32 : decode cX2_answerOfDay 32 = .ok (.imul, 1) := by decide +kernel
theorem dX2_answerOfDay_33 : decode cX2_answerOfDay 33 = .ok (.iadd, 1) := by decide +kernel
theorem dX2_answerOfDay_34 : decode cX2_answerOfDay 34 = .ok (.invokevirtual 118, 3) := by decide +kernel
theorem dX2_answerOfDay_37 : decode cX2_answerOfDay 37 = .ok (.aload_n 1, 1) := by decide +kernel
theorem dX2_answerOfDay_38 : decode cX2_answerOfDay 38 = .ok (.iload_n 2, 1) := by decide +kernel
theorem dX2_answerOfDay_39 : decode cX2_answerOfDay 39 = .ok (.iconst 2, 1) := by decide +kernel
theorem dX2_answerOfDay_40 : decode cX2_answerOfDay 40 = .ok (.iload 6, 2) := by decide +kernel
theorem dX2_answerOfDay_42 : decode cX2_answerOfDay 42 = .ok (.imul, 1) := by decide +kernel
theorem dX2_answerOfDay_43 : decode cX2_answerOfDay 43 = .ok (.iadd, 1) := by decide +kernel
theorem dX2_answerOfDay_44 : decode cX2_answerOfDay 44 = .ok (.iconst 1, 1) := by decide +kernel
theorem dX2_answerOfDay_45 : decode cX2_answerOfDay 45 = .ok (.iadd, 1) := by decide +kernel
theorem dX2_answerOfDay_46 : decode cX2_answerOfDay 46 = .ok (.invokevirtual 118, 3) := by decide +kernel
theorem dX2_answerOfDay_49 : decode cX2_answerOfDay 49 = .ok (.invokevirtual 174, 3) := by decide +kernel
theorem dX2_answerOfDay_52 : decode cX2_answerOfDay 52 = .ok (.ifCond .ne 20, 3) := by decide +kernel
theorem dX2_answerOfDay_55 : decode cX2_answerOfDay 55 = .ok (.iload 4, 2) := by decide +kernel
theorem dX2_answerOfDay_57 : decode cX2_answerOfDay 57 = .ok (.iconst 1, 1) := by decide +kernel
theorem dX2_answerOfDay_58 : decode cX2_answerOfDay 58 = .ok (.if_icmp .ne 8, 3) := by decide +kernel
theorem dX2_answerOfDay_61 : decode cX2_answerOfDay 61 = .ok (.iload 6, 2) := by decide +kernel
theorem dX2_answerOfDay_63 : decode cX2_answerOfDay 63 = .ok (.goto 8, 3) := by decide +kernel
theorem dX2_answerOfDay_66 : decode cX2_answerOfDay 66 = .ok (.bipush (-100), 2) := by decide +kernel
theorem dX2_answerOfDay_68 : decode cX2_answerOfDay 68 = .ok (.iload 6, 2) := by decide +kernel
theorem dX2_answerOfDay_70 : decode cX2_answerOfDay 70 = .ok (.isub, 1) := by decide +kernel
theorem dX2_answerOfDay_71 : decode cX2_answerOfDay 71 = .ok (.ireturn, 1) := by decide +kernel
theorem dX2_answerOfDay_72 : decode cX2_answerOfDay 72 = .ok (.aload_n 0, 1) := by decide +kernel
theorem dX2_answerOfDay_73 : decode cX2_answerOfDay 73 = .ok (.getfield 24, 3) := by decide +kernel
theorem dX2_answerOfDay_76 : decode cX2_answerOfDay 76 = .ok (.invokevirtual 112, 3) := by decide +kernel
theorem dX2_answerOfDay_79 : decode cX2_answerOfDay 79 = .ok (.ifCond .eq 6, 3) := by decide +kernel
theorem dX2_answerOfDay_82 : decode cX2_answerOfDay 82 = .ok (.iinc 5 1, 3) := by decide +kernel
theorem dX2_answerOfDay_85 : decode cX2_answerOfDay 85 = .ok (.iinc 6 1, 3) := by decide +kernel
theorem dX2_answerOfDay_88 : decode cX2_answerOfDay 88 = .ok (.goto (-71), 3) := by decide +kernel
theorem dX2_answerOfDay_91 : decode cX2_answerOfDay 91 = .ok (.iload 4, 2) := by decide +kernel
theorem dX2_answerOfDay_93 : decode cX2_answerOfDay 93 = .ok (.tableswitch 67 0 4 #[35, 44, 47, 56, 64], 35) := by decide +kernel
theorem dX2_answerOfDay_128 : decode cX2_answerOfDay 128 = .ok (.aload_n 0, 1) := by decide +kernel
theorem dX2_answerOfDay_129 : decode cX2_answerOfDay 129 = .ok (.getfield 24, 3) := by decide +kernel
theorem dX2_answerOfDay_132 : decode cX2_answerOfDay 132 = .ok (.iconst 1, 1) := by decide +kernel
theorem dX2_answerOfDay_133 : decode cX2_answerOfDay 133 = .ok (.invokevirtual 109, 3) := by decide +kernel
theorem dX2_answerOfDay_136 : decode cX2_answerOfDay 136 = .ok (.ireturn, 1) := by decide +kernel
theorem dX2_answerOfDay_137 : decode cX2_answerOfDay 137 = .ok (.bipush (-9), 2) := by decide +kernel
theorem dX2_answerOfDay_139 : decode cX2_answerOfDay 139 = .ok (.ireturn, 1) := by decide +kernel
theorem dX2_answerOfDay_140 : decode cX2_answerOfDay 140 = .ok (.aload_n 0, 1) := by decide +kernel
theorem dX2_answerOfDay_141 : decode cX2_answerOfDay 141 = .ok (.getfield 24, 3) := by decide +kernel
theorem dX2_answerOfDay_144 : decode cX2_answerOfDay 144 = .ok (.iconst 2, 1) := by decide +kernel
theorem dX2_answerOfDay_145 : decode cX2_answerOfDay 145 = .ok (.invokevirtual 109, 3) := by decide +kernel
theorem dX2_answerOfDay_148 : decode cX2_answerOfDay 148 = .ok (.ireturn, 1) := by decide +kernel
theorem dX2_answerOfDay_149 : decode cX2_answerOfDay 149 = .ok (.aload_n 0, 1) := by decide +kernel
theorem dX2_answerOfDay_150 : decode cX2_answerOfDay 150 = .ok (.getfield 24, 3) := by decide +kernel
theorem dX2_answerOfDay_153 : decode cX2_answerOfDay 153 = .ok (.getfield 136, 3) := by decide +kernel
theorem dX2_answerOfDay_156 : decode cX2_answerOfDay 156 = .ok (.ireturn, 1) := by decide +kernel
theorem dX2_answerOfDay_157 : decode cX2_answerOfDay 157 = .ok (.iload 5, 2) := by decide +kernel
theorem dX2_answerOfDay_159 : decode cX2_answerOfDay 159 = .ok (.ireturn, 1) := by decide +kernel
theorem dX2_answerOfDay_160 : decode cX2_answerOfDay 160 = .ok (.aload_n 0, 1) := by decide +kernel
theorem dX2_answerOfDay_161 : decode cX2_answerOfDay 161 = .ok (.getfield 24, 3) := by decide +kernel
theorem dX2_answerOfDay_164 : decode cX2_answerOfDay 164 = .ok (.iload 4, 2) := by decide +kernel
theorem dX2_answerOfDay_166 : decode cX2_answerOfDay 166 = .ok (.bipush 10, 2) := by decide +kernel
theorem dX2_answerOfDay_168 : decode cX2_answerOfDay 168 = .ok (.isub, 1) := by decide +kernel
theorem dX2_answerOfDay_169 : decode cX2_answerOfDay 169 = .ok (.invokevirtual 78, 3) := by decide +kernel
theorem dX2_answerOfDay_172 : decode cX2_answerOfDay 172 = .ok (.ifCond .eq 19, 3) := by decide +kernel
theorem dX2_answerOfDay_175 : decode cX2_answerOfDay 175 = .ok (.aload_n 0, 1) := by decide +kernel
theorem dX2_answerOfDay_176 : decode cX2_answerOfDay 176 = .ok (.getfield 24, 3) := by decide +kernel
theorem dX2_answerOfDay_179 : decode cX2_answerOfDay 179 = .ok (.getfield 90, 3) := by decide +kernel
theorem dX2_answerOfDay_182 : decode cX2_answerOfDay 182 = .ok (.iload 4, 2) := by decide +kernel
theorem dX2_answerOfDay_184 : decode cX2_answerOfDay 184 = .ok (.bipush 10, 2) := by decide +kernel
theorem dX2_answerOfDay_186 : decode cX2_answerOfDay 186 = .ok (.isub, 1) := by decide +kernel
theorem dX2_answerOfDay_187 : decode cX2_answerOfDay 187 = .ok (.iaload, 1) := by decide +kernel
theorem dX2_answerOfDay_188 : decode cX2_answerOfDay 188 = .ok (.goto 5, 3) := by decide +kernel
theorem dX2_answerOfDay_191 : decode cX2_answerOfDay 191 = .ok (.bipush (-9), 2) := by decide +kernel
theorem dX2_answerOfDay_193 : decode cX2_answerOfDay 193 = .ok (.ireturn, 1) := by decide +kernel
set_option maxRecDepth 20000 in
theorem ggX2_swing_X2_hasFront : GoodIn wsX2_swing wsX2_hasFront := goodIn_r _ [8, 1, 2, 77, 78, 79, 80, 81, 82, 83, 84, 85, 86, 87, 88, 89, 90, 91] (by decide +kernel) (by decide +kernel)
set_option maxRecDepth 20000 in
theorem gX2_swing_X2_hasFront : GoodIn wsX2_swing (wsV RX2 105 RX2 yX2_hasFront wsX2_hasFront) := goodIn_app (goodIn_of _ (by decide +kernel)) ggX2_swing_X2_hasFront
set_option maxRecDepth 20000 in
theorem ggX2_swing_J6_bitCount_0f7a4 : GoodIn wsX2_swing wsJ6_bitCount_0f7a4 := goodIn_r _ [12, 13, 14, 15] (by decide +kernel) (by decide +kernel)
set_option maxRecDepth 20000 in
theorem gX2_swing_J6_bitCount_0f7a4 : GoodIn wsX2_swing (va_wsS RX2 152 yJ6_bitCount_0f7a4 wsJ6_bitCount_0f7a4) := goodIn_app (goodIn_of _ (by decide +kernel)) ggX2_swing_J6_bitCount_0f7a4
set_option maxRecDepth 20000 in
theorem ggX2_swing_X2_isCarriedIfAtSea : GoodIn wsX2_swing wsX2_isCarriedIfAtSea := goodIn_r _ [19, 20, 1, 2, 21, 22, 23, 24, 25, 26, 27, 28, 29, 30, 31, 32, 33, 34, 35, 36, 37, 7, 38, 39, 40, 41, 42, 43, 44, 45, 46, 47, 48, 49, 50, 51, 52, 53, 54, 55, 56, 57, 58, 59, 60, 61, 62, 63, 64, 65, 66, 67, 68, 69, 70, 71, 72, 73, 74, 75, 76, 77, 78, 79, 80, 81, 82, 83, 84, 85, 86, 87, 88, 89, 90, 91] (by decide +kernel) (by decide +kernel)
set_option maxRecDepth 20000 in
theorem gX2_swing_X2_isCarriedIfAtSea : GoodIn wsX2_swing (wsV RX2 177 RX2 yX2_isCarriedIfAtSea wsX2_isCarriedIfAtSea) := goodIn_app (goodIn_of _ (by decide +kernel)) ggX2_swing_X2_isCarriedIfAtSea
theorem dX2_swing_0 : decode cX2_swing 0 = .ok (.aload_n 0, 1) := by decide +kernel
theorem dX2_swing_1 : decode cX2_swing 1 = .ok (.invokevirtual 105, 3) := by decide +kernel
theorem dX2_swing_4 : decode cX2_swing 4 = .ok (.ifCond .ne 6, 3) := by decide +kernel
theorem dX2_swing_7 : decode cX2_swing 7 = .ok (.bipush (-3), 2) := by decide +kernel
theorem dX2_swing_9 : decode cX2_swing 9 = .ok (.ireturn, 1) := by decide +kernel
theorem dX2_swing_10 : decode cX2_swing 10 = .ok (.bipush (-9), 2) := by decide +kernel
theorem dX2_swing_12 : decode cX2_swing 12 = .ok (.istore_n 1, 1) := by decide +kernel
theorem dX2_swing_13 : decode cX2_swing 13 = .ok (.bipush 9, 2) := by decide +kernel
theorem dX2_swing_15 : decode cX2_swing 15 = .ok (.istore_n 2, 1) := by decide +kernel
theorem dX2_swing_16 : decode cX2_swing 16 = .ok (.iconst 1, 1) := by decide +kernel
theorem dX2_swing_17 : decode cX2_swing 17 = .ok (.aload_n 0, 1) := by decide +kernel
theorem dX2_swing_18 : decode cX2_swing 18 = .ok (.getfield 20, 3) := by decide +kernel
theorem dX2_swing_21 : decode cX2_swing 21 = .ok (.getfield 75, 3) := by decide +kernel
theorem dX2_swing_24 : decode cX2_swing 24 = .ok (.ishl, 1) := by decide +kernel
theorem dX2_swing_25 : decode cX2_swing 25 = .ok (.istore_n 3, 1) := by decide +kernel
theorem dX2_swing_26 : decode cX2_swing 26 = .ok (.iconst 0, 1) := by decide +kernel
theorem dX2_swing_27 : decode cX2_swing 27 = .ok (.istore 4, 2) := by decide +kernel
theorem dX2_swing_29 : decode cX2_swing 29 = .ok (.iload 4, 2) := by decide +kernel
theorem dX2_swing_31 : decode cX2_swing 31 = .ok (.iload_n 3, 1) := by decide +kernel
theorem dX2_swing_32 : decode cX2_swing 32 = .ok (.if_icmp .ge 50, 3) := by decide +kernel
theorem dX2_swing_35 : decode cX2_swing 35 = .ok (.iload 4, 2) := by decide +kernel
theorem dX2_swing_37 : decode cX2_swing 37 = .ok (.invokestatic 152, 3) := by decide +kernel
theorem dX2_swing_40 : decode cX2_swing 40 = .ok (.istore 5, 2) := by decide +kernel
theorem dX2_swing_42 : decode cX2_swing 42 = .ok (.iload 5, 2) := by decide +kernel
theorem dX2_swing_44 : decode cX2_swing 44 = .ok (.iload_n 2, 1) := by decide +kernel
theorem dX2_swing_45 : decode cX2_swing 45 = .ok (.if_icmp .ge 31, 3) := by decide +kernel
theorem dX2_swing_48 : decode cX2_swing 48 = .ok (.iload 4, 2) := by decide +kernel
theorem dX2_swing_50 : decode cX2_swing 50 = .ok (.aload_n 0, 1) := by decide +kernel
theorem dX2_swing_51 : decode cX2_swing 51 = .ok (.getfield 20, 3) := by decide +kernel
theorem dX2_swing_54 : decode cX2_swing 54 = .ok (.getfield 136, 3) := by decide +kernel
theorem dX2_swing_57 : decode cX2_swing 57 = .ok (.iand, 1) := by decide +kernel
theorem dX2_swing_58 : decode cX2_swing 58 = .ok (.ifCond .ne 18, 3) := by decide +kernel
theorem dX2_swing_61 : decode cX2_swing 61 = .ok (.aload_n 0, 1) := by decide +kernel
theorem dX2_swing_62 : decode cX2_swing 62 = .ok (.iload 4, 2) := by decide +kernel
theorem dX2_swing_64 : decode cX2_swing 64 = .ok (.invokevirtual 177, 3) := by decide +kernel
theorem dX2_swing_67 : decode cX2_swing 67 = .ok (.ifCond .eq 9, 3) := by decide +kernel
theorem dX2_swing_70 : decode cX2_swing 70 = .ok (.iload 4, 2) := by decide +kernel
theorem dX2_swing_72 : decode cX2_swing 72 = .ok (.istore_n 1, 1) := by decide +kernel
theorem dX2_swing_73 : decode cX2_swing 73 = .ok (.iload 5, 2) := by decide +kernel
theorem dX2_swing_75 : decode cX2_swing 75 = .ok (.istore_n 2, 1) := by decide +kernel
theorem dX2_swing_76 : decode cX2_swing 76 = .ok (.iinc 4 1, 3) := by decide +kernel
theorem dX2_swing_79 : decode cX2_swing 79 = .ok (.goto (-50), 3) := by decide +kernel
theorem dX2_swing_82 : decode cX2_swing 82 = .ok (.iload_n 1, 1) := by decide +kernel
theorem dX2_swing_83 : decode cX2_swing 83 = .ok (.ireturn, 1) := by decide +kernel
set_option maxRecDepth 20000 in
theorem ggX2_blow_X2_hasFront : GoodIn wsX2_blow wsX2_hasFront := goodIn_r _ [7, 2, 8, 65, 66, 67, 68, 69, 70, 71, 72, 73, 74, 75, 76, 77, 78, 79] (by decide +kernel) (by decide +kernel)
set_option maxRecDepth 20000 in
theorem gX2_blow_X2_hasFront : GoodIn wsX2_blow (wsV RX2 105 RX2 yX2_hasFront wsX2_hasFront) := goodIn_app (goodIn_of _ (by decide +kernel)) ggX2_blow_X2_hasFront
set_option maxRecDepth 20000 in
theorem ggX2_blow_X2_isWay : GoodIn wsX2_blow wsX2_isWay := goodIn_r _ [11] (by decide +kernel) (by decide +kernel)
set_option maxRecDepth 20000 in
theorem gX2_blow_X2_isWay : GoodIn wsX2_blow (va_wsS RX2 127 yX2_isWay wsX2_isWay) := goodIn_app (goodIn_of _ (by decide +kernel)) ggX2_blow_X2_isWay
set_option maxRecDepth 20000 in
theorem ggX2_blow_X0_becomes : GoodIn wsX2_blow wsX0_becomes := goodIn_r _ [16, 17, 18, 19, 20, 21, 22, 23, 24, 25, 26, 74, 75, 76, 77, 78, 79] (by decide +kernel) (by decide +kernel)
set_option maxRecDepth 20000 in
theorem gX2_blow_X0_becomes : GoodIn wsX2_blow (wsV RX2 170 RX0 yX0_becomes wsX0_becomes) := goodIn_app (goodIn_of _ (by decide +kernel)) ggX2_blow_X0_becomes
set_option maxRecDepth 20000 in
theorem ggX2_blow_X0_blown : GoodIn wsX2_blow wsX0_blown := goodIn_r _ [30, 25, 23, 24, 31, 32, 33, 15, 34, 26, 74, 75, 76, 77, 78, 79] (by decide +kernel) (by decide +kernel)
set_option maxRecDepth 20000 in
theorem gX2_blow_X0_blown : GoodIn wsX2_blow (wsV RX2 142 RX0 yX0_blown wsX0_blown) := goodIn_app (goodIn_of _ (by decide +kernel)) ggX2_blow_X0_blown
set_option maxRecDepth 20000 in
theorem ggX2_blow_X0_isCarried : GoodIn wsX2_blow wsX0_isCarried := goodIn_r _ [38, 25, 39, 40, 41, 15, 42, 43, 44, 45, 46, 22, 24, 47, 48, 49, 50, 31, 32, 33, 34, 26, 51, 52, 53, 54, 55, 56, 57, 58, 59, 60, 61, 62, 17, 23, 63, 6, 64, 74, 75, 76, 77, 78, 79] (by decide +kernel) (by decide +kernel)
set_option maxRecDepth 20000 in
theorem gX2_blow_X0_isCarried : GoodIn wsX2_blow (wsV RX2 112 RX0 yX0_isCarried wsX0_isCarried) := goodIn_app (goodIn_of _ (by decide +kernel)) ggX2_blow_X0_isCarried
theorem dX2_blow_0 : decode cX2_blow 0 = .ok (.aload_n 0, 1) := by decide +kernel
theorem dX2_blow_1 : decode cX2_blow 1 = .ok (.invokevirtual 105, 3) := by decide +kernel
theorem dX2_blow_4 : decode cX2_blow 4 = .ok (.ifCond .ne 6, 3) := by decide +kernel
theorem dX2_blow_7 : decode cX2_blow 7 = .ok (.bipush (-3), 2) := by decide +kernel
theorem dX2_blow_9 : decode cX2_blow 9 = .ok (.ireturn, 1) := by decide +kernel
theorem dX2_blow_10 : decode cX2_blow 10 = .ok (.iload_n 1, 1) := by decide +kernel
theorem dX2_blow_11 : decode cX2_blow 11 = .ok (.invokestatic 127, 3) := by decide +kernel
theorem dX2_blow_14 : decode cX2_blow 14 = .ok (.ifCond .ne 6, 3) := by decide +kernel
theorem dX2_blow_17 : decode cX2_blow 17 = .ok (.bipush (-2), 2) := by decide +kernel
theorem dX2_blow_19 : decode cX2_blow 19 = .ok (.ireturn, 1) := by decide +kernel
theorem dX2_blow_20 : decode cX2_blow 20 = .ok (.iconst 0, 1) := by decide +kernel
theorem dX2_blow_21 : decode cX2_blow 21 = .ok (.istore_n 2, 1) := by decide +kernel
theorem dX2_blow_22 : decode cX2_blow 22 = .ok (.iload_n 2, 1) := by decide +kernel
theorem dX2_blow_23 : decode cX2_blow 23 = .ok (.bipush 10, 2) := by decide +kernel
theorem dX2_blow_25 : decode cX2_blow 25 = .ok (.if_icmp .gt 42, 3) := by decide +kernel
theorem dX2_blow_28 : decode cX2_blow 28 = .ok (.aload_n 0, 1) := by decide +kernel
theorem dX2_blow_29 : decode cX2_blow 29 = .ok (.getfield 24, 3) := by decide +kernel
theorem dX2_blow_32 : decode cX2_blow 32 = .ok (.aload_n 0, 1) := by decide +kernel
theorem dX2_blow_33 : decode cX2_blow 33 = .ok (.getfield 20, 3) := by decide +kernel
theorem dX2_blow_36 : decode cX2_blow 36 = .ok (.invokevirtual 170, 3) := by decide +kernel
theorem dX2_blow_39 : decode cX2_blow 39 = .ok (.aload_n 0, 1) := by decide +kernel
theorem dX2_blow_40 : decode cX2_blow 40 = .ok (.getfield 24, 3) := by decide +kernel
theorem dX2_blow_43 : decode cX2_blow 43 = .ok (.iload_n 1, 1) := by decide +kernel
theorem dX2_blow_44 : decode cX2_blow 44 = .ok (.iload_n 2, 1) := by decide +kernel
theorem dX2_blow_45 : decode cX2_blow 45 = .ok (.invokevirtual 142, 3) := by decide +kernel
theorem dX2_blow_48 : decode cX2_blow 48 = .ok (.pop, 1) := by decide +kernel
theorem dX2_blow_49 : decode cX2_blow 49 = .ok (.aload_n 0, 1) := by decide +kernel
theorem dX2_blow_50 : decode cX2_blow 50 = .ok (.getfield 24, 3) := by decide +kernel
theorem dX2_blow_53 : decode cX2_blow 53 = .ok (.invokevirtual 112, 3) := by decide +kernel
theorem dX2_blow_56 : decode cX2_blow 56 = .ok (.ifCond .eq 5, 3) := by decide +kernel
theorem dX2_blow_59 : decode cX2_blow 59 = .ok (.iload_n 2, 1) := by decide +kernel
theorem dX2_blow_60 : decode cX2_blow 60 = .ok (.ireturn, 1) := by decide +kernel
theorem dX2_blow_61 : decode cX2_blow 61 = .ok (.iinc 2 1, 3) := by decide +kernel
theorem dX2_blow_64 : decode cX2_blow 64 = .ok (.goto (-42), 3) := by decide +kernel
theorem dX2_blow_67 : decode cX2_blow 67 = .ok (.bipush (-9), 2) := by decide +kernel
theorem dX2_blow_69 : decode cX2_blow 69 = .ok (.ireturn, 1) := by decide +kernel
set_option maxRecDepth 20000 in
theorem ggX2_wards_X2_hasFront : GoodIn wsX2_wards wsX2_hasFront := goodIn_r _ [8, 1, 2, 72, 73, 74, 75, 76, 77, 78, 79, 80, 81, 82, 83, 84, 85, 86] (by decide +kernel) (by decide +kernel)
set_option maxRecDepth 20000 in
theorem gX2_wards_X2_hasFront : GoodIn wsX2_wards (wsV RX2 105 RX2 yX2_hasFront wsX2_hasFront) := goodIn_app (goodIn_of _ (by decide +kernel)) ggX2_wards_X2_hasFront
set_option maxRecDepth 20000 in
theorem ggX2_wards_X0_tilt : GoodIn wsX2_wards wsX0_tilt := goodIn_r _ [13, 14, 15, 16, 12, 17, 18, 19, 20, 21, 22, 23, 24, 25, 26, 27, 28, 29, 30, 31, 32, 33, 34, 35, 36, 37, 38, 39, 40, 41, 42, 43, 44, 7, 45, 81, 82, 83, 84, 85, 86] (by decide +kernel) (by decide +kernel)
set_option maxRecDepth 20000 in
theorem gX2_wards_X0_tilt : GoodIn wsX2_wards (wsV RX2 180 RX0 yX0_tilt wsX0_tilt) := goodIn_app (goodIn_of _ (by decide +kernel)) ggX2_wards_X0_tilt
set_option maxRecDepth 20000 in
theorem ggX2_wards_X2_fairestCuts : GoodIn wsX2_wards wsX2_fairestCuts := goodIn_r _ [49, 1, 2, 50, 51, 52, 53, 54, 55, 56, 57, 58, 59, 7, 60, 3, 61, 62, 63, 64, 65, 66, 67, 72, 73, 74, 75, 76, 77, 78, 79, 80, 81, 82, 83, 84, 85, 86] (by decide +kernel) (by decide +kernel)
set_option maxRecDepth 20000 in
theorem gX2_wards_X2_fairestCuts : GoodIn wsX2_wards (wsV RX2 183 RX2 yX2_fairestCuts wsX2_fairestCuts) := goodIn_app (goodIn_of _ (by decide +kernel)) ggX2_wards_X2_fairestCuts
set_option maxRecDepth 20000 in
theorem ggX2_wards_X2_wardsWon : GoodIn wsX2_wards wsX2_wardsWon := goodIn_r _ [60, 1, 2, 3, 61, 62, 63, 7, 64, 65, 66, 67, 72, 73, 74, 75, 76, 77, 78, 79, 80, 81, 82, 83, 84, 85, 86] (by decide +kernel) (by decide +kernel)
set_option maxRecDepth 20000 in
theorem gX2_wards_X2_wardsWon : GoodIn wsX2_wards (wsV RX2 186 RX2 yX2_wardsWon wsX2_wardsWon) := goodIn_app (goodIn_of _ (by decide +kernel)) ggX2_wards_X2_wardsWon
set_option maxRecDepth 20000 in
theorem ggX2_wards_X2_firstOfWard : GoodIn wsX2_wards wsX2_firstOfWard := goodIn_r _ [71, 1, 2, 61, 62, 63, 7, 64, 65, 66, 67, 72, 73, 74, 75, 76, 77, 78, 79, 80, 81, 82, 83, 84, 85, 86] (by decide +kernel) (by decide +kernel)
set_option maxRecDepth 20000 in
theorem gX2_wards_X2_firstOfWard : GoodIn wsX2_wards (wsV RX2 189 RX2 yX2_firstOfWard wsX2_firstOfWard) := goodIn_app (goodIn_of _ (by decide +kernel)) ggX2_wards_X2_firstOfWard
theorem dX2_wards_0 : decode cX2_wards 0 = .ok (.aload_n 0, 1) := by decide +kernel
theorem dX2_wards_1 : decode cX2_wards 1 = .ok (.invokevirtual 105, 3) := by decide +kernel
theorem dX2_wards_4 : decode cX2_wards 4 = .ok (.ifCond .ne 6, 3) := by decide +kernel
theorem dX2_wards_7 : decode cX2_wards 7 = .ok (.bipush (-3), 2) := by decide +kernel
theorem dX2_wards_9 : decode cX2_wards 9 = .ok (.ireturn, 1) := by decide +kernel
theorem dX2_wards_10 : decode cX2_wards 10 = .ok (.iload_n 1, 1) := by decide +kernel
theorem dX2_wards_11 : decode cX2_wards 11 = .ok (.iconst 1, 1) := by decide +kernel
theorem dX2_wards_12 : decode cX2_wards 12 = .ok (.if_icmp .lt 20, 3) := by decide +kernel
theorem dX2_wards_15 : decode cX2_wards 15 = .ok (.iload_n 1, 1) := by decide +kernel
theorem dX2_wards_16 : decode cX2_wards 16 = .ok (.bipush 8, 2) := by decide +kernel
theorem dX2_wards_18 : decode cX2_wards 18 = .ok (.if_icmp .gt 14, 3) := by decide +kernel
theorem dX2_wards_21 : decode cX2_wards 21 = .ok (.iload_n 2, 1) := by decide +kernel
theorem dX2_wards_22 : decode cX2_wards 22 = .ok (.iconst (-1), 1) := by decide +kernel
theorem dX2_wards_23 : decode cX2_wards 23 = .ok (.if_icmp .lt 9, 3) := by decide +kernel
theorem dX2_wards_26 : decode cX2_wards 26 = .ok (.iload_n 2, 1) := by decide +kernel
theorem dX2_wards_27 : decode cX2_wards 27 = .ok (.bipush 8, 2) := by decide +kernel
theorem dX2_wards_29 : decode cX2_wards 29 = .ok (.if_icmp .lt 6, 3) := by decide +kernel
theorem dX2_wards_32 : decode cX2_wards 32 = .ok (.bipush (-2), 2) := by decide +kernel
theorem dX2_wards_34 : decode cX2_wards 34 = .ok (.ireturn, 1) := by decide +kernel
theorem dX2_wards_35 : decode cX2_wards 35 = .ok (.iload_n 1, 1) := by decide +kernel
theorem dX2_wards_36 : decode cX2_wards 36 = .ok (.aload_n 0, 1) := by decide +kernel
theorem dX2_wards_37 : decode cX2_wards 37 = .ok (.getfield 20, 3) := by decide +kernel
theorem dX2_wards_40 : decode cX2_wards 40 = .ok (.getfield 75, 3) := by decide +kernel
theorem dX2_wards_43 : decode cX2_wards 43 = .ok (.if_icmp .gt 8, 3) := by decide +kernel
theorem dX2_wards_46 : decode cX2_wards 46 = .ok (.iload_n 2, 1) := by decide +kernel
theorem dX2_wards_47 : decode cX2_wards 47 = .ok (.iload_n 1, 1) := by decide +kernel
theorem dX2_wards_48 : decode cX2_wards 48 = .ok (.if_icmp .lt 6, 3) := by decide +kernel
theorem dX2_wards_51 : decode cX2_wards 51 = .ok (.bipush (-9), 2) := by decide +kernel
theorem dX2_wards_53 : decode cX2_wards 53 = .ok (.ireturn, 1) := by decide +kernel
theorem dX2_wards_54 : decode cX2_wards 54 = .ok (.iconst 0, 1) := by decide +kernel
theorem dX2_wards_55 : decode cX2_wards 55 = .ok (.istore_n 3, 1) := by decide +kernel
theorem dX2_wards_56 : decode cX2_wards 56 = .ok (.iload_n 3, 1) := by decide +kernel
theorem dX2_wards_57 : decode cX2_wards 57 = .ok (.aload_n 0, 1) := by decide +kernel
theorem dX2_wards_58 : decode cX2_wards 58 = .ok (.getfield 20, 3) := by decide +kernel
theorem dX2_wards_61 : decode cX2_wards 61 = .ok (.getfield 75, 3) := by decide +kernel
theorem dX2_wards_64 : decode cX2_wards 64 = .ok (.if_icmp .ge 23, 3) := by decide +kernel
theorem dX2_wards_67 : decode cX2_wards 67 = .ok (.aload_n 0, 1) := by decide +kernel
theorem dX2_wards_68 : decode cX2_wards 68 = .ok (.getfield 27, 3) := by decide +kernel
theorem dX2_wards_71 : decode cX2_wards 71 = .ok (.iload_n 3, 1) := by decide +kernel
theorem dX2_wards_72 : decode cX2_wards 72 = .ok (.aload_n 0, 1) := by decide +kernel
theorem dX2_wards_73 : decode cX2_wards 73 = .ok (.getfield 20, 3) := by decide +kernel
theorem dX2_wards_76 : decode cX2_wards 76 = .ok (.iload_n 3, 1) := by decide +kernel
theorem dX2_wards_77 : decode cX2_wards 77 = .ok (.invokevirtual 180, 3) := by decide +kernel
theorem dX2_wards_80 : decode cX2_wards 80 = .ok (.iastore, 1) := by decide +kernel
theorem dX2_wards_81 : decode cX2_wards 81 = .ok (.iinc 3 1, 3) := by decide +kernel
theorem dX2_wards_84 : decode cX2_wards 84 = .ok (.goto (-28), 3) := by decide +kernel
theorem dX2_wards_87 : decode cX2_wards 87 = .ok (.aload_n 0, 1) := by decide +kernel
theorem dX2_wards_88 : decode cX2_wards 88 = .ok (.iload_n 1, 1) := by decide +kernel
theorem dX2_wards_89 : decode cX2_wards 89 = .ok (.invokevirtual 183, 3) := by decide +kernel
theorem dX2_wards_92 : decode cX2_wards 92 = .ok (.istore_n 3, 1) := by decide +kernel
theorem dX2_wards_93 : decode cX2_wards 93 = .ok (.iload_n 2, 1) := by decide +kernel
theorem dX2_wards_94 : decode cX2_wards 94 = .ok (.ifCond .ge 11, 3) := by decide +kernel
theorem dX2_wards_97 : decode cX2_wards 97 = .ok (.aload_n 0, 1) := by decide +kernel
theorem dX2_wards_98 : decode cX2_wards 98 = .ok (.iload_n 3, 1) := by decide +kernel
theorem dX2_wards_99 : decode cX2_wards 99 = .ok (.invokevirtual 186, 3) := by decide +kernel
theorem dX2_wards_102 : decode cX2_wards 102 = .ok (.goto 9, 3) := by decide +kernel
theorem dX2_wards_105 : decode cX2_wards 105 = .ok (.aload_n 0, 1) := by decide +kernel
theorem dX2_wards_106 : decode cX2_wards 106 = .ok (.iload_n 3, 1) := by decide +kernel
theorem dX2_wards_107 : decode cX2_wards 107 = .ok (.iload_n 2, 1) := by decide +kernel
theorem dX2_wards_108 : decode cX2_wards 108 = .ok (.invokevirtual 189, 3) := by decide +kernel
theorem dX2_wards_111 : decode cX2_wards 111 = .ok (.ireturn, 1) := by decide +kernel
set_option maxRecDepth 20000 in
theorem ggX2_power_X2_isStripe : GoodIn wsX2_power wsX2_isStripe := goodIn_r _ [6] (by decide +kernel) (by decide +kernel)
set_option maxRecDepth 20000 in
theorem gX2_power_X2_isStripe : GoodIn wsX2_power (va_wsS RX2 102 yX2_isStripe wsX2_isStripe) := goodIn_app (goodIn_of _ (by decide +kernel)) ggX2_power_X2_isStripe
set_option maxRecDepth 20000 in
theorem ggX2_power_X2_isUpperOrLower : GoodIn wsX2_power wsX2_isUpperOrLower := goodIn_r _ [9] (by decide +kernel) (by decide +kernel)
set_option maxRecDepth 20000 in
theorem gX2_power_X2_isUpperOrLower : GoodIn wsX2_power (va_wsS RX2 192 yX2_isUpperOrLower wsX2_isUpperOrLower) := goodIn_app (goodIn_of _ (by decide +kernel)) ggX2_power_X2_isUpperOrLower
set_option maxRecDepth 20000 in
theorem ggX2_power_X2_hasFront : GoodIn wsX2_power wsX2_hasFront := goodIn_r _ [13, 2, 14, 48, 49, 50, 51, 52, 53, 54, 55, 56, 57, 58, 59, 60, 61, 62] (by decide +kernel) (by decide +kernel)
set_option maxRecDepth 20000 in
theorem gX2_power_X2_hasFront : GoodIn wsX2_power (wsV RX2 105 RX2 yX2_hasFront wsX2_hasFront) := goodIn_app (goodIn_of _ (by decide +kernel)) ggX2_power_X2_hasFront
set_option maxRecDepth 20000 in
theorem ggX2_power_X0_votesOfStripes : GoodIn wsX2_power wsX0_votesOfStripes := goodIn_r _ [19, 20, 21, 22, 5, 23, 24, 25, 26, 18, 27, 28, 29, 30, 31, 32, 33, 34, 35, 36, 37, 38, 39, 40, 41, 42, 43, 44, 57, 58, 59, 60, 61, 62] (by decide +kernel) (by decide +kernel)
set_option maxRecDepth 20000 in
theorem gX2_power_X0_votesOfStripes : GoodIn wsX2_power (wsV RX2 197 RX0 yX0_votesOfStripes wsX0_votesOfStripes) := goodIn_app (goodIn_of _ (by decide +kernel)) ggX2_power_X0_votesOfStripes
set_option maxRecDepth 20000 in
theorem ggX2_power_X2_share : GoodIn wsX2_power wsX2_share := goodIn_r _ [47] (by decide +kernel) (by decide +kernel)
set_option maxRecDepth 20000 in
theorem gX2_power_X2_share : GoodIn wsX2_power (va_wsS RX2 200 yX2_share wsX2_share) := goodIn_app (goodIn_of _ (by decide +kernel)) ggX2_power_X2_share
theorem dX2_power_0 : decode cX2_power 0 = .ok (.iload_n 1, 1) := by decide +kernel
theorem dX2_power_1 : decode cX2_power 1 = .ok (.invokestatic 102, 3) := by decide +kernel
theorem dX2_power_4 : decode cX2_power 4 = .ok (.ifCond .eq 17, 3) := by decide +kernel
theorem dX2_power_7 : decode cX2_power 7 = .ok (.iload_n 2, 1) := by decide +kernel
theorem dX2_power_8 : decode cX2_power 8 = .ok (.invokestatic 192, 3) := by decide +kernel
theorem dX2_power_11 : decode cX2_power 11 = .ok (.ifCond .eq 10, 3) := by decide +kernel
theorem dX2_power_14 : decode cX2_power 14 = .ok (.aload_n 0, 1) := by decide +kernel
theorem dX2_power_15 : decode cX2_power 15 = .ok (.invokevirtual 105, 3) := by decide +kernel
theorem dX2_power_18 : decode cX2_power 18 = .ok (.ifCond .ne 7, 3) := by decide +kernel
theorem dX2_power_21 : decode cX2_power 21 = .ok (.ldc2_w 195, 3) := by decide +kernel
theorem dX2_power_24 : decode cX2_power 24 = .ok (.lreturn, 1) := by decide +kernel
theorem dX2_power_25 : decode cX2_power 25 = .ok (.iconst 1, 1) := by decide +kernel
theorem dX2_power_26 : decode cX2_power 26 = .ok (.iload_n 1, 1) := by decide +kernel
theorem dX2_power_27 : decode cX2_power 27 = .ok (.ishl, 1) := by decide +kernel
theorem dX2_power_28 : decode cX2_power 28 = .ok (.istore_n 3, 1) := by decide +kernel
theorem dX2_power_29 : decode cX2_power 29 = .ok (.bipush 16, 2) := by decide +kernel
theorem dX2_power_31 : decode cX2_power 31 = .ok (.istore 4, 2) := by decide +kernel
theorem dX2_power_33 : decode cX2_power 33 = .ok (.aload_n 0, 1) := by decide +kernel
theorem dX2_power_34 : decode cX2_power 34 = .ok (.getfield 20, 3) := by decide +kernel
theorem dX2_power_37 : decode cX2_power 37 = .ok (.iload 4, 2) := by decide +kernel
theorem dX2_power_39 : decode cX2_power 39 = .ok (.iconst 1, 1) := by decide +kernel
theorem dX2_power_40 : decode cX2_power 40 = .ok (.isub, 1) := by decide +kernel
theorem dX2_power_41 : decode cX2_power 41 = .ok (.invokevirtual 197, 3) := by decide +kernel
theorem dX2_power_44 : decode cX2_power 44 = .ok (.istore 5, 2) := by decide +kernel
theorem dX2_power_46 : decode cX2_power 46 = .ok (.iconst 0, 1) := by decide +kernel
theorem dX2_power_47 : decode cX2_power 47 = .ok (.istore 6, 2) := by decide +kernel
theorem dX2_power_49 : decode cX2_power 49 = .ok (.iconst 0, 1) := by decide +kernel
theorem dX2_power_50 : decode cX2_power 50 = .ok (.istore 7, 2) := by decide +kernel
theorem dX2_power_52 : decode cX2_power 52 = .ok (.iload 7, 2) := by decide +kernel
theorem dX2_power_54 : decode cX2_power 54 = .ok (.iload 4, 2) := by decide +kernel
theorem dX2_power_56 : decode cX2_power 56 = .ok (.if_icmp .ge 53, 3) := by decide +kernel
theorem dX2_power_59 : decode cX2_power 59 = .ok (.iload 7, 2) := by decide +kernel
theorem dX2_power_61 : decode cX2_power 61 = .ok (.iload_n 3, 1) := by decide +kernel
theorem dX2_power_62 : decode cX2_power 62 = .ok (.iand, 1) := by decide +kernel
theorem dX2_power_63 : decode cX2_power 63 = .ok (.ifCond .ne 40, 3) := by decide +kernel
theorem dX2_power_66 : decode cX2_power 66 = .ok (.iconst 2, 1) := by decide +kernel
theorem dX2_power_67 : decode cX2_power 67 = .ok (.aload_n 0, 1) := by decide +kernel
theorem dX2_power_68 : decode cX2_power 68 = .ok (.getfield 20, 3) := by decide +kernel
theorem dX2_power_71 : decode cX2_power 71 = .ok (.iload 7, 2) := by decide +kernel
theorem dX2_power_73 : decode cX2_power 73 = .ok (.invokevirtual 197, 3) := by decide +kernel
theorem dX2_power_76 : decode cX2_power 76 = .ok (.imul, 1) := by decide +kernel
theorem dX2_power_77 : decode cX2_power 77 = .ok (.iload 5, 2) := by decide +kernel
theorem dX2_power_79 : decode cX2_power 79 = .ok (.if_icmp .gt 24, 3) := by decide +kernel
theorem dX2_power_82 : decode cX2_power 82 = .ok (.iconst 2, 1) := by decide +kernel
theorem dX2_power_83 : decode cX2_power 83 = .ok (.aload_n 0, 1) := by decide +kernel
theorem dX2_power_84 : decode cX2_power 84 = .ok (.getfield 20, 3) := by decide +kernel
theorem dX2_power_87 : decode cX2_power 87 = .ok (.iload 7, 2) := by decide +kernel
theorem dX2_power_89 : decode cX2_power 89 = .ok (.iload_n 3, 1) := by decide +kernel
theorem dX2_power_90 : decode cX2_power 90 = .ok (.ior, 1) := by decide +kernel
theorem dX2_power_91 : decode cX2_power 91 = .ok (.invokevirtual 197, 3) := by decide +kernel
theorem dX2_power_94 : decode cX2_power 94 = .ok (.imul, 1) := by decide +kernel
theorem dX2_power_95 : decode cX2_power 95 = .ok (.iload 5, 2) := by decide +kernel
theorem dX2_power_97 : decode cX2_power 97 = .ok (.if_icmp .le 6, 3) := by decide +kernel
theorem dX2_power_100 : decode cX2_power 100 = .ok (.iinc 6 1, 3) := by decide +kernel
theorem dX2_power_103 : decode cX2_power 103 = .ok (.iinc 7 1, 3) := by decide +kernel
theorem dX2_power_106 : decode cX2_power 106 = .ok (.goto (-54), 3) := by decide +kernel
theorem dX2_power_109 : decode cX2_power 109 = .ok (.iload 6, 2) := by decide +kernel
theorem dX2_power_111 : decode cX2_power 111 = .ok (.iload 4, 2) := by decide +kernel
theorem dX2_power_113 : decode cX2_power 113 = .ok (.iconst 2, 1) := by decide +kernel
theorem dX2_power_114 : decode cX2_power 114 = .ok (.idiv, 1) := by decide +kernel
theorem dX2_power_115 : decode cX2_power 115 = .ok (.iload_n 2, 1) := by decide +kernel
theorem dX2_power_116 : decode cX2_power 116 = .ok (.invokestatic 200, 3) := by decide +kernel
theorem dX2_power_119 : decode cX2_power 119 = .ok (.lreturn, 1) := by decide +kernel
set_option maxRecDepth 20000 in
theorem ggX2_isCarriedIfAtSea_X0_becomes : GoodIn wsX2_isCarriedIfAtSea wsX0_becomes := goodIn_r _ [8, 9, 10, 11, 12, 13, 14, 15, 16, 17, 18, 70, 71, 72, 73, 74, 75] (by decide +kernel) (by decide +kernel)
set_option maxRecDepth 20000 in
theorem gX2_isCarriedIfAtSea_X0_becomes : GoodIn wsX2_isCarriedIfAtSea (wsV RX2 170 RX0 yX0_becomes wsX0_becomes) := goodIn_app (goodIn_of _ (by decide +kernel)) ggX2_isCarriedIfAtSea_X0_becomes
set_option maxRecDepth 20000 in
theorem ggX2_isCarriedIfAtSea_X2_isIn : GoodIn wsX2_isCarriedIfAtSea wsX2_isIn := goodIn_r _ [22] (by decide +kernel) (by decide +kernel)
set_option maxRecDepth 20000 in
theorem gX2_isCarriedIfAtSea_X2_isIn : GoodIn wsX2_isCarriedIfAtSea (va_wsS RX2 204 yX2_isIn wsX2_isIn) := goodIn_app (goodIn_of _ (by decide +kernel)) ggX2_isCarriedIfAtSea_X2_isIn
set_option maxRecDepth 20000 in
theorem ggX2_isCarriedIfAtSea_X0_turned : GoodIn wsX2_isCarriedIfAtSea wsX0_turned := goodIn_r _ [26, 16, 27, 28, 29, 7, 30, 17, 31, 32, 33, 34, 18, 70, 71, 72, 73, 74, 75] (by decide +kernel) (by decide +kernel)
set_option maxRecDepth 20000 in
theorem gX2_isCarriedIfAtSea_X0_turned : GoodIn wsX2_isCarriedIfAtSea (wsV RX2 139 RX0 yX0_turned wsX0_turned) := goodIn_app (goodIn_of _ (by decide +kernel)) ggX2_isCarriedIfAtSea_X0_turned
set_option maxRecDepth 20000 in
theorem ggX2_isCarriedIfAtSea_X0_isCarried : GoodIn wsX2_isCarriedIfAtSea wsX0_isCarried := goodIn_r _ [38, 17, 39, 40, 41, 7, 42, 43, 44, 45, 46, 14, 16, 27, 28, 29, 30, 31, 32, 33, 34, 18, 47, 48, 49, 50, 51, 52, 53, 54, 55, 56, 57, 58, 9, 15, 59, 21, 60, 70, 71, 72, 73, 74, 75] (by decide +kernel) (by decide +kernel)
set_option maxRecDepth 20000 in
theorem gX2_isCarriedIfAtSea_X0_isCarried : GoodIn wsX2_isCarriedIfAtSea (wsV RX2 112 RX0 yX0_isCarried wsX0_isCarried) := goodIn_app (goodIn_of _ (by decide +kernel)) ggX2_isCarriedIfAtSea_X0_isCarried
theorem dX2_isCarriedIfAtSea_0 : decode cX2_isCarriedIfAtSea 0 = .ok (.aload_n 0, 1) := by decide +kernel
theorem dX2_isCarriedIfAtSea_1 : decode cX2_isCarriedIfAtSea 1 = .ok (.getfield 24, 3) := by decide +kernel
theorem dX2_isCarriedIfAtSea_4 : decode cX2_isCarriedIfAtSea 4 = .ok (.aload_n 0, 1) := by decide +kernel
theorem dX2_isCarriedIfAtSea_5 : decode cX2_isCarriedIfAtSea 5 = .ok (.getfield 20, 3) := by decide +kernel
theorem dX2_isCarriedIfAtSea_8 : decode cX2_isCarriedIfAtSea 8 = .ok (.invokevirtual 170, 3) := by decide +kernel
theorem dX2_isCarriedIfAtSea_11 : decode cX2_isCarriedIfAtSea 11 = .ok (.iconst 0, 1) := by decide +kernel
theorem dX2_isCarriedIfAtSea_12 : decode cX2_isCarriedIfAtSea 12 = .ok (.istore_n 2, 1) := by decide +kernel
theorem dX2_isCarriedIfAtSea_13 : decode cX2_isCarriedIfAtSea 13 = .ok (.iload_n 2, 1) := by decide +kernel
theorem dX2_isCarriedIfAtSea_14 : decode cX2_isCarriedIfAtSea 14 = .ok (.aload_n 0, 1) := by decide +kernel
theorem dX2_isCarriedIfAtSea_15 : decode cX2_isCarriedIfAtSea 15 = .ok (.getfield 24, 3) := by decide +kernel
theorem dX2_isCarriedIfAtSea_18 : decode cX2_isCarriedIfAtSea 18 = .ok (.getfield 75, 3) := by decide +kernel
theorem dX2_isCarriedIfAtSea_21 : decode cX2_isCarriedIfAtSea 21 = .ok (.if_icmp .ge 27, 3) := by decide +kernel
theorem dX2_isCarriedIfAtSea_24 : decode cX2_isCarriedIfAtSea 24 = .ok (.iload_n 1, 1) := by decide +kernel
theorem dX2_isCarriedIfAtSea_25 : decode cX2_isCarriedIfAtSea 25 = .ok (.iload_n 2, 1) := by decide +kernel
theorem dX2_isCarriedIfAtSea_26 : decode cX2_isCarriedIfAtSea 26 = .ok (.invokestatic 204, 3) := by decide +kernel
theorem dX2_isCarriedIfAtSea_29 : decode cX2_isCarriedIfAtSea 29 = .ok (.ifCond .eq 13, 3) := by decide +kernel
theorem dX2_isCarriedIfAtSea_32 : decode cX2_isCarriedIfAtSea 32 = .ok (.aload_n 0, 1) := by decide +kernel
theorem dX2_isCarriedIfAtSea_33 : decode cX2_isCarriedIfAtSea 33 = .ok (.getfield 24, 3) := by decide +kernel
theorem dX2_isCarriedIfAtSea_36 : decode cX2_isCarriedIfAtSea 36 = .ok (.iload_n 2, 1) := by decide +kernel
theorem dX2_isCarriedIfAtSea_37 : decode cX2_isCarriedIfAtSea 37 = .ok (.iconst 0, 1) := by decide +kernel
theorem dX2_isCarriedIfAtSea_38 : decode cX2_isCarriedIfAtSea 38 = .ok (.invokevirtual 139, 3) := by decide +kernel
theorem dX2_isCarriedIfAtSea_41 : decode cX2_isCarriedIfAtSea 41 = .ok (.pop, 1) := by decide +kernel
theorem dX2_isCarriedIfAtSea_42 : decode cX2_isCarriedIfAtSea 42 = .ok (.iinc 2 1, 3) := by decide +kernel
theorem dX2_isCarriedIfAtSea_45 : decode cX2_isCarriedIfAtSea 45 = .ok (.goto (-32), 3) := by decide +kernel
theorem dX2_isCarriedIfAtSea_48 : decode cX2_isCarriedIfAtSea 48 = .ok (.aload_n 0, 1) := by decide +kernel
theorem dX2_isCarriedIfAtSea_49 : decode cX2_isCarriedIfAtSea 49 = .ok (.getfield 24, 3) := by decide +kernel
theorem dX2_isCarriedIfAtSea_52 : decode cX2_isCarriedIfAtSea 52 = .ok (.invokevirtual 112, 3) := by decide +kernel
theorem dX2_isCarriedIfAtSea_55 : decode cX2_isCarriedIfAtSea 55 = .ok (.ireturn, 1) := by decide +kernel
set_option maxRecDepth 20000 in
theorem ggX2_fairestCuts_J6_bitCount_0f7a4 : GoodIn wsX2_fairestCuts wsJ6_bitCount_0f7a4 := goodIn_r _ [6, 7, 8, 9] (by decide +kernel) (by decide +kernel)
set_option maxRecDepth 20000 in
theorem gX2_fairestCuts_J6_bitCount_0f7a4 : GoodIn wsX2_fairestCuts (va_wsS RX2 152 yJ6_bitCount_0f7a4 wsJ6_bitCount_0f7a4) := goodIn_app (goodIn_of _ (by decide +kernel)) ggX2_fairestCuts_J6_bitCount_0f7a4
set_option maxRecDepth 20000 in
theorem ggX2_fairestCuts_X2_wardsWon : GoodIn wsX2_fairestCuts wsX2_wardsWon := goodIn_r _ [14, 1, 2, 15, 16, 17, 18, 13, 19, 20, 21, 22, 23, 24, 25, 26, 27, 28, 29, 30, 31, 32, 33, 34, 35, 36, 37] (by decide +kernel) (by decide +kernel)
set_option maxRecDepth 20000 in
theorem gX2_fairestCuts_X2_wardsWon : GoodIn wsX2_fairestCuts (wsV RX2 186 RX2 yX2_wardsWon wsX2_wardsWon) := goodIn_app (goodIn_of _ (by decide +kernel)) ggX2_fairestCuts_X2_wardsWon
theorem dX2_fairestCuts_0 : decode cX2_fairestCuts 0 = .ok (.iconst 0, 1) := by decide +kernel
theorem dX2_fairestCuts_1 : decode cX2_fairestCuts 1 = .ok (.istore_n 2, 1) := by decide +kernel
theorem dX2_fairestCuts_2 : decode cX2_fairestCuts 2 = .ok (.iconst (-1), 1) := by decide +kernel
theorem dX2_fairestCuts_3 : decode cX2_fairestCuts 3 = .ok (.istore_n 3, 1) := by decide +kernel
theorem dX2_fairestCuts_4 : decode cX2_fairestCuts 4 = .ok (.iconst 1, 1) := by decide +kernel
theorem dX2_fairestCuts_5 : decode cX2_fairestCuts 5 = .ok (.aload_n 0, 1) := by decide +kernel
theorem dX2_fairestCuts_6 : decode cX2_fairestCuts 6 = .ok (.getfield 20, 3) := by decide +kernel
theorem dX2_fairestCuts_9 : decode cX2_fairestCuts 9 = .ok (.getfield 75, 3) := by decide +kernel
theorem dX2_fairestCuts_12 : decode cX2_fairestCuts 12 = .ok (.iconst 1, 1) := by decide +kernel
theorem dX2_fairestCuts_13 : decode cX2_fairestCuts 13 = .ok (.isub, 1) := by decide +kernel
theorem dX2_fairestCuts_14 : decode cX2_fairestCuts 14 = .ok (.ishl, 1) := by decide +kernel
theorem dX2_fairestCuts_15 : decode cX2_fairestCuts 15 = .ok (.istore 4, 2) := by decide +kernel
theorem dX2_fairestCuts_17 : decode cX2_fairestCuts 17 = .ok (.iconst 2, 1) := by decide +kernel
theorem dX2_fairestCuts_18 : decode cX2_fairestCuts 18 = .ok (.iload 4, 2) := by decide +kernel
theorem dX2_fairestCuts_20 : decode cX2_fairestCuts 20 = .ok (.imul, 1) := by decide +kernel
theorem dX2_fairestCuts_21 : decode cX2_fairestCuts 21 = .ok (.iconst 1, 1) := by decide +kernel
theorem dX2_fairestCuts_22 : decode cX2_fairestCuts 22 = .ok (.isub, 1) := by decide +kernel
theorem dX2_fairestCuts_23 : decode cX2_fairestCuts 23 = .ok (.istore 5, 2) := by decide +kernel
theorem dX2_fairestCuts_25 : decode cX2_fairestCuts 25 = .ok (.iload 5, 2) := by decide +kernel
theorem dX2_fairestCuts_27 : decode cX2_fairestCuts 27 = .ok (.iload 4, 2) := by decide +kernel
theorem dX2_fairestCuts_29 : decode cX2_fairestCuts 29 = .ok (.if_icmp .lt 38, 3) := by decide +kernel
theorem dX2_fairestCuts_32 : decode cX2_fairestCuts 32 = .ok (.iload 5, 2) := by decide +kernel
theorem dX2_fairestCuts_34 : decode cX2_fairestCuts 34 = .ok (.invokestatic 152, 3) := by decide +kernel
theorem dX2_fairestCuts_37 : decode cX2_fairestCuts 37 = .ok (.iload_n 1, 1) := by decide +kernel
theorem dX2_fairestCuts_38 : decode cX2_fairestCuts 38 = .ok (.if_icmp .ne 23, 3) := by decide +kernel
theorem dX2_fairestCuts_41 : decode cX2_fairestCuts 41 = .ok (.aload_n 0, 1) := by decide +kernel
theorem dX2_fairestCuts_42 : decode cX2_fairestCuts 42 = .ok (.iload 5, 2) := by decide +kernel
theorem dX2_fairestCuts_44 : decode cX2_fairestCuts 44 = .ok (.invokevirtual 186, 3) := by decide +kernel
theorem dX2_fairestCuts_47 : decode cX2_fairestCuts 47 = .ok (.iload_n 3, 1) := by decide +kernel
theorem dX2_fairestCuts_48 : decode cX2_fairestCuts 48 = .ok (.if_icmp .le 13, 3) := by decide +kernel
theorem dX2_fairestCuts_51 : decode cX2_fairestCuts 51 = .ok (.iload 5, 2) := by decide +kernel
theorem dX2_fairestCuts_53 : decode cX2_fairestCuts 53 = .ok (.istore_n 2, 1) := by decide +kernel
theorem dX2_fairestCuts_54 : decode cX2_fairestCuts 54 = .ok (.aload_n 0, 1) := by decide +kernel
theorem dX2_fairestCuts_55 : decode cX2_fairestCuts 55 = .ok (.iload 5, 2) := by decide +kernel
theorem dX2_fairestCuts_57 : decode cX2_fairestCuts 57 = .ok (.invokevirtual 186, 3) := by decide +kernel
theorem dX2_fairestCuts_60 : decode cX2_fairestCuts 60 = .ok (.istore_n 3, 1) := by decide +kernel
theorem dX2_fairestCuts_61 : decode cX2_fairestCuts 61 = .ok (.iinc 5 (-1), 3) := by decide +kernel
theorem dX2_fairestCuts_64 : decode cX2_fairestCuts 64 = .ok (.goto (-39), 3) := by decide +kernel
theorem dX2_fairestCuts_67 : decode cX2_fairestCuts 67 = .ok (.iload_n 2, 1) := by decide +kernel
theorem dX2_fairestCuts_68 : decode cX2_fairestCuts 68 = .ok (.ireturn, 1) := by decide +kernel
set_option maxRecDepth 20000 in
theorem ggX2_beginsWard_X2_isIn : GoodIn wsX2_beginsWard wsX2_isIn := goodIn_r _ [6] (by decide +kernel) (by decide +kernel)
set_option maxRecDepth 20000 in
theorem gX2_beginsWard_X2_isIn : GoodIn wsX2_beginsWard (va_wsS RX2 204 yX2_isIn wsX2_isIn) := goodIn_app (goodIn_of _ (by decide +kernel)) ggX2_beginsWard_X2_isIn
theorem dX2_beginsWard_0 : decode cX2_beginsWard 0 = .ok (.iload_n 1, 1) := by decide +kernel
theorem dX2_beginsWard_1 : decode cX2_beginsWard 1 = .ok (.aload_n 0, 1) := by decide +kernel
theorem dX2_beginsWard_2 : decode cX2_beginsWard 2 = .ok (.getfield 20, 3) := by decide +kernel
theorem dX2_beginsWard_5 : decode cX2_beginsWard 5 = .ok (.getfield 75, 3) := by decide +kernel
theorem dX2_beginsWard_8 : decode cX2_beginsWard 8 = .ok (.iconst 1, 1) := by decide +kernel
theorem dX2_beginsWard_9 : decode cX2_beginsWard 9 = .ok (.isub, 1) := by decide +kernel
theorem dX2_beginsWard_10 : decode cX2_beginsWard 10 = .ok (.iload_n 2, 1) := by decide +kernel
theorem dX2_beginsWard_11 : decode cX2_beginsWard 11 = .ok (.isub, 1) := by decide +kernel
theorem dX2_beginsWard_12 : decode cX2_beginsWard 12 = .ok (.invokestatic 204, 3) := by decide +kernel
theorem dX2_beginsWard_15 : decode cX2_beginsWard 15 = .ok (.ireturn, 1) := by decide +kernel
set_option maxRecDepth 20000 in
theorem ggX2_wardsWon_X2_beginsWard : GoodIn wsX2_wardsWon wsX2_beginsWard := goodIn_r _ [8, 1, 2, 9, 10, 7, 11, 12, 13, 14, 15, 16, 17, 18, 19, 20, 21, 22, 23, 24, 25, 26] (by decide +kernel) (by decide +kernel)
set_option maxRecDepth 20000 in
theorem gX2_wardsWon_X2_beginsWard : GoodIn wsX2_wardsWon (wsV RX2 207 RX2 yX2_beginsWard wsX2_beginsWard) := goodIn_app (goodIn_of _ (by decide +kernel)) ggX2_wardsWon_X2_beginsWard
theorem dX2_wardsWon_0 : decode cX2_wardsWon 0 = .ok (.iconst 0, 1) := by decide +kernel
theorem dX2_wardsWon_1 : decode cX2_wardsWon 1 = .ok (.istore_n 2, 1) := by decide +kernel
theorem dX2_wardsWon_2 : decode cX2_wardsWon 2 = .ok (.iconst 0, 1) := by decide +kernel
theorem dX2_wardsWon_3 : decode cX2_wardsWon 3 = .ok (.istore_n 3, 1) := by decide +kernel
theorem dX2_wardsWon_4 : decode cX2_wardsWon 4 = .ok (.iconst 0, 1) := by decide +kernel
theorem dX2_wardsWon_5 : decode cX2_wardsWon 5 = .ok (.istore 4, 2) := by decide +kernel
theorem dX2_wardsWon_7 : decode cX2_wardsWon 7 = .ok (.iload 4, 2) := by decide +kernel
theorem dX2_wardsWon_9 : decode cX2_wardsWon 9 = .ok (.aload_n 0, 1) := by decide +kernel
theorem dX2_wardsWon_10 : decode cX2_wardsWon 10 = .ok (.getfield 20, 3) := by decide +kernel
theorem dX2_wardsWon_13 : decode cX2_wardsWon 13 = .ok (.getfield 75, 3) := by decide +kernel
theorem dX2_wardsWon_16 : decode cX2_wardsWon 16 = .ok (.if_icmp .ge 43, 3) := by decide +kernel
theorem dX2_wardsWon_19 : decode cX2_wardsWon 19 = .ok (.aload_n 0, 1) := by decide +kernel
theorem dX2_wardsWon_20 : decode cX2_wardsWon 20 = .ok (.iload_n 1, 1) := by decide +kernel
theorem dX2_wardsWon_21 : decode cX2_wardsWon 21 = .ok (.iload 4, 2) := by decide +kernel
theorem dX2_wardsWon_23 : decode cX2_wardsWon 23 = .ok (.invokevirtual 207, 3) := by decide +kernel
theorem dX2_wardsWon_26 : decode cX2_wardsWon 26 = .ok (.ifCond .eq 17, 3) := by decide +kernel
theorem dX2_wardsWon_29 : decode cX2_wardsWon 29 = .ok (.iload_n 2, 1) := by decide +kernel
theorem dX2_wardsWon_30 : decode cX2_wardsWon 30 = .ok (.iload_n 3, 1) := by decide +kernel
theorem dX2_wardsWon_31 : decode cX2_wardsWon 31 = .ok (.ifCond .le 7, 3) := by decide +kernel
theorem dX2_wardsWon_34 : decode cX2_wardsWon 34 = .ok (.iconst 1, 1) := by decide +kernel
theorem dX2_wardsWon_35 : decode cX2_wardsWon 35 = .ok (.goto 4, 3) := by decide +kernel
theorem dX2_wardsWon_38 : decode cX2_wardsWon 38 = .ok (.iconst 0, 1) := by decide +kernel
theorem dX2_wardsWon_39 : decode cX2_wardsWon 39 = .ok (.iadd, 1) := by decide +kernel
theorem dX2_wardsWon_40 : decode cX2_wardsWon 40 = .ok (.istore_n 2, 1) := by decide +kernel
theorem dX2_wardsWon_41 : decode cX2_wardsWon 41 = .ok (.iconst 0, 1) := by decide +kernel
theorem dX2_wardsWon_42 : decode cX2_wardsWon 42 = .ok (.istore_n 3, 1) := by decide +kernel
theorem dX2_wardsWon_43 : decode cX2_wardsWon 43 = .ok (.iload_n 3, 1) := by decide +kernel
theorem dX2_wardsWon_44 : decode cX2_wardsWon 44 = .ok (.aload_n 0, 1) := by decide +kernel
theorem dX2_wardsWon_45 : decode cX2_wardsWon 45 = .ok (.getfield 27, 3) := by decide +kernel
theorem dX2_wardsWon_48 : decode cX2_wardsWon 48 = .ok (.iload 4, 2) := by decide +kernel
theorem dX2_wardsWon_50 : decode cX2_wardsWon 50 = .ok (.iaload, 1) := by decide +kernel
theorem dX2_wardsWon_51 : decode cX2_wardsWon 51 = .ok (.iadd, 1) := by decide +kernel
theorem dX2_wardsWon_52 : decode cX2_wardsWon 52 = .ok (.istore_n 3, 1) := by decide +kernel
theorem dX2_wardsWon_53 : decode cX2_wardsWon 53 = .ok (.iinc 4 1, 3) := by decide +kernel
theorem dX2_wardsWon_56 : decode cX2_wardsWon 56 = .ok (.goto (-49), 3) := by decide +kernel
theorem dX2_wardsWon_59 : decode cX2_wardsWon 59 = .ok (.iload_n 3, 1) := by decide +kernel
theorem dX2_wardsWon_60 : decode cX2_wardsWon 60 = .ok (.ifCond .le 9, 3) := by decide +kernel
theorem dX2_wardsWon_63 : decode cX2_wardsWon 63 = .ok (.iload_n 2, 1) := by decide +kernel
theorem dX2_wardsWon_64 : decode cX2_wardsWon 64 = .ok (.iconst 1, 1) := by decide +kernel
theorem dX2_wardsWon_65 : decode cX2_wardsWon 65 = .ok (.iadd, 1) := by decide +kernel
theorem dX2_wardsWon_66 : decode cX2_wardsWon 66 = .ok (.goto 4, 3) := by decide +kernel
theorem dX2_wardsWon_69 : decode cX2_wardsWon 69 = .ok (.iload_n 2, 1) := by decide +kernel
theorem dX2_wardsWon_70 : decode cX2_wardsWon 70 = .ok (.ireturn, 1) := by decide +kernel
set_option maxRecDepth 20000 in
theorem ggX2_firstOfWard_X2_beginsWard : GoodIn wsX2_firstOfWard wsX2_beginsWard := goodIn_r _ [7, 1, 2, 8, 9, 6, 10, 11, 12, 13, 14, 15, 16, 17, 18, 19, 20, 21, 22, 23, 24, 25] (by decide +kernel) (by decide +kernel)
set_option maxRecDepth 20000 in
theorem gX2_firstOfWard_X2_beginsWard : GoodIn wsX2_firstOfWard (wsV RX2 207 RX2 yX2_beginsWard wsX2_beginsWard) := goodIn_app (goodIn_of _ (by decide +kernel)) ggX2_firstOfWard_X2_beginsWard
theorem dX2_firstOfWard_0 : decode cX2_firstOfWard 0 = .ok (.iconst 0, 1) := by decide +kernel
theorem dX2_firstOfWard_1 : decode cX2_firstOfWard 1 = .ok (.istore_n 3, 1) := by decide +kernel
theorem dX2_firstOfWard_2 : decode cX2_firstOfWard 2 = .ok (.iconst 0, 1) := by decide +kernel
theorem dX2_firstOfWard_3 : decode cX2_firstOfWard 3 = .ok (.istore 4, 2) := by decide +kernel
theorem dX2_firstOfWard_5 : decode cX2_firstOfWard 5 = .ok (.iload 4, 2) := by decide +kernel
theorem dX2_firstOfWard_7 : decode cX2_firstOfWard 7 = .ok (.aload_n 0, 1) := by decide +kernel
theorem dX2_firstOfWard_8 : decode cX2_firstOfWard 8 = .ok (.getfield 20, 3) := by decide +kernel
theorem dX2_firstOfWard_11 : decode cX2_firstOfWard 11 = .ok (.getfield 75, 3) := by decide +kernel
theorem dX2_firstOfWard_14 : decode cX2_firstOfWard 14 = .ok (.if_icmp .ge 30, 3) := by decide +kernel
theorem dX2_firstOfWard_17 : decode cX2_firstOfWard 17 = .ok (.aload_n 0, 1) := by decide +kernel
theorem dX2_firstOfWard_18 : decode cX2_firstOfWard 18 = .ok (.iload_n 1, 1) := by decide +kernel
theorem dX2_firstOfWard_19 : decode cX2_firstOfWard 19 = .ok (.iload 4, 2) := by decide +kernel
theorem dX2_firstOfWard_21 : decode cX2_firstOfWard 21 = .ok (.invokevirtual 207, 3) := by decide +kernel
theorem dX2_firstOfWard_24 : decode cX2_firstOfWard 24 = .ok (.ifCond .eq 14, 3) := by decide +kernel
theorem dX2_firstOfWard_27 : decode cX2_firstOfWard 27 = .ok (.iload_n 3, 1) := by decide +kernel
theorem dX2_firstOfWard_28 : decode cX2_firstOfWard 28 = .ok (.iload_n 2, 1) := by decide +kernel
theorem dX2_firstOfWard_29 : decode cX2_firstOfWard 29 = .ok (.if_icmp .ne 6, 3) := by decide +kernel
theorem dX2_firstOfWard_32 : decode cX2_firstOfWard 32 = .ok (.iload 4, 2) := by decide +kernel
theorem dX2_firstOfWard_34 : decode cX2_firstOfWard 34 = .ok (.ireturn, 1) := by decide +kernel
theorem dX2_firstOfWard_35 : decode cX2_firstOfWard 35 = .ok (.iinc 3 1, 3) := by decide +kernel
theorem dX2_firstOfWard_38 : decode cX2_firstOfWard 38 = .ok (.iinc 4 1, 3) := by decide +kernel
theorem dX2_firstOfWard_41 : decode cX2_firstOfWard 41 = .ok (.goto (-36), 3) := by decide +kernel
theorem dX2_firstOfWard_44 : decode cX2_firstOfWard 44 = .ok (.bipush (-9), 2) := by decide +kernel
theorem dX2_firstOfWard_46 : decode cX2_firstOfWard 46 = .ok (.ireturn, 1) := by decide +kernel
theorem dX2_isUpperOrLower_0 : decode cX2_isUpperOrLower 0 = .ok (.iload_n 0, 1) := by decide +kernel
theorem dX2_isUpperOrLower_1 : decode cX2_isUpperOrLower 1 = .ok (.ifCond .eq 8, 3) := by decide +kernel
theorem dX2_isUpperOrLower_4 : decode cX2_isUpperOrLower 4 = .ok (.iload_n 0, 1) := by decide +kernel
theorem dX2_isUpperOrLower_5 : decode cX2_isUpperOrLower 5 = .ok (.iconst 1, 1) := by decide +kernel
theorem dX2_isUpperOrLower_6 : decode cX2_isUpperOrLower 6 = .ok (.if_icmp .ne 7, 3) := by decide +kernel
theorem dX2_isUpperOrLower_9 : decode cX2_isUpperOrLower 9 = .ok (.iconst 1, 1) := by decide +kernel
theorem dX2_isUpperOrLower_10 : decode cX2_isUpperOrLower 10 = .ok (.goto 4, 3) := by decide +kernel
theorem dX2_isUpperOrLower_13 : decode cX2_isUpperOrLower 13 = .ok (.iconst 0, 1) := by decide +kernel
theorem dX2_isUpperOrLower_14 : decode cX2_isUpperOrLower 14 = .ok (.ireturn, 1) := by decide +kernel
theorem dX2_share_0 : decode cX2_share 0 = .ok (.iload_n 0, 1) := by decide +kernel
theorem dX2_share_1 : decode cX2_share 1 = .ok (.istore_n 3, 1) := by decide +kernel
theorem dX2_share_2 : decode cX2_share 2 = .ok (.iload_n 1, 1) := by decide +kernel
theorem dX2_share_3 : decode cX2_share 3 = .ok (.istore 4, 2) := by decide +kernel
theorem dX2_share_5 : decode cX2_share 5 = .ok (.iconst 0, 1) := by decide +kernel
theorem dX2_share_6 : decode cX2_share 6 = .ok (.istore 5, 2) := by decide +kernel
theorem dX2_share_8 : decode cX2_share 8 = .ok (.iload 5, 2) := by decide +kernel
theorem dX2_share_10 : decode cX2_share 10 = .ok (.bipush 8, 2) := by decide +kernel
theorem dX2_share_12 : decode cX2_share 12 = .ok (.if_icmp .ge 31, 3) := by decide +kernel
theorem dX2_share_15 : decode cX2_share 15 = .ok (.iload 4, 2) := by decide +kernel
theorem dX2_share_17 : decode cX2_share 17 = .ok (.iconst 1, 1) := by decide +kernel
theorem dX2_share_18 : decode cX2_share 18 = .ok (.if_icmp .le 25, 3) := by decide +kernel
theorem dX2_share_21 : decode cX2_share 21 = .ok (.iload_n 3, 1) := by decide +kernel
theorem dX2_share_22 : decode cX2_share 22 = .ok (.iconst 1, 1) := by decide +kernel
theorem dX2_share_23 : decode cX2_share 23 = .ok (.iand, 1) := by decide +kernel
theorem dX2_share_24 : decode cX2_share 24 = .ok (.ifCond .ne 19, 3) := by decide +kernel
theorem dX2_share_27 : decode cX2_share 27 = .ok (.iload_n 3, 1) := by decide +kernel
theorem dX2_share_28 : decode cX2_share 28 = .ok (.iconst 2, 1) := by decide +kernel
theorem dX2_share_29 : decode cX2_share 29 = .ok (.idiv, 1) := by decide +kernel
theorem dX2_share_30 : decode cX2_share 30 = .ok (.istore_n 3, 1) := by decide +kernel
theorem dX2_share_31 : decode cX2_share 31 = .ok (.iload 4, 2) := by decide +kernel
theorem dX2_share_33 : decode cX2_share 33 = .ok (.iconst 2, 1) := by decide +kernel
theorem dX2_share_34 : decode cX2_share 34 = .ok (.idiv, 1) := by decide +kernel
theorem dX2_share_35 : decode cX2_share 35 = .ok (.istore 4, 2) := by decide +kernel
theorem dX2_share_37 : decode cX2_share 37 = .ok (.iinc 5 1, 3) := by decide +kernel
theorem dX2_share_40 : decode cX2_share 40 = .ok (.goto (-32), 3) := by decide +kernel
theorem dX2_share_43 : decode cX2_share 43 = .ok (.iload_n 2, 1) := by decide +kernel
theorem dX2_share_44 : decode cX2_share 44 = .ok (.ifCond .ne 8, 3) := by decide +kernel
theorem dX2_share_47 : decode cX2_share 47 = .ok (.iload_n 3, 1) := by decide +kernel
theorem dX2_share_48 : decode cX2_share 48 = .ok (.i2l, 1) := by decide +kernel
theorem dX2_share_49 : decode cX2_share 49 = .ok (.goto 6, 3) := by decide +kernel
theorem dX2_share_52 : decode cX2_share 52 = .ok (.iload 4, 2) := by decide +kernel
theorem dX2_share_54 : decode cX2_share 54 = .ok (.i2l, 1) := by decide +kernel
theorem dX2_share_55 : decode cX2_share 55 = .ok (.lreturn, 1) := by decide +kernel
theorem dX2_isIn_0 : decode cX2_isIn 0 = .ok (.iload_n 0, 1) := by decide +kernel
theorem dX2_isIn_1 : decode cX2_isIn 1 = .ok (.iload_n 1, 1) := by decide +kernel
theorem dX2_isIn_2 : decode cX2_isIn 2 = .ok (.ishr, 1) := by decide +kernel
theorem dX2_isIn_3 : decode cX2_isIn 3 = .ok (.iconst 1, 1) := by decide +kernel
theorem dX2_isIn_4 : decode cX2_isIn 4 = .ok (.iand, 1) := by decide +kernel
theorem dX2_isIn_5 : decode cX2_isIn 5 = .ok (.ifCond .eq 7, 3) := by decide +kernel
theorem dX2_isIn_8 : decode cX2_isIn 8 = .ok (.iconst 1, 1) := by decide +kernel
theorem dX2_isIn_9 : decode cX2_isIn 9 = .ok (.goto 4, 3) := by decide +kernel
theorem dX2_isIn_12 : decode cX2_isIn 12 = .ok (.iconst 0, 1) := by decide +kernel
theorem dX2_isIn_13 : decode cX2_isIn 13 = .ok (.ireturn, 1) := by decide +kernel
set_option maxRecDepth 20000 in
theorem ggX2_reading_X0_has : GoodIn wsX2_reading wsX0_has := goodIn_r _ [9, 10, 20, 21, 22, 23, 24, 25] (by decide +kernel) (by decide +kernel)
set_option maxRecDepth 20000 in
theorem gX2_reading_X0_has : GoodIn wsX2_reading (wsV RX2 78 RX0 yX0_has wsX0_has) := goodIn_app (goodIn_of _ (by decide +kernel)) ggX2_reading_X0_has
theorem dX2_reading_0 : decode cX2_reading 0 = .ok (.aload_n 0, 1) := by decide +kernel
theorem dX2_reading_1 : decode cX2_reading 1 = .ok (.getfield 20, 3) := by decide +kernel
theorem dX2_reading_4 : decode cX2_reading 4 = .ok (.iload_n 1, 1) := by decide +kernel
theorem dX2_reading_5 : decode cX2_reading 5 = .ok (.invokevirtual 78, 3) := by decide +kernel
theorem dX2_reading_8 : decode cX2_reading 8 = .ok (.ifCond .ne 5, 3) := by decide +kernel
theorem dX2_reading_11 : decode cX2_reading 11 = .ok (.iconst (-1), 1) := by decide +kernel
theorem dX2_reading_12 : decode cX2_reading 12 = .ok (.ireturn, 1) := by decide +kernel
theorem dX2_reading_13 : decode cX2_reading 13 = .ok (.iload_n 2, 1) := by decide +kernel
theorem dX2_reading_14 : decode cX2_reading 14 = .ok (.ifCond .lt 9, 3) := by decide +kernel
theorem dX2_reading_17 : decode cX2_reading 17 = .ok (.iload_n 2, 1) := by decide +kernel
theorem dX2_reading_18 : decode cX2_reading 18 = .ok (.bipush 10, 2) := by decide +kernel
theorem dX2_reading_20 : decode cX2_reading 20 = .ok (.if_icmp .le 6, 3) := by decide +kernel
theorem dX2_reading_23 : decode cX2_reading 23 = .ok (.bipush (-2), 2) := by decide +kernel
theorem dX2_reading_25 : decode cX2_reading 25 = .ok (.ireturn, 1) := by decide +kernel
theorem dX2_reading_26 : decode cX2_reading 26 = .ok (.aload_n 0, 1) := by decide +kernel
theorem dX2_reading_27 : decode cX2_reading 27 = .ok (.getfield 37, 3) := by decide +kernel
theorem dX2_reading_30 : decode cX2_reading 30 = .ok (.bipush 8, 2) := by decide +kernel
theorem dX2_reading_32 : decode cX2_reading 32 = .ok (.if_icmp .lt 6, 3) := by decide +kernel
theorem dX2_reading_35 : decode cX2_reading 35 = .ok (.bipush (-4), 2) := by decide +kernel
theorem dX2_reading_37 : decode cX2_reading 37 = .ok (.ireturn, 1) := by decide +kernel
theorem dX2_reading_38 : decode cX2_reading 38 = .ok (.aload_n 0, 1) := by decide +kernel
theorem dX2_reading_39 : decode cX2_reading 39 = .ok (.getfield 31, 3) := by decide +kernel
theorem dX2_reading_42 : decode cX2_reading 42 = .ok (.aload_n 0, 1) := by decide +kernel
theorem dX2_reading_43 : decode cX2_reading 43 = .ok (.getfield 37, 3) := by decide +kernel
theorem dX2_reading_46 : decode cX2_reading 46 = .ok (.iload_n 1, 1) := by decide +kernel
theorem dX2_reading_47 : decode cX2_reading 47 = .ok (.iastore, 1) := by decide +kernel
theorem dX2_reading_48 : decode cX2_reading 48 = .ok (.aload_n 0, 1) := by decide +kernel
theorem dX2_reading_49 : decode cX2_reading 49 = .ok (.getfield 34, 3) := by decide +kernel
theorem dX2_reading_52 : decode cX2_reading 52 = .ok (.aload_n 0, 1) := by decide +kernel
theorem dX2_reading_53 : decode cX2_reading 53 = .ok (.getfield 37, 3) := by decide +kernel
theorem dX2_reading_56 : decode cX2_reading 56 = .ok (.iload_n 2, 1) := by decide +kernel
theorem dX2_reading_57 : decode cX2_reading 57 = .ok (.iastore, 1) := by decide +kernel
theorem dX2_reading_58 : decode cX2_reading 58 = .ok (.aload_n 0, 1) := by decide +kernel
theorem dX2_reading_59 : decode cX2_reading 59 = .ok (.dup, 1) := by decide +kernel
theorem dX2_reading_60 : decode cX2_reading 60 = .ok (.getfield 37, 3) := by decide +kernel
theorem dX2_reading_63 : decode cX2_reading 63 = .ok (.iconst 1, 1) := by decide +kernel
theorem dX2_reading_64 : decode cX2_reading 64 = .ok (.iadd, 1) := by decide +kernel
theorem dX2_reading_65 : decode cX2_reading 65 = .ok (.putfield 37, 3) := by decide +kernel
theorem dX2_reading_68 : decode cX2_reading 68 = .ok (.aload_n 0, 1) := by decide +kernel
theorem dX2_reading_69 : decode cX2_reading 69 = .ok (.getfield 37, 3) := by decide +kernel
theorem dX2_reading_72 : decode cX2_reading 72 = .ok (.iconst 1, 1) := by decide +kernel
theorem dX2_reading_73 : decode cX2_reading 73 = .ok (.isub, 1) := by decide +kernel
theorem dX2_reading_74 : decode cX2_reading 74 = .ok (.ireturn, 1) := by decide +kernel
theorem dX2_back_0 : decode cX2_back 0 = .ok (.iload_n 1, 1) := by decide +kernel
theorem dX2_back_1 : decode cX2_back 1 = .ok (.ifCond .lt 11, 3) := by decide +kernel
theorem dX2_back_4 : decode cX2_back 4 = .ok (.iload_n 1, 1) := by decide +kernel
theorem dX2_back_5 : decode cX2_back 5 = .ok (.aload_n 0, 1) := by decide +kernel
theorem dX2_back_6 : decode cX2_back 6 = .ok (.getfield 37, 3) := by decide +kernel
theorem dX2_back_9 : decode cX2_back 9 = .ok (.if_icmp .le 6, 3) := by decide +kernel
theorem dX2_back_12 : decode cX2_back 12 = .ok (.bipush (-2), 2) := by decide +kernel
theorem dX2_back_14 : decode cX2_back 14 = .ok (.ireturn, 1) := by decide +kernel
theorem dX2_back_15 : decode cX2_back 15 = .ok (.aload_n 0, 1) := by decide +kernel
theorem dX2_back_16 : decode cX2_back 16 = .ok (.dup, 1) := by decide +kernel
theorem dX2_back_17 : decode cX2_back 17 = .ok (.getfield 37, 3) := by decide +kernel
theorem dX2_back_20 : decode cX2_back 20 = .ok (.iload_n 1, 1) := by decide +kernel
theorem dX2_back_21 : decode cX2_back 21 = .ok (.isub, 1) := by decide +kernel
theorem dX2_back_22 : decode cX2_back 22 = .ok (.putfield 37, 3) := by decide +kernel
theorem dX2_back_25 : decode cX2_back 25 = .ok (.aload_n 0, 1) := by decide +kernel
theorem dX2_back_26 : decode cX2_back 26 = .ok (.getfield 37, 3) := by decide +kernel
theorem dX2_back_29 : decode cX2_back 29 = .ok (.ireturn, 1) := by decide +kernel
set_option maxRecDepth 20000 in
theorem ggX2_weights_X0_has : GoodIn wsX2_weights wsX0_has := goodIn_r _ [7, 8, 36, 37, 38, 39, 40, 41] (by decide +kernel) (by decide +kernel)
set_option maxRecDepth 20000 in
theorem gX2_weights_X0_has : GoodIn wsX2_weights (wsV RX2 78 RX0 yX0_has wsX0_has) := goodIn_app (goodIn_of _ (by decide +kernel)) ggX2_weights_X0_has
set_option maxRecDepth 20000 in
theorem ggX2_weights_X2_allReadingsAreSo : GoodIn wsX2_weights wsX2_allReadingsAreSo := goodIn_r _ [13, 14, 15, 1, 16, 17, 18, 12, 19, 20, 21, 22, 6, 23, 24, 25, 26, 4, 5, 7, 8, 27, 28, 29, 30, 31, 32, 33, 34, 35, 36, 37, 38, 39, 40, 41] (by decide +kernel) (by decide +kernel)
set_option maxRecDepth 20000 in
theorem gX2_weights_X2_allReadingsAreSo : GoodIn wsX2_weights (wsV RX2 210 RX2 yX2_allReadingsAreSo wsX2_allReadingsAreSo) := goodIn_app (goodIn_of _ (by decide +kernel)) ggX2_weights_X2_allReadingsAreSo
theorem dX2_weights_0 : decode cX2_weights 0 = .ok (.aload_n 0, 1) := by decide +kernel
theorem dX2_weights_1 : decode cX2_weights 1 = .ok (.getfield 20, 3) := by decide +kernel
theorem dX2_weights_4 : decode cX2_weights 4 = .ok (.iload_n 1, 1) := by decide +kernel
theorem dX2_weights_5 : decode cX2_weights 5 = .ok (.invokevirtual 78, 3) := by decide +kernel
theorem dX2_weights_8 : decode cX2_weights 8 = .ok (.ifCond .ne 5, 3) := by decide +kernel
theorem dX2_weights_11 : decode cX2_weights 11 = .ok (.iconst (-1), 1) := by decide +kernel
theorem dX2_weights_12 : decode cX2_weights 12 = .ok (.ireturn, 1) := by decide +kernel
theorem dX2_weights_13 : decode cX2_weights 13 = .ok (.iconst 0, 1) := by decide +kernel
theorem dX2_weights_14 : decode cX2_weights 14 = .ok (.istore_n 2, 1) := by decide +kernel
theorem dX2_weights_15 : decode cX2_weights 15 = .ok (.iconst 1, 1) := by decide +kernel
theorem dX2_weights_16 : decode cX2_weights 16 = .ok (.istore_n 3, 1) := by decide +kernel
theorem dX2_weights_17 : decode cX2_weights 17 = .ok (.iload_n 3, 1) := by decide +kernel
theorem dX2_weights_18 : decode cX2_weights 18 = .ok (.bipush 9, 2) := by decide +kernel
theorem dX2_weights_20 : decode cX2_weights 20 = .ok (.if_icmp .gt 33, 3) := by decide +kernel
theorem dX2_weights_23 : decode cX2_weights 23 = .ok (.aload_n 0, 1) := by decide +kernel
theorem dX2_weights_24 : decode cX2_weights 24 = .ok (.iload_n 1, 1) := by decide +kernel
theorem dX2_weights_25 : decode cX2_weights 25 = .ok (.aload_n 0, 1) := by decide +kernel
theorem dX2_weights_26 : decode cX2_weights 26 = .ok (.getfield 20, 3) := by decide +kernel
theorem dX2_weights_29 : decode cX2_weights 29 = .ok (.getfield 81, 3) := by decide +kernel
theorem dX2_weights_32 : decode cX2_weights 32 = .ok (.iload_n 1, 1) := by decide +kernel
theorem dX2_weights_33 : decode cX2_weights 33 = .ok (.iaload, 1) := by decide +kernel
theorem dX2_weights_34 : decode cX2_weights 34 = .ok (.iload_n 3, 1) := by decide +kernel
theorem dX2_weights_35 : decode cX2_weights 35 = .ok (.invokevirtual 210, 3) := by decide +kernel
theorem dX2_weights_38 : decode cX2_weights 38 = .ok (.ifCond .eq 9, 3) := by decide +kernel
theorem dX2_weights_41 : decode cX2_weights 41 = .ok (.iload_n 2, 1) := by decide +kernel
theorem dX2_weights_42 : decode cX2_weights 42 = .ok (.iconst 1, 1) := by decide +kernel
theorem dX2_weights_43 : decode cX2_weights 43 = .ok (.iload_n 3, 1) := by decide +kernel
theorem dX2_weights_44 : decode cX2_weights 44 = .ok (.ishl, 1) := by decide +kernel
theorem dX2_weights_45 : decode cX2_weights 45 = .ok (.ior, 1) := by decide +kernel
theorem dX2_weights_46 : decode cX2_weights 46 = .ok (.istore_n 2, 1) := by decide +kernel
theorem dX2_weights_47 : decode cX2_weights 47 = .ok (.iinc 3 1, 3) := by decide +kernel
theorem dX2_weights_50 : decode cX2_weights 50 = .ok (.goto (-33), 3) := by decide +kernel
theorem dX2_weights_53 : decode cX2_weights 53 = .ok (.iload_n 2, 1) := by decide +kernel
theorem dX2_weights_54 : decode cX2_weights 54 = .ok (.ireturn, 1) := by decide +kernel
set_option maxRecDepth 20000 in
theorem ggX2_kinds_X0_has : GoodIn wsX2_kinds wsX0_has := goodIn_r _ [7, 8, 36, 37, 38, 39, 40, 41] (by decide +kernel) (by decide +kernel)
set_option maxRecDepth 20000 in
theorem gX2_kinds_X0_has : GoodIn wsX2_kinds (wsV RX2 78 RX0 yX0_has wsX0_has) := goodIn_app (goodIn_of _ (by decide +kernel)) ggX2_kinds_X0_has
set_option maxRecDepth 20000 in
theorem ggX2_kinds_X2_allReadingsAreSo : GoodIn wsX2_kinds wsX2_allReadingsAreSo := goodIn_r _ [13, 14, 15, 1, 16, 17, 18, 12, 19, 20, 21, 22, 6, 23, 24, 25, 26, 4, 5, 7, 8, 27, 28, 29, 30, 31, 32, 33, 34, 35, 36, 37, 38, 39, 40, 41] (by decide +kernel) (by decide +kernel)
set_option maxRecDepth 20000 in
theorem gX2_kinds_X2_allReadingsAreSo : GoodIn wsX2_kinds (wsV RX2 210 RX2 yX2_allReadingsAreSo wsX2_allReadingsAreSo) := goodIn_app (goodIn_of _ (by decide +kernel)) ggX2_kinds_X2_allReadingsAreSo
theorem dX2_kinds_0 : decode cX2_kinds 0 = .ok (.aload_n 0, 1) := by decide +kernel
theorem dX2_kinds_1 : decode cX2_kinds 1 = .ok (.getfield 20, 3) := by decide +kernel
theorem dX2_kinds_4 : decode cX2_kinds 4 = .ok (.iload_n 1, 1) := by decide +kernel
theorem dX2_kinds_5 : decode cX2_kinds 5 = .ok (.invokevirtual 78, 3) := by decide +kernel
theorem dX2_kinds_8 : decode cX2_kinds 8 = .ok (.ifCond .ne 5, 3) := by decide +kernel
theorem dX2_kinds_11 : decode cX2_kinds 11 = .ok (.iconst (-1), 1) := by decide +kernel
theorem dX2_kinds_12 : decode cX2_kinds 12 = .ok (.ireturn, 1) := by decide +kernel
theorem dX2_kinds_13 : decode cX2_kinds 13 = .ok (.iconst 0, 1) := by decide +kernel
theorem dX2_kinds_14 : decode cX2_kinds 14 = .ok (.istore_n 2, 1) := by decide +kernel
theorem dX2_kinds_15 : decode cX2_kinds 15 = .ok (.iconst 0, 1) := by decide +kernel
theorem dX2_kinds_16 : decode cX2_kinds 16 = .ok (.istore_n 3, 1) := by decide +kernel
theorem dX2_kinds_17 : decode cX2_kinds 17 = .ok (.iload_n 3, 1) := by decide +kernel
theorem dX2_kinds_18 : decode cX2_kinds 18 = .ok (.iconst 2, 1) := by decide +kernel
theorem dX2_kinds_19 : decode cX2_kinds 19 = .ok (.if_icmp .gt 33, 3) := by decide +kernel
theorem dX2_kinds_22 : decode cX2_kinds 22 = .ok (.aload_n 0, 1) := by decide +kernel
theorem dX2_kinds_23 : decode cX2_kinds 23 = .ok (.iload_n 1, 1) := by decide +kernel
theorem dX2_kinds_24 : decode cX2_kinds 24 = .ok (.iload_n 3, 1) := by decide +kernel
theorem dX2_kinds_25 : decode cX2_kinds 25 = .ok (.aload_n 0, 1) := by decide +kernel
theorem dX2_kinds_26 : decode cX2_kinds 26 = .ok (.getfield 20, 3) := by decide +kernel
theorem dX2_kinds_29 : decode cX2_kinds 29 = .ok (.getfield 87, 3) := by decide +kernel
theorem dX2_kinds_32 : decode cX2_kinds 32 = .ok (.iload_n 1, 1) := by decide +kernel
theorem dX2_kinds_33 : decode cX2_kinds 33 = .ok (.iaload, 1) := by decide +kernel
theorem dX2_kinds_34 : decode cX2_kinds 34 = .ok (.invokevirtual 210, 3) := by decide +kernel
theorem dX2_kinds_37 : decode cX2_kinds 37 = .ok (.ifCond .eq 9, 3) := by decide +kernel
theorem dX2_kinds_40 : decode cX2_kinds 40 = .ok (.iload_n 2, 1) := by decide +kernel
theorem dX2_kinds_41 : decode cX2_kinds 41 = .ok (.iconst 1, 1) := by decide +kernel
theorem dX2_kinds_42 : decode cX2_kinds 42 = .ok (.iload_n 3, 1) := by decide +kernel
theorem dX2_kinds_43 : decode cX2_kinds 43 = .ok (.ishl, 1) := by decide +kernel
theorem dX2_kinds_44 : decode cX2_kinds 44 = .ok (.ior, 1) := by decide +kernel
theorem dX2_kinds_45 : decode cX2_kinds 45 = .ok (.istore_n 2, 1) := by decide +kernel
theorem dX2_kinds_46 : decode cX2_kinds 46 = .ok (.iinc 3 1, 3) := by decide +kernel
theorem dX2_kinds_49 : decode cX2_kinds 49 = .ok (.goto (-32), 3) := by decide +kernel
theorem dX2_kinds_52 : decode cX2_kinds 52 = .ok (.iload_n 2, 1) := by decide +kernel
theorem dX2_kinds_53 : decode cX2_kinds 53 = .ok (.ireturn, 1) := by decide +kernel
set_option maxRecDepth 20000 in
theorem ggX2_odds_X2_hasFront : GoodIn wsX2_odds wsX2_hasFront := goodIn_r _ [8, 1, 3, 56, 57, 58, 59, 60, 61, 62, 63, 64, 65, 66, 67, 68, 69, 70] (by decide +kernel) (by decide +kernel)
set_option maxRecDepth 20000 in
theorem gX2_odds_X2_hasFront : GoodIn wsX2_odds (wsV RX2 105 RX2 yX2_hasFront wsX2_hasFront) := goodIn_app (goodIn_of _ (by decide +kernel)) ggX2_odds_X2_hasFront
set_option maxRecDepth 20000 in
theorem ggX2_odds_X0_has : GoodIn wsX2_odds wsX0_has := goodIn_r _ [13, 14, 65, 66, 67, 68, 69, 70] (by decide +kernel) (by decide +kernel)
set_option maxRecDepth 20000 in
theorem gX2_odds_X0_has : GoodIn wsX2_odds (wsV RX2 78 RX0 yX0_has wsX0_has) := goodIn_app (goodIn_of _ (by decide +kernel)) ggX2_odds_X0_has
set_option maxRecDepth 20000 in
theorem ggX2_odds_X2_isUpperOrLower : GoodIn wsX2_odds wsX2_isUpperOrLower := goodIn_r _ [17] (by decide +kernel) (by decide +kernel)
set_option maxRecDepth 20000 in
theorem gX2_odds_X2_isUpperOrLower : GoodIn wsX2_odds (va_wsS RX2 192 yX2_isUpperOrLower wsX2_isUpperOrLower) := goodIn_app (goodIn_of _ (by decide +kernel)) ggX2_odds_X2_isUpperOrLower
set_option maxRecDepth 20000 in
theorem ggX2_odds_X2_waysThatCarry : GoodIn wsX2_odds wsX2_waysThatCarry := goodIn_r _ [21, 1, 22, 23, 24, 12, 25, 14, 26, 7, 27, 28, 29, 30, 31, 32, 33, 34, 35, 36, 37, 38, 39, 40, 41, 42, 43, 10, 11, 13, 44, 45, 56, 57, 58, 59, 60, 61, 62, 63, 64, 65, 66, 67, 68, 69, 70] (by decide +kernel) (by decide +kernel)
set_option maxRecDepth 20000 in
theorem gX2_odds_X2_waysThatCarry : GoodIn wsX2_odds (wsV RX2 214 RX2 yX2_waysThatCarry wsX2_waysThatCarry) := goodIn_app (goodIn_of _ (by decide +kernel)) ggX2_odds_X2_waysThatCarry
set_option maxRecDepth 20000 in
theorem ggX2_odds_X2_share : GoodIn wsX2_odds wsX2_share := goodIn_r _ [48] (by decide +kernel) (by decide +kernel)
set_option maxRecDepth 20000 in
theorem gX2_odds_X2_share : GoodIn wsX2_odds (va_wsS RX2 200 yX2_share wsX2_share) := goodIn_app (goodIn_of _ (by decide +kernel)) ggX2_odds_X2_share
set_option maxRecDepth 20000 in
theorem ggX2_odds_X0_isFolded : GoodIn wsX2_odds wsX0_isFolded := goodIn_r _ [35, 36, 65, 66, 67, 68, 69, 70] (by decide +kernel) (by decide +kernel)
set_option maxRecDepth 20000 in
theorem gX2_odds_X0_isFolded : GoodIn wsX2_odds (wsV RX2 93 RX0 yX0_isFolded wsX0_isFolded) := goodIn_app (goodIn_of _ (by decide +kernel)) ggX2_odds_X0_isFolded
set_option maxRecDepth 20000 in
theorem ggX2_odds_X2_waysDecidedBy : GoodIn wsX2_odds wsX2_waysDecidedBy := goodIn_r _ [53, 1, 22, 23, 24, 12, 25, 14, 26, 7, 27, 28, 29, 30, 31, 32, 33, 34, 35, 36, 37, 38, 39, 40, 41, 42, 43, 10, 11, 13, 44, 45, 54, 55, 56, 57, 58, 59, 60, 61, 62, 63, 64, 65, 66, 67, 68, 69, 70] (by decide +kernel) (by decide +kernel)
set_option maxRecDepth 20000 in
theorem gX2_odds_X2_waysDecidedBy : GoodIn wsX2_odds (wsV RX2 217 RX2 yX2_waysDecidedBy wsX2_waysDecidedBy) := goodIn_app (goodIn_of _ (by decide +kernel)) ggX2_odds_X2_waysDecidedBy
theorem dX2_odds_0 : decode cX2_odds 0 = .ok (.aload_n 0, 1) := by decide +kernel
theorem dX2_odds_1 : decode cX2_odds 1 = .ok (.invokevirtual 105, 3) := by decide +kernel
theorem dX2_odds_4 : decode cX2_odds 4 = .ok (.ifCond .eq 26, 3) := by decide +kernel
theorem dX2_odds_7 : decode cX2_odds 7 = .ok (.iload_n 1, 1) := by decide +kernel
theorem dX2_odds_8 : decode cX2_odds 8 = .ok (.iconst (-1), 1) := by decide +kernel
theorem dX2_odds_9 : decode cX2_odds 9 = .ok (.if_icmp .eq 14, 3) := by decide +kernel
theorem dX2_odds_12 : decode cX2_odds 12 = .ok (.aload_n 0, 1) := by decide +kernel
theorem dX2_odds_13 : decode cX2_odds 13 = .ok (.getfield 20, 3) := by decide +kernel
theorem dX2_odds_16 : decode cX2_odds 16 = .ok (.iload_n 1, 1) := by decide +kernel
theorem dX2_odds_17 : decode cX2_odds 17 = .ok (.invokevirtual 78, 3) := by decide +kernel
theorem dX2_odds_20 : decode cX2_odds 20 = .ok (.ifCond .eq 10, 3) := by decide +kernel
theorem dX2_odds_23 : decode cX2_odds 23 = .ok (.iload_n 2, 1) := by decide +kernel
theorem dX2_odds_24 : decode cX2_odds 24 = .ok (.invokestatic 192, 3) := by decide +kernel
theorem dX2_odds_27 : decode cX2_odds 27 = .ok (.ifCond .ne 7, 3) := by decide +kernel
theorem dX2_odds_30 : decode cX2_odds 30 = .ok (.ldc2_w 195, 3) := by decide +kernel
theorem dX2_odds_33 : decode cX2_odds 33 = .ok (.lreturn, 1) := by decide +kernel
theorem dX2_odds_34 : decode cX2_odds 34 = .ok (.iconst 1, 1) := by decide +kernel
theorem dX2_odds_35 : decode cX2_odds 35 = .ok (.aload_n 0, 1) := by decide +kernel
theorem dX2_odds_36 : decode cX2_odds 36 = .ok (.getfield 20, 3) := by decide +kernel
theorem dX2_odds_39 : decode cX2_odds 39 = .ok (.getfield 75, 3) := by decide +kernel
theorem dX2_odds_42 : decode cX2_odds 42 = .ok (.ishl, 1) := by decide +kernel
theorem dX2_odds_43 : decode cX2_odds 43 = .ok (.istore_n 3, 1) := by decide +kernel
theorem dX2_odds_44 : decode cX2_odds 44 = .ok (.iload_n 1, 1) := by decide +kernel
theorem dX2_odds_45 : decode cX2_odds 45 = .ok (.iconst (-1), 1) := by decide +kernel
theorem dX2_odds_46 : decode cX2_odds 46 = .ok (.if_icmp .ne 14, 3) := by decide +kernel
theorem dX2_odds_49 : decode cX2_odds 49 = .ok (.aload_n 0, 1) := by decide +kernel
theorem dX2_odds_50 : decode cX2_odds 50 = .ok (.iload_n 3, 1) := by decide +kernel
theorem dX2_odds_51 : decode cX2_odds 51 = .ok (.invokevirtual 214, 3) := by decide +kernel
theorem dX2_odds_54 : decode cX2_odds 54 = .ok (.iload_n 3, 1) := by decide +kernel
theorem dX2_odds_55 : decode cX2_odds 55 = .ok (.iload_n 2, 1) := by decide +kernel
theorem dX2_odds_56 : decode cX2_odds 56 = .ok (.invokestatic 200, 3) := by decide +kernel
theorem dX2_odds_59 : decode cX2_odds 59 = .ok (.lreturn, 1) := by decide +kernel
theorem dX2_odds_60 : decode cX2_odds 60 = .ok (.aload_n 0, 1) := by decide +kernel
theorem dX2_odds_61 : decode cX2_odds 61 = .ok (.getfield 20, 3) := by decide +kernel
theorem dX2_odds_64 : decode cX2_odds 64 = .ok (.iload_n 1, 1) := by decide +kernel
theorem dX2_odds_65 : decode cX2_odds 65 = .ok (.invokevirtual 93, 3) := by decide +kernel
theorem dX2_odds_68 : decode cX2_odds 68 = .ok (.ifCond .eq 7, 3) := by decide +kernel
theorem dX2_odds_71 : decode cX2_odds 71 = .ok (.ldc2_w 195, 3) := by decide +kernel
theorem dX2_odds_74 : decode cX2_odds 74 = .ok (.lreturn, 1) := by decide +kernel
theorem dX2_odds_75 : decode cX2_odds 75 = .ok (.aload_n 0, 1) := by decide +kernel
theorem dX2_odds_76 : decode cX2_odds 76 = .ok (.iload_n 1, 1) := by decide +kernel
theorem dX2_odds_77 : decode cX2_odds 77 = .ok (.iload_n 3, 1) := by decide +kernel
theorem dX2_odds_78 : decode cX2_odds 78 = .ok (.invokevirtual 217, 3) := by decide +kernel
theorem dX2_odds_81 : decode cX2_odds 81 = .ok (.iload_n 3, 1) := by decide +kernel
theorem dX2_odds_82 : decode cX2_odds 82 = .ok (.iconst 2, 1) := by decide +kernel
theorem dX2_odds_83 : decode cX2_odds 83 = .ok (.idiv, 1) := by decide +kernel
theorem dX2_odds_84 : decode cX2_odds 84 = .ok (.iload_n 2, 1) := by decide +kernel
theorem dX2_odds_85 : decode cX2_odds 85 = .ok (.invokestatic 200, 3) := by decide +kernel
theorem dX2_odds_88 : decode cX2_odds 88 = .ok (.lreturn, 1) := by decide +kernel
set_option maxRecDepth 20000 in
theorem ggX2_allReadingsAreSo_X2_votesAs : GoodIn wsX2_allReadingsAreSo wsX2_votesAs := goodIn_r _ [8] (by decide +kernel) (by decide +kernel)
set_option maxRecDepth 20000 in
theorem gX2_allReadingsAreSo_X2_votesAs : GoodIn wsX2_allReadingsAreSo (va_wsS RX2 220 yX2_votesAs wsX2_votesAs) := goodIn_app (goodIn_of _ (by decide +kernel)) ggX2_allReadingsAreSo_X2_votesAs
set_option maxRecDepth 20000 in
theorem ggX2_allReadingsAreSo_X0_votesWhenOpen : GoodIn wsX2_allReadingsAreSo wsX0_votesWhenOpen := goodIn_r _ [13, 14, 15, 16, 17, 18, 12, 19, 20, 6, 7, 8, 30, 31, 32, 33, 34, 35] (by decide +kernel) (by decide +kernel)
set_option maxRecDepth 20000 in
theorem gX2_allReadingsAreSo_X0_votesWhenOpen : GoodIn wsX2_allReadingsAreSo (wsV RX2 223 RX0 yX0_votesWhenOpen wsX0_votesWhenOpen) := goodIn_app (goodIn_of _ (by decide +kernel)) ggX2_allReadingsAreSo_X0_votesWhenOpen
theorem dX2_allReadingsAreSo_0 : decode cX2_allReadingsAreSo 0 = .ok (.iconst 0, 1) := by decide +kernel
theorem dX2_allReadingsAreSo_1 : decode cX2_allReadingsAreSo 1 = .ok (.istore 4, 2) := by decide +kernel
theorem dX2_allReadingsAreSo_3 : decode cX2_allReadingsAreSo 3 = .ok (.iload 4, 2) := by decide +kernel
theorem dX2_allReadingsAreSo_5 : decode cX2_allReadingsAreSo 5 = .ok (.aload_n 0, 1) := by decide +kernel
theorem dX2_allReadingsAreSo_6 : decode cX2_allReadingsAreSo 6 = .ok (.getfield 37, 3) := by decide +kernel
theorem dX2_allReadingsAreSo_9 : decode cX2_allReadingsAreSo 9 = .ok (.if_icmp .ge 57, 3) := by decide +kernel
theorem dX2_allReadingsAreSo_12 : decode cX2_allReadingsAreSo 12 = .ok (.aload_n 0, 1) := by decide +kernel
theorem dX2_allReadingsAreSo_13 : decode cX2_allReadingsAreSo 13 = .ok (.getfield 31, 3) := by decide +kernel
theorem dX2_allReadingsAreSo_16 : decode cX2_allReadingsAreSo 16 = .ok (.iload 4, 2) := by decide +kernel
theorem dX2_allReadingsAreSo_18 : decode cX2_allReadingsAreSo 18 = .ok (.iaload, 1) := by decide +kernel
theorem dX2_allReadingsAreSo_19 : decode cX2_allReadingsAreSo 19 = .ok (.istore 5, 2) := by decide +kernel
end
section
theorem dX2_allReadingsAreSo_21 : decode cX2_allReadingsAreSo 21 = .ok (.iload 5, 2) := by decide +kernel
theorem dX2_allReadingsAreSo_23 : decode cX2_allReadingsAreSo 23 = .ok (.iload_n 1, 1) := by decide +kernel
theorem dX2_allReadingsAreSo_24 : decode cX2_allReadingsAreSo 24 = .ok (.if_icmp .ne 11, 3) := by decide +kernel
theorem dX2_allReadingsAreSo_27 : decode cX2_allReadingsAreSo 27 = .ok (.iload_n 2, 1) := by decide +kernel
theorem dX2_allReadingsAreSo_28 : decode cX2_allReadingsAreSo 28 = .ok (.iload_n 3, 1) := by decide +kernel
theorem dX2_allReadingsAreSo_29 : decode cX2_allReadingsAreSo 29 = .ok (.invokestatic 220, 3) := by decide +kernel
theorem dX2_allReadingsAreSo_32 : decode cX2_allReadingsAreSo 32 = .ok (.goto 12, 3) := by decide +kernel
theorem dX2_allReadingsAreSo_35 : decode cX2_allReadingsAreSo 35 = .ok (.aload_n 0, 1) := by decide +kernel
theorem dX2_allReadingsAreSo_36 : decode cX2_allReadingsAreSo 36 = .ok (.getfield 20, 3) := by decide +kernel
theorem dX2_allReadingsAreSo_39 : decode cX2_allReadingsAreSo 39 = .ok (.iload 5, 2) := by decide +kernel
theorem dX2_allReadingsAreSo_41 : decode cX2_allReadingsAreSo 41 = .ok (.invokevirtual 223, 3) := by decide +kernel
theorem dX2_allReadingsAreSo_44 : decode cX2_allReadingsAreSo 44 = .ok (.istore 6, 2) := by decide +kernel
theorem dX2_allReadingsAreSo_46 : decode cX2_allReadingsAreSo 46 = .ok (.iload 6, 2) := by decide +kernel
theorem dX2_allReadingsAreSo_48 : decode cX2_allReadingsAreSo 48 = .ok (.aload_n 0, 1) := by decide +kernel
theorem dX2_allReadingsAreSo_49 : decode cX2_allReadingsAreSo 49 = .ok (.getfield 34, 3) := by decide +kernel
theorem dX2_allReadingsAreSo_52 : decode cX2_allReadingsAreSo 52 = .ok (.iload 4, 2) := by decide +kernel
theorem dX2_allReadingsAreSo_54 : decode cX2_allReadingsAreSo 54 = .ok (.iaload, 1) := by decide +kernel
theorem dX2_allReadingsAreSo_55 : decode cX2_allReadingsAreSo 55 = .ok (.if_icmp .eq 5, 3) := by decide +kernel
theorem dX2_allReadingsAreSo_58 : decode cX2_allReadingsAreSo 58 = .ok (.iconst 0, 1) := by decide +kernel
theorem dX2_allReadingsAreSo_59 : decode cX2_allReadingsAreSo 59 = .ok (.ireturn, 1) := by decide +kernel
theorem dX2_allReadingsAreSo_60 : decode cX2_allReadingsAreSo 60 = .ok (.iinc 4 1, 3) := by decide +kernel
theorem dX2_allReadingsAreSo_63 : decode cX2_allReadingsAreSo 63 = .ok (.goto (-60), 3) := by decide +kernel
theorem dX2_allReadingsAreSo_66 : decode cX2_allReadingsAreSo 66 = .ok (.iconst 1, 1) := by decide +kernel
theorem dX2_allReadingsAreSo_67 : decode cX2_allReadingsAreSo 67 = .ok (.ireturn, 1) := by decide +kernel
set_option maxRecDepth 20000 in
theorem ggX2_waysThatCarry_X0_votesIn : GoodIn wsX2_waysThatCarry wsX0_votesIn := goodIn_r _ [6, 7, 8, 9, 10, 11, 12, 13, 5, 14, 15, 16, 17, 18, 19, 20, 21, 22, 23, 24, 25, 26, 27, 28, 29, 30, 31, 41, 42, 43, 44, 45, 46] (by decide +kernel) (by decide +kernel)
set_option maxRecDepth 20000 in
theorem gX2_waysThatCarry_X0_votesIn : GoodIn wsX2_waysThatCarry (wsV RX2 226 RX0 yX0_votesIn wsX0_votesIn) := goodIn_app (goodIn_of _ (by decide +kernel)) ggX2_waysThatCarry_X0_votesIn
theorem dX2_waysThatCarry_0 : decode cX2_waysThatCarry 0 = .ok (.aload_n 0, 1) := by decide +kernel
theorem dX2_waysThatCarry_1 : decode cX2_waysThatCarry 1 = .ok (.getfield 20, 3) := by decide +kernel
theorem dX2_waysThatCarry_4 : decode cX2_waysThatCarry 4 = .ok (.iload_n 1, 1) := by decide +kernel
theorem dX2_waysThatCarry_5 : decode cX2_waysThatCarry 5 = .ok (.iconst 1, 1) := by decide +kernel
theorem dX2_waysThatCarry_6 : decode cX2_waysThatCarry 6 = .ok (.isub, 1) := by decide +kernel
theorem dX2_waysThatCarry_7 : decode cX2_waysThatCarry 7 = .ok (.invokevirtual 226, 3) := by decide +kernel
theorem dX2_waysThatCarry_10 : decode cX2_waysThatCarry 10 = .ok (.istore_n 2, 1) := by decide +kernel
theorem dX2_waysThatCarry_11 : decode cX2_waysThatCarry 11 = .ok (.iconst 0, 1) := by decide +kernel
theorem dX2_waysThatCarry_12 : decode cX2_waysThatCarry 12 = .ok (.istore_n 3, 1) := by decide +kernel
theorem dX2_waysThatCarry_13 : decode cX2_waysThatCarry 13 = .ok (.iconst 0, 1) := by decide +kernel
theorem dX2_waysThatCarry_14 : decode cX2_waysThatCarry 14 = .ok (.istore 4, 2) := by decide +kernel
theorem dX2_waysThatCarry_16 : decode cX2_waysThatCarry 16 = .ok (.iload 4, 2) := by decide +kernel
theorem dX2_waysThatCarry_18 : decode cX2_waysThatCarry 18 = .ok (.iload_n 1, 1) := by decide +kernel
theorem dX2_waysThatCarry_19 : decode cX2_waysThatCarry 19 = .ok (.if_icmp .ge 27, 3) := by decide +kernel
theorem dX2_waysThatCarry_22 : decode cX2_waysThatCarry 22 = .ok (.iconst 2, 1) := by decide +kernel
theorem dX2_waysThatCarry_23 : decode cX2_waysThatCarry 23 = .ok (.aload_n 0, 1) := by decide +kernel
theorem dX2_waysThatCarry_24 : decode cX2_waysThatCarry 24 = .ok (.getfield 20, 3) := by decide +kernel
theorem dX2_waysThatCarry_27 : decode cX2_waysThatCarry 27 = .ok (.iload 4, 2) := by decide +kernel
theorem dX2_waysThatCarry_29 : decode cX2_waysThatCarry 29 = .ok (.invokevirtual 226, 3) := by decide +kernel
theorem dX2_waysThatCarry_32 : decode cX2_waysThatCarry 32 = .ok (.imul, 1) := by decide +kernel
theorem dX2_waysThatCarry_33 : decode cX2_waysThatCarry 33 = .ok (.iload_n 2, 1) := by decide +kernel
theorem dX2_waysThatCarry_34 : decode cX2_waysThatCarry 34 = .ok (.if_icmp .le 6, 3) := by decide +kernel
theorem dX2_waysThatCarry_37 : decode cX2_waysThatCarry 37 = .ok (.iinc 3 1, 3) := by decide +kernel
theorem dX2_waysThatCarry_40 : decode cX2_waysThatCarry 40 = .ok (.iinc 4 1, 3) := by decide +kernel
theorem dX2_waysThatCarry_43 : decode cX2_waysThatCarry 43 = .ok (.goto (-27), 3) := by decide +kernel
theorem dX2_waysThatCarry_46 : decode cX2_waysThatCarry 46 = .ok (.iload_n 3, 1) := by decide +kernel
theorem dX2_waysThatCarry_47 : decode cX2_waysThatCarry 47 = .ok (.ireturn, 1) := by decide +kernel
set_option maxRecDepth 20000 in
theorem ggX2_waysDecidedBy_X0_votesIn : GoodIn wsX2_waysDecidedBy wsX0_votesIn := goodIn_r _ [6, 7, 8, 9, 10, 11, 12, 13, 5, 14, 15, 16, 17, 18, 19, 20, 21, 22, 23, 24, 25, 26, 27, 28, 29, 30, 31, 43, 44, 45, 46, 47, 48] (by decide +kernel) (by decide +kernel)
set_option maxRecDepth 20000 in
theorem gX2_waysDecidedBy_X0_votesIn : GoodIn wsX2_waysDecidedBy (wsV RX2 226 RX0 yX0_votesIn wsX0_votesIn) := goodIn_app (goodIn_of _ (by decide +kernel)) ggX2_waysDecidedBy_X0_votesIn
set_option maxRecDepth 20000 in
theorem ggX2_waysDecidedBy_X0_votes : GoodIn wsX2_waysDecidedBy wsX0_votes := goodIn_r _ [14, 15, 16, 17, 5, 18, 19, 20, 21, 22, 23, 24, 25, 26, 27, 28, 29, 7, 30, 9, 31, 43, 44, 45, 46, 47, 48] (by decide +kernel) (by decide +kernel)
set_option maxRecDepth 20000 in
theorem gX2_waysDecidedBy_X0_votes : GoodIn wsX2_waysDecidedBy (wsV RX2 96 RX0 yX0_votes wsX0_votes) := goodIn_app (goodIn_of _ (by decide +kernel)) ggX2_waysDecidedBy_X0_votes
set_option maxRecDepth 20000 in
theorem ggX2_waysDecidedBy_X2_isIn : GoodIn wsX2_waysDecidedBy wsX2_isIn := goodIn_r _ [10] (by decide +kernel) (by decide +kernel)
set_option maxRecDepth 20000 in
theorem gX2_waysDecidedBy_X2_isIn : GoodIn wsX2_waysDecidedBy (va_wsS RX2 204 yX2_isIn wsX2_isIn) := goodIn_app (goodIn_of _ (by decide +kernel)) ggX2_waysDecidedBy_X2_isIn
theorem dX2_waysDecidedBy_0 : decode cX2_waysDecidedBy 0 = .ok (.aload_n 0, 1) := by decide +kernel
theorem dX2_waysDecidedBy_1 : decode cX2_waysDecidedBy 1 = .ok (.getfield 20, 3) := by decide +kernel
theorem dX2_waysDecidedBy_4 : decode cX2_waysDecidedBy 4 = .ok (.iload_n 2, 1) := by decide +kernel
theorem dX2_waysDecidedBy_5 : decode cX2_waysDecidedBy 5 = .ok (.iconst 1, 1) := by decide +kernel
theorem dX2_waysDecidedBy_6 : decode cX2_waysDecidedBy 6 = .ok (.isub, 1) := by decide +kernel
theorem dX2_waysDecidedBy_7 : decode cX2_waysDecidedBy 7 = .ok (.invokevirtual 226, 3) := by decide +kernel
theorem dX2_waysDecidedBy_10 : decode cX2_waysDecidedBy 10 = .ok (.istore_n 3, 1) := by decide +kernel
theorem dX2_waysDecidedBy_11 : decode cX2_waysDecidedBy 11 = .ok (.iconst 2, 1) := by decide +kernel
theorem dX2_waysDecidedBy_12 : decode cX2_waysDecidedBy 12 = .ok (.aload_n 0, 1) := by decide +kernel
theorem dX2_waysDecidedBy_13 : decode cX2_waysDecidedBy 13 = .ok (.getfield 20, 3) := by decide +kernel
theorem dX2_waysDecidedBy_16 : decode cX2_waysDecidedBy 16 = .ok (.iload_n 1, 1) := by decide +kernel
theorem dX2_waysDecidedBy_17 : decode cX2_waysDecidedBy 17 = .ok (.invokevirtual 96, 3) := by decide +kernel
theorem dX2_waysDecidedBy_20 : decode cX2_waysDecidedBy 20 = .ok (.imul, 1) := by decide +kernel
theorem dX2_waysDecidedBy_21 : decode cX2_waysDecidedBy 21 = .ok (.istore 4, 2) := by decide +kernel
theorem dX2_waysDecidedBy_23 : decode cX2_waysDecidedBy 23 = .ok (.iconst 0, 1) := by decide +kernel
theorem dX2_waysDecidedBy_24 : decode cX2_waysDecidedBy 24 = .ok (.istore 5, 2) := by decide +kernel
theorem dX2_waysDecidedBy_26 : decode cX2_waysDecidedBy 26 = .ok (.iconst 0, 1) := by decide +kernel
theorem dX2_waysDecidedBy_27 : decode cX2_waysDecidedBy 27 = .ok (.istore 6, 2) := by decide +kernel
theorem dX2_waysDecidedBy_29 : decode cX2_waysDecidedBy 29 = .ok (.iload 6, 2) := by decide +kernel
theorem dX2_waysDecidedBy_31 : decode cX2_waysDecidedBy 31 = .ok (.iload_n 2, 1) := by decide +kernel
theorem dX2_waysDecidedBy_32 : decode cX2_waysDecidedBy 32 = .ok (.if_icmp .ge 56, 3) := by decide +kernel
theorem dX2_waysDecidedBy_35 : decode cX2_waysDecidedBy 35 = .ok (.iload 6, 2) := by decide +kernel
theorem dX2_waysDecidedBy_37 : decode cX2_waysDecidedBy 37 = .ok (.iload_n 1, 1) := by decide +kernel
theorem dX2_waysDecidedBy_38 : decode cX2_waysDecidedBy 38 = .ok (.invokestatic 204, 3) := by decide +kernel
theorem dX2_waysDecidedBy_41 : decode cX2_waysDecidedBy 41 = .ok (.ifCond .ne 41, 3) := by decide +kernel
theorem dX2_waysDecidedBy_44 : decode cX2_waysDecidedBy 44 = .ok (.iconst 2, 1) := by decide +kernel
theorem dX2_waysDecidedBy_45 : decode cX2_waysDecidedBy 45 = .ok (.aload_n 0, 1) := by decide +kernel
theorem dX2_waysDecidedBy_46 : decode cX2_waysDecidedBy 46 = .ok (.getfield 20, 3) := by decide +kernel
theorem dX2_waysDecidedBy_49 : decode cX2_waysDecidedBy 49 = .ok (.iload 6, 2) := by decide +kernel
theorem dX2_waysDecidedBy_51 : decode cX2_waysDecidedBy 51 = .ok (.invokevirtual 226, 3) := by decide +kernel
theorem dX2_waysDecidedBy_54 : decode cX2_waysDecidedBy 54 = .ok (.imul, 1) := by decide +kernel
theorem dX2_waysDecidedBy_55 : decode cX2_waysDecidedBy 55 = .ok (.istore 7, 2) := by decide +kernel
theorem dX2_waysDecidedBy_57 : decode cX2_waysDecidedBy 57 = .ok (.iload 5, 2) := by decide +kernel
theorem dX2_waysDecidedBy_59 : decode cX2_waysDecidedBy 59 = .ok (.iload 7, 2) := by decide +kernel
theorem dX2_waysDecidedBy_61 : decode cX2_waysDecidedBy 61 = .ok (.iload_n 3, 1) := by decide +kernel
theorem dX2_waysDecidedBy_62 : decode cX2_waysDecidedBy 62 = .ok (.if_icmp .gt 16, 3) := by decide +kernel
theorem dX2_waysDecidedBy_65 : decode cX2_waysDecidedBy 65 = .ok (.iload 7, 2) := by decide +kernel
theorem dX2_waysDecidedBy_67 : decode cX2_waysDecidedBy 67 = .ok (.iload 4, 2) := by decide +kernel
theorem dX2_waysDecidedBy_69 : decode cX2_waysDecidedBy 69 = .ok (.iadd, 1) := by decide +kernel
theorem dX2_waysDecidedBy_70 : decode cX2_waysDecidedBy 70 = .ok (.iload_n 3, 1) := by decide +kernel
theorem dX2_waysDecidedBy_71 : decode cX2_waysDecidedBy 71 = .ok (.if_icmp .le 7, 3) := by decide +kernel
theorem dX2_waysDecidedBy_74 : decode cX2_waysDecidedBy 74 = .ok (.iconst 1, 1) := by decide +kernel
theorem dX2_waysDecidedBy_75 : decode cX2_waysDecidedBy 75 = .ok (.goto 4, 3) := by decide +kernel
theorem dX2_waysDecidedBy_78 : decode cX2_waysDecidedBy 78 = .ok (.iconst 0, 1) := by decide +kernel
theorem dX2_waysDecidedBy_79 : decode cX2_waysDecidedBy 79 = .ok (.iadd, 1) := by decide +kernel
theorem dX2_waysDecidedBy_80 : decode cX2_waysDecidedBy 80 = .ok (.istore 5, 2) := by decide +kernel
theorem dX2_waysDecidedBy_82 : decode cX2_waysDecidedBy 82 = .ok (.iinc 6 1, 3) := by decide +kernel
theorem dX2_waysDecidedBy_85 : decode cX2_waysDecidedBy 85 = .ok (.goto (-56), 3) := by decide +kernel
theorem dX2_waysDecidedBy_88 : decode cX2_waysDecidedBy 88 = .ok (.iload 5, 2) := by decide +kernel
theorem dX2_waysDecidedBy_90 : decode cX2_waysDecidedBy 90 = .ok (.ireturn, 1) := by decide +kernel
theorem dX2_votesAs_0 : decode cX2_votesAs 0 = .ok (.iload_n 0, 1) := by decide +kernel
theorem dX2_votesAs_1 : decode cX2_votesAs 1 = .ok (.lookupswitch 33 #[(0, 27), (1, 29)], 27) := by decide +kernel
theorem dX2_votesAs_28 : decode cX2_votesAs 28 = .ok (.iload_n 1, 1) := by decide +kernel
theorem dX2_votesAs_29 : decode cX2_votesAs 29 = .ok (.ireturn, 1) := by decide +kernel
theorem dX2_votesAs_30 : decode cX2_votesAs 30 = .ok (.iload_n 1, 1) := by decide +kernel
theorem dX2_votesAs_31 : decode cX2_votesAs 31 = .ok (.iconst 1, 1) := by decide +kernel
theorem dX2_votesAs_32 : decode cX2_votesAs 32 = .ok (.iadd, 1) := by decide +kernel
theorem dX2_votesAs_33 : decode cX2_votesAs 33 = .ok (.ireturn, 1) := by decide +kernel
theorem dX2_votesAs_34 : decode cX2_votesAs 34 = .ok (.iload_n 1, 1) := by decide +kernel
theorem dX2_votesAs_35 : decode cX2_votesAs 35 = .ok (.iconst 1, 1) := by decide +kernel
theorem dX2_votesAs_36 : decode cX2_votesAs 36 = .ok (.iadd, 1) := by decide +kernel
theorem dX2_votesAs_37 : decode cX2_votesAs 37 = .ok (.iconst 2, 1) := by decide +kernel
theorem dX2_votesAs_38 : decode cX2_votesAs 38 = .ok (.idiv, 1) := by decide +kernel
theorem dX2_votesAs_39 : decode cX2_votesAs 39 = .ok (.ireturn, 1) := by decide +kernel
set_option maxRecDepth 20000 in
theorem ggX2_sheet_X2_sheetAt : GoodIn wsX2_sheet wsX2_sheetAt := goodIn_r _ [6, 7, 28, 29, 30, 31, 32, 33, 34, 35, 36] (by decide +kernel) (by decide +kernel)
set_option maxRecDepth 20000 in
theorem gX2_sheet_X2_sheetAt : GoodIn wsX2_sheet (wsV RX2 48 RX2 yX2_sheetAt wsX2_sheetAt) := goodIn_app (goodIn_of _ (by decide +kernel)) ggX2_sheet_X2_sheetAt
set_option maxRecDepth 20000 in
theorem ggX2_sheet_X2_isLane : GoodIn wsX2_sheet wsX2_isLane := goodIn_r _ [10] (by decide +kernel) (by decide +kernel)
set_option maxRecDepth 20000 in
theorem gX2_sheet_X2_isLane : GoodIn wsX2_sheet (va_wsS RX2 52 yX2_isLane wsX2_isLane) := goodIn_app (goodIn_of _ (by decide +kernel)) ggX2_sheet_X2_isLane
set_option maxRecDepth 20000 in
theorem ggX2_sheet_X2_faulted : GoodIn wsX2_sheet wsX2_faulted := goodIn_r _ [14, 1, 28, 29, 30, 31, 32, 33, 34, 35, 36] (by decide +kernel) (by decide +kernel)
set_option maxRecDepth 20000 in
theorem gX2_sheet_X2_faulted : GoodIn wsX2_sheet (wsV RX2 60 RX2 yX2_faulted wsX2_faulted) := goodIn_app (goodIn_of _ (by decide +kernel)) ggX2_sheet_X2_faulted
set_option maxRecDepth 20000 in
theorem ggX2_sheet_X1_getsRow : GoodIn wsX2_sheet wsX1_getsRow := goodIn_r _ [19, 20, 21, 22, 23, 24, 25, 26, 27, 37, 38, 39, 40] (by decide +kernel) (by decide +kernel)
set_option maxRecDepth 20000 in
theorem gX2_sheet_X1_getsRow : GoodIn wsX2_sheet (wsV RX2 229 RX1 yX1_getsRow wsX1_getsRow) := goodIn_app (goodIn_of _ (by decide +kernel)) ggX2_sheet_X1_getsRow
theorem dX2_sheet_0 : decode cX2_sheet 0 = .ok (.aload_n 0, 1) := by decide +kernel
theorem dX2_sheet_1 : decode cX2_sheet 1 = .ok (.iconst 0, 1) := by decide +kernel
theorem dX2_sheet_2 : decode cX2_sheet 2 = .ok (.putfield 44, 3) := by decide +kernel
theorem dX2_sheet_5 : decode cX2_sheet 5 = .ok (.aload_n 0, 1) := by decide +kernel
theorem dX2_sheet_6 : decode cX2_sheet 6 = .ok (.iload_n 1, 1) := by decide +kernel
theorem dX2_sheet_7 : decode cX2_sheet 7 = .ok (.invokevirtual 48, 3) := by decide +kernel
theorem dX2_sheet_10 : decode cX2_sheet 10 = .ok (.astore 4, 2) := by decide +kernel
theorem dX2_sheet_12 : decode cX2_sheet 12 = .ok (.aload 4, 2) := by decide +kernel
theorem dX2_sheet_14 : decode cX2_sheet 14 = .ok (.ifnonnull 5, 3) := by decide +kernel
theorem dX2_sheet_17 : decode cX2_sheet 17 = .ok (.iconst (-1), 1) := by decide +kernel
theorem dX2_sheet_18 : decode cX2_sheet 18 = .ok (.ireturn, 1) := by decide +kernel
theorem dX2_sheet_19 : decode cX2_sheet 19 = .ok (.iload_n 2, 1) := by decide +kernel
theorem dX2_sheet_20 : decode cX2_sheet 20 = .ok (.invokestatic 52, 3) := by decide +kernel
theorem dX2_sheet_23 : decode cX2_sheet 23 = .ok (.ifCond .eq 9, 3) := by decide +kernel
theorem dX2_sheet_26 : decode cX2_sheet 26 = .ok (.iload_n 3, 1) := by decide +kernel
theorem dX2_sheet_27 : decode cX2_sheet 27 = .ok (.bipush 60, 2) := by decide +kernel
theorem dX2_sheet_29 : decode cX2_sheet 29 = .ok (.if_icmp .le 6, 3) := by decide +kernel
theorem dX2_sheet_32 : decode cX2_sheet 32 = .ok (.bipush (-2), 2) := by decide +kernel
theorem dX2_sheet_34 : decode cX2_sheet 34 = .ok (.ireturn, 1) := by decide +kernel
theorem dX2_sheet_35 : decode cX2_sheet 35 = .ok (.iload_n 3, 1) := by decide +kernel
theorem dX2_sheet_36 : decode cX2_sheet 36 = .ok (.ifCond .ge 9, 3) := by decide +kernel
theorem dX2_sheet_39 : decode cX2_sheet 39 = .ok (.aload_n 0, 1) := by decide +kernel
theorem dX2_sheet_40 : decode cX2_sheet 40 = .ok (.iconst 4, 1) := by decide +kernel
theorem dX2_sheet_41 : decode cX2_sheet 41 = .ok (.invokevirtual 60, 3) := by decide +kernel
theorem dX2_sheet_44 : decode cX2_sheet 44 = .ok (.ireturn, 1) := by decide +kernel
theorem dX2_sheet_45 : decode cX2_sheet 45 = .ok (.aload 4, 2) := by decide +kernel
theorem dX2_sheet_47 : decode cX2_sheet 47 = .ok (.iload_n 2, 1) := by decide +kernel
theorem dX2_sheet_48 : decode cX2_sheet 48 = .ok (.iload_n 3, 1) := by decide +kernel
theorem dX2_sheet_49 : decode cX2_sheet 49 = .ok (.invokevirtual 229, 3) := by decide +kernel
theorem dX2_sheet_52 : decode cX2_sheet 52 = .ok (.iconst 1, 1) := by decide +kernel
theorem dX2_sheet_53 : decode cX2_sheet 53 = .ok (.ireturn, 1) := by decide +kernel
set_option maxRecDepth 20000 in
theorem ggX2_lose_X2_sheetAt : GoodIn wsX2_lose wsX2_sheetAt := goodIn_r _ [6, 7, 12, 13, 14, 15, 16, 17, 18, 19, 20] (by decide +kernel) (by decide +kernel)
set_option maxRecDepth 20000 in
theorem gX2_lose_X2_sheetAt : GoodIn wsX2_lose (wsV RX2 48 RX2 yX2_sheetAt wsX2_sheetAt) := goodIn_app (goodIn_of _ (by decide +kernel)) ggX2_lose_X2_sheetAt
theorem dX2_lose_0 : decode cX2_lose 0 = .ok (.aload_n 0, 1) := by decide +kernel
theorem dX2_lose_1 : decode cX2_lose 1 = .ok (.iload_n 1, 1) := by decide +kernel
theorem dX2_lose_2 : decode cX2_lose 2 = .ok (.invokevirtual 48, 3) := by decide +kernel
theorem dX2_lose_5 : decode cX2_lose 5 = .ok (.astore_n 2, 1) := by decide +kernel
theorem dX2_lose_6 : decode cX2_lose 6 = .ok (.aload_n 2, 1) := by decide +kernel
theorem dX2_lose_7 : decode cX2_lose 7 = .ok (.ifnonnull 5, 3) := by decide +kernel
theorem dX2_lose_10 : decode cX2_lose 10 = .ok (.iconst (-1), 1) := by decide +kernel
theorem dX2_lose_11 : decode cX2_lose 11 = .ok (.ireturn, 1) := by decide +kernel
theorem dX2_lose_12 : decode cX2_lose 12 = .ok (.aload_n 2, 1) := by decide +kernel
theorem dX2_lose_13 : decode cX2_lose 13 = .ok (.getfield 233, 3) := by decide +kernel
theorem dX2_lose_16 : decode cX2_lose 16 = .ok (.istore_n 3, 1) := by decide +kernel
theorem dX2_lose_17 : decode cX2_lose 17 = .ok (.aload_n 2, 1) := by decide +kernel
theorem dX2_lose_18 : decode cX2_lose 18 = .ok (.iconst 0, 1) := by decide +kernel
theorem dX2_lose_19 : decode cX2_lose 19 = .ok (.putfield 233, 3) := by decide +kernel
theorem dX2_lose_22 : decode cX2_lose 22 = .ok (.iload_n 3, 1) := by decide +kernel
theorem dX2_lose_23 : decode cX2_lose 23 = .ok (.ifCond .eq 7, 3) := by decide +kernel
theorem dX2_lose_26 : decode cX2_lose 26 = .ok (.iconst 1, 1) := by decide +kernel
theorem dX2_lose_27 : decode cX2_lose 27 = .ok (.goto 4, 3) := by decide +kernel
theorem dX2_lose_30 : decode cX2_lose 30 = .ok (.iconst 0, 1) := by decide +kernel
theorem dX2_lose_31 : decode cX2_lose 31 = .ok (.ireturn, 1) := by decide +kernel
set_option maxRecDepth 20000 in
theorem ggX2_put_X2_sheetAt : GoodIn wsX2_put wsX2_sheetAt := goodIn_r _ [7, 8, 30, 31, 32, 33, 34, 35, 36, 37, 38] (by decide +kernel) (by decide +kernel)
set_option maxRecDepth 20000 in
theorem gX2_put_X2_sheetAt : GoodIn wsX2_put (wsV RX2 48 RX2 yX2_sheetAt wsX2_sheetAt) := goodIn_app (goodIn_of _ (by decide +kernel)) ggX2_put_X2_sheetAt
set_option maxRecDepth 20000 in
theorem ggX2_put_X2_faulted : GoodIn wsX2_put wsX2_faulted := goodIn_r _ [12, 1, 30, 31, 32, 33, 34, 35, 36, 37, 38] (by decide +kernel) (by decide +kernel)
set_option maxRecDepth 20000 in
theorem gX2_put_X2_faulted : GoodIn wsX2_put (wsV RX2 60 RX2 yX2_faulted wsX2_faulted) := goodIn_app (goodIn_of _ (by decide +kernel)) ggX2_put_X2_faulted
set_option maxRecDepth 20000 in
theorem ggX2_put_X1_holds : GoodIn wsX2_put wsX1_holds := goodIn_r _ [17, 18, 39, 40, 41, 42] (by decide +kernel) (by decide +kernel)
set_option maxRecDepth 20000 in
theorem gX2_put_X1_holds : GoodIn wsX2_put (wsV RX2 63 RX1 yX1_holds wsX1_holds) := goodIn_app (goodIn_of _ (by decide +kernel)) ggX2_put_X1_holds
set_option maxRecDepth 20000 in
theorem ggX2_put_X1_becomesAt : GoodIn wsX2_put wsX1_becomesAt := goodIn_r _ [22, 23, 24, 14, 15, 16, 17, 18, 25, 26, 27, 28, 29, 39, 40, 41, 42] (by decide +kernel) (by decide +kernel)
set_option maxRecDepth 20000 in
theorem gX2_put_X1_becomesAt : GoodIn wsX2_put (wsV RX2 237 RX1 yX1_becomesAt wsX1_becomesAt) := goodIn_app (goodIn_of _ (by decide +kernel)) ggX2_put_X1_becomesAt
theorem dX2_put_0 : decode cX2_put 0 = .ok (.aload_n 0, 1) := by decide +kernel
theorem dX2_put_1 : decode cX2_put 1 = .ok (.iconst 0, 1) := by decide +kernel
theorem dX2_put_2 : decode cX2_put 2 = .ok (.putfield 44, 3) := by decide +kernel
theorem dX2_put_5 : decode cX2_put 5 = .ok (.aload_n 0, 1) := by decide +kernel
theorem dX2_put_6 : decode cX2_put 6 = .ok (.iload_n 1, 1) := by decide +kernel
theorem dX2_put_7 : decode cX2_put 7 = .ok (.invokevirtual 48, 3) := by decide +kernel
theorem dX2_put_10 : decode cX2_put 10 = .ok (.astore 4, 2) := by decide +kernel
theorem dX2_put_12 : decode cX2_put 12 = .ok (.aload 4, 2) := by decide +kernel
theorem dX2_put_14 : decode cX2_put 14 = .ok (.ifnonnull 5, 3) := by decide +kernel
theorem dX2_put_17 : decode cX2_put 17 = .ok (.iconst (-1), 1) := by decide +kernel
theorem dX2_put_18 : decode cX2_put 18 = .ok (.ireturn, 1) := by decide +kernel
theorem dX2_put_19 : decode cX2_put 19 = .ok (.aload 4, 2) := by decide +kernel
theorem dX2_put_21 : decode cX2_put 21 = .ok (.getfield 233, 3) := by decide +kernel
theorem dX2_put_24 : decode cX2_put 24 = .ok (.ifCond .ne 9, 3) := by decide +kernel
theorem dX2_put_27 : decode cX2_put 27 = .ok (.aload_n 0, 1) := by decide +kernel
theorem dX2_put_28 : decode cX2_put 28 = .ok (.iconst 1, 1) := by decide +kernel
theorem dX2_put_29 : decode cX2_put 29 = .ok (.invokevirtual 60, 3) := by decide +kernel
theorem dX2_put_32 : decode cX2_put 32 = .ok (.ireturn, 1) := by decide +kernel
theorem dX2_put_33 : decode cX2_put 33 = .ok (.aload 4, 2) := by decide +kernel
theorem dX2_put_35 : decode cX2_put 35 = .ok (.iload_n 2, 1) := by decide +kernel
theorem dX2_put_36 : decode cX2_put 36 = .ok (.iconst 1, 1) := by decide +kernel
theorem dX2_put_37 : decode cX2_put 37 = .ok (.invokevirtual 63, 3) := by decide +kernel
theorem dX2_put_40 : decode cX2_put 40 = .ok (.ifCond .ne 9, 3) := by decide +kernel
theorem dX2_put_43 : decode cX2_put 43 = .ok (.aload_n 0, 1) := by decide +kernel
theorem dX2_put_44 : decode cX2_put 44 = .ok (.iconst 3, 1) := by decide +kernel
theorem dX2_put_45 : decode cX2_put 45 = .ok (.invokevirtual 60, 3) := by decide +kernel
theorem dX2_put_48 : decode cX2_put 48 = .ok (.ireturn, 1) := by decide +kernel
theorem dX2_put_49 : decode cX2_put 49 = .ok (.aload 4, 2) := by decide +kernel
theorem dX2_put_51 : decode cX2_put 51 = .ok (.iload_n 2, 1) := by decide +kernel
theorem dX2_put_52 : decode cX2_put 52 = .ok (.iload_n 3, 1) := by decide +kernel
theorem dX2_put_53 : decode cX2_put 53 = .ok (.invokevirtual 237, 3) := by decide +kernel
theorem dX2_put_56 : decode cX2_put 56 = .ok (.iconst 1, 1) := by decide +kernel
theorem dX2_put_57 : decode cX2_put 57 = .ok (.ireturn, 1) := by decide +kernel
set_option maxRecDepth 20000 in
theorem ggX2_cell_X2_sheetAt : GoodIn wsX2_cell wsX2_sheetAt := goodIn_r _ [7, 8, 30, 31, 32, 33, 34, 35, 36, 37, 38] (by decide +kernel) (by decide +kernel)
set_option maxRecDepth 20000 in
theorem gX2_cell_X2_sheetAt : GoodIn wsX2_cell (wsV RX2 48 RX2 yX2_sheetAt wsX2_sheetAt) := goodIn_app (goodIn_of _ (by decide +kernel)) ggX2_cell_X2_sheetAt
set_option maxRecDepth 20000 in
theorem ggX2_cell_X2_isLane : GoodIn wsX2_cell wsX2_isLane := goodIn_r _ [11] (by decide +kernel) (by decide +kernel)
set_option maxRecDepth 20000 in
theorem gX2_cell_X2_isLane : GoodIn wsX2_cell (va_wsS RX2 52 yX2_isLane wsX2_isLane) := goodIn_app (goodIn_of _ (by decide +kernel)) ggX2_cell_X2_isLane
set_option maxRecDepth 20000 in
theorem ggX2_cell_X1_faultAs : GoodIn wsX2_cell wsX1_faultAs := goodIn_r _ [16, 17, 18, 39, 40, 41, 42] (by decide +kernel) (by decide +kernel)
set_option maxRecDepth 20000 in
theorem gX2_cell_X1_faultAs : GoodIn wsX2_cell (wsV RX2 56 RX1 yX1_faultAs wsX1_faultAs) := goodIn_app (goodIn_of _ (by decide +kernel)) ggX2_cell_X1_faultAs
set_option maxRecDepth 20000 in
theorem ggX2_cell_X1_holds : GoodIn wsX2_cell wsX1_holds := goodIn_r _ [22, 23, 39, 40, 41, 42] (by decide +kernel) (by decide +kernel)
set_option maxRecDepth 20000 in
theorem gX2_cell_X1_holds : GoodIn wsX2_cell (wsV RX2 63 RX1 yX1_holds wsX1_holds) := goodIn_app (goodIn_of _ (by decide +kernel)) ggX2_cell_X1_holds
set_option maxRecDepth 20000 in
theorem ggX2_cell_X1_at : GoodIn wsX2_cell wsX1_at := goodIn_r _ [27, 28, 29, 20, 21, 15, 22, 23, 39, 40, 41, 42] (by decide +kernel) (by decide +kernel)
set_option maxRecDepth 20000 in
theorem gX2_cell_X1_at : GoodIn wsX2_cell (wsV RX2 118 RX1 yX1_at wsX1_at) := goodIn_app (goodIn_of _ (by decide +kernel)) ggX2_cell_X1_at
theorem dX2_cell_0 : decode cX2_cell 0 = .ok (.aload_n 0, 1) := by decide +kernel
theorem dX2_cell_1 : decode cX2_cell 1 = .ok (.iconst 0, 1) := by decide +kernel
theorem dX2_cell_2 : decode cX2_cell 2 = .ok (.putfield 44, 3) := by decide +kernel
theorem dX2_cell_5 : decode cX2_cell 5 = .ok (.aload_n 0, 1) := by decide +kernel
theorem dX2_cell_6 : decode cX2_cell 6 = .ok (.iload_n 1, 1) := by decide +kernel
theorem dX2_cell_7 : decode cX2_cell 7 = .ok (.invokevirtual 48, 3) := by decide +kernel
theorem dX2_cell_10 : decode cX2_cell 10 = .ok (.astore 4, 2) := by decide +kernel
theorem dX2_cell_12 : decode cX2_cell 12 = .ok (.aload 4, 2) := by decide +kernel
theorem dX2_cell_14 : decode cX2_cell 14 = .ok (.ifnull 10, 3) := by decide +kernel
theorem dX2_cell_17 : decode cX2_cell 17 = .ok (.iload_n 3, 1) := by decide +kernel
theorem dX2_cell_18 : decode cX2_cell 18 = .ok (.invokestatic 52, 3) := by decide +kernel
theorem dX2_cell_21 : decode cX2_cell 21 = .ok (.ifCond .ne 7, 3) := by decide +kernel
theorem dX2_cell_24 : decode cX2_cell 24 = .ok (.ldc2_w 195, 3) := by decide +kernel
theorem dX2_cell_27 : decode cX2_cell 27 = .ok (.lreturn, 1) := by decide +kernel
theorem dX2_cell_28 : decode cX2_cell 28 = .ok (.aload_n 0, 1) := by decide +kernel
theorem dX2_cell_29 : decode cX2_cell 29 = .ok (.aload 4, 2) := by decide +kernel
theorem dX2_cell_31 : decode cX2_cell 31 = .ok (.iload_n 3, 1) := by decide +kernel
theorem dX2_cell_32 : decode cX2_cell 32 = .ok (.invokevirtual 56, 3) := by decide +kernel
theorem dX2_cell_35 : decode cX2_cell 35 = .ok (.putfield 44, 3) := by decide +kernel
theorem dX2_cell_38 : decode cX2_cell 38 = .ok (.aload_n 0, 1) := by decide +kernel
theorem dX2_cell_39 : decode cX2_cell 39 = .ok (.getfield 44, 3) := by decide +kernel
theorem dX2_cell_42 : decode cX2_cell 42 = .ok (.ifCond .ne 18, 3) := by decide +kernel
theorem dX2_cell_45 : decode cX2_cell 45 = .ok (.aload 4, 2) := by decide +kernel
theorem dX2_cell_47 : decode cX2_cell 47 = .ok (.iload_n 2, 1) := by decide +kernel
theorem dX2_cell_48 : decode cX2_cell 48 = .ok (.iconst 1, 1) := by decide +kernel
theorem dX2_cell_49 : decode cX2_cell 49 = .ok (.invokevirtual 63, 3) := by decide +kernel
theorem dX2_cell_52 : decode cX2_cell 52 = .ok (.ifCond .ne 8, 3) := by decide +kernel
theorem dX2_cell_55 : decode cX2_cell 55 = .ok (.aload_n 0, 1) := by decide +kernel
theorem dX2_cell_56 : decode cX2_cell 56 = .ok (.iconst 3, 1) := by decide +kernel
theorem dX2_cell_57 : decode cX2_cell 57 = .ok (.putfield 44, 3) := by decide +kernel
theorem dX2_cell_60 : decode cX2_cell 60 = .ok (.aload_n 0, 1) := by decide +kernel
theorem dX2_cell_61 : decode cX2_cell 61 = .ok (.getfield 44, 3) := by decide +kernel
theorem dX2_cell_64 : decode cX2_cell 64 = .ok (.ifCond .ne 13, 3) := by decide +kernel
theorem dX2_cell_67 : decode cX2_cell 67 = .ok (.aload 4, 2) := by decide +kernel
theorem dX2_cell_69 : decode cX2_cell 69 = .ok (.iload_n 2, 1) := by decide +kernel
theorem dX2_cell_70 : decode cX2_cell 70 = .ok (.invokevirtual 118, 3) := by decide +kernel
theorem dX2_cell_73 : decode cX2_cell 73 = .ok (.i2l, 1) := by decide +kernel
theorem dX2_cell_74 : decode cX2_cell 74 = .ok (.goto 6, 3) := by decide +kernel
theorem dX2_cell_77 : decode cX2_cell 77 = .ok (.ldc2_w 195, 3) := by decide +kernel
theorem dX2_cell_80 : decode cX2_cell 80 = .ok (.lreturn, 1) := by decide +kernel
set_option maxRecDepth 20000 in
theorem ggX2_copy_X2_sheetAt : GoodIn wsX2_copy wsX2_sheetAt := goodIn_r _ [13, 14, 25, 26, 27, 28, 29, 30, 31, 32, 33] (by decide +kernel) (by decide +kernel)
set_option maxRecDepth 20000 in
theorem gX2_copy_X2_sheetAt : GoodIn wsX2_copy (wsV RX2 48 RX2 yX2_sheetAt wsX2_sheetAt) := goodIn_app (goodIn_of _ (by decide +kernel)) ggX2_copy_X2_sheetAt
set_option maxRecDepth 20000 in
theorem ggX2_copy_X2_faulted : GoodIn wsX2_copy wsX2_faulted := goodIn_r _ [18, 1, 25, 26, 27, 28, 29, 30, 31, 32, 33] (by decide +kernel) (by decide +kernel)
set_option maxRecDepth 20000 in
theorem gX2_copy_X2_faulted : GoodIn wsX2_copy (wsV RX2 60 RX2 yX2_faulted wsX2_faulted) := goodIn_app (goodIn_of _ (by decide +kernel)) ggX2_copy_X2_faulted
set_option maxRecDepth 20000 in
theorem ggX2_copy_X1_holds : GoodIn wsX2_copy wsX1_holds := goodIn_r _ [23, 24, 34, 35, 36, 37] (by decide +kernel) (by decide +kernel)
set_option maxRecDepth 20000 in
theorem gX2_copy_X1_holds : GoodIn wsX2_copy (wsV RX2 63 RX1 yX1_holds wsX1_holds) := goodIn_app (goodIn_of _ (by decide +kernel)) ggX2_copy_X1_holds
theorem dX2_copy_0 : decode cX2_copy 0 = .ok (.aload_n 0, 1) := by decide +kernel
theorem dX2_copy_1 : decode cX2_copy 1 = .ok (.iconst 0, 1) := by decide +kernel
theorem dX2_copy_2 : decode cX2_copy 2 = .ok (.putfield 44, 3) := by decide +kernel
theorem dX2_copy_5 : decode cX2_copy 5 = .ok (.aload_n 0, 1) := by decide +kernel
theorem dX2_copy_6 : decode cX2_copy 6 = .ok (.iload_n 1, 1) := by decide +kernel
theorem dX2_copy_7 : decode cX2_copy 7 = .ok (.invokevirtual 48, 3) := by decide +kernel
theorem dX2_copy_10 : decode cX2_copy 10 = .ok (.astore 6, 2) := by decide +kernel
theorem dX2_copy_12 : decode cX2_copy 12 = .ok (.aload_n 0, 1) := by decide +kernel
theorem dX2_copy_13 : decode cX2_copy 13 = .ok (.iload_n 3, 1) := by decide +kernel
theorem dX2_copy_14 : decode cX2_copy 14 = .ok (.invokevirtual 48, 3) := by decide +kernel
theorem dX2_copy_17 : decode cX2_copy 17 = .ok (.astore 7, 2) := by decide +kernel
theorem dX2_copy_19 : decode cX2_copy 19 = .ok (.aload 6, 2) := by decide +kernel
theorem dX2_copy_21 : decode cX2_copy 21 = .ok (.ifnull 8, 3) := by decide +kernel
theorem dX2_copy_24 : decode cX2_copy 24 = .ok (.aload 7, 2) := by decide +kernel
theorem dX2_copy_26 : decode cX2_copy 26 = .ok (.ifnonnull 5, 3) := by decide +kernel
theorem dX2_copy_29 : decode cX2_copy 29 = .ok (.iconst (-1), 1) := by decide +kernel
theorem dX2_copy_30 : decode cX2_copy 30 = .ok (.ireturn, 1) := by decide +kernel
theorem dX2_copy_31 : decode cX2_copy 31 = .ok (.aload 6, 2) := by decide +kernel
theorem dX2_copy_33 : decode cX2_copy 33 = .ok (.getfield 233, 3) := by decide +kernel
theorem dX2_copy_36 : decode cX2_copy 36 = .ok (.ifCond .eq 11, 3) := by decide +kernel
theorem dX2_copy_39 : decode cX2_copy 39 = .ok (.aload 7, 2) := by decide +kernel
theorem dX2_copy_41 : decode cX2_copy 41 = .ok (.getfield 233, 3) := by decide +kernel
theorem dX2_copy_44 : decode cX2_copy 44 = .ok (.ifCond .ne 9, 3) := by decide +kernel
theorem dX2_copy_47 : decode cX2_copy 47 = .ok (.aload_n 0, 1) := by decide +kernel
theorem dX2_copy_48 : decode cX2_copy 48 = .ok (.iconst 1, 1) := by decide +kernel
theorem dX2_copy_49 : decode cX2_copy 49 = .ok (.invokevirtual 60, 3) := by decide +kernel
theorem dX2_copy_52 : decode cX2_copy 52 = .ok (.ireturn, 1) := by decide +kernel
theorem dX2_copy_53 : decode cX2_copy 53 = .ok (.aload 6, 2) := by decide +kernel
theorem dX2_copy_55 : decode cX2_copy 55 = .ok (.getfield 240, 3) := by decide +kernel
theorem dX2_copy_58 : decode cX2_copy 58 = .ok (.aload 7, 2) := by decide +kernel
theorem dX2_copy_60 : decode cX2_copy 60 = .ok (.getfield 240, 3) := by decide +kernel
theorem dX2_copy_63 : decode cX2_copy 63 = .ok (.if_icmp .eq 9, 3) := by decide +kernel
theorem dX2_copy_66 : decode cX2_copy 66 = .ok (.aload_n 0, 1) := by decide +kernel
theorem dX2_copy_67 : decode cX2_copy 67 = .ok (.iconst 2, 1) := by decide +kernel
theorem dX2_copy_68 : decode cX2_copy 68 = .ok (.invokevirtual 60, 3) := by decide +kernel
theorem dX2_copy_71 : decode cX2_copy 71 = .ok (.ireturn, 1) := by decide +kernel
theorem dX2_copy_72 : decode cX2_copy 72 = .ok (.aload 6, 2) := by decide +kernel
theorem dX2_copy_74 : decode cX2_copy 74 = .ok (.iload_n 2, 1) := by decide +kernel
theorem dX2_copy_75 : decode cX2_copy 75 = .ok (.iload 5, 2) := by decide +kernel
theorem dX2_copy_77 : decode cX2_copy 77 = .ok (.invokevirtual 63, 3) := by decide +kernel
theorem dX2_copy_80 : decode cX2_copy 80 = .ok (.ifCond .eq 15, 3) := by decide +kernel
theorem dX2_copy_83 : decode cX2_copy 83 = .ok (.aload 7, 2) := by decide +kernel
theorem dX2_copy_85 : decode cX2_copy 85 = .ok (.iload 4, 2) := by decide +kernel
theorem dX2_copy_87 : decode cX2_copy 87 = .ok (.iload 5, 2) := by decide +kernel
theorem dX2_copy_89 : decode cX2_copy 89 = .ok (.invokevirtual 63, 3) := by decide +kernel
theorem dX2_copy_92 : decode cX2_copy 92 = .ok (.ifCond .ne 9, 3) := by decide +kernel
theorem dX2_copy_95 : decode cX2_copy 95 = .ok (.aload_n 0, 1) := by decide +kernel
theorem dX2_copy_96 : decode cX2_copy 96 = .ok (.iconst 3, 1) := by decide +kernel
theorem dX2_copy_97 : decode cX2_copy 97 = .ok (.invokevirtual 60, 3) := by decide +kernel
theorem dX2_copy_100 : decode cX2_copy 100 = .ok (.ireturn, 1) := by decide +kernel
theorem dX2_copy_101 : decode cX2_copy 101 = .ok (.aload 6, 2) := by decide +kernel
theorem dX2_copy_103 : decode cX2_copy 103 = .ok (.getfield 243, 3) := by decide +kernel
theorem dX2_copy_106 : decode cX2_copy 106 = .ok (.iload_n 2, 1) := by decide +kernel
theorem dX2_copy_107 : decode cX2_copy 107 = .ok (.aload 7, 2) := by decide +kernel
theorem dX2_copy_109 : decode cX2_copy 109 = .ok (.getfield 243, 3) := by decide +kernel
theorem dX2_copy_112 : decode cX2_copy 112 = .ok (.iload 4, 2) := by decide +kernel
theorem dX2_copy_114 : decode cX2_copy 114 = .ok (.iload 5, 2) := by decide +kernel
theorem dX2_copy_116 : decode cX2_copy 116 = .ok (.invokestatic 246, 3) := by decide +kernel
theorem dX2_copy_119 : decode cX2_copy 119 = .ok (.iload 5, 2) := by decide +kernel
theorem dX2_copy_121 : decode cX2_copy 121 = .ok (.ireturn, 1) := by decide +kernel
set_option maxRecDepth 20000 in
theorem ggX2_tell_X0_has : GoodIn wsX2_tell wsX0_has := goodIn_r _ [8, 9, 37, 38, 39, 40, 41, 42] (by decide +kernel) (by decide +kernel)
set_option maxRecDepth 20000 in
theorem gX2_tell_X0_has : GoodIn wsX2_tell (wsV RX2 78 RX0 yX0_has wsX0_has) := goodIn_app (goodIn_of _ (by decide +kernel)) ggX2_tell_X0_has
set_option maxRecDepth 20000 in
theorem ggX2_tell_X2_toldAsPlain : GoodIn wsX2_tell wsX2_toldAsPlain := goodIn_r _ [14, 15, 16, 17, 13, 18, 19, 28, 29, 30, 31, 32, 33, 34, 35, 36] (by decide +kernel) (by decide +kernel)
set_option maxRecDepth 20000 in
theorem gX2_tell_X2_toldAsPlain : GoodIn wsX2_tell (wsV RX2 252 RX2 yX2_toldAsPlain wsX2_toldAsPlain) := goodIn_app (goodIn_of _ (by decide +kernel)) ggX2_tell_X2_toldAsPlain
set_option maxRecDepth 20000 in
theorem ggX2_tell_X2_toldAsShaded : GoodIn wsX2_tell wsX2_toldAsShaded := goodIn_r _ [23, 15, 16, 17, 13, 18, 19, 10, 11, 12, 14, 28, 29, 30, 31, 32, 33, 34, 35, 36] (by decide +kernel) (by decide +kernel)
set_option maxRecDepth 20000 in
theorem gX2_tell_X2_toldAsShaded : GoodIn wsX2_tell (wsV RX2 255 RX2 yX2_toldAsShaded wsX2_toldAsShaded) := goodIn_app (goodIn_of _ (by decide +kernel)) ggX2_tell_X2_toldAsShaded
set_option maxRecDepth 20000 in
theorem ggX2_tell_X2_toldAsBroken : GoodIn wsX2_tell wsX2_toldAsBroken := goodIn_r _ [27, 15, 16, 17, 13, 18, 19, 20, 21, 22, 23, 10, 11, 12, 14, 28, 29, 30, 31, 32, 33, 34, 35, 36] (by decide +kernel) (by decide +kernel)
set_option maxRecDepth 20000 in
theorem gX2_tell_X2_toldAsBroken : GoodIn wsX2_tell (wsV RX2 258 RX2 yX2_toldAsBroken wsX2_toldAsBroken) := goodIn_app (goodIn_of _ (by decide +kernel)) ggX2_tell_X2_toldAsBroken
theorem dX2_tell_0 : decode cX2_tell 0 = .ok (.aload_n 0, 1) := by decide +kernel
theorem dX2_tell_1 : decode cX2_tell 1 = .ok (.getfield 20, 3) := by decide +kernel
theorem dX2_tell_4 : decode cX2_tell 4 = .ok (.iload_n 1, 1) := by decide +kernel
theorem dX2_tell_5 : decode cX2_tell 5 = .ok (.invokevirtual 78, 3) := by decide +kernel
theorem dX2_tell_8 : decode cX2_tell 8 = .ok (.ifCond .ne 5, 3) := by decide +kernel
theorem dX2_tell_11 : decode cX2_tell 11 = .ok (.iconst (-1), 1) := by decide +kernel
theorem dX2_tell_12 : decode cX2_tell 12 = .ok (.ireturn, 1) := by decide +kernel
theorem dX2_tell_13 : decode cX2_tell 13 = .ok (.aload_n 0, 1) := by decide +kernel
theorem dX2_tell_14 : decode cX2_tell 14 = .ok (.getfield 20, 3) := by decide +kernel
theorem dX2_tell_17 : decode cX2_tell 17 = .ok (.getfield 81, 3) := by decide +kernel
theorem dX2_tell_20 : decode cX2_tell 20 = .ok (.iload_n 1, 1) := by decide +kernel
theorem dX2_tell_21 : decode cX2_tell 21 = .ok (.iaload, 1) := by decide +kernel
theorem dX2_tell_22 : decode cX2_tell 22 = .ok (.lookupswitch 54 #[(0, 26), (1, 40)], 26) := by decide +kernel
theorem dX2_tell_48 : decode cX2_tell 48 = .ok (.aload_n 0, 1) := by decide +kernel
theorem dX2_tell_49 : decode cX2_tell 49 = .ok (.aload_n 0, 1) := by decide +kernel
theorem dX2_tell_50 : decode cX2_tell 50 = .ok (.getfield 20, 3) := by decide +kernel
theorem dX2_tell_53 : decode cX2_tell 53 = .ok (.getfield 87, 3) := by decide +kernel
theorem dX2_tell_56 : decode cX2_tell 56 = .ok (.iload_n 1, 1) := by decide +kernel
theorem dX2_tell_57 : decode cX2_tell 57 = .ok (.iaload, 1) := by decide +kernel
theorem dX2_tell_58 : decode cX2_tell 58 = .ok (.invokevirtual 252, 3) := by decide +kernel
theorem dX2_tell_61 : decode cX2_tell 61 = .ok (.ireturn, 1) := by decide +kernel
theorem dX2_tell_62 : decode cX2_tell 62 = .ok (.aload_n 0, 1) := by decide +kernel
theorem dX2_tell_63 : decode cX2_tell 63 = .ok (.aload_n 0, 1) := by decide +kernel
theorem dX2_tell_64 : decode cX2_tell 64 = .ok (.getfield 20, 3) := by decide +kernel
theorem dX2_tell_67 : decode cX2_tell 67 = .ok (.getfield 87, 3) := by decide +kernel
theorem dX2_tell_70 : decode cX2_tell 70 = .ok (.iload_n 1, 1) := by decide +kernel
theorem dX2_tell_71 : decode cX2_tell 71 = .ok (.iaload, 1) := by decide +kernel
theorem dX2_tell_72 : decode cX2_tell 72 = .ok (.invokevirtual 255, 3) := by decide +kernel
theorem dX2_tell_75 : decode cX2_tell 75 = .ok (.ireturn, 1) := by decide +kernel
theorem dX2_tell_76 : decode cX2_tell 76 = .ok (.aload_n 0, 1) := by decide +kernel
theorem dX2_tell_77 : decode cX2_tell 77 = .ok (.aload_n 0, 1) := by decide +kernel
theorem dX2_tell_78 : decode cX2_tell 78 = .ok (.getfield 20, 3) := by decide +kernel
theorem dX2_tell_81 : decode cX2_tell 81 = .ok (.getfield 87, 3) := by decide +kernel
theorem dX2_tell_84 : decode cX2_tell 84 = .ok (.iload_n 1, 1) := by decide +kernel
theorem dX2_tell_85 : decode cX2_tell 85 = .ok (.iaload, 1) := by decide +kernel
theorem dX2_tell_86 : decode cX2_tell 86 = .ok (.invokevirtual 258, 3) := by decide +kernel
theorem dX2_tell_89 : decode cX2_tell 89 = .ok (.ireturn, 1) := by decide +kernel
set_option maxRecDepth 20000 in
theorem ggX2_chalk_X0_has : GoodIn wsX2_chalk wsX0_has := goodIn_r _ [7, 8, 24, 25, 26, 27, 28, 29] (by decide +kernel) (by decide +kernel)
set_option maxRecDepth 20000 in
theorem gX2_chalk_X0_has : GoodIn wsX2_chalk (wsV RX2 78 RX0 yX0_has wsX0_has) := goodIn_app (goodIn_of _ (by decide +kernel)) ggX2_chalk_X0_has
set_option maxRecDepth 20000 in
theorem ggX2_chalk_X2_leaveInTrace : GoodIn wsX2_chalk wsX2_leaveInTrace := goodIn_r _ [13, 14, 15, 16, 17, 18, 19, 20, 21, 22, 23] (by decide +kernel) (by decide +kernel)
set_option maxRecDepth 20000 in
theorem gX2_chalk_X2_leaveInTrace : GoodIn wsX2_chalk (wsV RX2 261 RX2 yX2_leaveInTrace wsX2_leaveInTrace) := goodIn_app (goodIn_of _ (by decide +kernel)) ggX2_chalk_X2_leaveInTrace
theorem dX2_chalk_0 : decode cX2_chalk 0 = .ok (.aload_n 0, 1) := by decide +kernel
theorem dX2_chalk_1 : decode cX2_chalk 1 = .ok (.getfield 20, 3) := by decide +kernel
theorem dX2_chalk_4 : decode cX2_chalk 4 = .ok (.iload_n 1, 1) := by decide +kernel
theorem dX2_chalk_5 : decode cX2_chalk 5 = .ok (.invokevirtual 78, 3) := by decide +kernel
theorem dX2_chalk_8 : decode cX2_chalk 8 = .ok (.ifCond .ne 5, 3) := by decide +kernel
theorem dX2_chalk_11 : decode cX2_chalk 11 = .ok (.iconst (-1), 1) := by decide +kernel
theorem dX2_chalk_12 : decode cX2_chalk 12 = .ok (.ireturn, 1) := by decide +kernel
theorem dX2_chalk_13 : decode cX2_chalk 13 = .ok (.aload_n 0, 1) := by decide +kernel
theorem dX2_chalk_14 : decode cX2_chalk 14 = .ok (.getfield 20, 3) := by decide +kernel
theorem dX2_chalk_17 : decode cX2_chalk 17 = .ok (.getfield 81, 3) := by decide +kernel
theorem dX2_chalk_20 : decode cX2_chalk 20 = .ok (.iload_n 1, 1) := by decide +kernel
theorem dX2_chalk_21 : decode cX2_chalk 21 = .ok (.iaload, 1) := by decide +kernel
theorem dX2_chalk_22 : decode cX2_chalk 22 = .ok (.iconst 2, 1) := by decide +kernel
theorem dX2_chalk_23 : decode cX2_chalk 23 = .ok (.if_icmp .ne 11, 3) := by decide +kernel
theorem dX2_chalk_26 : decode cX2_chalk 26 = .ok (.aload_n 0, 1) := by decide +kernel
theorem dX2_chalk_27 : decode cX2_chalk 27 = .ok (.iconst 5, 1) := by decide +kernel
theorem dX2_chalk_28 : decode cX2_chalk 28 = .ok (.invokevirtual 261, 3) := by decide +kernel
theorem dX2_chalk_31 : decode cX2_chalk 31 = .ok (.bipush 40, 2) := by decide +kernel
theorem dX2_chalk_33 : decode cX2_chalk 33 = .ok (.ireturn, 1) := by decide +kernel
theorem dX2_chalk_34 : decode cX2_chalk 34 = .ok (.aload_n 0, 1) := by decide +kernel
theorem dX2_chalk_35 : decode cX2_chalk 35 = .ok (.iconst 4, 1) := by decide +kernel
theorem dX2_chalk_36 : decode cX2_chalk 36 = .ok (.invokevirtual 261, 3) := by decide +kernel
theorem dX2_chalk_39 : decode cX2_chalk 39 = .ok (.iload_n 1, 1) := by decide +kernel
theorem dX2_chalk_40 : decode cX2_chalk 40 = .ok (.ireturn, 1) := by decide +kernel
set_option maxRecDepth 20000 in
theorem ggX2_as_X0_has : GoodIn wsX2_as wsX0_has := goodIn_r _ [8, 9, 24, 25, 26, 27, 28, 29] (by decide +kernel) (by decide +kernel)
set_option maxRecDepth 20000 in
theorem gX2_as_X0_has : GoodIn wsX2_as (wsV RX2 78 RX0 yX0_has wsX0_has) := goodIn_app (goodIn_of _ (by decide +kernel)) ggX2_as_X0_has
set_option maxRecDepth 20000 in
theorem ggX2_as_X2_faulted : GoodIn wsX2_as wsX2_faulted := goodIn_r _ [14, 1, 15, 16, 17, 18, 19, 20, 21, 22, 23] (by decide +kernel) (by decide +kernel)
set_option maxRecDepth 20000 in
theorem gX2_as_X2_faulted : GoodIn wsX2_as (wsV RX2 60 RX2 yX2_faulted wsX2_faulted) := goodIn_app (goodIn_of _ (by decide +kernel)) ggX2_as_X2_faulted
theorem dX2_as_0 : decode cX2_as 0 = .ok (.aload_n 0, 1) := by decide +kernel
theorem dX2_as_1 : decode cX2_as 1 = .ok (.iconst 0, 1) := by decide +kernel
theorem dX2_as_2 : decode cX2_as 2 = .ok (.putfield 44, 3) := by decide +kernel
theorem dX2_as_5 : decode cX2_as 5 = .ok (.aload_n 0, 1) := by decide +kernel
theorem dX2_as_6 : decode cX2_as 6 = .ok (.getfield 20, 3) := by decide +kernel
theorem dX2_as_9 : decode cX2_as 9 = .ok (.iload_n 1, 1) := by decide +kernel
theorem dX2_as_10 : decode cX2_as 10 = .ok (.invokevirtual 78, 3) := by decide +kernel
theorem dX2_as_13 : decode cX2_as 13 = .ok (.ifCond .ne 5, 3) := by decide +kernel
theorem dX2_as_16 : decode cX2_as 16 = .ok (.iconst (-1), 1) := by decide +kernel
theorem dX2_as_17 : decode cX2_as 17 = .ok (.ireturn, 1) := by decide +kernel
theorem dX2_as_18 : decode cX2_as 18 = .ok (.iload_n 2, 1) := by decide +kernel
theorem dX2_as_19 : decode cX2_as 19 = .ok (.ifCond .lt 8, 3) := by decide +kernel
theorem dX2_as_22 : decode cX2_as 22 = .ok (.iload_n 2, 1) := by decide +kernel
theorem dX2_as_23 : decode cX2_as 23 = .ok (.iconst 2, 1) := by decide +kernel
theorem dX2_as_24 : decode cX2_as 24 = .ok (.if_icmp .le 6, 3) := by decide +kernel
theorem dX2_as_27 : decode cX2_as 27 = .ok (.bipush (-2), 2) := by decide +kernel
theorem dX2_as_29 : decode cX2_as 29 = .ok (.ireturn, 1) := by decide +kernel
theorem dX2_as_30 : decode cX2_as 30 = .ok (.aload_n 0, 1) := by decide +kernel
theorem dX2_as_31 : decode cX2_as 31 = .ok (.getfield 20, 3) := by decide +kernel
theorem dX2_as_34 : decode cX2_as 34 = .ok (.getfield 81, 3) := by decide +kernel
theorem dX2_as_37 : decode cX2_as 37 = .ok (.iload_n 1, 1) := by decide +kernel
theorem dX2_as_38 : decode cX2_as 38 = .ok (.iaload, 1) := by decide +kernel
theorem dX2_as_39 : decode cX2_as 39 = .ok (.iload_n 2, 1) := by decide +kernel
theorem dX2_as_40 : decode cX2_as 40 = .ok (.if_icmp .lt 7, 3) := by decide +kernel
theorem dX2_as_43 : decode cX2_as 43 = .ok (.iconst 1, 1) := by decide +kernel
theorem dX2_as_44 : decode cX2_as 44 = .ok (.goto 8, 3) := by decide +kernel
theorem dX2_as_47 : decode cX2_as 47 = .ok (.aload_n 0, 1) := by decide +kernel
theorem dX2_as_48 : decode cX2_as 48 = .ok (.iconst 2, 1) := by decide +kernel
theorem dX2_as_49 : decode cX2_as 49 = .ok (.invokevirtual 60, 3) := by decide +kernel
theorem dX2_as_52 : decode cX2_as 52 = .ok (.ireturn, 1) := by decide +kernel
theorem dX2_trace_0 : decode cX2_trace 0 = .ok (.aload_n 0, 1) := by decide +kernel
theorem dX2_trace_1 : decode cX2_trace 1 = .ok (.getfield 41, 3) := by decide +kernel
theorem dX2_trace_4 : decode cX2_trace 4 = .ok (.ireturn, 1) := by decide +kernel
theorem dX2_fault_0 : decode cX2_fault 0 = .ok (.aload_n 0, 1) := by decide +kernel
theorem dX2_fault_1 : decode cX2_fault 1 = .ok (.getfield 44, 3) := by decide +kernel
theorem dX2_fault_4 : decode cX2_fault 4 = .ok (.ireturn, 1) := by decide +kernel
set_option maxRecDepth 20000 in
theorem ggX2_many_J6_bitCount_0f7a4 : GoodIn wsX2_many wsJ6_bitCount_0f7a4 := goodIn_r _ [8, 9, 10, 11] (by decide +kernel) (by decide +kernel)
set_option maxRecDepth 20000 in
theorem gX2_many_J6_bitCount_0f7a4 : GoodIn wsX2_many (va_wsS RX2 152 yJ6_bitCount_0f7a4 wsJ6_bitCount_0f7a4) := goodIn_app (goodIn_of _ (by decide +kernel)) ggX2_many_J6_bitCount_0f7a4
set_option maxRecDepth 20000 in
theorem ggX2_many_X0_votesOfStripes : GoodIn wsX2_many wsX0_votesOfStripes := goodIn_r _ [16, 17, 18, 19, 20, 21, 22, 23, 24, 15, 25, 26, 27, 28, 29, 30, 31, 32, 33, 34, 35, 36, 37, 38, 39, 40, 41, 42, 52, 53, 54, 55, 56, 57] (by decide +kernel) (by decide +kernel)
set_option maxRecDepth 20000 in
theorem gX2_many_X0_votesOfStripes : GoodIn wsX2_many (wsV RX2 197 RX0 yX0_votesOfStripes wsX0_votesOfStripes) := goodIn_app (goodIn_of _ (by decide +kernel)) ggX2_many_X0_votesOfStripes
theorem dX2_many_0 : decode cX2_many 0 = .ok (.iload_n 1, 1) := by decide +kernel
theorem dX2_many_1 : decode cX2_many 1 = .ok (.tableswitch 65 0 3 #[31, 39, 50, 60], 31) := by decide +kernel
theorem dX2_many_32 : decode cX2_many 32 = .ok (.aload_n 0, 1) := by decide +kernel
theorem dX2_many_33 : decode cX2_many 33 = .ok (.getfield 20, 3) := by decide +kernel
theorem dX2_many_36 : decode cX2_many 36 = .ok (.getfield 75, 3) := by decide +kernel
theorem dX2_many_39 : decode cX2_many 39 = .ok (.ireturn, 1) := by decide +kernel
theorem dX2_many_40 : decode cX2_many 40 = .ok (.aload_n 0, 1) := by decide +kernel
theorem dX2_many_41 : decode cX2_many 41 = .ok (.getfield 20, 3) := by decide +kernel
theorem dX2_many_44 : decode cX2_many 44 = .ok (.getfield 136, 3) := by decide +kernel
theorem dX2_many_47 : decode cX2_many 47 = .ok (.invokestatic 152, 3) := by decide +kernel
theorem dX2_many_50 : decode cX2_many 50 = .ok (.ireturn, 1) := by decide +kernel
theorem dX2_many_51 : decode cX2_many 51 = .ok (.aload_n 0, 1) := by decide +kernel
theorem dX2_many_52 : decode cX2_many 52 = .ok (.getfield 20, 3) := by decide +kernel
theorem dX2_many_55 : decode cX2_many 55 = .ok (.bipush 15, 2) := by decide +kernel
theorem dX2_many_57 : decode cX2_many 57 = .ok (.invokevirtual 197, 3) := by decide +kernel
theorem dX2_many_60 : decode cX2_many 60 = .ok (.ireturn, 1) := by decide +kernel
theorem dX2_many_61 : decode cX2_many 61 = .ok (.aload_n 0, 1) := by decide +kernel
theorem dX2_many_62 : decode cX2_many 62 = .ok (.getfield 37, 3) := by decide +kernel
theorem dX2_many_65 : decode cX2_many 65 = .ok (.ireturn, 1) := by decide +kernel
theorem dX2_many_66 : decode cX2_many 66 = .ok (.bipush (-2), 2) := by decide +kernel
theorem dX2_many_68 : decode cX2_many 68 = .ok (.ireturn, 1) := by decide +kernel
theorem dX2_sheetAt_0 : decode cX2_sheetAt 0 = .ok (.iload_n 1, 1) := by decide +kernel
theorem dX2_sheetAt_1 : decode cX2_sheetAt 1 = .ok (.ifCond .lt 21, 3) := by decide +kernel
theorem dX2_sheetAt_4 : decode cX2_sheetAt 4 = .ok (.iload_n 1, 1) := by decide +kernel
theorem dX2_sheetAt_5 : decode cX2_sheetAt 5 = .ok (.aload_n 0, 1) := by decide +kernel
theorem dX2_sheetAt_6 : decode cX2_sheetAt 6 = .ok (.getfield 13, 3) := by decide +kernel
theorem dX2_sheetAt_9 : decode cX2_sheetAt 9 = .ok (.arraylength, 1) := by decide +kernel
theorem dX2_sheetAt_10 : decode cX2_sheetAt 10 = .ok (.if_icmp .ge 12, 3) := by decide +kernel
theorem dX2_sheetAt_13 : decode cX2_sheetAt 13 = .ok (.aload_n 0, 1) := by decide +kernel
theorem dX2_sheetAt_14 : decode cX2_sheetAt 14 = .ok (.getfield 13, 3) := by decide +kernel
theorem dX2_sheetAt_17 : decode cX2_sheetAt 17 = .ok (.iload_n 1, 1) := by decide +kernel
theorem dX2_sheetAt_18 : decode cX2_sheetAt 18 = .ok (.aaload, 1) := by decide +kernel
theorem dX2_sheetAt_19 : decode cX2_sheetAt 19 = .ok (.goto 4, 3) := by decide +kernel
theorem dX2_sheetAt_22 : decode cX2_sheetAt 22 = .ok (.aconst_null, 1) := by decide +kernel
theorem dX2_sheetAt_23 : decode cX2_sheetAt 23 = .ok (.areturn, 1) := by decide +kernel
theorem dX2_isLane_0 : decode cX2_isLane 0 = .ok (.iload_n 0, 1) := by decide +kernel
theorem dX2_isLane_1 : decode cX2_isLane 1 = .ok (.ifCond .lt 12, 3) := by decide +kernel
theorem dX2_isLane_4 : decode cX2_isLane 4 = .ok (.iload_n 0, 1) := by decide +kernel
theorem dX2_isLane_5 : decode cX2_isLane 5 = .ok (.iconst 2, 1) := by decide +kernel
theorem dX2_isLane_6 : decode cX2_isLane 6 = .ok (.if_icmp .gt 7, 3) := by decide +kernel
theorem dX2_isLane_9 : decode cX2_isLane 9 = .ok (.iconst 1, 1) := by decide +kernel
theorem dX2_isLane_10 : decode cX2_isLane 10 = .ok (.goto 4, 3) := by decide +kernel
theorem dX2_isLane_13 : decode cX2_isLane 13 = .ok (.iconst 0, 1) := by decide +kernel
theorem dX2_isLane_14 : decode cX2_isLane 14 = .ok (.ireturn, 1) := by decide +kernel
theorem dX2_faulted_0 : decode cX2_faulted 0 = .ok (.aload_n 0, 1) := by decide +kernel
theorem dX2_faulted_1 : decode cX2_faulted 1 = .ok (.iload_n 1, 1) := by decide +kernel
theorem dX2_faulted_2 : decode cX2_faulted 2 = .ok (.putfield 44, 3) := by decide +kernel
theorem dX2_faulted_5 : decode cX2_faulted 5 = .ok (.bipush (-10), 2) := by decide +kernel
theorem dX2_faulted_7 : decode cX2_faulted 7 = .ok (.iload_n 1, 1) := by decide +kernel
theorem dX2_faulted_8 : decode cX2_faulted 8 = .ok (.isub, 1) := by decide +kernel
theorem dX2_faulted_9 : decode cX2_faulted 9 = .ok (.ireturn, 1) := by decide +kernel
set_option maxRecDepth 20000 in
theorem ggX2_toldAsPlain_X2_leaveInTrace : GoodIn wsX2_toldAsPlain wsX2_leaveInTrace := goodIn_r _ [5, 6, 7, 8, 9, 10, 11, 12, 13, 14, 15] (by decide +kernel) (by decide +kernel)
set_option maxRecDepth 20000 in
theorem gX2_toldAsPlain_X2_leaveInTrace : GoodIn wsX2_toldAsPlain (wsV RX2 261 RX2 yX2_leaveInTrace wsX2_leaveInTrace) := goodIn_app (goodIn_of _ (by decide +kernel)) ggX2_toldAsPlain_X2_leaveInTrace
theorem dX2_toldAsPlain_0 : decode cX2_toldAsPlain 0 = .ok (.aload_n 0, 1) := by decide +kernel
theorem dX2_toldAsPlain_1 : decode cX2_toldAsPlain 1 = .ok (.iconst 1, 1) := by decide +kernel
theorem dX2_toldAsPlain_2 : decode cX2_toldAsPlain 2 = .ok (.invokevirtual 261, 3) := by decide +kernel
theorem dX2_toldAsPlain_5 : decode cX2_toldAsPlain 5 = .ok (.iload_n 1, 1) := by decide +kernel
theorem dX2_toldAsPlain_6 : decode cX2_toldAsPlain 6 = .ok (.ireturn, 1) := by decide +kernel
set_option maxRecDepth 20000 in
theorem ggX2_toldAsShaded_X2_leaveInTrace : GoodIn wsX2_toldAsShaded wsX2_leaveInTrace := goodIn_r _ [5, 6, 11, 12, 13, 14, 15, 16, 17, 18, 19] (by decide +kernel) (by decide +kernel)
set_option maxRecDepth 20000 in
theorem gX2_toldAsShaded_X2_leaveInTrace : GoodIn wsX2_toldAsShaded (wsV RX2 261 RX2 yX2_leaveInTrace wsX2_leaveInTrace) := goodIn_app (goodIn_of _ (by decide +kernel)) ggX2_toldAsShaded_X2_leaveInTrace
set_option maxRecDepth 20000 in
theorem ggX2_toldAsShaded_X2_toldAsPlain : GoodIn wsX2_toldAsShaded wsX2_toldAsPlain := goodIn_r _ [10, 1, 2, 3, 4, 5, 6, 11, 12, 13, 14, 15, 16, 17, 18, 19] (by decide +kernel) (by decide +kernel)
set_option maxRecDepth 20000 in
theorem gX2_toldAsShaded_X2_toldAsPlain : GoodIn wsX2_toldAsShaded (wsV RX2 252 RX2 yX2_toldAsPlain wsX2_toldAsPlain) := goodIn_app (goodIn_of _ (by decide +kernel)) ggX2_toldAsShaded_X2_toldAsPlain
theorem dX2_toldAsShaded_0 : decode cX2_toldAsShaded 0 = .ok (.aload_n 0, 1) := by decide +kernel
theorem dX2_toldAsShaded_1 : decode cX2_toldAsShaded 1 = .ok (.iconst 2, 1) := by decide +kernel
theorem dX2_toldAsShaded_2 : decode cX2_toldAsShaded 2 = .ok (.invokevirtual 261, 3) := by decide +kernel
theorem dX2_toldAsShaded_5 : decode cX2_toldAsShaded 5 = .ok (.aload_n 0, 1) := by decide +kernel
theorem dX2_toldAsShaded_6 : decode cX2_toldAsShaded 6 = .ok (.iload_n 1, 1) := by decide +kernel
theorem dX2_toldAsShaded_7 : decode cX2_toldAsShaded 7 = .ok (.invokevirtual 252, 3) := by decide +kernel
theorem dX2_toldAsShaded_10 : decode cX2_toldAsShaded 10 = .ok (.bipush 100, 2) := by decide +kernel
theorem dX2_toldAsShaded_12 : decode cX2_toldAsShaded 12 = .ok (.iadd, 1) := by decide +kernel
theorem dX2_toldAsShaded_13 : decode cX2_toldAsShaded 13 = .ok (.ireturn, 1) := by decide +kernel
set_option maxRecDepth 20000 in
theorem ggX2_toldAsBroken_X2_leaveInTrace : GoodIn wsX2_toldAsBroken wsX2_leaveInTrace := goodIn_r _ [5, 6, 15, 16, 17, 18, 19, 20, 21, 22, 23] (by decide +kernel) (by decide +kernel)
set_option maxRecDepth 20000 in
theorem gX2_toldAsBroken_X2_leaveInTrace : GoodIn wsX2_toldAsBroken (wsV RX2 261 RX2 yX2_leaveInTrace wsX2_leaveInTrace) := goodIn_app (goodIn_of _ (by decide +kernel)) ggX2_toldAsBroken_X2_leaveInTrace
set_option maxRecDepth 20000 in
theorem ggX2_toldAsBroken_X2_toldAsShaded : GoodIn wsX2_toldAsBroken wsX2_toldAsShaded := goodIn_r _ [10, 1, 2, 3, 4, 5, 6, 11, 12, 13, 14, 15, 16, 17, 18, 19, 20, 21, 22, 23] (by decide +kernel) (by decide +kernel)
set_option maxRecDepth 20000 in
theorem gX2_toldAsBroken_X2_toldAsShaded : GoodIn wsX2_toldAsBroken (wsV RX2 255 RX2 yX2_toldAsShaded wsX2_toldAsShaded) := goodIn_app (goodIn_of _ (by decide +kernel)) ggX2_toldAsBroken_X2_toldAsShaded
set_option maxRecDepth 20000 in
theorem ggX2_toldAsBroken_X2_toldAsPlain : GoodIn wsX2_toldAsBroken wsX2_toldAsPlain := goodIn_r _ [14, 1, 2, 3, 4, 5, 6, 15, 16, 17, 18, 19, 20, 21, 22, 23] (by decide +kernel) (by decide +kernel)
set_option maxRecDepth 20000 in
theorem gX2_toldAsBroken_X2_toldAsPlain : GoodIn wsX2_toldAsBroken (wsV RX2 252 RX2 yX2_toldAsPlain wsX2_toldAsPlain) := goodIn_app (goodIn_of _ (by decide +kernel)) ggX2_toldAsBroken_X2_toldAsPlain
theorem dX2_toldAsBroken_0 : decode cX2_toldAsBroken 0 = .ok (.aload_n 0, 1) := by decide +kernel
theorem dX2_toldAsBroken_1 : decode cX2_toldAsBroken 1 = .ok (.iconst 3, 1) := by decide +kernel
theorem dX2_toldAsBroken_2 : decode cX2_toldAsBroken 2 = .ok (.invokevirtual 261, 3) := by decide +kernel
theorem dX2_toldAsBroken_5 : decode cX2_toldAsBroken 5 = .ok (.aload_n 0, 1) := by decide +kernel
theorem dX2_toldAsBroken_6 : decode cX2_toldAsBroken 6 = .ok (.iload_n 1, 1) := by decide +kernel
theorem dX2_toldAsBroken_7 : decode cX2_toldAsBroken 7 = .ok (.invokevirtual 255, 3) := by decide +kernel
theorem dX2_toldAsBroken_10 : decode cX2_toldAsBroken 10 = .ok (.istore_n 2, 1) := by decide +kernel
theorem dX2_toldAsBroken_11 : decode cX2_toldAsBroken 11 = .ok (.iload_n 2, 1) := by decide +kernel
theorem dX2_toldAsBroken_12 : decode cX2_toldAsBroken 12 = .ok (.aload_n 0, 1) := by decide +kernel
theorem dX2_toldAsBroken_13 : decode cX2_toldAsBroken 13 = .ok (.iload_n 1, 1) := by decide +kernel
theorem dX2_toldAsBroken_14 : decode cX2_toldAsBroken 14 = .ok (.invokevirtual 252, 3) := by decide +kernel
theorem dX2_toldAsBroken_17 : decode cX2_toldAsBroken 17 = .ok (.iadd, 1) := by decide +kernel
theorem dX2_toldAsBroken_18 : decode cX2_toldAsBroken 18 = .ok (.ireturn, 1) := by decide +kernel
theorem dX2_leaveInTrace_0 : decode cX2_leaveInTrace 0 = .ok (.aload_n 0, 1) := by decide +kernel
theorem dX2_leaveInTrace_1 : decode cX2_leaveInTrace 1 = .ok (.bipush 31, 2) := by decide +kernel
theorem dX2_leaveInTrace_3 : decode cX2_leaveInTrace 3 = .ok (.aload_n 0, 1) := by decide +kernel
theorem dX2_leaveInTrace_4 : decode cX2_leaveInTrace 4 = .ok (.getfield 41, 3) := by decide +kernel
theorem dX2_leaveInTrace_7 : decode cX2_leaveInTrace 7 = .ok (.imul, 1) := by decide +kernel
theorem dX2_leaveInTrace_8 : decode cX2_leaveInTrace 8 = .ok (.iload_n 1, 1) := by decide +kernel
theorem dX2_leaveInTrace_9 : decode cX2_leaveInTrace 9 = .ok (.iadd, 1) := by decide +kernel
theorem dX2_leaveInTrace_10 : decode cX2_leaveInTrace 10 = .ok (.putfield 41, 3) := by decide +kernel
theorem dX2_leaveInTrace_13 : decode cX2_leaveInTrace 13 = .ok (.return_, 1) := by decide +kernel
theorem dX3_init_0 : decode cX3_init 0 = .ok (.aload_n 0, 1) := by decide +kernel
theorem dX3_init_1 : decode cX3_init 1 = .ok (.invokespecial 1, 3) := by decide +kernel
theorem dX3_init_4 : decode cX3_init 4 = .ok (.aload_n 0, 1) := by decide +kernel
theorem dX3_init_5 : decode cX3_init 5 = .ok (.bipush 8, 2) := by decide +kernel
theorem dX3_init_7 : decode cX3_init 7 = .ok (.newarray .int, 2) := by decide +kernel
theorem dX3_init_9 : decode cX3_init 9 = .ok (.putfield 7, 3) := by decide +kernel
theorem dX3_init_12 : decode cX3_init 12 = .ok (.aload_n 0, 1) := by decide +kernel
theorem dX3_init_13 : decode cX3_init 13 = .ok (.bipush 8, 2) := by decide +kernel
theorem dX3_init_15 : decode cX3_init 15 = .ok (.newarray .int, 2) := by decide +kernel
theorem dX3_init_17 : decode cX3_init 17 = .ok (.putfield 13, 3) := by decide +kernel
theorem dX3_init_20 : decode cX3_init 20 = .ok (.aload_n 0, 1) := by decide +kernel
theorem dX3_init_21 : decode cX3_init 21 = .ok (.bipush 8, 2) := by decide +kernel
theorem dX3_init_23 : decode cX3_init 23 = .ok (.newarray .int, 2) := by decide +kernel
theorem dX3_init_25 : decode cX3_init 25 = .ok (.putfield 16, 3) := by decide +kernel
theorem dX3_init_28 : decode cX3_init 28 = .ok (.aload_n 0, 1) := by decide +kernel
theorem dX3_init_29 : decode cX3_init 29 = .ok (.bipush 8, 2) := by decide +kernel
theorem dX3_init_31 : decode cX3_init 31 = .ok (.newarray .int, 2) := by decide +kernel
theorem dX3_init_33 : decode cX3_init 33 = .ok (.putfield 19, 3) := by decide +kernel
theorem dX3_init_36 : decode cX3_init 36 = .ok (.aload_n 0, 1) := by decide +kernel
theorem dX3_init_37 : decode cX3_init 37 = .ok (.bipush 8, 2) := by decide +kernel
theorem dX3_init_39 : decode cX3_init 39 = .ok (.newarray .int, 2) := by decide +kernel
theorem dX3_init_41 : decode cX3_init 41 = .ok (.putfield 22, 3) := by decide +kernel
theorem dX3_init_44 : decode cX3_init 44 = .ok (.aload_n 0, 1) := by decide +kernel
theorem dX3_init_45 : decode cX3_init 45 = .ok (.bipush 8, 2) := by decide +kernel
theorem dX3_init_47 : decode cX3_init 47 = .ok (.newarray .int, 2) := by decide +kernel
theorem dX3_init_49 : decode cX3_init 49 = .ok (.putfield 25, 3) := by decide +kernel
theorem dX3_init_52 : decode cX3_init 52 = .ok (.aload_n 0, 1) := by decide +kernel
theorem dX3_init_53 : decode cX3_init 53 = .ok (.bipush 8, 2) := by decide +kernel
theorem dX3_init_55 : decode cX3_init 55 = .ok (.newarray .int, 2) := by decide +kernel
theorem dX3_init_57 : decode cX3_init 57 = .ok (.putfield 28, 3) := by decide +kernel
theorem dX3_init_60 : decode cX3_init 60 = .ok (.aload_n 0, 1) := by decide +kernel
theorem dX3_init_61 : decode cX3_init 61 = .ok (.bipush 8, 2) := by decide +kernel
theorem dX3_init_63 : decode cX3_init 63 = .ok (.newarray .int, 2) := by decide +kernel
theorem dX3_init_65 : decode cX3_init 65 = .ok (.putfield 31, 3) := by decide +kernel
theorem dX3_init_68 : decode cX3_init 68 = .ok (.aload_n 0, 1) := by decide +kernel
theorem dX3_init_69 : decode cX3_init 69 = .ok (.bipush 8, 2) := by decide +kernel
theorem dX3_init_71 : decode cX3_init 71 = .ok (.newarray .int, 2) := by decide +kernel
theorem dX3_init_73 : decode cX3_init 73 = .ok (.putfield 34, 3) := by decide +kernel
theorem dX3_init_76 : decode cX3_init 76 = .ok (.aload_n 0, 1) := by decide +kernel
theorem dX3_init_77 : decode cX3_init 77 = .ok (.bipush 8, 2) := by decide +kernel
theorem dX3_init_79 : decode cX3_init 79 = .ok (.newarray .int, 2) := by decide +kernel
theorem dX3_init_81 : decode cX3_init 81 = .ok (.putfield 37, 3) := by decide +kernel
theorem dX3_init_84 : decode cX3_init 84 = .ok (.aload_n 0, 1) := by decide +kernel
theorem dX3_init_85 : decode cX3_init 85 = .ok (.bipush 8, 2) := by decide +kernel
theorem dX3_init_87 : decode cX3_init 87 = .ok (.newarray .int, 2) := by decide +kernel
theorem dX3_init_89 : decode cX3_init 89 = .ok (.putfield 40, 3) := by decide +kernel
theorem dX3_init_92 : decode cX3_init 92 = .ok (.aload_n 0, 1) := by decide +kernel
theorem dX3_init_93 : decode cX3_init 93 = .ok (.iconst 4, 1) := by decide +kernel
theorem dX3_init_94 : decode cX3_init 94 = .ok (.newarray .int, 2) := by decide +kernel
theorem dX3_init_96 : decode cX3_init 96 = .ok (.putfield 43, 3) := by decide +kernel
theorem dX3_init_99 : decode cX3_init 99 = .ok (.aload_n 0, 1) := by decide +kernel
theorem dX3_init_100 : decode cX3_init 100 = .ok (.iconst 4, 1) := by decide +kernel
theorem dX3_init_101 : decode cX3_init 101 = .ok (.newarray .int, 2) := by decide +kernel
theorem dX3_init_103 : decode cX3_init 103 = .ok (.putfield 46, 3) := by decide +kernel
theorem dX3_init_106 : decode cX3_init 106 = .ok (.aload_n 0, 1) := by decide +kernel
theorem dX3_init_107 : decode cX3_init 107 = .ok (.sipush 240, 3) := by decide +kernel
theorem dX3_init_110 : decode cX3_init 110 = .ok (.newarray .int, 2) := by decide +kernel
theorem dX3_init_112 : decode cX3_init 112 = .ok (.putfield 49, 3) := by decide +kernel
theorem dX3_init_115 : decode cX3_init 115 = .ok (.aload_n 0, 1) := by decide +kernel
theorem dX3_init_116 : decode cX3_init 116 = .ok (.bipush 60, 2) := by decide +kernel
theorem dX3_init_118 : decode cX3_init 118 = .ok (.newarray .int, 2) := by decide +kernel
theorem dX3_init_120 : decode cX3_init 120 = .ok (.putfield 52, 3) := by decide +kernel
theorem dX3_init_123 : decode cX3_init 123 = .ok (.iconst 0, 1) := by decide +kernel
theorem dX3_init_124 : decode cX3_init 124 = .ok (.istore_n 1, 1) := by decide +kernel
theorem dX3_init_125 : decode cX3_init 125 = .ok (.iload_n 1, 1) := by decide +kernel
theorem dX3_init_126 : decode cX3_init 126 = .ok (.iconst 4, 1) := by decide +kernel
theorem dX3_init_127 : decode cX3_init 127 = .ok (.if_icmp .ge 16, 3) := by decide +kernel
theorem dX3_init_130 : decode cX3_init 130 = .ok (.aload_n 0, 1) := by decide +kernel
theorem dX3_init_131 : decode cX3_init 131 = .ok (.getfield 43, 3) := by decide +kernel
theorem dX3_init_134 : decode cX3_init 134 = .ok (.iload_n 1, 1) := by decide +kernel
theorem dX3_init_135 : decode cX3_init 135 = .ok (.iconst (-1), 1) := by decide +kernel
theorem dX3_init_136 : decode cX3_init 136 = .ok (.iastore, 1) := by decide +kernel
theorem dX3_init_137 : decode cX3_init 137 = .ok (.iinc 1 1, 3) := by decide +kernel
theorem dX3_init_140 : decode cX3_init 140 = .ok (.goto (-15), 3) := by decide +kernel
theorem dX3_init_143 : decode cX3_init 143 = .ok (.return_, 1) := by decide +kernel
theorem dX3_in_0 : decode cX3_in 0 = .ok (.lload_n 0, 1) := by decide +kernel
theorem dX3_in_1 : decode cX3_in 1 = .ok (.lload_n 2, 1) := by decide +kernel
theorem dX3_in_2 : decode cX3_in 2 = .ok (.lcmp, 1) := by decide +kernel
theorem dX3_in_3 : decode cX3_in 3 = .ok (.ifCond .lt 14, 3) := by decide +kernel
theorem dX3_in_6 : decode cX3_in 6 = .ok (.lload_n 0, 1) := by decide +kernel
theorem dX3_in_7 : decode cX3_in 7 = .ok (.lload 4, 2) := by decide +kernel
theorem dX3_in_9 : decode cX3_in 9 = .ok (.lcmp, 1) := by decide +kernel
theorem dX3_in_10 : decode cX3_in 10 = .ok (.ifCond .gt 7, 3) := by decide +kernel
theorem dX3_in_13 : decode cX3_in 13 = .ok (.iconst 1, 1) := by decide +kernel
theorem dX3_in_14 : decode cX3_in 14 = .ok (.goto 4, 3) := by decide +kernel
theorem dX3_in_17 : decode cX3_in 17 = .ok (.iconst 0, 1) := by decide +kernel
theorem dX3_in_18 : decode cX3_in 18 = .ok (.ireturn, 1) := by decide +kernel
theorem dX3_lost_0 : decode cX3_lost 0 = .ok (.ldc2_w 55, 3) := by decide +kernel
theorem dX3_lost_3 : decode cX3_lost 3 = .ok (.lreturn, 1) := by decide +kernel
theorem dX3_isIn_0 : decode cX3_isIn 0 = .ok (.iload_n 0, 1) := by decide +kernel
theorem dX3_isIn_1 : decode cX3_isIn 1 = .ok (.iload_n 1, 1) := by decide +kernel
theorem dX3_isIn_2 : decode cX3_isIn 2 = .ok (.ishr, 1) := by decide +kernel
theorem dX3_isIn_3 : decode cX3_isIn 3 = .ok (.iconst 1, 1) := by decide +kernel
theorem dX3_isIn_4 : decode cX3_isIn 4 = .ok (.iand, 1) := by decide +kernel
theorem dX3_isIn_5 : decode cX3_isIn 5 = .ok (.iconst 1, 1) := by decide +kernel
theorem dX3_isIn_6 : decode cX3_isIn 6 = .ok (.if_icmp .ne 7, 3) := by decide +kernel
theorem dX3_isIn_9 : decode cX3_isIn 9 = .ok (.iconst 1, 1) := by decide +kernel
theorem dX3_isIn_10 : decode cX3_isIn 10 = .ok (.goto 4, 3) := by decide +kernel
theorem dX3_isIn_13 : decode cX3_isIn 13 = .ok (.iconst 0, 1) := by decide +kernel
theorem dX3_isIn_14 : decode cX3_isIn 14 = .ok (.ireturn, 1) := by decide +kernel
theorem dX3_bits_0 : decode cX3_bits 0 = .ok (.iconst 0, 1) := by decide +kernel
theorem dX3_bits_1 : decode cX3_bits 1 = .ok (.istore_n 1, 1) := by decide +kernel
theorem dX3_bits_2 : decode cX3_bits 2 = .ok (.iload_n 0, 1) := by decide +kernel
theorem dX3_bits_3 : decode cX3_bits 3 = .ok (.istore_n 2, 1) := by decide +kernel
theorem dX3_bits_4 : decode cX3_bits 4 = .ok (.iload_n 2, 1) := by decide +kernel
theorem dX3_bits_5 : decode cX3_bits 5 = .ok (.ifCond .le 16, 3) := by decide +kernel
theorem dX3_bits_8 : decode cX3_bits 8 = .ok (.iload_n 1, 1) := by decide +kernel
theorem dX3_bits_9 : decode cX3_bits 9 = .ok (.iload_n 2, 1) := by decide +kernel
theorem dX3_bits_10 : decode cX3_bits 10 = .ok (.iconst 1, 1) := by decide +kernel
theorem dX3_bits_11 : decode cX3_bits 11 = .ok (.iand, 1) := by decide +kernel
theorem dX3_bits_12 : decode cX3_bits 12 = .ok (.iadd, 1) := by decide +kernel
theorem dX3_bits_13 : decode cX3_bits 13 = .ok (.istore_n 1, 1) := by decide +kernel
theorem dX3_bits_14 : decode cX3_bits 14 = .ok (.iload_n 2, 1) := by decide +kernel
theorem dX3_bits_15 : decode cX3_bits 15 = .ok (.iconst 1, 1) := by decide +kernel
theorem dX3_bits_16 : decode cX3_bits 16 = .ok (.ishr, 1) := by decide +kernel
theorem dX3_bits_17 : decode cX3_bits 17 = .ok (.istore_n 2, 1) := by decide +kernel
theorem dX3_bits_18 : decode cX3_bits 18 = .ok (.goto (-14), 3) := by decide +kernel
theorem dX3_bits_21 : decode cX3_bits 21 = .ok (.iload_n 1, 1) := by decide +kernel
theorem dX3_bits_22 : decode cX3_bits 22 = .ok (.ireturn, 1) := by decide +kernel
theorem dX3_share_0 : decode cX3_share 0 = .ok (.lload_n 0, 1) := by decide +kernel
theorem dX3_share_1 : decode cX3_share 1 = .ok (.lstore 5, 2) := by decide +kernel
theorem dX3_share_3 : decode cX3_share 3 = .ok (.lload_n 2, 1) := by decide +kernel
theorem dX3_share_4 : decode cX3_share 4 = .ok (.lstore 7, 2) := by decide +kernel
theorem dX3_share_6 : decode cX3_share 6 = .ok (.lload 7, 2) := by decide +kernel
theorem dX3_share_8 : decode cX3_share 8 = .ok (.lconst 0, 1) := by decide +kernel
theorem dX3_share_9 : decode cX3_share 9 = .ok (.lcmp, 1) := by decide +kernel
theorem dX3_share_10 : decode cX3_share 10 = .ok (.ifCond .eq 21, 3) := by decide +kernel
theorem dX3_share_13 : decode cX3_share 13 = .ok (.lload 5, 2) := by decide +kernel
theorem dX3_share_15 : decode cX3_share 15 = .ok (.lload 7, 2) := by decide +kernel
theorem dX3_share_17 : decode cX3_share 17 = .ok (.lrem, 1) := by decide +kernel
theorem dX3_share_18 : decode cX3_share 18 = .ok (.lstore 9, 2) := by decide +kernel
theorem dX3_share_20 : decode cX3_share 20 = .ok (.lload 7, 2) := by decide +kernel
theorem dX3_share_22 : decode cX3_share 22 = .ok (.lstore 5, 2) := by decide +kernel
theorem dX3_share_24 : decode cX3_share 24 = .ok (.lload 9, 2) := by decide +kernel
theorem dX3_share_26 : decode cX3_share 26 = .ok (.lstore 7, 2) := by decide +kernel
theorem dX3_share_28 : decode cX3_share 28 = .ok (.goto (-22), 3) := by decide +kernel
theorem dX3_share_31 : decode cX3_share 31 = .ok (.iload 4, 2) := by decide +kernel
theorem dX3_share_33 : decode cX3_share 33 = .ok (.ifCond .ne 7, 3) := by decide +kernel
theorem dX3_share_36 : decode cX3_share 36 = .ok (.lload_n 0, 1) := by decide +kernel
theorem dX3_share_37 : decode cX3_share 37 = .ok (.goto 4, 3) := by decide +kernel
theorem dX3_share_40 : decode cX3_share 40 = .ok (.lload_n 2, 1) := by decide +kernel
theorem dX3_share_41 : decode cX3_share 41 = .ok (.lload 5, 2) := by decide +kernel
theorem dX3_share_43 : decode cX3_share 43 = .ok (.ldiv, 1) := by decide +kernel
theorem dX3_share_44 : decode cX3_share 44 = .ok (.lreturn, 1) := by decide +kernel
theorem dX3_refused_0 : decode cX3_refused 0 = .ok (.aload_n 0, 1) := by decide +kernel
theorem dX3_refused_1 : decode cX3_refused 1 = .ok (.iconst 0, 1) := by decide +kernel
theorem dX3_refused_2 : decode cX3_refused 2 = .ok (.putfield 57, 3) := by decide +kernel
theorem dX3_refused_5 : decode cX3_refused 5 = .ok (.iload_n 1, 1) := by decide +kernel
theorem dX3_refused_6 : decode cX3_refused 6 = .ok (.ireturn, 1) := by decide +kernel
theorem dX3_failed_0 : decode cX3_failed 0 = .ok (.aload_n 0, 1) := by decide +kernel
theorem dX3_failed_1 : decode cX3_failed 1 = .ok (.iload_n 1, 1) := by decide +kernel
theorem dX3_failed_2 : decode cX3_failed 2 = .ok (.putfield 57, 3) := by decide +kernel
theorem dX3_failed_5 : decode cX3_failed 5 = .ok (.bipush (-10), 2) := by decide +kernel
theorem dX3_failed_7 : decode cX3_failed 7 = .ok (.iload_n 1, 1) := by decide +kernel
theorem dX3_failed_8 : decode cX3_failed 8 = .ok (.isub, 1) := by decide +kernel
theorem dX3_failed_9 : decode cX3_failed 9 = .ok (.ireturn, 1) := by decide +kernel
set_option maxRecDepth 20000 in
theorem ggX3_failedLong_X3_lost : GoodIn wsX3_failedLong wsX3_lost := goodIn_r _ [5, 6] (by decide +kernel) (by decide +kernel)
set_option maxRecDepth 20000 in
theorem gX3_failedLong_X3_lost : GoodIn wsX3_failedLong (va_wsS RX3 61 yX3_lost wsX3_lost) := goodIn_app (goodIn_of _ (by decide +kernel)) ggX3_failedLong_X3_lost
theorem dX3_failedLong_0 : decode cX3_failedLong 0 = .ok (.aload_n 0, 1) := by decide +kernel
theorem dX3_failedLong_1 : decode cX3_failedLong 1 = .ok (.iload_n 1, 1) := by decide +kernel
theorem dX3_failedLong_2 : decode cX3_failedLong 2 = .ok (.putfield 57, 3) := by decide +kernel
theorem dX3_failedLong_5 : decode cX3_failedLong 5 = .ok (.invokestatic 61, 3) := by decide +kernel
theorem dX3_failedLong_8 : decode cX3_failedLong 8 = .ok (.lreturn, 1) := by decide +kernel
set_option maxRecDepth 20000 in
theorem ggX3_noChair_X3_in : GoodIn wsX3_noChair wsX3_in := goodIn_r _ [5] (by decide +kernel) (by decide +kernel)
set_option maxRecDepth 20000 in
theorem gX3_noChair_X3_in : GoodIn wsX3_noChair (va_wsS RX3 68 yX3_in wsX3_in) := goodIn_app (goodIn_of _ (by decide +kernel)) ggX3_noChair_X3_in
theorem dX3_noChair_0 : decode cX3_noChair 0 = .ok (.iload_n 1, 1) := by decide +kernel
theorem dX3_noChair_1 : decode cX3_noChair 1 = .ok (.i2l, 1) := by decide +kernel
theorem dX3_noChair_2 : decode cX3_noChair 2 = .ok (.lconst 0, 1) := by decide +kernel
theorem dX3_noChair_3 : decode cX3_noChair 3 = .ok (.aload_n 0, 1) := by decide +kernel
theorem dX3_noChair_4 : decode cX3_noChair 4 = .ok (.getfield 65, 3) := by decide +kernel
theorem dX3_noChair_7 : decode cX3_noChair 7 = .ok (.i2l, 1) := by decide +kernel
theorem dX3_noChair_8 : decode cX3_noChair 8 = .ok (.lconst 1, 1) := by decide +kernel
theorem dX3_noChair_9 : decode cX3_noChair 9 = .ok (.lsub, 1) := by decide +kernel
theorem dX3_noChair_10 : decode cX3_noChair 10 = .ok (.invokestatic 68, 3) := by decide +kernel
theorem dX3_noChair_13 : decode cX3_noChair 13 = .ok (.ifCond .ne 7, 3) := by decide +kernel
theorem dX3_noChair_16 : decode cX3_noChair 16 = .ok (.iconst 1, 1) := by decide +kernel
theorem dX3_noChair_17 : decode cX3_noChair 17 = .ok (.goto 4, 3) := by decide +kernel
theorem dX3_noChair_20 : decode cX3_noChair 20 = .ok (.iconst 0, 1) := by decide +kernel
theorem dX3_noChair_21 : decode cX3_noChair 21 = .ok (.ireturn, 1) := by decide +kernel
theorem dX3_everyChair_0 : decode cX3_everyChair 0 = .ok (.iconst 1, 1) := by decide +kernel
theorem dX3_everyChair_1 : decode cX3_everyChair 1 = .ok (.aload_n 0, 1) := by decide +kernel
theorem dX3_everyChair_2 : decode cX3_everyChair 2 = .ok (.getfield 65, 3) := by decide +kernel
theorem dX3_everyChair_5 : decode cX3_everyChair 5 = .ok (.ishl, 1) := by decide +kernel
theorem dX3_everyChair_6 : decode cX3_everyChair 6 = .ok (.iconst 1, 1) := by decide +kernel
theorem dX3_everyChair_7 : decode cX3_everyChair 7 = .ok (.isub, 1) := by decide +kernel
theorem dX3_everyChair_8 : decode cX3_everyChair 8 = .ok (.ireturn, 1) := by decide +kernel
theorem dX3_codeAt_0 : decode cX3_codeAt 0 = .ok (.aload_n 0, 1) := by decide +kernel
theorem dX3_codeAt_1 : decode cX3_codeAt 1 = .ok (.getfield 72, 3) := by decide +kernel
theorem dX3_codeAt_4 : decode cX3_codeAt 4 = .ok (.iload_n 2, 1) := by decide +kernel
theorem dX3_codeAt_5 : decode cX3_codeAt 5 = .ok (.if_icmp .ge 17, 3) := by decide +kernel
theorem dX3_codeAt_8 : decode cX3_codeAt 8 = .ok (.aload_n 0, 1) := by decide +kernel
theorem dX3_codeAt_9 : decode cX3_codeAt 9 = .ok (.getfield 49, 3) := by decide +kernel
theorem dX3_codeAt_12 : decode cX3_codeAt 12 = .ok (.iload_n 1, 1) := by decide +kernel
theorem dX3_codeAt_13 : decode cX3_codeAt 13 = .ok (.aload_n 0, 1) := by decide +kernel
theorem dX3_codeAt_14 : decode cX3_codeAt 14 = .ok (.getfield 72, 3) := by decide +kernel
theorem dX3_codeAt_17 : decode cX3_codeAt 17 = .ok (.iadd, 1) := by decide +kernel
theorem dX3_codeAt_18 : decode cX3_codeAt 18 = .ok (.iaload, 1) := by decide +kernel
theorem dX3_codeAt_19 : decode cX3_codeAt 19 = .ok (.goto 5, 3) := by decide +kernel
theorem dX3_codeAt_22 : decode cX3_codeAt 22 = .ok (.bipush (-9), 2) := by decide +kernel
theorem dX3_codeAt_24 : decode cX3_codeAt 24 = .ok (.ireturn, 1) := by decide +kernel
set_option maxRecDepth 20000 in
theorem ggX3_figure_X3_codeAt : GoodIn wsX3_figure wsX3_codeAt := goodIn_r _ [6, 1, 7, 11, 12, 13, 14, 15, 16, 17, 18, 19, 20, 21, 22, 23, 24, 25, 26, 27, 28, 29, 30, 31, 32, 33] (by decide +kernel) (by decide +kernel)
set_option maxRecDepth 20000 in
theorem gX3_figure_X3_codeAt : GoodIn wsX3_figure (wsV RX3 75 RX3 yX3_codeAt wsX3_codeAt) := goodIn_app (goodIn_of _ (by decide +kernel)) ggX3_figure_X3_codeAt
set_option maxRecDepth 20000 in
theorem ggX3_figure_X3_in : GoodIn wsX3_figure wsX3_in := goodIn_r _ [10] (by decide +kernel) (by decide +kernel)
set_option maxRecDepth 20000 in
theorem gX3_figure_X3_in : GoodIn wsX3_figure (va_wsS RX3 68 yX3_in wsX3_in) := goodIn_app (goodIn_of _ (by decide +kernel)) ggX3_figure_X3_in
theorem dX3_figure_0 : decode cX3_figure 0 = .ok (.iload_n 3, 1) := by decide +kernel
theorem dX3_figure_1 : decode cX3_figure 1 = .ok (.ifCond .ge 8, 3) := by decide +kernel
theorem dX3_figure_4 : decode cX3_figure 4 = .ok (.bipush (-9), 2) := by decide +kernel
theorem dX3_figure_6 : decode cX3_figure 6 = .ok (.goto 12, 3) := by decide +kernel
theorem dX3_figure_9 : decode cX3_figure 9 = .ok (.aload_n 0, 1) := by decide +kernel
theorem dX3_figure_10 : decode cX3_figure 10 = .ok (.iload_n 1, 1) := by decide +kernel
theorem dX3_figure_11 : decode cX3_figure 11 = .ok (.iload_n 2, 1) := by decide +kernel
theorem dX3_figure_12 : decode cX3_figure 12 = .ok (.invokevirtual 75, 3) := by decide +kernel
theorem dX3_figure_15 : decode cX3_figure 15 = .ok (.bipush 48, 2) := by decide +kernel
theorem dX3_figure_17 : decode cX3_figure 17 = .ok (.isub, 1) := by decide +kernel
theorem dX3_figure_18 : decode cX3_figure 18 = .ok (.istore 6, 2) := by decide +kernel
theorem dX3_figure_20 : decode cX3_figure 20 = .ok (.iload 6, 2) := by decide +kernel
theorem dX3_figure_22 : decode cX3_figure 22 = .ok (.i2l, 1) := by decide +kernel
theorem dX3_figure_23 : decode cX3_figure 23 = .ok (.iload 4, 2) := by decide +kernel
theorem dX3_figure_25 : decode cX3_figure 25 = .ok (.i2l, 1) := by decide +kernel
theorem dX3_figure_26 : decode cX3_figure 26 = .ok (.iload 5, 2) := by decide +kernel
theorem dX3_figure_28 : decode cX3_figure 28 = .ok (.i2l, 1) := by decide +kernel
theorem dX3_figure_29 : decode cX3_figure 29 = .ok (.invokestatic 68, 3) := by decide +kernel
theorem dX3_figure_32 : decode cX3_figure 32 = .ok (.istore 7, 2) := by decide +kernel
theorem dX3_figure_34 : decode cX3_figure 34 = .ok (.aload_n 0, 1) := by decide +kernel
theorem dX3_figure_35 : decode cX3_figure 35 = .ok (.dup, 1) := by decide +kernel
theorem dX3_figure_36 : decode cX3_figure 36 = .ok (.getfield 72, 3) := by decide +kernel
theorem dX3_figure_39 : decode cX3_figure 39 = .ok (.iload 7, 2) := by decide +kernel
theorem dX3_figure_41 : decode cX3_figure 41 = .ok (.ifCond .eq 7, 3) := by decide +kernel
theorem dX3_figure_44 : decode cX3_figure 44 = .ok (.iconst 1, 1) := by decide +kernel
theorem dX3_figure_45 : decode cX3_figure 45 = .ok (.goto 4, 3) := by decide +kernel
theorem dX3_figure_48 : decode cX3_figure 48 = .ok (.iconst 0, 1) := by decide +kernel
theorem dX3_figure_49 : decode cX3_figure 49 = .ok (.iadd, 1) := by decide +kernel
theorem dX3_figure_50 : decode cX3_figure 50 = .ok (.putfield 72, 3) := by decide +kernel
theorem dX3_figure_53 : decode cX3_figure 53 = .ok (.iload 7, 2) := by decide +kernel
theorem dX3_figure_55 : decode cX3_figure 55 = .ok (.ifCond .eq 8, 3) := by decide +kernel
theorem dX3_figure_58 : decode cX3_figure 58 = .ok (.iload 6, 2) := by decide +kernel
theorem dX3_figure_60 : decode cX3_figure 60 = .ok (.goto 5, 3) := by decide +kernel
theorem dX3_figure_63 : decode cX3_figure 63 = .ok (.bipush (-9), 2) := by decide +kernel
theorem dX3_figure_65 : decode cX3_figure 65 = .ok (.ireturn, 1) := by decide +kernel
set_option maxRecDepth 20000 in
theorem ggX3_readsChair_X3_codeAt : GoodIn wsX3_readsChair wsX3_codeAt := goodIn_r _ [11, 2, 12, 20, 21, 22, 23, 24, 25, 26, 27, 28, 29, 30, 31, 32, 33, 34, 35, 36, 37, 38, 39, 40, 41, 42] (by decide +kernel) (by decide +kernel)
set_option maxRecDepth 20000 in
theorem gX3_readsChair_X3_codeAt : GoodIn wsX3_readsChair (wsV RX3 75 RX3 yX3_codeAt wsX3_codeAt) := goodIn_app (goodIn_of _ (by decide +kernel)) ggX3_readsChair_X3_codeAt
set_option maxRecDepth 20000 in
theorem ggX3_readsChair_X3_figure : GoodIn wsX3_readsChair wsX3_figure := goodIn_r _ [16, 2, 7, 8, 9, 10, 11, 12, 17, 18, 19, 20, 21, 22, 23, 24, 25, 26, 27, 28, 29, 30, 31, 32, 33, 34, 35, 36, 37, 38, 39, 40, 41, 42] (by decide +kernel) (by decide +kernel)
set_option maxRecDepth 20000 in
theorem gX3_readsChair_X3_figure : GoodIn wsX3_readsChair (wsV RX3 82 RX3 yX3_figure wsX3_figure) := goodIn_app (goodIn_of _ (by decide +kernel)) ggX3_readsChair_X3_figure
theorem dX3_readsChair_0 : decode cX3_readsChair 0 = .ok (.aload_n 0, 1) := by decide +kernel
theorem dX3_readsChair_1 : decode cX3_readsChair 1 = .ok (.getfield 79, 3) := by decide +kernel
theorem dX3_readsChair_4 : decode cX3_readsChair 4 = .ok (.bipush 8, 2) := by decide +kernel
theorem dX3_readsChair_6 : decode cX3_readsChair 6 = .ok (.if_icmp .eq 14, 3) := by decide +kernel
theorem dX3_readsChair_9 : decode cX3_readsChair 9 = .ok (.aload_n 0, 1) := by decide +kernel
theorem dX3_readsChair_10 : decode cX3_readsChair 10 = .ok (.iload_n 1, 1) := by decide +kernel
theorem dX3_readsChair_11 : decode cX3_readsChair 11 = .ok (.iload_n 2, 1) := by decide +kernel
theorem dX3_readsChair_12 : decode cX3_readsChair 12 = .ok (.invokevirtual 75, 3) := by decide +kernel
theorem dX3_readsChair_15 : decode cX3_readsChair 15 = .ok (.bipush 59, 2) := by decide +kernel
theorem dX3_readsChair_17 : decode cX3_readsChair 17 = .ok (.if_icmp .eq 5, 3) := by decide +kernel
theorem dX3_readsChair_20 : decode cX3_readsChair 20 = .ok (.iconst 0, 1) := by decide +kernel
theorem dX3_readsChair_21 : decode cX3_readsChair 21 = .ok (.ireturn, 1) := by decide +kernel
theorem dX3_readsChair_22 : decode cX3_readsChair 22 = .ok (.aload_n 0, 1) := by decide +kernel
theorem dX3_readsChair_23 : decode cX3_readsChair 23 = .ok (.dup, 1) := by decide +kernel
theorem dX3_readsChair_24 : decode cX3_readsChair 24 = .ok (.getfield 72, 3) := by decide +kernel
theorem dX3_readsChair_27 : decode cX3_readsChair 27 = .ok (.iconst 1, 1) := by decide +kernel
theorem dX3_readsChair_28 : decode cX3_readsChair 28 = .ok (.iadd, 1) := by decide +kernel
theorem dX3_readsChair_29 : decode cX3_readsChair 29 = .ok (.putfield 72, 3) := by decide +kernel
theorem dX3_readsChair_32 : decode cX3_readsChair 32 = .ok (.aload_n 0, 1) := by decide +kernel
theorem dX3_readsChair_33 : decode cX3_readsChair 33 = .ok (.iload_n 1, 1) := by decide +kernel
theorem dX3_readsChair_34 : decode cX3_readsChair 34 = .ok (.iload_n 2, 1) := by decide +kernel
theorem dX3_readsChair_35 : decode cX3_readsChair 35 = .ok (.invokevirtual 75, 3) := by decide +kernel
theorem dX3_readsChair_38 : decode cX3_readsChair 38 = .ok (.istore_n 3, 1) := by decide +kernel
theorem dX3_readsChair_39 : decode cX3_readsChair 39 = .ok (.iload_n 3, 1) := by decide +kernel
theorem dX3_readsChair_40 : decode cX3_readsChair 40 = .ok (.bipush 112, 2) := by decide +kernel
theorem dX3_readsChair_42 : decode cX3_readsChair 42 = .ok (.if_icmp .eq 17, 3) := by decide +kernel
theorem dX3_readsChair_45 : decode cX3_readsChair 45 = .ok (.iload_n 3, 1) := by decide +kernel
theorem dX3_readsChair_46 : decode cX3_readsChair 46 = .ok (.bipush 115, 2) := by decide +kernel
theorem dX3_readsChair_48 : decode cX3_readsChair 48 = .ok (.if_icmp .eq 11, 3) := by decide +kernel
theorem dX3_readsChair_51 : decode cX3_readsChair 51 = .ok (.iload_n 3, 1) := by decide +kernel
theorem dX3_readsChair_52 : decode cX3_readsChair 52 = .ok (.bipush 98, 2) := by decide +kernel
theorem dX3_readsChair_54 : decode cX3_readsChair 54 = .ok (.if_icmp .eq 5, 3) := by decide +kernel
theorem dX3_readsChair_57 : decode cX3_readsChair 57 = .ok (.iconst 0, 1) := by decide +kernel
theorem dX3_readsChair_58 : decode cX3_readsChair 58 = .ok (.ireturn, 1) := by decide +kernel
theorem dX3_readsChair_59 : decode cX3_readsChair 59 = .ok (.aload_n 0, 1) := by decide +kernel
theorem dX3_readsChair_60 : decode cX3_readsChair 60 = .ok (.dup, 1) := by decide +kernel
theorem dX3_readsChair_61 : decode cX3_readsChair 61 = .ok (.getfield 72, 3) := by decide +kernel
theorem dX3_readsChair_64 : decode cX3_readsChair 64 = .ok (.iconst 1, 1) := by decide +kernel
theorem dX3_readsChair_65 : decode cX3_readsChair 65 = .ok (.iadd, 1) := by decide +kernel
theorem dX3_readsChair_66 : decode cX3_readsChair 66 = .ok (.putfield 72, 3) := by decide +kernel
theorem dX3_readsChair_69 : decode cX3_readsChair 69 = .ok (.aload_n 0, 1) := by decide +kernel
theorem dX3_readsChair_70 : decode cX3_readsChair 70 = .ok (.iload_n 1, 1) := by decide +kernel
theorem dX3_readsChair_71 : decode cX3_readsChair 71 = .ok (.iload_n 2, 1) := by decide +kernel
theorem dX3_readsChair_72 : decode cX3_readsChair 72 = .ok (.iconst 0, 1) := by decide +kernel
theorem dX3_readsChair_73 : decode cX3_readsChair 73 = .ok (.iconst 0, 1) := by decide +kernel
theorem dX3_readsChair_74 : decode cX3_readsChair 74 = .ok (.iconst 3, 1) := by decide +kernel
theorem dX3_readsChair_75 : decode cX3_readsChair 75 = .ok (.invokevirtual 82, 3) := by decide +kernel
theorem dX3_readsChair_78 : decode cX3_readsChair 78 = .ok (.istore 4, 2) := by decide +kernel
theorem dX3_readsChair_80 : decode cX3_readsChair 80 = .ok (.aload_n 0, 1) := by decide +kernel
theorem dX3_readsChair_81 : decode cX3_readsChair 81 = .ok (.iload_n 1, 1) := by decide +kernel
theorem dX3_readsChair_82 : decode cX3_readsChair 82 = .ok (.iload_n 2, 1) := by decide +kernel
theorem dX3_readsChair_83 : decode cX3_readsChair 83 = .ok (.iload 4, 2) := by decide +kernel
theorem dX3_readsChair_85 : decode cX3_readsChair 85 = .ok (.iconst 1, 1) := by decide +kernel
theorem dX3_readsChair_86 : decode cX3_readsChair 86 = .ok (.bipush 9, 2) := by decide +kernel
theorem dX3_readsChair_88 : decode cX3_readsChair 88 = .ok (.invokevirtual 82, 3) := by decide +kernel
theorem dX3_readsChair_91 : decode cX3_readsChair 91 = .ok (.istore 5, 2) := by decide +kernel
theorem dX3_readsChair_93 : decode cX3_readsChair 93 = .ok (.aload_n 0, 1) := by decide +kernel
theorem dX3_readsChair_94 : decode cX3_readsChair 94 = .ok (.iload_n 1, 1) := by decide +kernel
theorem dX3_readsChair_95 : decode cX3_readsChair 95 = .ok (.iload_n 2, 1) := by decide +kernel
theorem dX3_readsChair_96 : decode cX3_readsChair 96 = .ok (.iload 5, 2) := by decide +kernel
theorem dX3_readsChair_98 : decode cX3_readsChair 98 = .ok (.iconst 0, 1) := by decide +kernel
theorem dX3_readsChair_99 : decode cX3_readsChair 99 = .ok (.iconst 3, 1) := by decide +kernel
theorem dX3_readsChair_100 : decode cX3_readsChair 100 = .ok (.invokevirtual 82, 3) := by decide +kernel
theorem dX3_readsChair_103 : decode cX3_readsChair 103 = .ok (.istore 6, 2) := by decide +kernel
theorem dX3_readsChair_105 : decode cX3_readsChair 105 = .ok (.aload_n 0, 1) := by decide +kernel
theorem dX3_readsChair_106 : decode cX3_readsChair 106 = .ok (.getfield 22, 3) := by decide +kernel
theorem dX3_readsChair_109 : decode cX3_readsChair 109 = .ok (.aload_n 0, 1) := by decide +kernel
theorem dX3_readsChair_110 : decode cX3_readsChair 110 = .ok (.getfield 79, 3) := by decide +kernel
theorem dX3_readsChair_113 : decode cX3_readsChair 113 = .ok (.iload_n 3, 1) := by decide +kernel
theorem dX3_readsChair_114 : decode cX3_readsChair 114 = .ok (.bipush 112, 2) := by decide +kernel
theorem dX3_readsChair_116 : decode cX3_readsChair 116 = .ok (.if_icmp .ne 7, 3) := by decide +kernel
theorem dX3_readsChair_119 : decode cX3_readsChair 119 = .ok (.iconst 0, 1) := by decide +kernel
theorem dX3_readsChair_120 : decode cX3_readsChair 120 = .ok (.goto 14, 3) := by decide +kernel
theorem dX3_readsChair_123 : decode cX3_readsChair 123 = .ok (.iload_n 3, 1) := by decide +kernel
theorem dX3_readsChair_124 : decode cX3_readsChair 124 = .ok (.bipush 115, 2) := by decide +kernel
theorem dX3_readsChair_126 : decode cX3_readsChair 126 = .ok (.if_icmp .ne 7, 3) := by decide +kernel
theorem dX3_readsChair_129 : decode cX3_readsChair 129 = .ok (.iconst 1, 1) := by decide +kernel
theorem dX3_readsChair_130 : decode cX3_readsChair 130 = .ok (.goto 4, 3) := by decide +kernel
theorem dX3_readsChair_133 : decode cX3_readsChair 133 = .ok (.iconst 2, 1) := by decide +kernel
theorem dX3_readsChair_134 : decode cX3_readsChair 134 = .ok (.iastore, 1) := by decide +kernel
theorem dX3_readsChair_135 : decode cX3_readsChair 135 = .ok (.aload_n 0, 1) := by decide +kernel
theorem dX3_readsChair_136 : decode cX3_readsChair 136 = .ok (.getfield 25, 3) := by decide +kernel
theorem dX3_readsChair_139 : decode cX3_readsChair 139 = .ok (.aload_n 0, 1) := by decide +kernel
theorem dX3_readsChair_140 : decode cX3_readsChair 140 = .ok (.getfield 79, 3) := by decide +kernel
theorem dX3_readsChair_143 : decode cX3_readsChair 143 = .ok (.iload 4, 2) := by decide +kernel
theorem dX3_readsChair_145 : decode cX3_readsChair 145 = .ok (.iastore, 1) := by decide +kernel
theorem dX3_readsChair_146 : decode cX3_readsChair 146 = .ok (.aload_n 0, 1) := by decide +kernel
theorem dX3_readsChair_147 : decode cX3_readsChair 147 = .ok (.getfield 28, 3) := by decide +kernel
theorem dX3_readsChair_150 : decode cX3_readsChair 150 = .ok (.aload_n 0, 1) := by decide +kernel
theorem dX3_readsChair_151 : decode cX3_readsChair 151 = .ok (.getfield 79, 3) := by decide +kernel
theorem dX3_readsChair_154 : decode cX3_readsChair 154 = .ok (.iload 5, 2) := by decide +kernel
theorem dX3_readsChair_156 : decode cX3_readsChair 156 = .ok (.iastore, 1) := by decide +kernel
theorem dX3_readsChair_157 : decode cX3_readsChair 157 = .ok (.aload_n 0, 1) := by decide +kernel
theorem dX3_readsChair_158 : decode cX3_readsChair 158 = .ok (.getfield 31, 3) := by decide +kernel
theorem dX3_readsChair_161 : decode cX3_readsChair 161 = .ok (.aload_n 0, 1) := by decide +kernel
theorem dX3_readsChair_162 : decode cX3_readsChair 162 = .ok (.getfield 79, 3) := by decide +kernel
theorem dX3_readsChair_165 : decode cX3_readsChair 165 = .ok (.iload 6, 2) := by decide +kernel
theorem dX3_readsChair_167 : decode cX3_readsChair 167 = .ok (.iastore, 1) := by decide +kernel
theorem dX3_readsChair_168 : decode cX3_readsChair 168 = .ok (.aload_n 0, 1) := by decide +kernel
theorem dX3_readsChair_169 : decode cX3_readsChair 169 = .ok (.dup, 1) := by decide +kernel
theorem dX3_readsChair_170 : decode cX3_readsChair 170 = .ok (.getfield 79, 3) := by decide +kernel
theorem dX3_readsChair_173 : decode cX3_readsChair 173 = .ok (.iconst 1, 1) := by decide +kernel
theorem dX3_readsChair_174 : decode cX3_readsChair 174 = .ok (.iadd, 1) := by decide +kernel
theorem dX3_readsChair_175 : decode cX3_readsChair 175 = .ok (.putfield 79, 3) := by decide +kernel
theorem dX3_readsChair_178 : decode cX3_readsChair 178 = .ok (.iload 6, 2) := by decide +kernel
theorem dX3_readsChair_180 : decode cX3_readsChair 180 = .ok (.ifCond .lt 7, 3) := by decide +kernel
theorem dX3_readsChair_183 : decode cX3_readsChair 183 = .ok (.iconst 1, 1) := by decide +kernel
theorem dX3_readsChair_184 : decode cX3_readsChair 184 = .ok (.goto 4, 3) := by decide +kernel
theorem dX3_readsChair_187 : decode cX3_readsChair 187 = .ok (.iconst 0, 1) := by decide +kernel
theorem dX3_readsChair_188 : decode cX3_readsChair 188 = .ok (.ireturn, 1) := by decide +kernel
set_option maxRecDepth 20000 in
theorem ggX3_readsFront_X3_codeAt : GoodIn wsX3_readsFront wsX3_codeAt := goodIn_r _ [7, 1, 8, 24, 25, 26, 27, 28, 29, 30, 31, 32, 33, 34, 35, 36, 37, 38, 39, 40, 41, 42, 43, 44, 45, 46] (by decide +kernel) (by decide +kernel)
set_option maxRecDepth 20000 in
theorem gX3_readsFront_X3_codeAt : GoodIn wsX3_readsFront (wsV RX3 75 RX3 yX3_codeAt wsX3_codeAt) := goodIn_app (goodIn_of _ (by decide +kernel)) ggX3_readsFront_X3_codeAt
set_option maxRecDepth 20000 in
theorem ggX3_readsFront_X3_readsChair : GoodIn wsX3_readsFront wsX3_readsChair := goodIn_r _ [12, 2, 1, 13, 14, 15, 16, 3, 4, 5, 6, 7, 8, 17, 18, 19, 20, 21, 22, 23, 24, 25, 26, 27, 28, 29, 30, 31, 32, 33, 34, 35, 36, 37, 38, 39, 40, 41, 42, 43, 44, 45, 46] (by decide +kernel) (by decide +kernel)
set_option maxRecDepth 20000 in
theorem gX3_readsFront_X3_readsChair : GoodIn wsX3_readsFront (wsV RX3 86 RX3 yX3_readsChair wsX3_readsChair) := goodIn_app (goodIn_of _ (by decide +kernel)) ggX3_readsFront_X3_readsChair
theorem dX3_readsFront_0 : decode cX3_readsFront 0 = .ok (.aload_n 0, 1) := by decide +kernel
theorem dX3_readsFront_1 : decode cX3_readsFront 1 = .ok (.iconst 0, 1) := by decide +kernel
theorem dX3_readsFront_2 : decode cX3_readsFront 2 = .ok (.putfield 72, 3) := by decide +kernel
theorem dX3_readsFront_5 : decode cX3_readsFront 5 = .ok (.aload_n 0, 1) := by decide +kernel
theorem dX3_readsFront_6 : decode cX3_readsFront 6 = .ok (.iconst 0, 1) := by decide +kernel
theorem dX3_readsFront_7 : decode cX3_readsFront 7 = .ok (.putfield 79, 3) := by decide +kernel
theorem dX3_readsFront_10 : decode cX3_readsFront 10 = .ok (.aload_n 0, 1) := by decide +kernel
theorem dX3_readsFront_11 : decode cX3_readsFront 11 = .ok (.iload_n 1, 1) := by decide +kernel
theorem dX3_readsFront_12 : decode cX3_readsFront 12 = .ok (.iload_n 2, 1) := by decide +kernel
theorem dX3_readsFront_13 : decode cX3_readsFront 13 = .ok (.invokevirtual 75, 3) := by decide +kernel
theorem dX3_readsFront_16 : decode cX3_readsFront 16 = .ok (.bipush 102, 2) := by decide +kernel
theorem dX3_readsFront_18 : decode cX3_readsFront 18 = .ok (.if_icmp .ne 7, 3) := by decide +kernel
theorem dX3_readsFront_21 : decode cX3_readsFront 21 = .ok (.iconst 1, 1) := by decide +kernel
theorem dX3_readsFront_22 : decode cX3_readsFront 22 = .ok (.goto 4, 3) := by decide +kernel
theorem dX3_readsFront_25 : decode cX3_readsFront 25 = .ok (.iconst 0, 1) := by decide +kernel
theorem dX3_readsFront_26 : decode cX3_readsFront 26 = .ok (.istore_n 3, 1) := by decide +kernel
theorem dX3_readsFront_27 : decode cX3_readsFront 27 = .ok (.aload_n 0, 1) := by decide +kernel
theorem dX3_readsFront_28 : decode cX3_readsFront 28 = .ok (.dup, 1) := by decide +kernel
theorem dX3_readsFront_29 : decode cX3_readsFront 29 = .ok (.getfield 72, 3) := by decide +kernel
theorem dX3_readsFront_32 : decode cX3_readsFront 32 = .ok (.iload_n 3, 1) := by decide +kernel
theorem dX3_readsFront_33 : decode cX3_readsFront 33 = .ok (.ifCond .eq 7, 3) := by decide +kernel
theorem dX3_readsFront_36 : decode cX3_readsFront 36 = .ok (.iconst 1, 1) := by decide +kernel
theorem dX3_readsFront_37 : decode cX3_readsFront 37 = .ok (.goto 4, 3) := by decide +kernel
theorem dX3_readsFront_40 : decode cX3_readsFront 40 = .ok (.iconst 0, 1) := by decide +kernel
theorem dX3_readsFront_41 : decode cX3_readsFront 41 = .ok (.iadd, 1) := by decide +kernel
theorem dX3_readsFront_42 : decode cX3_readsFront 42 = .ok (.putfield 72, 3) := by decide +kernel
theorem dX3_readsFront_45 : decode cX3_readsFront 45 = .ok (.iload_n 3, 1) := by decide +kernel
theorem dX3_readsFront_46 : decode cX3_readsFront 46 = .ok (.ifCond .eq 29, 3) := by decide +kernel
theorem dX3_readsFront_49 : decode cX3_readsFront 49 = .ok (.aload_n 0, 1) := by decide +kernel
theorem dX3_readsFront_50 : decode cX3_readsFront 50 = .ok (.getfield 79, 3) := by decide +kernel
theorem dX3_readsFront_53 : decode cX3_readsFront 53 = .ok (.iconst 2, 1) := by decide +kernel
theorem dX3_readsFront_54 : decode cX3_readsFront 54 = .ok (.if_icmp .lt 11, 3) := by decide +kernel
theorem dX3_readsFront_57 : decode cX3_readsFront 57 = .ok (.aload_n 0, 1) := by decide +kernel
theorem dX3_readsFront_58 : decode cX3_readsFront 58 = .ok (.getfield 72, 3) := by decide +kernel
theorem dX3_readsFront_61 : decode cX3_readsFront 61 = .ok (.iload_n 2, 1) := by decide +kernel
theorem dX3_readsFront_62 : decode cX3_readsFront 62 = .ok (.if_icmp .ge 13, 3) := by decide +kernel
theorem dX3_readsFront_65 : decode cX3_readsFront 65 = .ok (.aload_n 0, 1) := by decide +kernel
theorem dX3_readsFront_66 : decode cX3_readsFront 66 = .ok (.iload_n 1, 1) := by decide +kernel
theorem dX3_readsFront_67 : decode cX3_readsFront 67 = .ok (.iload_n 2, 1) := by decide +kernel
theorem dX3_readsFront_68 : decode cX3_readsFront 68 = .ok (.invokevirtual 86, 3) := by decide +kernel
theorem dX3_readsFront_71 : decode cX3_readsFront 71 = .ok (.istore_n 3, 1) := by decide +kernel
theorem dX3_readsFront_72 : decode cX3_readsFront 72 = .ok (.goto (-27), 3) := by decide +kernel
theorem dX3_readsFront_75 : decode cX3_readsFront 75 = .ok (.iload_n 3, 1) := by decide +kernel
theorem dX3_readsFront_76 : decode cX3_readsFront 76 = .ok (.ireturn, 1) := by decide +kernel
set_option maxRecDepth 20000 in
theorem ggX3_cellsBarred_X3_failed : GoodIn wsX3_cellsBarred wsX3_failed := goodIn_r _ [7, 8, 12, 13, 14, 15, 16, 17, 18, 19, 20, 21, 22, 23, 24, 25, 26, 27, 28, 29, 30, 31, 32, 33, 34] (by decide +kernel) (by decide +kernel)
set_option maxRecDepth 20000 in
theorem gX3_cellsBarred_X3_failed : GoodIn wsX3_cellsBarred (wsV RX3 90 RX3 yX3_failed wsX3_failed) := goodIn_app (goodIn_of _ (by decide +kernel)) ggX3_cellsBarred_X3_failed
set_option maxRecDepth 20000 in
theorem ggX3_cellsBarred_X3_isBeyond : GoodIn wsX3_cellsBarred wsX3_isBeyond := goodIn_r _ [11] (by decide +kernel) (by decide +kernel)
set_option maxRecDepth 20000 in
theorem gX3_cellsBarred_X3_isBeyond : GoodIn wsX3_cellsBarred (va_wsS RX3 94 yX3_isBeyond wsX3_isBeyond) := goodIn_app (goodIn_of _ (by decide +kernel)) ggX3_cellsBarred_X3_isBeyond
theorem dX3_cellsBarred_0 : decode cX3_cellsBarred 0 = .ok (.aload_n 0, 1) := by decide +kernel
theorem dX3_cellsBarred_1 : decode cX3_cellsBarred 1 = .ok (.getfield 43, 3) := by decide +kernel
theorem dX3_cellsBarred_4 : decode cX3_cellsBarred 4 = .ok (.iload_n 1, 1) := by decide +kernel
theorem dX3_cellsBarred_5 : decode cX3_cellsBarred 5 = .ok (.iaload, 1) := by decide +kernel
theorem dX3_cellsBarred_6 : decode cX3_cellsBarred 6 = .ok (.ifCond .lt 19, 3) := by decide +kernel
theorem dX3_cellsBarred_9 : decode cX3_cellsBarred 9 = .ok (.aload_n 0, 1) := by decide +kernel
theorem dX3_cellsBarred_10 : decode cX3_cellsBarred 10 = .ok (.getfield 46, 3) := by decide +kernel
theorem dX3_cellsBarred_13 : decode cX3_cellsBarred 13 = .ok (.iload_n 1, 1) := by decide +kernel
theorem dX3_cellsBarred_14 : decode cX3_cellsBarred 14 = .ok (.iaload, 1) := by decide +kernel
theorem dX3_cellsBarred_15 : decode cX3_cellsBarred 15 = .ok (.iload_n 2, 1) := by decide +kernel
theorem dX3_cellsBarred_16 : decode cX3_cellsBarred 16 = .ok (.if_icmp .eq 9, 3) := by decide +kernel
theorem dX3_cellsBarred_19 : decode cX3_cellsBarred 19 = .ok (.aload_n 0, 1) := by decide +kernel
theorem dX3_cellsBarred_20 : decode cX3_cellsBarred 20 = .ok (.iconst 2, 1) := by decide +kernel
theorem dX3_cellsBarred_21 : decode cX3_cellsBarred 21 = .ok (.invokevirtual 90, 3) := by decide +kernel
theorem dX3_cellsBarred_24 : decode cX3_cellsBarred 24 = .ok (.ireturn, 1) := by decide +kernel
theorem dX3_cellsBarred_25 : decode cX3_cellsBarred 25 = .ok (.aload_n 0, 1) := by decide +kernel
theorem dX3_cellsBarred_26 : decode cX3_cellsBarred 26 = .ok (.getfield 43, 3) := by decide +kernel
theorem dX3_cellsBarred_29 : decode cX3_cellsBarred 29 = .ok (.iload_n 1, 1) := by decide +kernel
theorem dX3_cellsBarred_30 : decode cX3_cellsBarred 30 = .ok (.iaload, 1) := by decide +kernel
theorem dX3_cellsBarred_31 : decode cX3_cellsBarred 31 = .ok (.ifCond .ge 9, 3) := by decide +kernel
theorem dX3_cellsBarred_34 : decode cX3_cellsBarred 34 = .ok (.aload_n 0, 1) := by decide +kernel
theorem dX3_cellsBarred_35 : decode cX3_cellsBarred 35 = .ok (.iconst 1, 1) := by decide +kernel
theorem dX3_cellsBarred_36 : decode cX3_cellsBarred 36 = .ok (.invokevirtual 90, 3) := by decide +kernel
theorem dX3_cellsBarred_39 : decode cX3_cellsBarred 39 = .ok (.ireturn, 1) := by decide +kernel
theorem dX3_cellsBarred_40 : decode cX3_cellsBarred 40 = .ok (.lload 4, 2) := by decide +kernel
theorem dX3_cellsBarred_42 : decode cX3_cellsBarred 42 = .ok (.lconst 0, 1) := by decide +kernel
theorem dX3_cellsBarred_43 : decode cX3_cellsBarred 43 = .ok (.lcmp, 1) := by decide +kernel
theorem dX3_cellsBarred_44 : decode cX3_cellsBarred 44 = .ok (.ifCond .ge 9, 3) := by decide +kernel
theorem dX3_cellsBarred_47 : decode cX3_cellsBarred 47 = .ok (.aload_n 0, 1) := by decide +kernel
theorem dX3_cellsBarred_48 : decode cX3_cellsBarred 48 = .ok (.iconst 4, 1) := by decide +kernel
theorem dX3_cellsBarred_49 : decode cX3_cellsBarred 49 = .ok (.invokevirtual 90, 3) := by decide +kernel
theorem dX3_cellsBarred_52 : decode cX3_cellsBarred 52 = .ok (.ireturn, 1) := by decide +kernel
theorem dX3_cellsBarred_53 : decode cX3_cellsBarred 53 = .ok (.iload_n 3, 1) := by decide +kernel
theorem dX3_cellsBarred_54 : decode cX3_cellsBarred 54 = .ok (.lload 4, 2) := by decide +kernel
theorem dX3_cellsBarred_56 : decode cX3_cellsBarred 56 = .ok (.aload_n 0, 1) := by decide +kernel
theorem dX3_cellsBarred_57 : decode cX3_cellsBarred 57 = .ok (.getfield 43, 3) := by decide +kernel
theorem dX3_cellsBarred_60 : decode cX3_cellsBarred 60 = .ok (.iload_n 1, 1) := by decide +kernel
theorem dX3_cellsBarred_61 : decode cX3_cellsBarred 61 = .ok (.iaload, 1) := by decide +kernel
theorem dX3_cellsBarred_62 : decode cX3_cellsBarred 62 = .ok (.invokestatic 94, 3) := by decide +kernel
theorem dX3_cellsBarred_65 : decode cX3_cellsBarred 65 = .ok (.ifCond .eq 11, 3) := by decide +kernel
theorem dX3_cellsBarred_68 : decode cX3_cellsBarred 68 = .ok (.aload_n 0, 1) := by decide +kernel
theorem dX3_cellsBarred_69 : decode cX3_cellsBarred 69 = .ok (.iconst 3, 1) := by decide +kernel
theorem dX3_cellsBarred_70 : decode cX3_cellsBarred 70 = .ok (.invokevirtual 90, 3) := by decide +kernel
theorem dX3_cellsBarred_73 : decode cX3_cellsBarred 73 = .ok (.goto 4, 3) := by decide +kernel
theorem dX3_cellsBarred_76 : decode cX3_cellsBarred 76 = .ok (.iconst 0, 1) := by decide +kernel
theorem dX3_cellsBarred_77 : decode cX3_cellsBarred 77 = .ok (.ireturn, 1) := by decide +kernel
set_option maxRecDepth 20000 in
theorem ggX3_front_X3_noSheet : GoodIn wsX3_front wsX3_noSheet := goodIn_r _ [18, 19, 20, 21, 17, 22] (by decide +kernel) (by decide +kernel)
set_option maxRecDepth 20000 in
theorem gX3_front_X3_noSheet : GoodIn wsX3_front (va_wsS RX3 98 yX3_noSheet wsX3_noSheet) := goodIn_app (goodIn_of _ (by decide +kernel)) ggX3_front_X3_noSheet
set_option maxRecDepth 20000 in
theorem ggX3_front_X3_refused : GoodIn wsX3_front wsX3_refused := goodIn_r _ [26, 27, 58, 59, 60, 61, 62, 63, 64, 65, 66, 67, 68, 69, 70, 71, 72, 73, 74, 75, 76, 77, 78, 79, 80] (by decide +kernel) (by decide +kernel)
set_option maxRecDepth 20000 in
theorem gX3_front_X3_refused : GoodIn wsX3_front (wsV RX3 102 RX3 yX3_refused wsX3_refused) := goodIn_app (goodIn_of _ (by decide +kernel)) ggX3_front_X3_refused
set_option maxRecDepth 20000 in
theorem ggX3_front_X3_in : GoodIn wsX3_front wsX3_in := goodIn_r _ [22] (by decide +kernel) (by decide +kernel)
set_option maxRecDepth 20000 in
theorem gX3_front_X3_in : GoodIn wsX3_front (va_wsS RX3 68 yX3_in wsX3_in) := goodIn_app (goodIn_of _ (by decide +kernel)) ggX3_front_X3_in
set_option maxRecDepth 20000 in
theorem ggX3_front_X3_cellsBarred : GoodIn wsX3_front wsX3_cellsBarred := goodIn_r _ [31, 32, 33, 34, 35, 36, 17, 37, 27, 38, 39, 40, 58, 59, 60, 61, 62, 63, 64, 65, 66, 67, 68, 69, 70, 71, 72, 73, 74, 75, 76, 77, 78, 79, 80] (by decide +kernel) (by decide +kernel)
set_option maxRecDepth 20000 in
theorem gX3_front_X3_cellsBarred : GoodIn wsX3_front (wsV RX3 107 RX3 yX3_cellsBarred wsX3_cellsBarred) := goodIn_app (goodIn_of _ (by decide +kernel)) ggX3_front_X3_cellsBarred
set_option maxRecDepth 20000 in
theorem ggX3_front_X3_readsFront : GoodIn wsX3_front wsX3_readsFront := goodIn_r _ [44, 2, 3, 45, 46, 47, 17, 48, 49, 50, 51, 52, 53, 7, 9, 11, 13, 54, 55, 56, 57, 20, 21, 22, 58, 59, 60, 61, 62, 63, 64, 65, 66, 67, 68, 69, 70, 71, 72, 73, 74, 75, 76, 77, 78, 79, 80] (by decide +kernel) (by decide +kernel)
set_option maxRecDepth 20000 in
theorem gX3_front_X3_readsFront : GoodIn wsX3_front (wsV RX3 111 RX3 yX3_readsFront wsX3_readsFront) := goodIn_app (goodIn_of _ (by decide +kernel)) ggX3_front_X3_readsFront
theorem dX3_front_0 : decode cX3_front 0 = .ok (.iload_n 1, 1) := by decide +kernel
theorem dX3_front_1 : decode cX3_front 1 = .ok (.invokestatic 98, 3) := by decide +kernel
theorem dX3_front_4 : decode cX3_front 4 = .ok (.ifCond .eq 9, 3) := by decide +kernel
theorem dX3_front_7 : decode cX3_front 7 = .ok (.aload_n 0, 1) := by decide +kernel
theorem dX3_front_8 : decode cX3_front 8 = .ok (.iconst (-1), 1) := by decide +kernel
theorem dX3_front_9 : decode cX3_front 9 = .ok (.invokevirtual 102, 3) := by decide +kernel
theorem dX3_front_12 : decode cX3_front 12 = .ok (.ireturn, 1) := by decide +kernel
theorem dX3_front_13 : decode cX3_front 13 = .ok (.iload_n 2, 1) := by decide +kernel
theorem dX3_front_14 : decode cX3_front 14 = .ok (.i2l, 1) := by decide +kernel
theorem dX3_front_15 : decode cX3_front 15 = .ok (.lconst 0, 1) := by decide +kernel
theorem dX3_front_16 : decode cX3_front 16 = .ok (.ldc2_w 105, 3) := by decide +kernel
theorem dX3_front_19 : decode cX3_front 19 = .ok (.invokestatic 68, 3) := by decide +kernel
theorem dX3_front_22 : decode cX3_front 22 = .ok (.ifCond .ne 10, 3) := by decide +kernel
theorem dX3_front_25 : decode cX3_front 25 = .ok (.aload_n 0, 1) := by decide +kernel
theorem dX3_front_26 : decode cX3_front 26 = .ok (.bipush (-2), 2) := by decide +kernel
theorem dX3_front_28 : decode cX3_front 28 = .ok (.invokevirtual 102, 3) := by decide +kernel
theorem dX3_front_31 : decode cX3_front 31 = .ok (.ireturn, 1) := by decide +kernel
theorem dX3_front_32 : decode cX3_front 32 = .ok (.aload_n 0, 1) := by decide +kernel
theorem dX3_front_33 : decode cX3_front 33 = .ok (.iload_n 1, 1) := by decide +kernel
theorem dX3_front_34 : decode cX3_front 34 = .ok (.iload_n 2, 1) := by decide +kernel
theorem dX3_front_35 : decode cX3_front 35 = .ok (.iload_n 3, 1) := by decide +kernel
theorem dX3_front_36 : decode cX3_front 36 = .ok (.iload 4, 2) := by decide +kernel
theorem dX3_front_38 : decode cX3_front 38 = .ok (.i2l, 1) := by decide +kernel
theorem dX3_front_39 : decode cX3_front 39 = .ok (.invokevirtual 107, 3) := by decide +kernel
theorem dX3_front_42 : decode cX3_front 42 = .ok (.istore 5, 2) := by decide +kernel
theorem dX3_front_44 : decode cX3_front 44 = .ok (.iload 5, 2) := by decide +kernel
theorem dX3_front_46 : decode cX3_front 46 = .ok (.ifCond .ge 6, 3) := by decide +kernel
theorem dX3_front_49 : decode cX3_front 49 = .ok (.iload 5, 2) := by decide +kernel
theorem dX3_front_51 : decode cX3_front 51 = .ok (.ireturn, 1) := by decide +kernel
theorem dX3_front_52 : decode cX3_front 52 = .ok (.aload_n 0, 1) := by decide +kernel
theorem dX3_front_53 : decode cX3_front 53 = .ok (.bipush 60, 2) := by decide +kernel
theorem dX3_front_55 : decode cX3_front 55 = .ok (.iload_n 1, 1) := by decide +kernel
theorem dX3_front_56 : decode cX3_front 56 = .ok (.imul, 1) := by decide +kernel
theorem dX3_front_57 : decode cX3_front 57 = .ok (.iload_n 3, 1) := by decide +kernel
theorem dX3_front_58 : decode cX3_front 58 = .ok (.iadd, 1) := by decide +kernel
theorem dX3_front_59 : decode cX3_front 59 = .ok (.iload 4, 2) := by decide +kernel
theorem dX3_front_61 : decode cX3_front 61 = .ok (.invokevirtual 111, 3) := by decide +kernel
theorem dX3_front_64 : decode cX3_front 64 = .ok (.ifCond .ne 15, 3) := by decide +kernel
theorem dX3_front_67 : decode cX3_front 67 = .ok (.aload_n 0, 1) := by decide +kernel
theorem dX3_front_68 : decode cX3_front 68 = .ok (.bipush (-100), 2) := by decide +kernel
theorem dX3_front_70 : decode cX3_front 70 = .ok (.aload_n 0, 1) := by decide +kernel
theorem dX3_front_71 : decode cX3_front 71 = .ok (.getfield 72, 3) := by decide +kernel
theorem dX3_front_74 : decode cX3_front 74 = .ok (.isub, 1) := by decide +kernel
theorem dX3_front_75 : decode cX3_front 75 = .ok (.invokevirtual 102, 3) := by decide +kernel
theorem dX3_front_78 : decode cX3_front 78 = .ok (.ireturn, 1) := by decide +kernel
theorem dX3_front_79 : decode cX3_front 79 = .ok (.aload_n 0, 1) := by decide +kernel
theorem dX3_front_80 : decode cX3_front 80 = .ok (.aload_n 0, 1) := by decide +kernel
theorem dX3_front_81 : decode cX3_front 81 = .ok (.getfield 79, 3) := by decide +kernel
theorem dX3_front_84 : decode cX3_front 84 = .ok (.putfield 65, 3) := by decide +kernel
theorem dX3_front_87 : decode cX3_front 87 = .ok (.aload_n 0, 1) := by decide +kernel
theorem dX3_front_88 : decode cX3_front 88 = .ok (.iconst 0, 1) := by decide +kernel
theorem dX3_front_89 : decode cX3_front 89 = .ok (.putfield 114, 3) := by decide +kernel
theorem dX3_front_92 : decode cX3_front 92 = .ok (.iconst 0, 1) := by decide +kernel
theorem dX3_front_93 : decode cX3_front 93 = .ok (.istore 6, 2) := by decide +kernel
theorem dX3_front_95 : decode cX3_front 95 = .ok (.iload 6, 2) := by decide +kernel
theorem dX3_front_97 : decode cX3_front 97 = .ok (.aload_n 0, 1) := by decide +kernel
theorem dX3_front_98 : decode cX3_front 98 = .ok (.getfield 65, 3) := by decide +kernel
theorem dX3_front_101 : decode cX3_front 101 = .ok (.if_icmp .ge 65, 3) := by decide +kernel
theorem dX3_front_104 : decode cX3_front 104 = .ok (.aload_n 0, 1) := by decide +kernel
theorem dX3_front_105 : decode cX3_front 105 = .ok (.getfield 7, 3) := by decide +kernel
theorem dX3_front_108 : decode cX3_front 108 = .ok (.iload 6, 2) := by decide +kernel
theorem dX3_front_110 : decode cX3_front 110 = .ok (.aload_n 0, 1) := by decide +kernel
theorem dX3_front_111 : decode cX3_front 111 = .ok (.getfield 22, 3) := by decide +kernel
theorem dX3_front_114 : decode cX3_front 114 = .ok (.iload 6, 2) := by decide +kernel
theorem dX3_front_116 : decode cX3_front 116 = .ok (.iaload, 1) := by decide +kernel
theorem dX3_front_117 : decode cX3_front 117 = .ok (.iastore, 1) := by decide +kernel
theorem dX3_front_118 : decode cX3_front 118 = .ok (.aload_n 0, 1) := by decide +kernel
theorem dX3_front_119 : decode cX3_front 119 = .ok (.getfield 13, 3) := by decide +kernel
theorem dX3_front_122 : decode cX3_front 122 = .ok (.iload 6, 2) := by decide +kernel
theorem dX3_front_124 : decode cX3_front 124 = .ok (.aload_n 0, 1) := by decide +kernel
theorem dX3_front_125 : decode cX3_front 125 = .ok (.getfield 25, 3) := by decide +kernel
theorem dX3_front_128 : decode cX3_front 128 = .ok (.iload 6, 2) := by decide +kernel
theorem dX3_front_130 : decode cX3_front 130 = .ok (.iaload, 1) := by decide +kernel
theorem dX3_front_131 : decode cX3_front 131 = .ok (.iastore, 1) := by decide +kernel
theorem dX3_front_132 : decode cX3_front 132 = .ok (.aload_n 0, 1) := by decide +kernel
theorem dX3_front_133 : decode cX3_front 133 = .ok (.getfield 16, 3) := by decide +kernel
theorem dX3_front_136 : decode cX3_front 136 = .ok (.iload 6, 2) := by decide +kernel
theorem dX3_front_138 : decode cX3_front 138 = .ok (.aload_n 0, 1) := by decide +kernel
theorem dX3_front_139 : decode cX3_front 139 = .ok (.getfield 28, 3) := by decide +kernel
theorem dX3_front_142 : decode cX3_front 142 = .ok (.iload 6, 2) := by decide +kernel
theorem dX3_front_144 : decode cX3_front 144 = .ok (.iaload, 1) := by decide +kernel
theorem dX3_front_145 : decode cX3_front 145 = .ok (.iastore, 1) := by decide +kernel
end
section
theorem dX3_front_146 : decode cX3_front 146 = .ok (.aload_n 0, 1) := by decide +kernel
theorem dX3_front_147 : decode cX3_front 147 = .ok (.getfield 19, 3) := by decide +kernel
theorem dX3_front_150 : decode cX3_front 150 = .ok (.iload 6, 2) := by decide +kernel
theorem dX3_front_152 : decode cX3_front 152 = .ok (.aload_n 0, 1) := by decide +kernel
theorem dX3_front_153 : decode cX3_front 153 = .ok (.getfield 31, 3) := by decide +kernel
theorem dX3_front_156 : decode cX3_front 156 = .ok (.iload 6, 2) := by decide +kernel
theorem dX3_front_158 : decode cX3_front 158 = .ok (.iaload, 1) := by decide +kernel
theorem dX3_front_159 : decode cX3_front 159 = .ok (.iastore, 1) := by decide +kernel
theorem dX3_front_160 : decode cX3_front 160 = .ok (.iinc 6 1, 3) := by decide +kernel
theorem dX3_front_163 : decode cX3_front 163 = .ok (.goto (-68), 3) := by decide +kernel
theorem dX3_front_166 : decode cX3_front 166 = .ok (.aload_n 0, 1) := by decide +kernel
theorem dX3_front_167 : decode cX3_front 167 = .ok (.iconst 0, 1) := by decide +kernel
theorem dX3_front_168 : decode cX3_front 168 = .ok (.putfield 117, 3) := by decide +kernel
theorem dX3_front_171 : decode cX3_front 171 = .ok (.aload_n 0, 1) := by decide +kernel
theorem dX3_front_172 : decode cX3_front 172 = .ok (.aload_n 0, 1) := by decide +kernel
theorem dX3_front_173 : decode cX3_front 173 = .ok (.getfield 65, 3) := by decide +kernel
theorem dX3_front_176 : decode cX3_front 176 = .ok (.invokevirtual 102, 3) := by decide +kernel
theorem dX3_front_179 : decode cX3_front 179 = .ok (.ireturn, 1) := by decide +kernel
theorem dX3_votesOpen_0 : decode cX3_votesOpen 0 = .ok (.aload_n 0, 1) := by decide +kernel
theorem dX3_votesOpen_1 : decode cX3_votesOpen 1 = .ok (.getfield 16, 3) := by decide +kernel
theorem dX3_votesOpen_4 : decode cX3_votesOpen 4 = .ok (.iload_n 1, 1) := by decide +kernel
theorem dX3_votesOpen_5 : decode cX3_votesOpen 5 = .ok (.iaload, 1) := by decide +kernel
theorem dX3_votesOpen_6 : decode cX3_votesOpen 6 = .ok (.iconst 1, 1) := by decide +kernel
theorem dX3_votesOpen_7 : decode cX3_votesOpen 7 = .ok (.iadd, 1) := by decide +kernel
theorem dX3_votesOpen_8 : decode cX3_votesOpen 8 = .ok (.istore_n 2, 1) := by decide +kernel
theorem dX3_votesOpen_9 : decode cX3_votesOpen 9 = .ok (.aload_n 0, 1) := by decide +kernel
theorem dX3_votesOpen_10 : decode cX3_votesOpen 10 = .ok (.getfield 7, 3) := by decide +kernel
theorem dX3_votesOpen_13 : decode cX3_votesOpen 13 = .ok (.iload_n 1, 1) := by decide +kernel
theorem dX3_votesOpen_14 : decode cX3_votesOpen 14 = .ok (.iaload, 1) := by decide +kernel
theorem dX3_votesOpen_15 : decode cX3_votesOpen 15 = .ok (.ifCond .ne 12, 3) := by decide +kernel
theorem dX3_votesOpen_18 : decode cX3_votesOpen 18 = .ok (.aload_n 0, 1) := by decide +kernel
theorem dX3_votesOpen_19 : decode cX3_votesOpen 19 = .ok (.getfield 16, 3) := by decide +kernel
theorem dX3_votesOpen_22 : decode cX3_votesOpen 22 = .ok (.iload_n 1, 1) := by decide +kernel
theorem dX3_votesOpen_23 : decode cX3_votesOpen 23 = .ok (.iaload, 1) := by decide +kernel
theorem dX3_votesOpen_24 : decode cX3_votesOpen 24 = .ok (.goto 20, 3) := by decide +kernel
theorem dX3_votesOpen_27 : decode cX3_votesOpen 27 = .ok (.aload_n 0, 1) := by decide +kernel
theorem dX3_votesOpen_28 : decode cX3_votesOpen 28 = .ok (.getfield 7, 3) := by decide +kernel
theorem dX3_votesOpen_31 : decode cX3_votesOpen 31 = .ok (.iload_n 1, 1) := by decide +kernel
theorem dX3_votesOpen_32 : decode cX3_votesOpen 32 = .ok (.iaload, 1) := by decide +kernel
theorem dX3_votesOpen_33 : decode cX3_votesOpen 33 = .ok (.iconst 1, 1) := by decide +kernel
theorem dX3_votesOpen_34 : decode cX3_votesOpen 34 = .ok (.if_icmp .ne 7, 3) := by decide +kernel
theorem dX3_votesOpen_37 : decode cX3_votesOpen 37 = .ok (.iload_n 2, 1) := by decide +kernel
theorem dX3_votesOpen_38 : decode cX3_votesOpen 38 = .ok (.goto 6, 3) := by decide +kernel
theorem dX3_votesOpen_41 : decode cX3_votesOpen 41 = .ok (.iload_n 2, 1) := by decide +kernel
theorem dX3_votesOpen_42 : decode cX3_votesOpen 42 = .ok (.iconst 2, 1) := by decide +kernel
theorem dX3_votesOpen_43 : decode cX3_votesOpen 43 = .ok (.idiv, 1) := by decide +kernel
theorem dX3_votesOpen_44 : decode cX3_votesOpen 44 = .ok (.ireturn, 1) := by decide +kernel
set_option maxRecDepth 20000 in
theorem ggX3_votesOf_X3_isIn : GoodIn wsX3_votesOf wsX3_isIn := goodIn_r _ [5] (by decide +kernel) (by decide +kernel)
set_option maxRecDepth 20000 in
theorem gX3_votesOf_X3_isIn : GoodIn wsX3_votesOf (va_wsS RX3 120 yX3_isIn wsX3_isIn) := goodIn_app (goodIn_of _ (by decide +kernel)) ggX3_votesOf_X3_isIn
set_option maxRecDepth 20000 in
theorem ggX3_votesOf_X3_votesOpen : GoodIn wsX3_votesOf wsX3_votesOpen := goodIn_r _ [9, 10, 11, 12, 13, 14, 15, 16, 17, 18, 19, 20, 21, 22, 23, 24, 25, 26, 27, 28, 29, 30, 31, 32, 33, 34] (by decide +kernel) (by decide +kernel)
set_option maxRecDepth 20000 in
theorem gX3_votesOf_X3_votesOpen : GoodIn wsX3_votesOf (wsV RX3 123 RX3 yX3_votesOpen wsX3_votesOpen) := goodIn_app (goodIn_of _ (by decide +kernel)) ggX3_votesOf_X3_votesOpen
theorem dX3_votesOf_0 : decode cX3_votesOf 0 = .ok (.aload_n 0, 1) := by decide +kernel
theorem dX3_votesOf_1 : decode cX3_votesOf 1 = .ok (.getfield 114, 3) := by decide +kernel
theorem dX3_votesOf_4 : decode cX3_votesOf 4 = .ok (.iload_n 1, 1) := by decide +kernel
theorem dX3_votesOf_5 : decode cX3_votesOf 5 = .ok (.invokestatic 120, 3) := by decide +kernel
theorem dX3_votesOf_8 : decode cX3_votesOf 8 = .ok (.ifCond .eq 7, 3) := by decide +kernel
theorem dX3_votesOf_11 : decode cX3_votesOf 11 = .ok (.iconst 0, 1) := by decide +kernel
theorem dX3_votesOf_12 : decode cX3_votesOf 12 = .ok (.goto 8, 3) := by decide +kernel
theorem dX3_votesOf_15 : decode cX3_votesOf 15 = .ok (.aload_n 0, 1) := by decide +kernel
theorem dX3_votesOf_16 : decode cX3_votesOf 16 = .ok (.iload_n 1, 1) := by decide +kernel
theorem dX3_votesOf_17 : decode cX3_votesOf 17 = .ok (.invokevirtual 123, 3) := by decide +kernel
theorem dX3_votesOf_20 : decode cX3_votesOf 20 = .ok (.ireturn, 1) := by decide +kernel
set_option maxRecDepth 20000 in
theorem ggX3_meets_X3_isIn : GoodIn wsX3_meets wsX3_isIn := goodIn_r _ [7] (by decide +kernel) (by decide +kernel)
set_option maxRecDepth 20000 in
theorem gX3_meets_X3_isIn : GoodIn wsX3_meets (va_wsS RX3 120 yX3_isIn wsX3_isIn) := goodIn_app (goodIn_of _ (by decide +kernel)) ggX3_meets_X3_isIn
theorem dX3_meets_0 : decode cX3_meets 0 = .ok (.iload_n 1, 1) := by decide +kernel
theorem dX3_meets_1 : decode cX3_meets 1 = .ok (.ifCond .lt 41, 3) := by decide +kernel
theorem dX3_meets_4 : decode cX3_meets 4 = .ok (.iload_n 1, 1) := by decide +kernel
theorem dX3_meets_5 : decode cX3_meets 5 = .ok (.iconst 1, 1) := by decide +kernel
theorem dX3_meets_6 : decode cX3_meets 6 = .ok (.iadd, 1) := by decide +kernel
theorem dX3_meets_7 : decode cX3_meets 7 = .ok (.aload_n 0, 1) := by decide +kernel
theorem dX3_meets_8 : decode cX3_meets 8 = .ok (.getfield 65, 3) := by decide +kernel
theorem dX3_meets_11 : decode cX3_meets 11 = .ok (.if_icmp .ge 31, 3) := by decide +kernel
theorem dX3_meets_14 : decode cX3_meets 14 = .ok (.aload_n 0, 1) := by decide +kernel
theorem dX3_meets_15 : decode cX3_meets 15 = .ok (.getfield 114, 3) := by decide +kernel
theorem dX3_meets_18 : decode cX3_meets 18 = .ok (.iload_n 1, 1) := by decide +kernel
theorem dX3_meets_19 : decode cX3_meets 19 = .ok (.invokestatic 120, 3) := by decide +kernel
theorem dX3_meets_22 : decode cX3_meets 22 = .ok (.ifCond .ne 20, 3) := by decide +kernel
theorem dX3_meets_25 : decode cX3_meets 25 = .ok (.aload_n 0, 1) := by decide +kernel
theorem dX3_meets_26 : decode cX3_meets 26 = .ok (.getfield 114, 3) := by decide +kernel
theorem dX3_meets_29 : decode cX3_meets 29 = .ok (.iload_n 1, 1) := by decide +kernel
theorem dX3_meets_30 : decode cX3_meets 30 = .ok (.iconst 1, 1) := by decide +kernel
theorem dX3_meets_31 : decode cX3_meets 31 = .ok (.iadd, 1) := by decide +kernel
theorem dX3_meets_32 : decode cX3_meets 32 = .ok (.invokestatic 120, 3) := by decide +kernel
theorem dX3_meets_35 : decode cX3_meets 35 = .ok (.ifCond .ne 7, 3) := by decide +kernel
theorem dX3_meets_38 : decode cX3_meets 38 = .ok (.iconst 1, 1) := by decide +kernel
theorem dX3_meets_39 : decode cX3_meets 39 = .ok (.goto 4, 3) := by decide +kernel
theorem dX3_meets_42 : decode cX3_meets 42 = .ok (.iconst 0, 1) := by decide +kernel
theorem dX3_meets_43 : decode cX3_meets 43 = .ok (.istore_n 2, 1) := by decide +kernel
theorem dX3_meets_44 : decode cX3_meets 44 = .ok (.iload_n 2, 1) := by decide +kernel
theorem dX3_meets_45 : decode cX3_meets 45 = .ok (.ifCond .eq 29, 3) := by decide +kernel
theorem dX3_meets_48 : decode cX3_meets 48 = .ok (.aload_n 0, 1) := by decide +kernel
theorem dX3_meets_49 : decode cX3_meets 49 = .ok (.getfield 19, 3) := by decide +kernel
theorem dX3_meets_52 : decode cX3_meets 52 = .ok (.iload_n 1, 1) := by decide +kernel
theorem dX3_meets_53 : decode cX3_meets 53 = .ok (.iaload, 1) := by decide +kernel
theorem dX3_meets_54 : decode cX3_meets 54 = .ok (.iconst 1, 1) := by decide +kernel
theorem dX3_meets_55 : decode cX3_meets 55 = .ok (.if_icmp .ne 19, 3) := by decide +kernel
theorem dX3_meets_58 : decode cX3_meets 58 = .ok (.aload_n 0, 1) := by decide +kernel
theorem dX3_meets_59 : decode cX3_meets 59 = .ok (.getfield 19, 3) := by decide +kernel
theorem dX3_meets_62 : decode cX3_meets 62 = .ok (.iload_n 1, 1) := by decide +kernel
theorem dX3_meets_63 : decode cX3_meets 63 = .ok (.iconst 1, 1) := by decide +kernel
theorem dX3_meets_64 : decode cX3_meets 64 = .ok (.iadd, 1) := by decide +kernel
theorem dX3_meets_65 : decode cX3_meets 65 = .ok (.iaload, 1) := by decide +kernel
theorem dX3_meets_66 : decode cX3_meets 66 = .ok (.iconst 3, 1) := by decide +kernel
theorem dX3_meets_67 : decode cX3_meets 67 = .ok (.if_icmp .ne 7, 3) := by decide +kernel
theorem dX3_meets_70 : decode cX3_meets 70 = .ok (.iconst 1, 1) := by decide +kernel
theorem dX3_meets_71 : decode cX3_meets 71 = .ok (.goto 4, 3) := by decide +kernel
theorem dX3_meets_74 : decode cX3_meets 74 = .ok (.iconst 0, 1) := by decide +kernel
theorem dX3_meets_75 : decode cX3_meets 75 = .ok (.ireturn, 1) := by decide +kernel
set_option maxRecDepth 20000 in
theorem ggX3_countsAs_X3_isIn : GoodIn wsX3_countsAs wsX3_isIn := goodIn_r _ [7] (by decide +kernel) (by decide +kernel)
set_option maxRecDepth 20000 in
theorem gX3_countsAs_X3_isIn : GoodIn wsX3_countsAs (va_wsS RX3 120 yX3_isIn wsX3_isIn) := goodIn_app (goodIn_of _ (by decide +kernel)) ggX3_countsAs_X3_isIn
set_option maxRecDepth 20000 in
theorem ggX3_countsAs_X3_meets : GoodIn wsX3_countsAs wsX3_meets := goodIn_r _ [11, 12, 1, 3, 4, 5, 6, 7, 13, 14, 15, 16, 17, 18, 19, 20, 21, 22, 23, 24, 25, 26, 27, 28, 29, 30, 31, 32, 33, 34, 35] (by decide +kernel) (by decide +kernel)
set_option maxRecDepth 20000 in
theorem gX3_countsAs_X3_meets : GoodIn wsX3_countsAs (wsV RX3 126 RX3 yX3_meets wsX3_meets) := goodIn_app (goodIn_of _ (by decide +kernel)) ggX3_countsAs_X3_meets
theorem dX3_countsAs_0 : decode cX3_countsAs 0 = .ok (.aload_n 0, 1) := by decide +kernel
theorem dX3_countsAs_1 : decode cX3_countsAs 1 = .ok (.getfield 114, 3) := by decide +kernel
theorem dX3_countsAs_4 : decode cX3_countsAs 4 = .ok (.iload_n 1, 1) := by decide +kernel
theorem dX3_countsAs_5 : decode cX3_countsAs 5 = .ok (.invokestatic 120, 3) := by decide +kernel
theorem dX3_countsAs_8 : decode cX3_countsAs 8 = .ok (.ifCond .eq 5, 3) := by decide +kernel
theorem dX3_countsAs_11 : decode cX3_countsAs 11 = .ok (.iconst 0, 1) := by decide +kernel
theorem dX3_countsAs_12 : decode cX3_countsAs 12 = .ok (.ireturn, 1) := by decide +kernel
theorem dX3_countsAs_13 : decode cX3_countsAs 13 = .ok (.aload_n 0, 1) := by decide +kernel
theorem dX3_countsAs_14 : decode cX3_countsAs 14 = .ok (.iload_n 1, 1) := by decide +kernel
theorem dX3_countsAs_15 : decode cX3_countsAs 15 = .ok (.invokevirtual 126, 3) := by decide +kernel
theorem dX3_countsAs_18 : decode cX3_countsAs 18 = .ok (.ifCond .eq 9, 3) := by decide +kernel
theorem dX3_countsAs_21 : decode cX3_countsAs 21 = .ok (.iload_n 1, 1) := by decide +kernel
theorem dX3_countsAs_22 : decode cX3_countsAs 22 = .ok (.iconst 1, 1) := by decide +kernel
theorem dX3_countsAs_23 : decode cX3_countsAs 23 = .ok (.iadd, 1) := by decide +kernel
theorem dX3_countsAs_24 : decode cX3_countsAs 24 = .ok (.goto 21, 3) := by decide +kernel
theorem dX3_countsAs_27 : decode cX3_countsAs 27 = .ok (.aload_n 0, 1) := by decide +kernel
theorem dX3_countsAs_28 : decode cX3_countsAs 28 = .ok (.iload_n 1, 1) := by decide +kernel
theorem dX3_countsAs_29 : decode cX3_countsAs 29 = .ok (.iconst 1, 1) := by decide +kernel
theorem dX3_countsAs_30 : decode cX3_countsAs 30 = .ok (.isub, 1) := by decide +kernel
theorem dX3_countsAs_31 : decode cX3_countsAs 31 = .ok (.invokevirtual 126, 3) := by decide +kernel
theorem dX3_countsAs_34 : decode cX3_countsAs 34 = .ok (.ifCond .eq 9, 3) := by decide +kernel
theorem dX3_countsAs_37 : decode cX3_countsAs 37 = .ok (.iload_n 1, 1) := by decide +kernel
theorem dX3_countsAs_38 : decode cX3_countsAs 38 = .ok (.iconst 1, 1) := by decide +kernel
theorem dX3_countsAs_39 : decode cX3_countsAs 39 = .ok (.isub, 1) := by decide +kernel
theorem dX3_countsAs_40 : decode cX3_countsAs 40 = .ok (.goto 5, 3) := by decide +kernel
theorem dX3_countsAs_43 : decode cX3_countsAs 43 = .ok (.bipush (-9), 2) := by decide +kernel
theorem dX3_countsAs_45 : decode cX3_countsAs 45 = .ok (.istore_n 2, 1) := by decide +kernel
theorem dX3_countsAs_46 : decode cX3_countsAs 46 = .ok (.iload_n 2, 1) := by decide +kernel
theorem dX3_countsAs_47 : decode cX3_countsAs 47 = .ok (.ifCond .lt 24, 3) := by decide +kernel
theorem dX3_countsAs_50 : decode cX3_countsAs 50 = .ok (.aload_n 0, 1) := by decide +kernel
theorem dX3_countsAs_51 : decode cX3_countsAs 51 = .ok (.getfield 13, 3) := by decide +kernel
theorem dX3_countsAs_54 : decode cX3_countsAs 54 = .ok (.iload_n 1, 1) := by decide +kernel
theorem dX3_countsAs_55 : decode cX3_countsAs 55 = .ok (.iaload, 1) := by decide +kernel
theorem dX3_countsAs_56 : decode cX3_countsAs 56 = .ok (.aload_n 0, 1) := by decide +kernel
theorem dX3_countsAs_57 : decode cX3_countsAs 57 = .ok (.getfield 13, 3) := by decide +kernel
theorem dX3_countsAs_60 : decode cX3_countsAs 60 = .ok (.iload_n 2, 1) := by decide +kernel
theorem dX3_countsAs_61 : decode cX3_countsAs 61 = .ok (.iaload, 1) := by decide +kernel
theorem dX3_countsAs_62 : decode cX3_countsAs 62 = .ok (.if_icmp .ne 7, 3) := by decide +kernel
theorem dX3_countsAs_65 : decode cX3_countsAs 65 = .ok (.iconst 1, 1) := by decide +kernel
theorem dX3_countsAs_66 : decode cX3_countsAs 66 = .ok (.goto 4, 3) := by decide +kernel
theorem dX3_countsAs_69 : decode cX3_countsAs 69 = .ok (.iconst 2, 1) := by decide +kernel
theorem dX3_countsAs_70 : decode cX3_countsAs 70 = .ok (.ireturn, 1) := by decide +kernel
theorem dX3_countsAs_71 : decode cX3_countsAs 71 = .ok (.aload_n 0, 1) := by decide +kernel
theorem dX3_countsAs_72 : decode cX3_countsAs 72 = .ok (.getfield 19, 3) := by decide +kernel
theorem dX3_countsAs_75 : decode cX3_countsAs 75 = .ok (.iload_n 1, 1) := by decide +kernel
theorem dX3_countsAs_76 : decode cX3_countsAs 76 = .ok (.iaload, 1) := by decide +kernel
theorem dX3_countsAs_77 : decode cX3_countsAs 77 = .ok (.ifCond .ne 7, 3) := by decide +kernel
theorem dX3_countsAs_80 : decode cX3_countsAs 80 = .ok (.iconst 1, 1) := by decide +kernel
theorem dX3_countsAs_81 : decode cX3_countsAs 81 = .ok (.goto 18, 3) := by decide +kernel
theorem dX3_countsAs_84 : decode cX3_countsAs 84 = .ok (.aload_n 0, 1) := by decide +kernel
theorem dX3_countsAs_85 : decode cX3_countsAs 85 = .ok (.getfield 19, 3) := by decide +kernel
theorem dX3_countsAs_88 : decode cX3_countsAs 88 = .ok (.iload_n 1, 1) := by decide +kernel
theorem dX3_countsAs_89 : decode cX3_countsAs 89 = .ok (.iaload, 1) := by decide +kernel
theorem dX3_countsAs_90 : decode cX3_countsAs 90 = .ok (.iconst 2, 1) := by decide +kernel
theorem dX3_countsAs_91 : decode cX3_countsAs 91 = .ok (.if_icmp .ne 7, 3) := by decide +kernel
theorem dX3_countsAs_94 : decode cX3_countsAs 94 = .ok (.iconst 2, 1) := by decide +kernel
theorem dX3_countsAs_95 : decode cX3_countsAs 95 = .ok (.goto 4, 3) := by decide +kernel
theorem dX3_countsAs_98 : decode cX3_countsAs 98 = .ok (.iconst 0, 1) := by decide +kernel
theorem dX3_countsAs_99 : decode cX3_countsAs 99 = .ok (.ireturn, 1) := by decide +kernel
set_option maxRecDepth 20000 in
theorem ggX3_ofChair_X3_noChair : GoodIn wsX3_ofChair wsX3_noChair := goodIn_r _ [10, 11, 12, 13, 9, 14, 34, 35, 36, 37, 38, 39, 40, 41, 42, 43, 44, 45, 46, 47, 48, 49, 50, 51, 52, 53, 54, 55, 56] (by decide +kernel) (by decide +kernel)
set_option maxRecDepth 20000 in
theorem gX3_ofChair_X3_noChair : GoodIn wsX3_ofChair (wsV RX3 129 RX3 yX3_noChair wsX3_noChair) := goodIn_app (goodIn_of _ (by decide +kernel)) ggX3_ofChair_X3_noChair
set_option maxRecDepth 20000 in
theorem ggX3_ofChair_X3_votesOf : GoodIn wsX3_ofChair wsX3_votesOf := goodIn_r _ [18, 5, 19, 20, 9, 21, 22, 23, 24, 25, 3, 1, 34, 35, 36, 37, 38, 39, 40, 41, 42, 43, 44, 45, 46, 47, 48, 49, 50, 51, 52, 53, 54, 55, 56] (by decide +kernel) (by decide +kernel)
set_option maxRecDepth 20000 in
theorem gX3_ofChair_X3_votesOf : GoodIn wsX3_ofChair (wsV RX3 132 RX3 yX3_votesOf wsX3_votesOf) := goodIn_app (goodIn_of _ (by decide +kernel)) ggX3_ofChair_X3_votesOf
set_option maxRecDepth 20000 in
theorem ggX3_ofChair_X3_countsAs : GoodIn wsX3_ofChair wsX3_countsAs := goodIn_r _ [29, 5, 2, 4, 19, 20, 9, 21, 30, 31, 32, 33, 11, 34, 35, 36, 37, 38, 39, 40, 41, 42, 43, 44, 45, 46, 47, 48, 49, 50, 51, 52, 53, 54, 55, 56] (by decide +kernel) (by decide +kernel)
set_option maxRecDepth 20000 in
theorem gX3_ofChair_X3_countsAs : GoodIn wsX3_ofChair (wsV RX3 135 RX3 yX3_countsAs wsX3_countsAs) := goodIn_app (goodIn_of _ (by decide +kernel)) ggX3_ofChair_X3_countsAs
theorem dX3_ofChair_0 : decode cX3_ofChair 0 = .ok (.aload_n 0, 1) := by decide +kernel
theorem dX3_ofChair_1 : decode cX3_ofChair 1 = .ok (.iload_n 1, 1) := by decide +kernel
theorem dX3_ofChair_2 : decode cX3_ofChair 2 = .ok (.invokevirtual 129, 3) := by decide +kernel
theorem dX3_ofChair_5 : decode cX3_ofChair 5 = .ok (.ifCond .eq 5, 3) := by decide +kernel
theorem dX3_ofChair_8 : decode cX3_ofChair 8 = .ok (.iconst (-1), 1) := by decide +kernel
theorem dX3_ofChair_9 : decode cX3_ofChair 9 = .ok (.ireturn, 1) := by decide +kernel
theorem dX3_ofChair_10 : decode cX3_ofChair 10 = .ok (.iload_n 2, 1) := by decide +kernel
theorem dX3_ofChair_11 : decode cX3_ofChair 11 = .ok (.tableswitch 90 0 6 #[41, 48, 55, 62, 69, 78, 84], 41) := by decide +kernel
theorem dX3_ofChair_52 : decode cX3_ofChair 52 = .ok (.aload_n 0, 1) := by decide +kernel
theorem dX3_ofChair_53 : decode cX3_ofChair 53 = .ok (.getfield 7, 3) := by decide +kernel
theorem dX3_ofChair_56 : decode cX3_ofChair 56 = .ok (.iload_n 1, 1) := by decide +kernel
theorem dX3_ofChair_57 : decode cX3_ofChair 57 = .ok (.iaload, 1) := by decide +kernel
theorem dX3_ofChair_58 : decode cX3_ofChair 58 = .ok (.ireturn, 1) := by decide +kernel
theorem dX3_ofChair_59 : decode cX3_ofChair 59 = .ok (.aload_n 0, 1) := by decide +kernel
theorem dX3_ofChair_60 : decode cX3_ofChair 60 = .ok (.getfield 13, 3) := by decide +kernel
theorem dX3_ofChair_63 : decode cX3_ofChair 63 = .ok (.iload_n 1, 1) := by decide +kernel
theorem dX3_ofChair_64 : decode cX3_ofChair 64 = .ok (.iaload, 1) := by decide +kernel
theorem dX3_ofChair_65 : decode cX3_ofChair 65 = .ok (.ireturn, 1) := by decide +kernel
theorem dX3_ofChair_66 : decode cX3_ofChair 66 = .ok (.aload_n 0, 1) := by decide +kernel
theorem dX3_ofChair_67 : decode cX3_ofChair 67 = .ok (.getfield 16, 3) := by decide +kernel
theorem dX3_ofChair_70 : decode cX3_ofChair 70 = .ok (.iload_n 1, 1) := by decide +kernel
theorem dX3_ofChair_71 : decode cX3_ofChair 71 = .ok (.iaload, 1) := by decide +kernel
theorem dX3_ofChair_72 : decode cX3_ofChair 72 = .ok (.ireturn, 1) := by decide +kernel
theorem dX3_ofChair_73 : decode cX3_ofChair 73 = .ok (.aload_n 0, 1) := by decide +kernel
theorem dX3_ofChair_74 : decode cX3_ofChair 74 = .ok (.getfield 19, 3) := by decide +kernel
theorem dX3_ofChair_77 : decode cX3_ofChair 77 = .ok (.iload_n 1, 1) := by decide +kernel
theorem dX3_ofChair_78 : decode cX3_ofChair 78 = .ok (.iaload, 1) := by decide +kernel
theorem dX3_ofChair_79 : decode cX3_ofChair 79 = .ok (.ireturn, 1) := by decide +kernel
theorem dX3_ofChair_80 : decode cX3_ofChair 80 = .ok (.aload_n 0, 1) := by decide +kernel
theorem dX3_ofChair_81 : decode cX3_ofChair 81 = .ok (.getfield 114, 3) := by decide +kernel
theorem dX3_ofChair_84 : decode cX3_ofChair 84 = .ok (.iload_n 1, 1) := by decide +kernel
theorem dX3_ofChair_85 : decode cX3_ofChair 85 = .ok (.ishr, 1) := by decide +kernel
theorem dX3_ofChair_86 : decode cX3_ofChair 86 = .ok (.iconst 1, 1) := by decide +kernel
theorem dX3_ofChair_87 : decode cX3_ofChair 87 = .ok (.iand, 1) := by decide +kernel
theorem dX3_ofChair_88 : decode cX3_ofChair 88 = .ok (.ireturn, 1) := by decide +kernel
theorem dX3_ofChair_89 : decode cX3_ofChair 89 = .ok (.aload_n 0, 1) := by decide +kernel
theorem dX3_ofChair_90 : decode cX3_ofChair 90 = .ok (.iload_n 1, 1) := by decide +kernel
theorem dX3_ofChair_91 : decode cX3_ofChair 91 = .ok (.invokevirtual 132, 3) := by decide +kernel
theorem dX3_ofChair_94 : decode cX3_ofChair 94 = .ok (.ireturn, 1) := by decide +kernel
theorem dX3_ofChair_95 : decode cX3_ofChair 95 = .ok (.aload_n 0, 1) := by decide +kernel
theorem dX3_ofChair_96 : decode cX3_ofChair 96 = .ok (.iload_n 1, 1) := by decide +kernel
theorem dX3_ofChair_97 : decode cX3_ofChair 97 = .ok (.invokevirtual 135, 3) := by decide +kernel
theorem dX3_ofChair_100 : decode cX3_ofChair 100 = .ok (.ireturn, 1) := by decide +kernel
theorem dX3_ofChair_101 : decode cX3_ofChair 101 = .ok (.bipush (-2), 2) := by decide +kernel
theorem dX3_ofChair_103 : decode cX3_ofChair 103 = .ok (.ireturn, 1) := by decide +kernel
set_option maxRecDepth 20000 in
theorem ggX3_paint_X3_noChair : GoodIn wsX3_paint wsX3_noChair := goodIn_r _ [7, 8, 9, 10, 6, 11, 12, 13, 14, 15, 16, 17, 18, 19, 20, 21, 22, 23, 24, 25, 26, 27, 28, 29, 30, 31, 32, 33, 34] (by decide +kernel) (by decide +kernel)
set_option maxRecDepth 20000 in
theorem gX3_paint_X3_noChair : GoodIn wsX3_paint (wsV RX3 129 RX3 yX3_noChair wsX3_noChair) := goodIn_app (goodIn_of _ (by decide +kernel)) ggX3_paint_X3_noChair
set_option maxRecDepth 20000 in
theorem ggX3_paint_X3_in : GoodIn wsX3_paint wsX3_in := goodIn_r _ [11] (by decide +kernel) (by decide +kernel)
set_option maxRecDepth 20000 in
theorem gX3_paint_X3_in : GoodIn wsX3_paint (va_wsS RX3 68 yX3_in wsX3_in) := goodIn_app (goodIn_of _ (by decide +kernel)) ggX3_paint_X3_in
theorem dX3_paint_0 : decode cX3_paint 0 = .ok (.aload_n 0, 1) := by decide +kernel
theorem dX3_paint_1 : decode cX3_paint 1 = .ok (.iload_n 1, 1) := by decide +kernel
theorem dX3_paint_2 : decode cX3_paint 2 = .ok (.invokevirtual 129, 3) := by decide +kernel
theorem dX3_paint_5 : decode cX3_paint 5 = .ok (.ifCond .eq 5, 3) := by decide +kernel
theorem dX3_paint_8 : decode cX3_paint 8 = .ok (.iconst (-1), 1) := by decide +kernel
theorem dX3_paint_9 : decode cX3_paint 9 = .ok (.ireturn, 1) := by decide +kernel
theorem dX3_paint_10 : decode cX3_paint 10 = .ok (.iload_n 2, 1) := by decide +kernel
theorem dX3_paint_11 : decode cX3_paint 11 = .ok (.i2l, 1) := by decide +kernel
theorem dX3_paint_12 : decode cX3_paint 12 = .ok (.lconst 0, 1) := by decide +kernel
theorem dX3_paint_13 : decode cX3_paint 13 = .ok (.ldc2_w 138, 3) := by decide +kernel
theorem dX3_paint_16 : decode cX3_paint 16 = .ok (.invokestatic 68, 3) := by decide +kernel
theorem dX3_paint_19 : decode cX3_paint 19 = .ok (.ifCond .ne 6, 3) := by decide +kernel
theorem dX3_paint_22 : decode cX3_paint 22 = .ok (.bipush (-2), 2) := by decide +kernel
theorem dX3_paint_24 : decode cX3_paint 24 = .ok (.ireturn, 1) := by decide +kernel
theorem dX3_paint_25 : decode cX3_paint 25 = .ok (.aload_n 0, 1) := by decide +kernel
theorem dX3_paint_26 : decode cX3_paint 26 = .ok (.getfield 13, 3) := by decide +kernel
theorem dX3_paint_29 : decode cX3_paint 29 = .ok (.iload_n 1, 1) := by decide +kernel
theorem dX3_paint_30 : decode cX3_paint 30 = .ok (.iaload, 1) := by decide +kernel
theorem dX3_paint_31 : decode cX3_paint 31 = .ok (.istore_n 3, 1) := by decide +kernel
theorem dX3_paint_32 : decode cX3_paint 32 = .ok (.aload_n 0, 1) := by decide +kernel
theorem dX3_paint_33 : decode cX3_paint 33 = .ok (.getfield 13, 3) := by decide +kernel
theorem dX3_paint_36 : decode cX3_paint 36 = .ok (.iload_n 1, 1) := by decide +kernel
theorem dX3_paint_37 : decode cX3_paint 37 = .ok (.iload_n 2, 1) := by decide +kernel
theorem dX3_paint_38 : decode cX3_paint 38 = .ok (.iastore, 1) := by decide +kernel
theorem dX3_paint_39 : decode cX3_paint 39 = .ok (.iload_n 3, 1) := by decide +kernel
theorem dX3_paint_40 : decode cX3_paint 40 = .ok (.ireturn, 1) := by decide +kernel
set_option maxRecDepth 20000 in
theorem ggX3_load_X3_noChair : GoodIn wsX3_load wsX3_noChair := goodIn_r _ [7, 8, 9, 10, 6, 11, 12, 13, 14, 15, 16, 17, 18, 19, 20, 21, 22, 23, 24, 25, 26, 27, 28, 29, 30, 31, 32, 33, 34] (by decide +kernel) (by decide +kernel)
set_option maxRecDepth 20000 in
theorem gX3_load_X3_noChair : GoodIn wsX3_load (wsV RX3 129 RX3 yX3_noChair wsX3_noChair) := goodIn_app (goodIn_of _ (by decide +kernel)) ggX3_load_X3_noChair
set_option maxRecDepth 20000 in
theorem ggX3_load_X3_in : GoodIn wsX3_load wsX3_in := goodIn_r _ [11] (by decide +kernel) (by decide +kernel)
set_option maxRecDepth 20000 in
theorem gX3_load_X3_in : GoodIn wsX3_load (va_wsS RX3 68 yX3_in wsX3_in) := goodIn_app (goodIn_of _ (by decide +kernel)) ggX3_load_X3_in
theorem dX3_load_0 : decode cX3_load 0 = .ok (.aload_n 0, 1) := by decide +kernel
theorem dX3_load_1 : decode cX3_load 1 = .ok (.iload_n 1, 1) := by decide +kernel
theorem dX3_load_2 : decode cX3_load 2 = .ok (.invokevirtual 129, 3) := by decide +kernel
theorem dX3_load_5 : decode cX3_load 5 = .ok (.ifCond .eq 5, 3) := by decide +kernel
theorem dX3_load_8 : decode cX3_load 8 = .ok (.iconst (-1), 1) := by decide +kernel
theorem dX3_load_9 : decode cX3_load 9 = .ok (.ireturn, 1) := by decide +kernel
theorem dX3_load_10 : decode cX3_load 10 = .ok (.iload_n 2, 1) := by decide +kernel
theorem dX3_load_11 : decode cX3_load 11 = .ok (.i2l, 1) := by decide +kernel
theorem dX3_load_12 : decode cX3_load 12 = .ok (.lconst 1, 1) := by decide +kernel
theorem dX3_load_13 : decode cX3_load 13 = .ok (.ldc2_w 140, 3) := by decide +kernel
theorem dX3_load_16 : decode cX3_load 16 = .ok (.invokestatic 68, 3) := by decide +kernel
theorem dX3_load_19 : decode cX3_load 19 = .ok (.ifCond .ne 6, 3) := by decide +kernel
theorem dX3_load_22 : decode cX3_load 22 = .ok (.bipush (-2), 2) := by decide +kernel
theorem dX3_load_24 : decode cX3_load 24 = .ok (.ireturn, 1) := by decide +kernel
theorem dX3_load_25 : decode cX3_load 25 = .ok (.aload_n 0, 1) := by decide +kernel
theorem dX3_load_26 : decode cX3_load 26 = .ok (.getfield 16, 3) := by decide +kernel
theorem dX3_load_29 : decode cX3_load 29 = .ok (.iload_n 1, 1) := by decide +kernel
theorem dX3_load_30 : decode cX3_load 30 = .ok (.iaload, 1) := by decide +kernel
theorem dX3_load_31 : decode cX3_load 31 = .ok (.istore_n 3, 1) := by decide +kernel
theorem dX3_load_32 : decode cX3_load 32 = .ok (.aload_n 0, 1) := by decide +kernel
theorem dX3_load_33 : decode cX3_load 33 = .ok (.getfield 16, 3) := by decide +kernel
theorem dX3_load_36 : decode cX3_load 36 = .ok (.iload_n 1, 1) := by decide +kernel
theorem dX3_load_37 : decode cX3_load 37 = .ok (.iload_n 2, 1) := by decide +kernel
theorem dX3_load_38 : decode cX3_load 38 = .ok (.iastore, 1) := by decide +kernel
theorem dX3_load_39 : decode cX3_load 39 = .ok (.iload_n 3, 1) := by decide +kernel
theorem dX3_load_40 : decode cX3_load 40 = .ok (.ireturn, 1) := by decide +kernel
set_option maxRecDepth 20000 in
theorem ggX3_whoIs_X3_countsAs : GoodIn wsX3_whoIs wsX3_countsAs := goodIn_r _ [6, 7, 8, 9, 10, 11, 5, 12, 13, 14, 15, 16, 1, 17, 18, 19, 20, 21, 22, 23, 24, 25, 26, 27, 28, 29, 30, 31, 32, 33, 34, 35, 36, 37, 38, 39] (by decide +kernel) (by decide +kernel)
set_option maxRecDepth 20000 in
theorem gX3_whoIs_X3_countsAs : GoodIn wsX3_whoIs (wsV RX3 135 RX3 yX3_countsAs wsX3_countsAs) := goodIn_app (goodIn_of _ (by decide +kernel)) ggX3_whoIs_X3_countsAs
theorem dX3_whoIs_0 : decode cX3_whoIs 0 = .ok (.iconst 0, 1) := by decide +kernel
theorem dX3_whoIs_1 : decode cX3_whoIs 1 = .ok (.istore_n 2, 1) := by decide +kernel
theorem dX3_whoIs_2 : decode cX3_whoIs 2 = .ok (.iconst 0, 1) := by decide +kernel
theorem dX3_whoIs_3 : decode cX3_whoIs 3 = .ok (.istore_n 3, 1) := by decide +kernel
theorem dX3_whoIs_4 : decode cX3_whoIs 4 = .ok (.iload_n 3, 1) := by decide +kernel
theorem dX3_whoIs_5 : decode cX3_whoIs 5 = .ok (.aload_n 0, 1) := by decide +kernel
theorem dX3_whoIs_6 : decode cX3_whoIs 6 = .ok (.getfield 65, 3) := by decide +kernel
theorem dX3_whoIs_9 : decode cX3_whoIs 9 = .ok (.if_icmp .ge 28, 3) := by decide +kernel
theorem dX3_whoIs_12 : decode cX3_whoIs 12 = .ok (.iload_n 2, 1) := by decide +kernel
theorem dX3_whoIs_13 : decode cX3_whoIs 13 = .ok (.aload_n 0, 1) := by decide +kernel
theorem dX3_whoIs_14 : decode cX3_whoIs 14 = .ok (.iload_n 3, 1) := by decide +kernel
theorem dX3_whoIs_15 : decode cX3_whoIs 15 = .ok (.invokevirtual 135, 3) := by decide +kernel
theorem dX3_whoIs_18 : decode cX3_whoIs 18 = .ok (.iload_n 1, 1) := by decide +kernel
theorem dX3_whoIs_19 : decode cX3_whoIs 19 = .ok (.if_icmp .ne 9, 3) := by decide +kernel
theorem dX3_whoIs_22 : decode cX3_whoIs 22 = .ok (.iconst 1, 1) := by decide +kernel
theorem dX3_whoIs_23 : decode cX3_whoIs 23 = .ok (.iload_n 3, 1) := by decide +kernel
theorem dX3_whoIs_24 : decode cX3_whoIs 24 = .ok (.ishl, 1) := by decide +kernel
theorem dX3_whoIs_25 : decode cX3_whoIs 25 = .ok (.goto 4, 3) := by decide +kernel
theorem dX3_whoIs_28 : decode cX3_whoIs 28 = .ok (.iconst 0, 1) := by decide +kernel
theorem dX3_whoIs_29 : decode cX3_whoIs 29 = .ok (.ior, 1) := by decide +kernel
theorem dX3_whoIs_30 : decode cX3_whoIs 30 = .ok (.istore_n 2, 1) := by decide +kernel
theorem dX3_whoIs_31 : decode cX3_whoIs 31 = .ok (.iinc 3 1, 3) := by decide +kernel
theorem dX3_whoIs_34 : decode cX3_whoIs 34 = .ok (.goto (-30), 3) := by decide +kernel
theorem dX3_whoIs_37 : decode cX3_whoIs 37 = .ok (.iload_n 2, 1) := by decide +kernel
theorem dX3_whoIs_38 : decode cX3_whoIs 38 = .ok (.ireturn, 1) := by decide +kernel
set_option maxRecDepth 20000 in
theorem ggX3_votesIn_X3_isIn : GoodIn wsX3_votesIn wsX3_isIn := goodIn_r _ [5] (by decide +kernel) (by decide +kernel)
set_option maxRecDepth 20000 in
theorem gX3_votesIn_X3_isIn : GoodIn wsX3_votesIn (va_wsS RX3 120 yX3_isIn wsX3_isIn) := goodIn_app (goodIn_of _ (by decide +kernel)) ggX3_votesIn_X3_isIn
set_option maxRecDepth 20000 in
theorem ggX3_votesIn_X3_votesOf : GoodIn wsX3_votesIn wsX3_votesOf := goodIn_r _ [9, 10, 2, 3, 4, 5, 11, 12, 13, 14, 15, 16, 17, 18, 19, 20, 21, 22, 23, 24, 25, 26, 27, 28, 29, 30, 31, 32, 33, 34, 35, 36, 37, 38, 39] (by decide +kernel) (by decide +kernel)
set_option maxRecDepth 20000 in
theorem gX3_votesIn_X3_votesOf : GoodIn wsX3_votesIn (wsV RX3 132 RX3 yX3_votesOf wsX3_votesOf) := goodIn_app (goodIn_of _ (by decide +kernel)) ggX3_votesIn_X3_votesOf
theorem dX3_votesIn_0 : decode cX3_votesIn 0 = .ok (.iconst 0, 1) := by decide +kernel
theorem dX3_votesIn_1 : decode cX3_votesIn 1 = .ok (.istore_n 2, 1) := by decide +kernel
theorem dX3_votesIn_2 : decode cX3_votesIn 2 = .ok (.iconst 0, 1) := by decide +kernel
theorem dX3_votesIn_3 : decode cX3_votesIn 3 = .ok (.istore_n 3, 1) := by decide +kernel
theorem dX3_votesIn_4 : decode cX3_votesIn 4 = .ok (.iload_n 3, 1) := by decide +kernel
theorem dX3_votesIn_5 : decode cX3_votesIn 5 = .ok (.aload_n 0, 1) := by decide +kernel
theorem dX3_votesIn_6 : decode cX3_votesIn 6 = .ok (.getfield 65, 3) := by decide +kernel
theorem dX3_votesIn_9 : decode cX3_votesIn 9 = .ok (.if_icmp .ge 29, 3) := by decide +kernel
theorem dX3_votesIn_12 : decode cX3_votesIn 12 = .ok (.iload_n 2, 1) := by decide +kernel
theorem dX3_votesIn_13 : decode cX3_votesIn 13 = .ok (.iload_n 1, 1) := by decide +kernel
theorem dX3_votesIn_14 : decode cX3_votesIn 14 = .ok (.iload_n 3, 1) := by decide +kernel
theorem dX3_votesIn_15 : decode cX3_votesIn 15 = .ok (.invokestatic 120, 3) := by decide +kernel
theorem dX3_votesIn_18 : decode cX3_votesIn 18 = .ok (.ifCond .eq 11, 3) := by decide +kernel
theorem dX3_votesIn_21 : decode cX3_votesIn 21 = .ok (.aload_n 0, 1) := by decide +kernel
theorem dX3_votesIn_22 : decode cX3_votesIn 22 = .ok (.iload_n 3, 1) := by decide +kernel
theorem dX3_votesIn_23 : decode cX3_votesIn 23 = .ok (.invokevirtual 132, 3) := by decide +kernel
theorem dX3_votesIn_26 : decode cX3_votesIn 26 = .ok (.goto 4, 3) := by decide +kernel
theorem dX3_votesIn_29 : decode cX3_votesIn 29 = .ok (.iconst 0, 1) := by decide +kernel
theorem dX3_votesIn_30 : decode cX3_votesIn 30 = .ok (.iadd, 1) := by decide +kernel
theorem dX3_votesIn_31 : decode cX3_votesIn 31 = .ok (.istore_n 2, 1) := by decide +kernel
theorem dX3_votesIn_32 : decode cX3_votesIn 32 = .ok (.iinc 3 1, 3) := by decide +kernel
theorem dX3_votesIn_35 : decode cX3_votesIn 35 = .ok (.goto (-31), 3) := by decide +kernel
theorem dX3_votesIn_38 : decode cX3_votesIn 38 = .ok (.iload_n 2, 1) := by decide +kernel
theorem dX3_votesIn_39 : decode cX3_votesIn 39 = .ok (.ireturn, 1) := by decide +kernel
set_option maxRecDepth 20000 in
theorem ggX3_isCarried_X3_whoIs : GoodIn wsX3_isCarried wsX3_whoIs := goodIn_r _ [5, 6, 7, 8, 9, 4, 10, 11, 12, 13, 14, 15, 16, 17, 18, 19, 20, 35, 36, 37, 38, 39, 40, 41, 42, 43, 44, 45, 46, 47, 48, 49, 50, 51, 52, 53, 54, 55, 56, 57] (by decide +kernel) (by decide +kernel)
set_option maxRecDepth 20000 in
theorem gX3_isCarried_X3_whoIs : GoodIn wsX3_isCarried (wsV RX3 142 RX3 yX3_whoIs wsX3_whoIs) := goodIn_app (goodIn_of _ (by decide +kernel)) ggX3_isCarried_X3_whoIs
set_option maxRecDepth 20000 in
theorem ggX3_isCarried_X3_votesIn : GoodIn wsX3_isCarried wsX3_votesIn := goodIn_r _ [24, 6, 14, 15, 4, 16, 25, 26, 27, 28, 11, 29, 30, 31, 32, 33, 34, 35, 36, 37, 38, 39, 40, 41, 42, 43, 44, 45, 46, 47, 48, 49, 50, 51, 52, 53, 54, 55, 56, 57] (by decide +kernel) (by decide +kernel)
set_option maxRecDepth 20000 in
theorem gX3_isCarried_X3_votesIn : GoodIn wsX3_isCarried (wsV RX3 145 RX3 yX3_votesIn wsX3_votesIn) := goodIn_app (goodIn_of _ (by decide +kernel)) ggX3_isCarried_X3_votesIn
theorem dX3_isCarried_0 : decode cX3_isCarried 0 = .ok (.aload_n 0, 1) := by decide +kernel
theorem dX3_isCarried_1 : decode cX3_isCarried 1 = .ok (.aload_n 0, 1) := by decide +kernel
theorem dX3_isCarried_2 : decode cX3_isCarried 2 = .ok (.iconst 1, 1) := by decide +kernel
theorem dX3_isCarried_3 : decode cX3_isCarried 3 = .ok (.invokevirtual 142, 3) := by decide +kernel
theorem dX3_isCarried_6 : decode cX3_isCarried 6 = .ok (.invokevirtual 145, 3) := by decide +kernel
theorem dX3_isCarried_9 : decode cX3_isCarried 9 = .ok (.aload_n 0, 1) := by decide +kernel
theorem dX3_isCarried_10 : decode cX3_isCarried 10 = .ok (.aload_n 0, 1) := by decide +kernel
theorem dX3_isCarried_11 : decode cX3_isCarried 11 = .ok (.iconst 2, 1) := by decide +kernel
theorem dX3_isCarried_12 : decode cX3_isCarried 12 = .ok (.invokevirtual 142, 3) := by decide +kernel
theorem dX3_isCarried_15 : decode cX3_isCarried 15 = .ok (.invokevirtual 145, 3) := by decide +kernel
theorem dX3_isCarried_18 : decode cX3_isCarried 18 = .ok (.if_icmp .le 7, 3) := by decide +kernel
theorem dX3_isCarried_21 : decode cX3_isCarried 21 = .ok (.iconst 1, 1) := by decide +kernel
theorem dX3_isCarried_22 : decode cX3_isCarried 22 = .ok (.goto 4, 3) := by decide +kernel
theorem dX3_isCarried_25 : decode cX3_isCarried 25 = .ok (.iconst 0, 1) := by decide +kernel
theorem dX3_isCarried_26 : decode cX3_isCarried 26 = .ok (.ireturn, 1) := by decide +kernel
set_option maxRecDepth 20000 in
theorem ggX3_poll_X3_whoIs : GoodIn wsX3_poll wsX3_whoIs := goodIn_r _ [6, 1, 7, 8, 9, 5, 10, 11, 12, 13, 14, 15, 16, 17, 18, 19, 20, 39, 40, 41, 42, 43, 44, 45, 46, 47, 48, 49, 50, 51, 52, 53, 54, 55, 56, 57, 58, 59, 60, 61] (by decide +kernel) (by decide +kernel)
set_option maxRecDepth 20000 in
theorem gX3_poll_X3_whoIs : GoodIn wsX3_poll (wsV RX3 142 RX3 yX3_whoIs wsX3_whoIs) := goodIn_app (goodIn_of _ (by decide +kernel)) ggX3_poll_X3_whoIs
set_option maxRecDepth 20000 in
theorem ggX3_poll_X3_votesIn : GoodIn wsX3_poll wsX3_votesIn := goodIn_r _ [24, 1, 14, 15, 5, 16, 25, 26, 27, 28, 11, 29, 30, 31, 32, 33, 34, 39, 40, 41, 42, 43, 44, 45, 46, 47, 48, 49, 50, 51, 52, 53, 54, 55, 56, 57, 58, 59, 60, 61] (by decide +kernel) (by decide +kernel)
set_option maxRecDepth 20000 in
theorem gX3_poll_X3_votesIn : GoodIn wsX3_poll (wsV RX3 145 RX3 yX3_votesIn wsX3_votesIn) := goodIn_app (goodIn_of _ (by decide +kernel)) ggX3_poll_X3_votesIn
set_option maxRecDepth 20000 in
theorem ggX3_poll_X3_isCarried : GoodIn wsX3_poll wsX3_isCarried := goodIn_r _ [38, 2, 3, 4, 5, 6, 1, 7, 8, 9, 10, 11, 12, 13, 14, 15, 16, 17, 18, 19, 20, 21, 22, 23, 24, 25, 26, 27, 28, 29, 30, 31, 32, 33, 34, 39, 40, 41, 42, 43, 44, 45, 46, 47, 48, 49, 50, 51, 52, 53, 54, 55, 56, 57, 58, 59, 60, 61] (by decide +kernel) (by decide +kernel)
set_option maxRecDepth 20000 in
theorem gX3_poll_X3_isCarried : GoodIn wsX3_poll (wsV RX3 148 RX3 yX3_isCarried wsX3_isCarried) := goodIn_app (goodIn_of _ (by decide +kernel)) ggX3_poll_X3_isCarried
theorem dX3_poll_0 : decode cX3_poll 0 = .ok (.aload_n 0, 1) := by decide +kernel
theorem dX3_poll_1 : decode cX3_poll 1 = .ok (.getfield 65, 3) := by decide +kernel
theorem dX3_poll_4 : decode cX3_poll 4 = .ok (.ifCond .ne 6, 3) := by decide +kernel
theorem dX3_poll_7 : decode cX3_poll 7 = .ok (.bipush (-3), 2) := by decide +kernel
theorem dX3_poll_9 : decode cX3_poll 9 = .ok (.ireturn, 1) := by decide +kernel
theorem dX3_poll_10 : decode cX3_poll 10 = .ok (.iload_n 1, 1) := by decide +kernel
theorem dX3_poll_11 : decode cX3_poll 11 = .ok (.tableswitch 78 0 4 #[33, 43, 53, 66, 72], 33) := by decide +kernel
theorem dX3_poll_44 : decode cX3_poll 44 = .ok (.aload_n 0, 1) := by decide +kernel
theorem dX3_poll_45 : decode cX3_poll 45 = .ok (.aload_n 0, 1) := by decide +kernel
theorem dX3_poll_46 : decode cX3_poll 46 = .ok (.iconst 1, 1) := by decide +kernel
theorem dX3_poll_47 : decode cX3_poll 47 = .ok (.invokevirtual 142, 3) := by decide +kernel
theorem dX3_poll_50 : decode cX3_poll 50 = .ok (.invokevirtual 145, 3) := by decide +kernel
theorem dX3_poll_53 : decode cX3_poll 53 = .ok (.ireturn, 1) := by decide +kernel
theorem dX3_poll_54 : decode cX3_poll 54 = .ok (.aload_n 0, 1) := by decide +kernel
theorem dX3_poll_55 : decode cX3_poll 55 = .ok (.aload_n 0, 1) := by decide +kernel
theorem dX3_poll_56 : decode cX3_poll 56 = .ok (.iconst 2, 1) := by decide +kernel
theorem dX3_poll_57 : decode cX3_poll 57 = .ok (.invokevirtual 142, 3) := by decide +kernel
theorem dX3_poll_60 : decode cX3_poll 60 = .ok (.invokevirtual 145, 3) := by decide +kernel
theorem dX3_poll_63 : decode cX3_poll 63 = .ok (.ireturn, 1) := by decide +kernel
theorem dX3_poll_64 : decode cX3_poll 64 = .ok (.aload_n 0, 1) := by decide +kernel
theorem dX3_poll_65 : decode cX3_poll 65 = .ok (.invokevirtual 148, 3) := by decide +kernel
theorem dX3_poll_68 : decode cX3_poll 68 = .ok (.ifCond .eq 7, 3) := by decide +kernel
theorem dX3_poll_71 : decode cX3_poll 71 = .ok (.iconst 1, 1) := by decide +kernel
theorem dX3_poll_72 : decode cX3_poll 72 = .ok (.goto 4, 3) := by decide +kernel
theorem dX3_poll_75 : decode cX3_poll 75 = .ok (.iconst 0, 1) := by decide +kernel
theorem dX3_poll_76 : decode cX3_poll 76 = .ok (.ireturn, 1) := by decide +kernel
theorem dX3_poll_77 : decode cX3_poll 77 = .ok (.aload_n 0, 1) := by decide +kernel
theorem dX3_poll_78 : decode cX3_poll 78 = .ok (.iconst 1, 1) := by decide +kernel
theorem dX3_poll_79 : decode cX3_poll 79 = .ok (.invokevirtual 142, 3) := by decide +kernel
theorem dX3_poll_82 : decode cX3_poll 82 = .ok (.ireturn, 1) := by decide +kernel
theorem dX3_poll_83 : decode cX3_poll 83 = .ok (.aload_n 0, 1) := by decide +kernel
theorem dX3_poll_84 : decode cX3_poll 84 = .ok (.iconst 2, 1) := by decide +kernel
theorem dX3_poll_85 : decode cX3_poll 85 = .ok (.invokevirtual 142, 3) := by decide +kernel
theorem dX3_poll_88 : decode cX3_poll 88 = .ok (.ireturn, 1) := by decide +kernel
theorem dX3_poll_89 : decode cX3_poll 89 = .ok (.bipush (-2), 2) := by decide +kernel
theorem dX3_poll_91 : decode cX3_poll 91 = .ok (.ireturn, 1) := by decide +kernel
set_option maxRecDepth 20000 in
theorem ggX3_turn_X3_noChair : GoodIn wsX3_turn wsX3_noChair := goodIn_r _ [8, 9, 10, 11, 7, 12, 16, 17, 18, 19, 20, 21, 22, 23, 24, 25, 26, 27, 28, 29, 30, 31, 32, 33, 34, 35, 36, 37, 38] (by decide +kernel) (by decide +kernel)
set_option maxRecDepth 20000 in
theorem gX3_turn_X3_noChair : GoodIn wsX3_turn (wsV RX3 129 RX3 yX3_noChair wsX3_noChair) := goodIn_app (goodIn_of _ (by decide +kernel)) ggX3_turn_X3_noChair
set_option maxRecDepth 20000 in
theorem ggX3_turn_X3_in : GoodIn wsX3_turn wsX3_in := goodIn_r _ [12] (by decide +kernel) (by decide +kernel)
set_option maxRecDepth 20000 in
theorem gX3_turn_X3_in : GoodIn wsX3_turn (va_wsS RX3 68 yX3_in wsX3_in) := goodIn_app (goodIn_of _ (by decide +kernel)) ggX3_turn_X3_in
set_option maxRecDepth 20000 in
theorem ggX3_turn_X3_isIn : GoodIn wsX3_turn wsX3_isIn := goodIn_r _ [15] (by decide +kernel) (by decide +kernel)
set_option maxRecDepth 20000 in
theorem gX3_turn_X3_isIn : GoodIn wsX3_turn (va_wsS RX3 120 yX3_isIn wsX3_isIn) := goodIn_app (goodIn_of _ (by decide +kernel)) ggX3_turn_X3_isIn
theorem dX3_turn_0 : decode cX3_turn 0 = .ok (.aload_n 0, 1) := by decide +kernel
theorem dX3_turn_1 : decode cX3_turn 1 = .ok (.iload_n 1, 1) := by decide +kernel
theorem dX3_turn_2 : decode cX3_turn 2 = .ok (.invokevirtual 129, 3) := by decide +kernel
theorem dX3_turn_5 : decode cX3_turn 5 = .ok (.ifCond .eq 5, 3) := by decide +kernel
theorem dX3_turn_8 : decode cX3_turn 8 = .ok (.iconst (-1), 1) := by decide +kernel
theorem dX3_turn_9 : decode cX3_turn 9 = .ok (.ireturn, 1) := by decide +kernel
theorem dX3_turn_10 : decode cX3_turn 10 = .ok (.iload_n 2, 1) := by decide +kernel
theorem dX3_turn_11 : decode cX3_turn 11 = .ok (.i2l, 1) := by decide +kernel
theorem dX3_turn_12 : decode cX3_turn 12 = .ok (.lconst 0, 1) := by decide +kernel
theorem dX3_turn_13 : decode cX3_turn 13 = .ok (.ldc2_w 138, 3) := by decide +kernel
theorem dX3_turn_16 : decode cX3_turn 16 = .ok (.invokestatic 68, 3) := by decide +kernel
theorem dX3_turn_19 : decode cX3_turn 19 = .ok (.ifCond .ne 6, 3) := by decide +kernel
theorem dX3_turn_22 : decode cX3_turn 22 = .ok (.bipush (-2), 2) := by decide +kernel
theorem dX3_turn_24 : decode cX3_turn 24 = .ok (.ireturn, 1) := by decide +kernel
theorem dX3_turn_25 : decode cX3_turn 25 = .ok (.aload_n 0, 1) := by decide +kernel
theorem dX3_turn_26 : decode cX3_turn 26 = .ok (.getfield 114, 3) := by decide +kernel
theorem dX3_turn_29 : decode cX3_turn 29 = .ok (.iload_n 1, 1) := by decide +kernel
theorem dX3_turn_30 : decode cX3_turn 30 = .ok (.invokestatic 120, 3) := by decide +kernel
theorem dX3_turn_33 : decode cX3_turn 33 = .ok (.ifCond .eq 6, 3) := by decide +kernel
theorem dX3_turn_36 : decode cX3_turn 36 = .ok (.bipush (-3), 2) := by decide +kernel
theorem dX3_turn_38 : decode cX3_turn 38 = .ok (.ireturn, 1) := by decide +kernel
theorem dX3_turn_39 : decode cX3_turn 39 = .ok (.aload_n 0, 1) := by decide +kernel
theorem dX3_turn_40 : decode cX3_turn 40 = .ok (.getfield 19, 3) := by decide +kernel
theorem dX3_turn_43 : decode cX3_turn 43 = .ok (.iload_n 1, 1) := by decide +kernel
theorem dX3_turn_44 : decode cX3_turn 44 = .ok (.iaload, 1) := by decide +kernel
theorem dX3_turn_45 : decode cX3_turn 45 = .ok (.istore_n 3, 1) := by decide +kernel
theorem dX3_turn_46 : decode cX3_turn 46 = .ok (.aload_n 0, 1) := by decide +kernel
theorem dX3_turn_47 : decode cX3_turn 47 = .ok (.getfield 19, 3) := by decide +kernel
theorem dX3_turn_50 : decode cX3_turn 50 = .ok (.iload_n 1, 1) := by decide +kernel
theorem dX3_turn_51 : decode cX3_turn 51 = .ok (.iload_n 2, 1) := by decide +kernel
theorem dX3_turn_52 : decode cX3_turn 52 = .ok (.iastore, 1) := by decide +kernel
theorem dX3_turn_53 : decode cX3_turn 53 = .ok (.iload_n 3, 1) := by decide +kernel
theorem dX3_turn_54 : decode cX3_turn 54 = .ok (.ireturn, 1) := by decide +kernel
set_option maxRecDepth 20000 in
theorem ggX3_blown_X3_isIn : GoodIn wsX3_blown wsX3_isIn := goodIn_r _ [8] (by decide +kernel) (by decide +kernel)
set_option maxRecDepth 20000 in
theorem gX3_blown_X3_isIn : GoodIn wsX3_blown (va_wsS RX3 120 yX3_isIn wsX3_isIn) := goodIn_app (goodIn_of _ (by decide +kernel)) ggX3_blown_X3_isIn
theorem dX3_blown_0 : decode cX3_blown 0 = .ok (.iconst 0, 1) := by decide +kernel
theorem dX3_blown_1 : decode cX3_blown 1 = .ok (.istore_n 3, 1) := by decide +kernel
theorem dX3_blown_2 : decode cX3_blown 2 = .ok (.iconst 0, 1) := by decide +kernel
theorem dX3_blown_3 : decode cX3_blown 3 = .ok (.istore 4, 2) := by decide +kernel
theorem dX3_blown_5 : decode cX3_blown 5 = .ok (.iload 4, 2) := by decide +kernel
theorem dX3_blown_7 : decode cX3_blown 7 = .ok (.aload_n 0, 1) := by decide +kernel
theorem dX3_blown_8 : decode cX3_blown 8 = .ok (.getfield 65, 3) := by decide +kernel
theorem dX3_blown_11 : decode cX3_blown 11 = .ok (.if_icmp .ge 54, 3) := by decide +kernel
theorem dX3_blown_14 : decode cX3_blown 14 = .ok (.aload_n 0, 1) := by decide +kernel
theorem dX3_blown_15 : decode cX3_blown 15 = .ok (.getfield 114, 3) := by decide +kernel
theorem dX3_blown_18 : decode cX3_blown 18 = .ok (.iload 4, 2) := by decide +kernel
theorem dX3_blown_20 : decode cX3_blown 20 = .ok (.invokestatic 120, 3) := by decide +kernel
theorem dX3_blown_23 : decode cX3_blown 23 = .ok (.ifCond .ne 36, 3) := by decide +kernel
theorem dX3_blown_26 : decode cX3_blown 26 = .ok (.aload_n 0, 1) := by decide +kernel
theorem dX3_blown_27 : decode cX3_blown 27 = .ok (.getfield 16, 3) := by decide +kernel
theorem dX3_blown_30 : decode cX3_blown 30 = .ok (.iload 4, 2) := by decide +kernel
theorem dX3_blown_32 : decode cX3_blown 32 = .ok (.iaload, 1) := by decide +kernel
theorem dX3_blown_33 : decode cX3_blown 33 = .ok (.iload_n 2, 1) := by decide +kernel
theorem dX3_blown_34 : decode cX3_blown 34 = .ok (.if_icmp .ge 25, 3) := by decide +kernel
theorem dX3_blown_37 : decode cX3_blown 37 = .ok (.aload_n 0, 1) := by decide +kernel
theorem dX3_blown_38 : decode cX3_blown 38 = .ok (.getfield 19, 3) := by decide +kernel
theorem dX3_blown_41 : decode cX3_blown 41 = .ok (.iload 4, 2) := by decide +kernel
theorem dX3_blown_43 : decode cX3_blown 43 = .ok (.iaload, 1) := by decide +kernel
theorem dX3_blown_44 : decode cX3_blown 44 = .ok (.iload_n 1, 1) := by decide +kernel
theorem dX3_blown_45 : decode cX3_blown 45 = .ok (.if_icmp .eq 14, 3) := by decide +kernel
theorem dX3_blown_48 : decode cX3_blown 48 = .ok (.aload_n 0, 1) := by decide +kernel
theorem dX3_blown_49 : decode cX3_blown 49 = .ok (.getfield 19, 3) := by decide +kernel
theorem dX3_blown_52 : decode cX3_blown 52 = .ok (.iload 4, 2) := by decide +kernel
theorem dX3_blown_54 : decode cX3_blown 54 = .ok (.iload_n 1, 1) := by decide +kernel
theorem dX3_blown_55 : decode cX3_blown 55 = .ok (.iastore, 1) := by decide +kernel
theorem dX3_blown_56 : decode cX3_blown 56 = .ok (.iinc 3 1, 3) := by decide +kernel
theorem dX3_blown_59 : decode cX3_blown 59 = .ok (.iinc 4 1, 3) := by decide +kernel
theorem dX3_blown_62 : decode cX3_blown 62 = .ok (.goto (-57), 3) := by decide +kernel
theorem dX3_blown_65 : decode cX3_blown 65 = .ok (.iload_n 3, 1) := by decide +kernel
theorem dX3_blown_66 : decode cX3_blown 66 = .ok (.ireturn, 1) := by decide +kernel
set_option maxRecDepth 20000 in
theorem ggX3_gust_X3_in : GoodIn wsX3_gust wsX3_in := goodIn_r _ [7] (by decide +kernel) (by decide +kernel)
set_option maxRecDepth 20000 in
theorem gX3_gust_X3_in : GoodIn wsX3_gust (va_wsS RX3 68 yX3_in wsX3_in) := goodIn_app (goodIn_of _ (by decide +kernel)) ggX3_gust_X3_in
set_option maxRecDepth 20000 in
theorem ggX3_gust_X3_blown : GoodIn wsX3_gust wsX3_blown := goodIn_r _ [11, 1, 12, 13, 14, 15, 16, 6, 17, 18, 19, 20, 21, 22, 23, 24, 25, 26, 27, 28, 29, 30, 31, 32, 33, 34, 35, 36, 37, 38, 39, 40] (by decide +kernel) (by decide +kernel)
set_option maxRecDepth 20000 in
theorem gX3_gust_X3_blown : GoodIn wsX3_gust (wsV RX3 154 RX3 yX3_blown wsX3_blown) := goodIn_app (goodIn_of _ (by decide +kernel)) ggX3_gust_X3_blown
theorem dX3_gust_0 : decode cX3_gust 0 = .ok (.aload_n 0, 1) := by decide +kernel
theorem dX3_gust_1 : decode cX3_gust 1 = .ok (.getfield 65, 3) := by decide +kernel
theorem dX3_gust_4 : decode cX3_gust 4 = .ok (.ifCond .ne 6, 3) := by decide +kernel
theorem dX3_gust_7 : decode cX3_gust 7 = .ok (.bipush (-3), 2) := by decide +kernel
theorem dX3_gust_9 : decode cX3_gust 9 = .ok (.ireturn, 1) := by decide +kernel
theorem dX3_gust_10 : decode cX3_gust 10 = .ok (.iload_n 1, 1) := by decide +kernel
theorem dX3_gust_11 : decode cX3_gust 11 = .ok (.i2l, 1) := by decide +kernel
theorem dX3_gust_12 : decode cX3_gust 12 = .ok (.lconst 0, 1) := by decide +kernel
theorem dX3_gust_13 : decode cX3_gust 13 = .ok (.ldc2_w 138, 3) := by decide +kernel
theorem dX3_gust_16 : decode cX3_gust 16 = .ok (.invokestatic 68, 3) := by decide +kernel
theorem dX3_gust_19 : decode cX3_gust 19 = .ok (.ifCond .eq 24, 3) := by decide +kernel
theorem dX3_gust_22 : decode cX3_gust 22 = .ok (.iload_n 2, 1) := by decide +kernel
theorem dX3_gust_23 : decode cX3_gust 23 = .ok (.i2l, 1) := by decide +kernel
theorem dX3_gust_24 : decode cX3_gust 24 = .ok (.lconst 0, 1) := by decide +kernel
theorem dX3_gust_25 : decode cX3_gust 25 = .ok (.ldc2_w 152, 3) := by decide +kernel
theorem dX3_gust_28 : decode cX3_gust 28 = .ok (.invokestatic 68, 3) := by decide +kernel
theorem dX3_gust_31 : decode cX3_gust 31 = .ok (.ifCond .eq 12, 3) := by decide +kernel
theorem dX3_gust_34 : decode cX3_gust 34 = .ok (.aload_n 0, 1) := by decide +kernel
theorem dX3_gust_35 : decode cX3_gust 35 = .ok (.iload_n 1, 1) := by decide +kernel
theorem dX3_gust_36 : decode cX3_gust 36 = .ok (.iload_n 2, 1) := by decide +kernel
theorem dX3_gust_37 : decode cX3_gust 37 = .ok (.invokevirtual 154, 3) := by decide +kernel
theorem dX3_gust_40 : decode cX3_gust 40 = .ok (.goto 5, 3) := by decide +kernel
theorem dX3_gust_43 : decode cX3_gust 43 = .ok (.bipush (-2), 2) := by decide +kernel
theorem dX3_gust_45 : decode cX3_gust 45 = .ok (.ireturn, 1) := by decide +kernel
set_option maxRecDepth 20000 in
theorem ggX3_rain_X3_bits : GoodIn wsX3_rain wsX3_bits := goodIn_r _ [6] (by decide +kernel) (by decide +kernel)
set_option maxRecDepth 20000 in
theorem gX3_rain_X3_bits : GoodIn wsX3_rain (va_wsS RX3 157 yX3_bits wsX3_bits) := goodIn_app (goodIn_of _ (by decide +kernel)) ggX3_rain_X3_bits
set_option maxRecDepth 20000 in
theorem ggX3_rain_X3_everyChair : GoodIn wsX3_rain wsX3_everyChair := goodIn_r _ [10, 1, 11, 12, 13, 14, 15, 16, 17, 18, 19, 20, 21, 22, 23, 24, 25, 26, 27, 28, 29, 30, 31, 32, 33] (by decide +kernel) (by decide +kernel)
set_option maxRecDepth 20000 in
theorem gX3_rain_X3_everyChair : GoodIn wsX3_rain (wsV RX3 160 RX3 yX3_everyChair wsX3_everyChair) := goodIn_app (goodIn_of _ (by decide +kernel)) ggX3_rain_X3_everyChair
theorem dX3_rain_0 : decode cX3_rain 0 = .ok (.aload_n 0, 1) := by decide +kernel
theorem dX3_rain_1 : decode cX3_rain 1 = .ok (.getfield 65, 3) := by decide +kernel
theorem dX3_rain_4 : decode cX3_rain 4 = .ok (.ifCond .ne 6, 3) := by decide +kernel
theorem dX3_rain_7 : decode cX3_rain 7 = .ok (.bipush (-3), 2) := by decide +kernel
theorem dX3_rain_9 : decode cX3_rain 9 = .ok (.ireturn, 1) := by decide +kernel
theorem dX3_rain_10 : decode cX3_rain 10 = .ok (.aload_n 0, 1) := by decide +kernel
theorem dX3_rain_11 : decode cX3_rain 11 = .ok (.getfield 65, 3) := by decide +kernel
theorem dX3_rain_14 : decode cX3_rain 14 = .ok (.aload_n 0, 1) := by decide +kernel
theorem dX3_rain_15 : decode cX3_rain 15 = .ok (.getfield 114, 3) := by decide +kernel
theorem dX3_rain_18 : decode cX3_rain 18 = .ok (.invokestatic 157, 3) := by decide +kernel
theorem dX3_rain_21 : decode cX3_rain 21 = .ok (.isub, 1) := by decide +kernel
theorem dX3_rain_22 : decode cX3_rain 22 = .ok (.istore_n 1, 1) := by decide +kernel
theorem dX3_rain_23 : decode cX3_rain 23 = .ok (.aload_n 0, 1) := by decide +kernel
theorem dX3_rain_24 : decode cX3_rain 24 = .ok (.aload_n 0, 1) := by decide +kernel
theorem dX3_rain_25 : decode cX3_rain 25 = .ok (.invokevirtual 160, 3) := by decide +kernel
theorem dX3_rain_28 : decode cX3_rain 28 = .ok (.putfield 114, 3) := by decide +kernel
theorem dX3_rain_31 : decode cX3_rain 31 = .ok (.iload_n 1, 1) := by decide +kernel
theorem dX3_rain_32 : decode cX3_rain 32 = .ok (.ireturn, 1) := by decide +kernel
set_option maxRecDepth 20000 in
theorem ggX3_open_X3_noChair : GoodIn wsX3_open wsX3_noChair := goodIn_r _ [6, 7, 8, 9, 5, 10, 17, 18, 19, 20, 21, 22, 23, 24, 25, 26, 27, 28, 29, 30, 31, 32, 33, 34, 35, 36, 37, 38, 39] (by decide +kernel) (by decide +kernel)
set_option maxRecDepth 20000 in
theorem gX3_open_X3_noChair : GoodIn wsX3_open (wsV RX3 129 RX3 yX3_noChair wsX3_noChair) := goodIn_app (goodIn_of _ (by decide +kernel)) ggX3_open_X3_noChair
set_option maxRecDepth 20000 in
theorem ggX3_open_X3_isIn : GoodIn wsX3_open wsX3_isIn := goodIn_r _ [13] (by decide +kernel) (by decide +kernel)
set_option maxRecDepth 20000 in
theorem gX3_open_X3_isIn : GoodIn wsX3_open (va_wsS RX3 120 yX3_isIn wsX3_isIn) := goodIn_app (goodIn_of _ (by decide +kernel)) ggX3_open_X3_isIn
set_option maxRecDepth 20000 in
theorem ggX3_open_X3_bits : GoodIn wsX3_open wsX3_bits := goodIn_r _ [16] (by decide +kernel) (by decide +kernel)
set_option maxRecDepth 20000 in
theorem gX3_open_X3_bits : GoodIn wsX3_open (va_wsS RX3 157 yX3_bits wsX3_bits) := goodIn_app (goodIn_of _ (by decide +kernel)) ggX3_open_X3_bits
theorem dX3_open_0 : decode cX3_open 0 = .ok (.aload_n 0, 1) := by decide +kernel
theorem dX3_open_1 : decode cX3_open 1 = .ok (.iload_n 1, 1) := by decide +kernel
theorem dX3_open_2 : decode cX3_open 2 = .ok (.invokevirtual 129, 3) := by decide +kernel
theorem dX3_open_5 : decode cX3_open 5 = .ok (.ifCond .eq 5, 3) := by decide +kernel
theorem dX3_open_8 : decode cX3_open 8 = .ok (.iconst (-1), 1) := by decide +kernel
theorem dX3_open_9 : decode cX3_open 9 = .ok (.ireturn, 1) := by decide +kernel
theorem dX3_open_10 : decode cX3_open 10 = .ok (.aload_n 0, 1) := by decide +kernel
theorem dX3_open_11 : decode cX3_open 11 = .ok (.getfield 114, 3) := by decide +kernel
theorem dX3_open_14 : decode cX3_open 14 = .ok (.iload_n 1, 1) := by decide +kernel
theorem dX3_open_15 : decode cX3_open 15 = .ok (.invokestatic 120, 3) := by decide +kernel
theorem dX3_open_18 : decode cX3_open 18 = .ok (.ifCond .ne 6, 3) := by decide +kernel
theorem dX3_open_21 : decode cX3_open 21 = .ok (.bipush (-3), 2) := by decide +kernel
theorem dX3_open_23 : decode cX3_open 23 = .ok (.ireturn, 1) := by decide +kernel
theorem dX3_open_24 : decode cX3_open 24 = .ok (.aload_n 0, 1) := by decide +kernel
theorem dX3_open_25 : decode cX3_open 25 = .ok (.dup, 1) := by decide +kernel
theorem dX3_open_26 : decode cX3_open 26 = .ok (.getfield 114, 3) := by decide +kernel
theorem dX3_open_29 : decode cX3_open 29 = .ok (.iconst 1, 1) := by decide +kernel
theorem dX3_open_30 : decode cX3_open 30 = .ok (.iload_n 1, 1) := by decide +kernel
theorem dX3_open_31 : decode cX3_open 31 = .ok (.ishl, 1) := by decide +kernel
theorem dX3_open_32 : decode cX3_open 32 = .ok (.iconst (-1), 1) := by decide +kernel
theorem dX3_open_33 : decode cX3_open 33 = .ok (.ixor, 1) := by decide +kernel
theorem dX3_open_34 : decode cX3_open 34 = .ok (.iand, 1) := by decide +kernel
theorem dX3_open_35 : decode cX3_open 35 = .ok (.putfield 114, 3) := by decide +kernel
theorem dX3_open_38 : decode cX3_open 38 = .ok (.aload_n 0, 1) := by decide +kernel
theorem dX3_open_39 : decode cX3_open 39 = .ok (.getfield 114, 3) := by decide +kernel
theorem dX3_open_42 : decode cX3_open 42 = .ok (.invokestatic 157, 3) := by decide +kernel
theorem dX3_open_45 : decode cX3_open 45 = .ok (.ireturn, 1) := by decide +kernel
theorem dX3_keepAll_0 : decode cX3_keepAll 0 = .ok (.aload_n 0, 1) := by decide +kernel
theorem dX3_keepAll_1 : decode cX3_keepAll 1 = .ok (.aload_n 0, 1) := by decide +kernel
theorem dX3_keepAll_2 : decode cX3_keepAll 2 = .ok (.getfield 114, 3) := by decide +kernel
theorem dX3_keepAll_5 : decode cX3_keepAll 5 = .ok (.putfield 164, 3) := by decide +kernel
theorem dX3_keepAll_8 : decode cX3_keepAll 8 = .ok (.iconst 0, 1) := by decide +kernel
theorem dX3_keepAll_9 : decode cX3_keepAll 9 = .ok (.istore_n 1, 1) := by decide +kernel
theorem dX3_keepAll_10 : decode cX3_keepAll 10 = .ok (.iload_n 1, 1) := by decide +kernel
theorem dX3_keepAll_11 : decode cX3_keepAll 11 = .ok (.aload_n 0, 1) := by decide +kernel
theorem dX3_keepAll_12 : decode cX3_keepAll 12 = .ok (.getfield 65, 3) := by decide +kernel
theorem dX3_keepAll_15 : decode cX3_keepAll 15 = .ok (.if_icmp .ge 21, 3) := by decide +kernel
theorem dX3_keepAll_18 : decode cX3_keepAll 18 = .ok (.aload_n 0, 1) := by decide +kernel
theorem dX3_keepAll_19 : decode cX3_keepAll 19 = .ok (.getfield 34, 3) := by decide +kernel
theorem dX3_keepAll_22 : decode cX3_keepAll 22 = .ok (.iload_n 1, 1) := by decide +kernel
theorem dX3_keepAll_23 : decode cX3_keepAll 23 = .ok (.aload_n 0, 1) := by decide +kernel
theorem dX3_keepAll_24 : decode cX3_keepAll 24 = .ok (.getfield 19, 3) := by decide +kernel
theorem dX3_keepAll_27 : decode cX3_keepAll 27 = .ok (.iload_n 1, 1) := by decide +kernel
theorem dX3_keepAll_28 : decode cX3_keepAll 28 = .ok (.iaload, 1) := by decide +kernel
theorem dX3_keepAll_29 : decode cX3_keepAll 29 = .ok (.iastore, 1) := by decide +kernel
theorem dX3_keepAll_30 : decode cX3_keepAll 30 = .ok (.iinc 1 1, 3) := by decide +kernel
theorem dX3_keepAll_33 : decode cX3_keepAll 33 = .ok (.goto (-23), 3) := by decide +kernel
theorem dX3_keepAll_36 : decode cX3_keepAll 36 = .ok (.return_, 1) := by decide +kernel
theorem dX3_bringBack_0 : decode cX3_bringBack 0 = .ok (.aload_n 0, 1) := by decide +kernel
theorem dX3_bringBack_1 : decode cX3_bringBack 1 = .ok (.aload_n 0, 1) := by decide +kernel
theorem dX3_bringBack_2 : decode cX3_bringBack 2 = .ok (.getfield 164, 3) := by decide +kernel
theorem dX3_bringBack_5 : decode cX3_bringBack 5 = .ok (.putfield 114, 3) := by decide +kernel
theorem dX3_bringBack_8 : decode cX3_bringBack 8 = .ok (.iconst 0, 1) := by decide +kernel
theorem dX3_bringBack_9 : decode cX3_bringBack 9 = .ok (.istore_n 1, 1) := by decide +kernel
theorem dX3_bringBack_10 : decode cX3_bringBack 10 = .ok (.iload_n 1, 1) := by decide +kernel
theorem dX3_bringBack_11 : decode cX3_bringBack 11 = .ok (.aload_n 0, 1) := by decide +kernel
theorem dX3_bringBack_12 : decode cX3_bringBack 12 = .ok (.getfield 65, 3) := by decide +kernel
theorem dX3_bringBack_15 : decode cX3_bringBack 15 = .ok (.if_icmp .ge 21, 3) := by decide +kernel
theorem dX3_bringBack_18 : decode cX3_bringBack 18 = .ok (.aload_n 0, 1) := by decide +kernel
theorem dX3_bringBack_19 : decode cX3_bringBack 19 = .ok (.getfield 19, 3) := by decide +kernel
theorem dX3_bringBack_22 : decode cX3_bringBack 22 = .ok (.iload_n 1, 1) := by decide +kernel
theorem dX3_bringBack_23 : decode cX3_bringBack 23 = .ok (.aload_n 0, 1) := by decide +kernel
theorem dX3_bringBack_24 : decode cX3_bringBack 24 = .ok (.getfield 34, 3) := by decide +kernel
theorem dX3_bringBack_27 : decode cX3_bringBack 27 = .ok (.iload_n 1, 1) := by decide +kernel
theorem dX3_bringBack_28 : decode cX3_bringBack 28 = .ok (.iaload, 1) := by decide +kernel
theorem dX3_bringBack_29 : decode cX3_bringBack 29 = .ok (.iastore, 1) := by decide +kernel
theorem dX3_bringBack_30 : decode cX3_bringBack 30 = .ok (.iinc 1 1, 3) := by decide +kernel
theorem dX3_bringBack_33 : decode cX3_bringBack 33 = .ok (.goto (-23), 3) := by decide +kernel
theorem dX3_bringBack_36 : decode cX3_bringBack 36 = .ok (.return_, 1) := by decide +kernel
set_option maxRecDepth 20000 in
theorem ggX3_pairsBarred_X3_in : GoodIn wsX3_pairsBarred wsX3_in := goodIn_r _ [9] (by decide +kernel) (by decide +kernel)
set_option maxRecDepth 20000 in
theorem gX3_pairsBarred_X3_in : GoodIn wsX3_pairsBarred (va_wsS RX3 68 yX3_in wsX3_in) := goodIn_app (goodIn_of _ (by decide +kernel)) ggX3_pairsBarred_X3_in
set_option maxRecDepth 20000 in
theorem ggX3_pairsBarred_X3_noChair : GoodIn wsX3_pairsBarred wsX3_noChair := goodIn_r _ [13, 14, 6, 7, 8, 9, 15, 16, 17, 18, 19, 20, 21, 22, 23, 24, 25, 26, 27, 28, 29, 30, 31, 32, 33, 34, 35, 36, 37] (by decide +kernel) (by decide +kernel)
set_option maxRecDepth 20000 in
theorem gX3_pairsBarred_X3_noChair : GoodIn wsX3_pairsBarred (wsV RX3 129 RX3 yX3_noChair wsX3_noChair) := goodIn_app (goodIn_of _ (by decide +kernel)) ggX3_pairsBarred_X3_noChair
theorem dX3_pairsBarred_0 : decode cX3_pairsBarred 0 = .ok (.iconst 0, 1) := by decide +kernel
theorem dX3_pairsBarred_1 : decode cX3_pairsBarred 1 = .ok (.istore_n 3, 1) := by decide +kernel
theorem dX3_pairsBarred_2 : decode cX3_pairsBarred 2 = .ok (.iload_n 3, 1) := by decide +kernel
theorem dX3_pairsBarred_3 : decode cX3_pairsBarred 3 = .ok (.iload_n 2, 1) := by decide +kernel
theorem dX3_pairsBarred_4 : decode cX3_pairsBarred 4 = .ok (.if_icmp .ge 127, 3) := by decide +kernel
theorem dX3_pairsBarred_7 : decode cX3_pairsBarred 7 = .ok (.aload_n 0, 1) := by decide +kernel
theorem dX3_pairsBarred_8 : decode cX3_pairsBarred 8 = .ok (.getfield 49, 3) := by decide +kernel
theorem dX3_pairsBarred_11 : decode cX3_pairsBarred 11 = .ok (.iload_n 1, 1) := by decide +kernel
theorem dX3_pairsBarred_12 : decode cX3_pairsBarred 12 = .ok (.iconst 2, 1) := by decide +kernel
theorem dX3_pairsBarred_13 : decode cX3_pairsBarred 13 = .ok (.iload_n 3, 1) := by decide +kernel
theorem dX3_pairsBarred_14 : decode cX3_pairsBarred 14 = .ok (.imul, 1) := by decide +kernel
theorem dX3_pairsBarred_15 : decode cX3_pairsBarred 15 = .ok (.iadd, 1) := by decide +kernel
theorem dX3_pairsBarred_16 : decode cX3_pairsBarred 16 = .ok (.iaload, 1) := by decide +kernel
theorem dX3_pairsBarred_17 : decode cX3_pairsBarred 17 = .ok (.istore 4, 2) := by decide +kernel
theorem dX3_pairsBarred_19 : decode cX3_pairsBarred 19 = .ok (.aload_n 0, 1) := by decide +kernel
theorem dX3_pairsBarred_20 : decode cX3_pairsBarred 20 = .ok (.getfield 49, 3) := by decide +kernel
theorem dX3_pairsBarred_23 : decode cX3_pairsBarred 23 = .ok (.iload_n 1, 1) := by decide +kernel
theorem dX3_pairsBarred_24 : decode cX3_pairsBarred 24 = .ok (.iconst 2, 1) := by decide +kernel
theorem dX3_pairsBarred_25 : decode cX3_pairsBarred 25 = .ok (.iload_n 3, 1) := by decide +kernel
theorem dX3_pairsBarred_26 : decode cX3_pairsBarred 26 = .ok (.imul, 1) := by decide +kernel
theorem dX3_pairsBarred_27 : decode cX3_pairsBarred 27 = .ok (.iadd, 1) := by decide +kernel
theorem dX3_pairsBarred_28 : decode cX3_pairsBarred 28 = .ok (.iconst 1, 1) := by decide +kernel
theorem dX3_pairsBarred_29 : decode cX3_pairsBarred 29 = .ok (.iadd, 1) := by decide +kernel
theorem dX3_pairsBarred_30 : decode cX3_pairsBarred 30 = .ok (.iaload, 1) := by decide +kernel
theorem dX3_pairsBarred_31 : decode cX3_pairsBarred 31 = .ok (.istore 5, 2) := by decide +kernel
theorem dX3_pairsBarred_33 : decode cX3_pairsBarred 33 = .ok (.iload 5, 2) := by decide +kernel
theorem dX3_pairsBarred_35 : decode cX3_pairsBarred 35 = .ok (.i2l, 1) := by decide +kernel
theorem dX3_pairsBarred_36 : decode cX3_pairsBarred 36 = .ok (.ldc2_w 167, 3) := by decide +kernel
theorem dX3_pairsBarred_39 : decode cX3_pairsBarred 39 = .ok (.ldc2_w 169, 3) := by decide +kernel
theorem dX3_pairsBarred_42 : decode cX3_pairsBarred 42 = .ok (.invokestatic 68, 3) := by decide +kernel
theorem dX3_pairsBarred_45 : decode cX3_pairsBarred 45 = .ok (.ifCond .eq 20, 3) := by decide +kernel
theorem dX3_pairsBarred_48 : decode cX3_pairsBarred 48 = .ok (.iload 4, 2) := by decide +kernel
theorem dX3_pairsBarred_50 : decode cX3_pairsBarred 50 = .ok (.i2l, 1) := by decide +kernel
theorem dX3_pairsBarred_51 : decode cX3_pairsBarred 51 = .ok (.lconst 0, 1) := by decide +kernel
theorem dX3_pairsBarred_52 : decode cX3_pairsBarred 52 = .ok (.ldc2_w 152, 3) := by decide +kernel
theorem dX3_pairsBarred_55 : decode cX3_pairsBarred 55 = .ok (.invokestatic 68, 3) := by decide +kernel
theorem dX3_pairsBarred_58 : decode cX3_pairsBarred 58 = .ok (.ifCond .ne 7, 3) := by decide +kernel
theorem dX3_pairsBarred_61 : decode cX3_pairsBarred 61 = .ok (.iconst 1, 1) := by decide +kernel
theorem dX3_pairsBarred_62 : decode cX3_pairsBarred 62 = .ok (.goto 4, 3) := by decide +kernel
theorem dX3_pairsBarred_65 : decode cX3_pairsBarred 65 = .ok (.iconst 0, 1) := by decide +kernel
theorem dX3_pairsBarred_66 : decode cX3_pairsBarred 66 = .ok (.istore 6, 2) := by decide +kernel
theorem dX3_pairsBarred_68 : decode cX3_pairsBarred 68 = .ok (.iload 5, 2) := by decide +kernel
theorem dX3_pairsBarred_70 : decode cX3_pairsBarred 70 = .ok (.i2l, 1) := by decide +kernel
theorem dX3_pairsBarred_71 : decode cX3_pairsBarred 71 = .ok (.lconst 0, 1) := by decide +kernel
theorem dX3_pairsBarred_72 : decode cX3_pairsBarred 72 = .ok (.ldc2_w 140, 3) := by decide +kernel
theorem dX3_pairsBarred_75 : decode cX3_pairsBarred 75 = .ok (.invokestatic 68, 3) := by decide +kernel
theorem dX3_pairsBarred_78 : decode cX3_pairsBarred 78 = .ok (.ifCond .eq 20, 3) := by decide +kernel
theorem dX3_pairsBarred_81 : decode cX3_pairsBarred 81 = .ok (.iload 6, 2) := by decide +kernel
theorem dX3_pairsBarred_83 : decode cX3_pairsBarred 83 = .ok (.ifCond .ne 15, 3) := by decide +kernel
theorem dX3_pairsBarred_86 : decode cX3_pairsBarred 86 = .ok (.iload 5, 2) := by decide +kernel
theorem dX3_pairsBarred_88 : decode cX3_pairsBarred 88 = .ok (.bipush 8, 2) := by decide +kernel
theorem dX3_pairsBarred_90 : decode cX3_pairsBarred 90 = .ok (.if_icmp .ne 11, 3) := by decide +kernel
theorem dX3_pairsBarred_93 : decode cX3_pairsBarred 93 = .ok (.iload 4, 2) := by decide +kernel
theorem dX3_pairsBarred_95 : decode cX3_pairsBarred 95 = .ok (.ifCond .eq 6, 3) := by decide +kernel
theorem dX3_pairsBarred_98 : decode cX3_pairsBarred 98 = .ok (.bipush (-2), 2) := by decide +kernel
theorem dX3_pairsBarred_100 : decode cX3_pairsBarred 100 = .ok (.ireturn, 1) := by decide +kernel
theorem dX3_pairsBarred_101 : decode cX3_pairsBarred 101 = .ok (.iload 5, 2) := by decide +kernel
theorem dX3_pairsBarred_103 : decode cX3_pairsBarred 103 = .ok (.iconst 4, 1) := by decide +kernel
theorem dX3_pairsBarred_104 : decode cX3_pairsBarred 104 = .ok (.if_icmp .lt 10, 3) := by decide +kernel
theorem dX3_pairsBarred_107 : decode cX3_pairsBarred 107 = .ok (.iload 5, 2) := by decide +kernel
theorem dX3_pairsBarred_109 : decode cX3_pairsBarred 109 = .ok (.bipush 9, 2) := by decide +kernel
theorem dX3_pairsBarred_111 : decode cX3_pairsBarred 111 = .ok (.if_icmp .ne 14, 3) := by decide +kernel
theorem dX3_pairsBarred_114 : decode cX3_pairsBarred 114 = .ok (.aload_n 0, 1) := by decide +kernel
theorem dX3_pairsBarred_115 : decode cX3_pairsBarred 115 = .ok (.iload 4, 2) := by decide +kernel
theorem dX3_pairsBarred_117 : decode cX3_pairsBarred 117 = .ok (.invokevirtual 129, 3) := by decide +kernel
theorem dX3_pairsBarred_120 : decode cX3_pairsBarred 120 = .ok (.ifCond .eq 5, 3) := by decide +kernel
theorem dX3_pairsBarred_123 : decode cX3_pairsBarred 123 = .ok (.iconst (-1), 1) := by decide +kernel
theorem dX3_pairsBarred_124 : decode cX3_pairsBarred 124 = .ok (.ireturn, 1) := by decide +kernel
theorem dX3_pairsBarred_125 : decode cX3_pairsBarred 125 = .ok (.iinc 3 1, 3) := by decide +kernel
theorem dX3_pairsBarred_128 : decode cX3_pairsBarred 128 = .ok (.goto (-126), 3) := by decide +kernel
theorem dX3_pairsBarred_131 : decode cX3_pairsBarred 131 = .ok (.iconst 0, 1) := by decide +kernel
theorem dX3_pairsBarred_132 : decode cX3_pairsBarred 132 = .ok (.ireturn, 1) := by decide +kernel
set_option maxRecDepth 20000 in
theorem ggX3_didPair_X3_turn : GoodIn wsX3_didPair wsX3_turn := goodIn_r _ [6, 7, 1, 8, 9, 10, 11, 5, 12, 13, 14, 15, 16, 17, 18, 19, 36, 37, 38, 39, 40, 41, 42, 43, 44, 45, 46, 47, 48, 49, 50, 51, 52, 53, 54, 55, 56, 57, 58] (by decide +kernel) (by decide +kernel)
set_option maxRecDepth 20000 in
theorem gX3_didPair_X3_turn : GoodIn wsX3_didPair (wsV RX3 171 RX3 yX3_turn wsX3_turn) := goodIn_app (goodIn_of _ (by decide +kernel)) ggX3_didPair_X3_turn
set_option maxRecDepth 20000 in
theorem ggX3_didPair_X3_open : GoodIn wsX3_didPair wsX3_open := goodIn_r _ [23, 1, 9, 10, 11, 5, 12, 13, 14, 15, 16, 17, 18, 19, 24, 25, 26, 36, 37, 38, 39, 40, 41, 42, 43, 44, 45, 46, 47, 48, 49, 50, 51, 52, 53, 54, 55, 56, 57, 58] (by decide +kernel) (by decide +kernel)
set_option maxRecDepth 20000 in
theorem gX3_didPair_X3_open : GoodIn wsX3_didPair (wsV RX3 174 RX3 yX3_open wsX3_open) := goodIn_app (goodIn_of _ (by decide +kernel)) ggX3_didPair_X3_open
set_option maxRecDepth 20000 in
theorem ggX3_didPair_X3_everyChair : GoodIn wsX3_didPair wsX3_everyChair := goodIn_r _ [30, 13, 36, 37, 38, 39, 40, 41, 42, 43, 44, 45, 46, 47, 48, 49, 50, 51, 52, 53, 54, 55, 56, 57, 58] (by decide +kernel) (by decide +kernel)
set_option maxRecDepth 20000 in
theorem gX3_didPair_X3_everyChair : GoodIn wsX3_didPair (wsV RX3 160 RX3 yX3_everyChair wsX3_everyChair) := goodIn_app (goodIn_of _ (by decide +kernel)) ggX3_didPair_X3_everyChair
set_option maxRecDepth 20000 in
theorem ggX3_didPair_X3_blown : GoodIn wsX3_didPair wsX3_blown := goodIn_r _ [34, 13, 1, 35, 8, 17, 18, 5, 19, 36, 37, 38, 39, 40, 41, 42, 43, 44, 45, 46, 47, 48, 49, 50, 51, 52, 53, 54, 55, 56, 57, 58] (by decide +kernel) (by decide +kernel)
set_option maxRecDepth 20000 in
theorem gX3_didPair_X3_blown : GoodIn wsX3_didPair (wsV RX3 154 RX3 yX3_blown wsX3_blown) := goodIn_app (goodIn_of _ (by decide +kernel)) ggX3_didPair_X3_blown
theorem dX3_didPair_0 : decode cX3_didPair 0 = .ok (.iload_n 2, 1) := by decide +kernel
theorem dX3_didPair_1 : decode cX3_didPair 1 = .ok (.iconst 4, 1) := by decide +kernel
theorem dX3_didPair_2 : decode cX3_didPair 2 = .ok (.if_icmp .ge 18, 3) := by decide +kernel
theorem dX3_didPair_5 : decode cX3_didPair 5 = .ok (.aload_n 0, 1) := by decide +kernel
theorem dX3_didPair_6 : decode cX3_didPair 6 = .ok (.iload_n 1, 1) := by decide +kernel
theorem dX3_didPair_7 : decode cX3_didPair 7 = .ok (.iload_n 2, 1) := by decide +kernel
theorem dX3_didPair_8 : decode cX3_didPair 8 = .ok (.invokevirtual 171, 3) := by decide +kernel
theorem dX3_didPair_11 : decode cX3_didPair 11 = .ok (.ifCond .lt 7, 3) := by decide +kernel
theorem dX3_didPair_14 : decode cX3_didPair 14 = .ok (.iconst 1, 1) := by decide +kernel
theorem dX3_didPair_15 : decode cX3_didPair 15 = .ok (.goto 4, 3) := by decide +kernel
theorem dX3_didPair_18 : decode cX3_didPair 18 = .ok (.iconst 0, 1) := by decide +kernel
theorem dX3_didPair_19 : decode cX3_didPair 19 = .ok (.ireturn, 1) := by decide +kernel
theorem dX3_didPair_20 : decode cX3_didPair 20 = .ok (.iload_n 2, 1) := by decide +kernel
theorem dX3_didPair_21 : decode cX3_didPair 21 = .ok (.bipush 9, 2) := by decide +kernel
theorem dX3_didPair_23 : decode cX3_didPair 23 = .ok (.if_icmp .ne 17, 3) := by decide +kernel
theorem dX3_didPair_26 : decode cX3_didPair 26 = .ok (.aload_n 0, 1) := by decide +kernel
theorem dX3_didPair_27 : decode cX3_didPair 27 = .ok (.iload_n 1, 1) := by decide +kernel
theorem dX3_didPair_28 : decode cX3_didPair 28 = .ok (.invokevirtual 174, 3) := by decide +kernel
theorem dX3_didPair_31 : decode cX3_didPair 31 = .ok (.ifCond .lt 7, 3) := by decide +kernel
theorem dX3_didPair_34 : decode cX3_didPair 34 = .ok (.iconst 1, 1) := by decide +kernel
theorem dX3_didPair_35 : decode cX3_didPair 35 = .ok (.goto 4, 3) := by decide +kernel
theorem dX3_didPair_38 : decode cX3_didPair 38 = .ok (.iconst 0, 1) := by decide +kernel
theorem dX3_didPair_39 : decode cX3_didPair 39 = .ok (.ireturn, 1) := by decide +kernel
theorem dX3_didPair_40 : decode cX3_didPair 40 = .ok (.iload_n 2, 1) := by decide +kernel
theorem dX3_didPair_41 : decode cX3_didPair 41 = .ok (.bipush 8, 2) := by decide +kernel
theorem dX3_didPair_43 : decode cX3_didPair 43 = .ok (.if_icmp .ne 14, 3) := by decide +kernel
theorem dX3_didPair_46 : decode cX3_didPair 46 = .ok (.aload_n 0, 1) := by decide +kernel
theorem dX3_didPair_47 : decode cX3_didPair 47 = .ok (.aload_n 0, 1) := by decide +kernel
theorem dX3_didPair_48 : decode cX3_didPair 48 = .ok (.invokevirtual 160, 3) := by decide +kernel
theorem dX3_didPair_51 : decode cX3_didPair 51 = .ok (.putfield 114, 3) := by decide +kernel
theorem dX3_didPair_54 : decode cX3_didPair 54 = .ok (.goto 12, 3) := by decide +kernel
theorem dX3_didPair_57 : decode cX3_didPair 57 = .ok (.aload_n 0, 1) := by decide +kernel
theorem dX3_didPair_58 : decode cX3_didPair 58 = .ok (.iload_n 2, 1) := by decide +kernel
theorem dX3_didPair_59 : decode cX3_didPair 59 = .ok (.iconst 4, 1) := by decide +kernel
theorem dX3_didPair_60 : decode cX3_didPair 60 = .ok (.isub, 1) := by decide +kernel
theorem dX3_didPair_61 : decode cX3_didPair 61 = .ok (.iload_n 1, 1) := by decide +kernel
theorem dX3_didPair_62 : decode cX3_didPair 62 = .ok (.invokevirtual 154, 3) := by decide +kernel
theorem dX3_didPair_65 : decode cX3_didPair 65 = .ok (.pop, 1) := by decide +kernel
theorem dX3_didPair_66 : decode cX3_didPair 66 = .ok (.iconst 1, 1) := by decide +kernel
theorem dX3_didPair_67 : decode cX3_didPair 67 = .ok (.ireturn, 1) := by decide +kernel
set_option maxRecDepth 20000 in
theorem ggX3_dayBy_X3_didPair : GoodIn wsX3_dayBy wsX3_didPair := goodIn_r _ [8, 3, 9, 10, 11, 7, 12, 13, 2, 14, 15, 16, 17, 18, 19, 20, 21, 22, 23, 24, 25, 26, 27, 28, 29, 30, 31, 32, 33, 34, 35, 36, 37, 38, 39, 40, 71, 72, 73, 74, 75, 76, 77, 78, 79, 80, 81, 82, 83, 84, 85, 86, 87, 88, 89, 90, 91, 92, 93] (by decide +kernel) (by decide +kernel)
set_option maxRecDepth 20000 in
theorem gX3_dayBy_X3_didPair : GoodIn wsX3_dayBy (wsV RX3 177 RX3 yX3_didPair wsX3_didPair) := goodIn_app (goodIn_of _ (by decide +kernel)) ggX3_dayBy_X3_didPair
set_option maxRecDepth 20000 in
theorem ggX3_dayBy_X3_isCarried : GoodIn wsX3_dayBy wsX3_isCarried := goodIn_r _ [44, 45, 46, 47, 7, 48, 18, 49, 50, 51, 52, 3, 53, 2, 22, 23, 24, 54, 55, 56, 57, 58, 59, 60, 61, 62, 63, 64, 65, 66, 67, 68, 69, 40, 70, 71, 72, 73, 74, 75, 76, 77, 78, 79, 80, 81, 82, 83, 84, 85, 86, 87, 88, 89, 90, 91, 92, 93] (by decide +kernel) (by decide +kernel)
set_option maxRecDepth 20000 in
theorem gX3_dayBy_X3_isCarried : GoodIn wsX3_dayBy (wsV RX3 148 RX3 yX3_isCarried wsX3_isCarried) := goodIn_app (goodIn_of _ (by decide +kernel)) ggX3_dayBy_X3_isCarried
set_option maxRecDepth 20000 in
theorem ggX3_dayBy_X3_noChair : GoodIn wsX3_dayBy wsX3_noChair := goodIn_r _ [17, 18, 19, 20, 7, 21, 71, 72, 73, 74, 75, 76, 77, 78, 79, 80, 81, 82, 83, 84, 85, 86, 87, 88, 89, 90, 91, 92, 93] (by decide +kernel) (by decide +kernel)
set_option maxRecDepth 20000 in
theorem gX3_dayBy_X3_noChair : GoodIn wsX3_dayBy (wsV RX3 129 RX3 yX3_noChair wsX3_noChair) := goodIn_app (goodIn_of _ (by decide +kernel)) ggX3_dayBy_X3_noChair
set_option maxRecDepth 20000 in
theorem ggX3_dayBy_X3_whoIs : GoodIn wsX3_dayBy wsX3_whoIs := goodIn_r _ [48, 18, 49, 50, 51, 7, 52, 3, 53, 2, 22, 23, 24, 54, 55, 56, 57, 71, 72, 73, 74, 75, 76, 77, 78, 79, 80, 81, 82, 83, 84, 85, 86, 87, 88, 89, 90, 91, 92, 93] (by decide +kernel) (by decide +kernel)
set_option maxRecDepth 20000 in
theorem gX3_dayBy_X3_whoIs : GoodIn wsX3_dayBy (wsV RX3 142 RX3 yX3_whoIs wsX3_whoIs) := goodIn_app (goodIn_of _ (by decide +kernel)) ggX3_dayBy_X3_whoIs
set_option maxRecDepth 20000 in
theorem ggX3_dayBy_X3_votesIn : GoodIn wsX3_dayBy wsX3_votesIn := goodIn_r _ [61, 18, 22, 23, 7, 24, 62, 63, 64, 65, 3, 66, 67, 68, 69, 40, 70, 71, 72, 73, 74, 75, 76, 77, 78, 79, 80, 81, 82, 83, 84, 85, 86, 87, 88, 89, 90, 91, 92, 93] (by decide +kernel) (by decide +kernel)
set_option maxRecDepth 20000 in
theorem gX3_dayBy_X3_votesIn : GoodIn wsX3_dayBy (wsV RX3 145 RX3 yX3_votesIn wsX3_votesIn) := goodIn_app (goodIn_of _ (by decide +kernel)) ggX3_dayBy_X3_votesIn
theorem dX3_dayBy_0 : decode cX3_dayBy 0 = .ok (.bipush (-9), 2) := by decide +kernel
theorem dX3_dayBy_2 : decode cX3_dayBy 2 = .ok (.istore 4, 2) := by decide +kernel
theorem dX3_dayBy_4 : decode cX3_dayBy 4 = .ok (.iconst 0, 1) := by decide +kernel
theorem dX3_dayBy_5 : decode cX3_dayBy 5 = .ok (.istore 5, 2) := by decide +kernel
theorem dX3_dayBy_7 : decode cX3_dayBy 7 = .ok (.iconst 0, 1) := by decide +kernel
theorem dX3_dayBy_8 : decode cX3_dayBy 8 = .ok (.istore 6, 2) := by decide +kernel
theorem dX3_dayBy_10 : decode cX3_dayBy 10 = .ok (.iload 6, 2) := by decide +kernel
theorem dX3_dayBy_12 : decode cX3_dayBy 12 = .ok (.iload_n 2, 1) := by decide +kernel
theorem dX3_dayBy_13 : decode cX3_dayBy 13 = .ok (.if_icmp .ge 71, 3) := by decide +kernel
theorem dX3_dayBy_16 : decode cX3_dayBy 16 = .ok (.iload 4, 2) := by decide +kernel
theorem dX3_dayBy_18 : decode cX3_dayBy 18 = .ok (.ifCond .ge 66, 3) := by decide +kernel
theorem dX3_dayBy_21 : decode cX3_dayBy 21 = .ok (.aload_n 0, 1) := by decide +kernel
theorem dX3_dayBy_22 : decode cX3_dayBy 22 = .ok (.aload_n 0, 1) := by decide +kernel
theorem dX3_dayBy_23 : decode cX3_dayBy 23 = .ok (.getfield 49, 3) := by decide +kernel
theorem dX3_dayBy_26 : decode cX3_dayBy 26 = .ok (.iload_n 1, 1) := by decide +kernel
theorem dX3_dayBy_27 : decode cX3_dayBy 27 = .ok (.iconst 2, 1) := by decide +kernel
theorem dX3_dayBy_28 : decode cX3_dayBy 28 = .ok (.iload 6, 2) := by decide +kernel
theorem dX3_dayBy_30 : decode cX3_dayBy 30 = .ok (.imul, 1) := by decide +kernel
theorem dX3_dayBy_31 : decode cX3_dayBy 31 = .ok (.iadd, 1) := by decide +kernel
theorem dX3_dayBy_32 : decode cX3_dayBy 32 = .ok (.iaload, 1) := by decide +kernel
theorem dX3_dayBy_33 : decode cX3_dayBy 33 = .ok (.aload_n 0, 1) := by decide +kernel
theorem dX3_dayBy_34 : decode cX3_dayBy 34 = .ok (.getfield 49, 3) := by decide +kernel
theorem dX3_dayBy_37 : decode cX3_dayBy 37 = .ok (.iload_n 1, 1) := by decide +kernel
theorem dX3_dayBy_38 : decode cX3_dayBy 38 = .ok (.iconst 2, 1) := by decide +kernel
theorem dX3_dayBy_39 : decode cX3_dayBy 39 = .ok (.iload 6, 2) := by decide +kernel
theorem dX3_dayBy_41 : decode cX3_dayBy 41 = .ok (.imul, 1) := by decide +kernel
theorem dX3_dayBy_42 : decode cX3_dayBy 42 = .ok (.iadd, 1) := by decide +kernel
theorem dX3_dayBy_43 : decode cX3_dayBy 43 = .ok (.iconst 1, 1) := by decide +kernel
theorem dX3_dayBy_44 : decode cX3_dayBy 44 = .ok (.iadd, 1) := by decide +kernel
theorem dX3_dayBy_45 : decode cX3_dayBy 45 = .ok (.iaload, 1) := by decide +kernel
theorem dX3_dayBy_46 : decode cX3_dayBy 46 = .ok (.invokevirtual 177, 3) := by decide +kernel
theorem dX3_dayBy_49 : decode cX3_dayBy 49 = .ok (.ifCond .eq 8, 3) := by decide +kernel
theorem dX3_dayBy_52 : decode cX3_dayBy 52 = .ok (.bipush (-9), 2) := by decide +kernel
theorem dX3_dayBy_54 : decode cX3_dayBy 54 = .ok (.goto 5, 3) := by decide +kernel
theorem dX3_dayBy_57 : decode cX3_dayBy 57 = .ok (.iload 6, 2) := by decide +kernel
theorem dX3_dayBy_59 : decode cX3_dayBy 59 = .ok (.istore 4, 2) := by decide +kernel
theorem dX3_dayBy_61 : decode cX3_dayBy 61 = .ok (.iload 5, 2) := by decide +kernel
theorem dX3_dayBy_63 : decode cX3_dayBy 63 = .ok (.aload_n 0, 1) := by decide +kernel
theorem dX3_dayBy_64 : decode cX3_dayBy 64 = .ok (.invokevirtual 148, 3) := by decide +kernel
theorem dX3_dayBy_67 : decode cX3_dayBy 67 = .ok (.ifCond .eq 7, 3) := by decide +kernel
theorem dX3_dayBy_70 : decode cX3_dayBy 70 = .ok (.iconst 1, 1) := by decide +kernel
theorem dX3_dayBy_71 : decode cX3_dayBy 71 = .ok (.goto 4, 3) := by decide +kernel
theorem dX3_dayBy_74 : decode cX3_dayBy 74 = .ok (.iconst 0, 1) := by decide +kernel
theorem dX3_dayBy_75 : decode cX3_dayBy 75 = .ok (.iadd, 1) := by decide +kernel
theorem dX3_dayBy_76 : decode cX3_dayBy 76 = .ok (.istore 5, 2) := by decide +kernel
theorem dX3_dayBy_78 : decode cX3_dayBy 78 = .ok (.iinc 6 1, 3) := by decide +kernel
theorem dX3_dayBy_81 : decode cX3_dayBy 81 = .ok (.goto (-71), 3) := by decide +kernel
theorem dX3_dayBy_84 : decode cX3_dayBy 84 = .ok (.iload_n 3, 1) := by decide +kernel
theorem dX3_dayBy_85 : decode cX3_dayBy 85 = .ok (.iconst 1, 1) := by decide +kernel
theorem dX3_dayBy_86 : decode cX3_dayBy 86 = .ok (.if_icmp .ne 6, 3) := by decide +kernel
theorem dX3_dayBy_89 : decode cX3_dayBy 89 = .ok (.iload 4, 2) := by decide +kernel
theorem dX3_dayBy_91 : decode cX3_dayBy 91 = .ok (.ireturn, 1) := by decide +kernel
theorem dX3_dayBy_92 : decode cX3_dayBy 92 = .ok (.iload 4, 2) := by decide +kernel
theorem dX3_dayBy_94 : decode cX3_dayBy 94 = .ok (.ifCond .lt 9, 3) := by decide +kernel
theorem dX3_dayBy_97 : decode cX3_dayBy 97 = .ok (.bipush (-100), 2) := by decide +kernel
theorem dX3_dayBy_99 : decode cX3_dayBy 99 = .ok (.iload 4, 2) := by decide +kernel
theorem dX3_dayBy_101 : decode cX3_dayBy 101 = .ok (.isub, 1) := by decide +kernel
theorem dX3_dayBy_102 : decode cX3_dayBy 102 = .ok (.ireturn, 1) := by decide +kernel
theorem dX3_dayBy_103 : decode cX3_dayBy 103 = .ok (.iload_n 3, 1) := by decide +kernel
theorem dX3_dayBy_104 : decode cX3_dayBy 104 = .ok (.bipush 10, 2) := by decide +kernel
theorem dX3_dayBy_106 : decode cX3_dayBy 106 = .ok (.if_icmp .lt 29, 3) := by decide +kernel
theorem dX3_dayBy_109 : decode cX3_dayBy 109 = .ok (.aload_n 0, 1) := by decide +kernel
theorem dX3_dayBy_110 : decode cX3_dayBy 110 = .ok (.iload_n 3, 1) := by decide +kernel
theorem dX3_dayBy_111 : decode cX3_dayBy 111 = .ok (.bipush 10, 2) := by decide +kernel
theorem dX3_dayBy_113 : decode cX3_dayBy 113 = .ok (.isub, 1) := by decide +kernel
theorem dX3_dayBy_114 : decode cX3_dayBy 114 = .ok (.invokevirtual 129, 3) := by decide +kernel
theorem dX3_dayBy_117 : decode cX3_dayBy 117 = .ok (.ifCond .eq 8, 3) := by decide +kernel
theorem dX3_dayBy_120 : decode cX3_dayBy 120 = .ok (.bipush (-9), 2) := by decide +kernel
theorem dX3_dayBy_122 : decode cX3_dayBy 122 = .ok (.goto 12, 3) := by decide +kernel
theorem dX3_dayBy_125 : decode cX3_dayBy 125 = .ok (.aload_n 0, 1) := by decide +kernel
theorem dX3_dayBy_126 : decode cX3_dayBy 126 = .ok (.getfield 19, 3) := by decide +kernel
theorem dX3_dayBy_129 : decode cX3_dayBy 129 = .ok (.iload_n 3, 1) := by decide +kernel
theorem dX3_dayBy_130 : decode cX3_dayBy 130 = .ok (.bipush 10, 2) := by decide +kernel
theorem dX3_dayBy_132 : decode cX3_dayBy 132 = .ok (.isub, 1) := by decide +kernel
theorem dX3_dayBy_133 : decode cX3_dayBy 133 = .ok (.iaload, 1) := by decide +kernel
theorem dX3_dayBy_134 : decode cX3_dayBy 134 = .ok (.ireturn, 1) := by decide +kernel
theorem dX3_dayBy_135 : decode cX3_dayBy 135 = .ok (.iload_n 3, 1) := by decide +kernel
theorem dX3_dayBy_136 : decode cX3_dayBy 136 = .ok (.ifCond .ne 15, 3) := by decide +kernel
theorem dX3_dayBy_139 : decode cX3_dayBy 139 = .ok (.aload_n 0, 1) := by decide +kernel
theorem dX3_dayBy_140 : decode cX3_dayBy 140 = .ok (.aload_n 0, 1) := by decide +kernel
theorem dX3_dayBy_141 : decode cX3_dayBy 141 = .ok (.iconst 1, 1) := by decide +kernel
theorem dX3_dayBy_142 : decode cX3_dayBy 142 = .ok (.invokevirtual 142, 3) := by decide +kernel
theorem dX3_dayBy_145 : decode cX3_dayBy 145 = .ok (.invokevirtual 145, 3) := by decide +kernel
theorem dX3_dayBy_148 : decode cX3_dayBy 148 = .ok (.goto 34, 3) := by decide +kernel
theorem dX3_dayBy_151 : decode cX3_dayBy 151 = .ok (.iload_n 3, 1) := by decide +kernel
theorem dX3_dayBy_152 : decode cX3_dayBy 152 = .ok (.iconst 2, 1) := by decide +kernel
theorem dX3_dayBy_153 : decode cX3_dayBy 153 = .ok (.if_icmp .ne 15, 3) := by decide +kernel
theorem dX3_dayBy_156 : decode cX3_dayBy 156 = .ok (.aload_n 0, 1) := by decide +kernel
theorem dX3_dayBy_157 : decode cX3_dayBy 157 = .ok (.aload_n 0, 1) := by decide +kernel
theorem dX3_dayBy_158 : decode cX3_dayBy 158 = .ok (.iconst 2, 1) := by decide +kernel
theorem dX3_dayBy_159 : decode cX3_dayBy 159 = .ok (.invokevirtual 142, 3) := by decide +kernel
theorem dX3_dayBy_162 : decode cX3_dayBy 162 = .ok (.invokevirtual 145, 3) := by decide +kernel
theorem dX3_dayBy_165 : decode cX3_dayBy 165 = .ok (.goto 17, 3) := by decide +kernel
theorem dX3_dayBy_168 : decode cX3_dayBy 168 = .ok (.iload_n 3, 1) := by decide +kernel
theorem dX3_dayBy_169 : decode cX3_dayBy 169 = .ok (.iconst 3, 1) := by decide +kernel
theorem dX3_dayBy_170 : decode cX3_dayBy 170 = .ok (.if_icmp .ne 10, 3) := by decide +kernel
theorem dX3_dayBy_173 : decode cX3_dayBy 173 = .ok (.aload_n 0, 1) := by decide +kernel
theorem dX3_dayBy_174 : decode cX3_dayBy 174 = .ok (.getfield 114, 3) := by decide +kernel
theorem dX3_dayBy_177 : decode cX3_dayBy 177 = .ok (.goto 5, 3) := by decide +kernel
theorem dX3_dayBy_180 : decode cX3_dayBy 180 = .ok (.iload 5, 2) := by decide +kernel
theorem dX3_dayBy_182 : decode cX3_dayBy 182 = .ok (.ireturn, 1) := by decide +kernel
set_option maxRecDepth 20000 in
theorem ggX3_day_X3_noSheet : GoodIn wsX3_day wsX3_noSheet := goodIn_r _ [10, 11, 12, 13, 9, 14] (by decide +kernel) (by decide +kernel)
set_option maxRecDepth 20000 in
theorem gX3_day_X3_noSheet : GoodIn wsX3_day (va_wsS RX3 98 yX3_noSheet wsX3_noSheet) := goodIn_app (goodIn_of _ (by decide +kernel)) ggX3_day_X3_noSheet
set_option maxRecDepth 20000 in
theorem ggX3_day_X3_refused : GoodIn wsX3_day wsX3_refused := goodIn_r _ [18, 19, 117, 118, 119, 120, 121, 122, 123, 124, 125, 126, 127, 128, 129, 130, 131, 132, 133, 134, 135, 136, 137, 138, 139] (by decide +kernel) (by decide +kernel)
set_option maxRecDepth 20000 in
theorem gX3_day_X3_refused : GoodIn wsX3_day (wsV RX3 102 RX3 yX3_refused wsX3_refused) := goodIn_app (goodIn_of _ (by decide +kernel)) ggX3_day_X3_refused
set_option maxRecDepth 20000 in
theorem ggX3_day_X3_in : GoodIn wsX3_day wsX3_in := goodIn_r _ [14] (by decide +kernel) (by decide +kernel)
set_option maxRecDepth 20000 in
theorem gX3_day_X3_in : GoodIn wsX3_day (va_wsS RX3 68 yX3_in wsX3_in) := goodIn_app (goodIn_of _ (by decide +kernel)) ggX3_day_X3_in
set_option maxRecDepth 20000 in
theorem ggX3_day_X3_cellsBarred : GoodIn wsX3_day wsX3_cellsBarred := goodIn_r _ [23, 24, 25, 26, 27, 28, 9, 29, 19, 30, 31, 32, 117, 118, 119, 120, 121, 122, 123, 124, 125, 126, 127, 128, 129, 130, 131, 132, 133, 134, 135, 136, 137, 138, 139] (by decide +kernel) (by decide +kernel)
set_option maxRecDepth 20000 in
theorem gX3_day_X3_cellsBarred : GoodIn wsX3_day (wsV RX3 107 RX3 yX3_cellsBarred wsX3_cellsBarred) := goodIn_app (goodIn_of _ (by decide +kernel)) ggX3_day_X3_cellsBarred
set_option maxRecDepth 20000 in
theorem ggX3_day_X3_pairsBarred : GoodIn wsX3_day wsX3_pairsBarred := goodIn_r _ [36, 37, 3, 38, 4, 39, 12, 13, 9, 14, 40, 41, 42, 43, 6, 117, 118, 119, 120, 121, 122, 123, 124, 125, 126, 127, 128, 129, 130, 131, 132, 133, 134, 135, 136, 137, 138, 139] (by decide +kernel) (by decide +kernel)
set_option maxRecDepth 20000 in
theorem gX3_day_X3_pairsBarred : GoodIn wsX3_day (wsV RX3 184 RX3 yX3_pairsBarred wsX3_pairsBarred) := goodIn_app (goodIn_of _ (by decide +kernel)) ggX3_day_X3_pairsBarred
set_option maxRecDepth 20000 in
theorem ggX3_day_X3_keepAll : GoodIn wsX3_day wsX3_keepAll := goodIn_r _ [47, 48, 49, 6, 50, 51, 117, 118, 119, 120, 121, 122, 123, 124, 125, 126, 127, 128, 129, 130, 131, 132, 133, 134, 135, 136, 137, 138, 139] (by decide +kernel) (by decide +kernel)
set_option maxRecDepth 20000 in
theorem gX3_day_X3_keepAll : GoodIn wsX3_day (wsV RX3 187 RX3 yX3_keepAll wsX3_keepAll) := goodIn_app (goodIn_of _ (by decide +kernel)) ggX3_day_X3_keepAll
set_option maxRecDepth 20000 in
theorem ggX3_day_X3_dayBy : GoodIn wsX3_day wsX3_dayBy := goodIn_r _ [55, 37, 51, 48, 56, 57, 58, 9, 59, 60, 61, 62, 63, 11, 40, 41, 42, 43, 6, 12, 13, 14, 64, 65, 66, 67, 68, 69, 70, 71, 72, 73, 74, 75, 76, 77, 78, 79, 80, 81, 82, 83, 84, 85, 86, 87, 88, 89, 90, 91, 92, 93, 94, 95, 96, 97, 98, 99, 100, 101, 102, 103, 104, 105, 106, 107, 108, 109, 110, 111, 112, 117, 118, 119, 120, 121, 122, 123, 124, 125, 126, 127, 128, 129, 130, 131, 132, 133, 134, 135, 136, 137, 138, 139] (by decide +kernel) (by decide +kernel)
set_option maxRecDepth 20000 in
theorem gX3_day_X3_dayBy : GoodIn wsX3_day (wsV RX3 190 RX3 yX3_dayBy wsX3_dayBy) := goodIn_app (goodIn_of _ (by decide +kernel)) ggX3_day_X3_dayBy
set_option maxRecDepth 20000 in
theorem ggX3_day_X3_bringBack : GoodIn wsX3_day wsX3_bringBack := goodIn_r _ [116, 49, 48, 6, 51, 50, 117, 118, 119, 120, 121, 122, 123, 124, 125, 126, 127, 128, 129, 130, 131, 132, 133, 134, 135, 136, 137, 138, 139] (by decide +kernel) (by decide +kernel)
set_option maxRecDepth 20000 in
theorem gX3_day_X3_bringBack : GoodIn wsX3_day (wsV RX3 194 RX3 yX3_bringBack wsX3_bringBack) := goodIn_app (goodIn_of _ (by decide +kernel)) ggX3_day_X3_bringBack
theorem dX3_day_0 : decode cX3_day 0 = .ok (.iload_n 1, 1) := by decide +kernel
theorem dX3_day_1 : decode cX3_day 1 = .ok (.invokestatic 98, 3) := by decide +kernel
theorem dX3_day_4 : decode cX3_day 4 = .ok (.ifCond .eq 9, 3) := by decide +kernel
theorem dX3_day_7 : decode cX3_day 7 = .ok (.aload_n 0, 1) := by decide +kernel
theorem dX3_day_8 : decode cX3_day 8 = .ok (.iconst (-1), 1) := by decide +kernel
theorem dX3_day_9 : decode cX3_day 9 = .ok (.invokevirtual 102, 3) := by decide +kernel
theorem dX3_day_12 : decode cX3_day 12 = .ok (.ireturn, 1) := by decide +kernel
theorem dX3_day_13 : decode cX3_day 13 = .ok (.iload_n 2, 1) := by decide +kernel
theorem dX3_day_14 : decode cX3_day 14 = .ok (.i2l, 1) := by decide +kernel
theorem dX3_day_15 : decode cX3_day 15 = .ok (.lconst 0, 1) := by decide +kernel
theorem dX3_day_16 : decode cX3_day 16 = .ok (.ldc2_w 105, 3) := by decide +kernel
theorem dX3_day_19 : decode cX3_day 19 = .ok (.invokestatic 68, 3) := by decide +kernel
theorem dX3_day_22 : decode cX3_day 22 = .ok (.ifCond .eq 44, 3) := by decide +kernel
theorem dX3_day_25 : decode cX3_day 25 = .ok (.iload 4, 2) := by decide +kernel
theorem dX3_day_27 : decode cX3_day 27 = .ok (.i2l, 1) := by decide +kernel
theorem dX3_day_28 : decode cX3_day 28 = .ok (.lconst 0, 1) := by decide +kernel
theorem dX3_day_29 : decode cX3_day 29 = .ok (.ldc2_w 180, 3) := by decide +kernel
theorem dX3_day_32 : decode cX3_day 32 = .ok (.invokestatic 68, 3) := by decide +kernel
theorem dX3_day_35 : decode cX3_day 35 = .ok (.ifCond .eq 31, 3) := by decide +kernel
theorem dX3_day_38 : decode cX3_day 38 = .ok (.iload 5, 2) := by decide +kernel
theorem dX3_day_40 : decode cX3_day 40 = .ok (.i2l, 1) := by decide +kernel
theorem dX3_day_41 : decode cX3_day 41 = .ok (.lconst 0, 1) := by decide +kernel
theorem dX3_day_42 : decode cX3_day 42 = .ok (.ldc2_w 167, 3) := by decide +kernel
theorem dX3_day_45 : decode cX3_day 45 = .ok (.invokestatic 68, 3) := by decide +kernel
theorem dX3_day_48 : decode cX3_day 48 = .ok (.ifCond .ne 25, 3) := by decide +kernel
theorem dX3_day_51 : decode cX3_day 51 = .ok (.iload 5, 2) := by decide +kernel
theorem dX3_day_53 : decode cX3_day 53 = .ok (.i2l, 1) := by decide +kernel
theorem dX3_day_54 : decode cX3_day 54 = .ok (.ldc2_w 152, 3) := by decide +kernel
theorem dX3_day_57 : decode cX3_day 57 = .ok (.ldc2_w 182, 3) := by decide +kernel
theorem dX3_day_60 : decode cX3_day 60 = .ok (.invokestatic 68, 3) := by decide +kernel
theorem dX3_day_63 : decode cX3_day 63 = .ok (.ifCond .ne 10, 3) := by decide +kernel
theorem dX3_day_66 : decode cX3_day 66 = .ok (.aload_n 0, 1) := by decide +kernel
theorem dX3_day_67 : decode cX3_day 67 = .ok (.bipush (-2), 2) := by decide +kernel
theorem dX3_day_69 : decode cX3_day 69 = .ok (.invokevirtual 102, 3) := by decide +kernel
theorem dX3_day_72 : decode cX3_day 72 = .ok (.ireturn, 1) := by decide +kernel
theorem dX3_day_73 : decode cX3_day 73 = .ok (.aload_n 0, 1) := by decide +kernel
theorem dX3_day_74 : decode cX3_day 74 = .ok (.getfield 65, 3) := by decide +kernel
theorem dX3_day_77 : decode cX3_day 77 = .ok (.ifCond .ne 10, 3) := by decide +kernel
theorem dX3_day_80 : decode cX3_day 80 = .ok (.aload_n 0, 1) := by decide +kernel
theorem dX3_day_81 : decode cX3_day 81 = .ok (.bipush (-3), 2) := by decide +kernel
theorem dX3_day_83 : decode cX3_day 83 = .ok (.invokevirtual 102, 3) := by decide +kernel
theorem dX3_day_86 : decode cX3_day 86 = .ok (.ireturn, 1) := by decide +kernel
theorem dX3_day_87 : decode cX3_day 87 = .ok (.aload_n 0, 1) := by decide +kernel
theorem dX3_day_88 : decode cX3_day 88 = .ok (.iload_n 1, 1) := by decide +kernel
theorem dX3_day_89 : decode cX3_day 89 = .ok (.iload_n 2, 1) := by decide +kernel
theorem dX3_day_90 : decode cX3_day 90 = .ok (.iload_n 3, 1) := by decide +kernel
theorem dX3_day_91 : decode cX3_day 91 = .ok (.ldc2_w 105, 3) := by decide +kernel
theorem dX3_day_94 : decode cX3_day 94 = .ok (.iload 4, 2) := by decide +kernel
theorem dX3_day_96 : decode cX3_day 96 = .ok (.i2l, 1) := by decide +kernel
theorem dX3_day_97 : decode cX3_day 97 = .ok (.lmul, 1) := by decide +kernel
theorem dX3_day_98 : decode cX3_day 98 = .ok (.invokevirtual 107, 3) := by decide +kernel
theorem dX3_day_101 : decode cX3_day 101 = .ok (.istore 6, 2) := by decide +kernel
theorem dX3_day_103 : decode cX3_day 103 = .ok (.iload 6, 2) := by decide +kernel
theorem dX3_day_105 : decode cX3_day 105 = .ok (.ifCond .ge 6, 3) := by decide +kernel
theorem dX3_day_108 : decode cX3_day 108 = .ok (.iload 6, 2) := by decide +kernel
theorem dX3_day_110 : decode cX3_day 110 = .ok (.ireturn, 1) := by decide +kernel
theorem dX3_day_111 : decode cX3_day 111 = .ok (.aload_n 0, 1) := by decide +kernel
theorem dX3_day_112 : decode cX3_day 112 = .ok (.bipush 60, 2) := by decide +kernel
theorem dX3_day_114 : decode cX3_day 114 = .ok (.iload_n 1, 1) := by decide +kernel
theorem dX3_day_115 : decode cX3_day 115 = .ok (.imul, 1) := by decide +kernel
theorem dX3_day_116 : decode cX3_day 116 = .ok (.iload_n 3, 1) := by decide +kernel
theorem dX3_day_117 : decode cX3_day 117 = .ok (.iadd, 1) := by decide +kernel
theorem dX3_day_118 : decode cX3_day 118 = .ok (.iload 4, 2) := by decide +kernel
theorem dX3_day_120 : decode cX3_day 120 = .ok (.invokevirtual 184, 3) := by decide +kernel
theorem dX3_day_123 : decode cX3_day 123 = .ok (.istore 6, 2) := by decide +kernel
theorem dX3_day_125 : decode cX3_day 125 = .ok (.iload 6, 2) := by decide +kernel
theorem dX3_day_127 : decode cX3_day 127 = .ok (.ifCond .ge 10, 3) := by decide +kernel
theorem dX3_day_130 : decode cX3_day 130 = .ok (.aload_n 0, 1) := by decide +kernel
theorem dX3_day_131 : decode cX3_day 131 = .ok (.iload 6, 2) := by decide +kernel
theorem dX3_day_133 : decode cX3_day 133 = .ok (.invokevirtual 102, 3) := by decide +kernel
theorem dX3_day_136 : decode cX3_day 136 = .ok (.ireturn, 1) := by decide +kernel
theorem dX3_day_137 : decode cX3_day 137 = .ok (.aload_n 0, 1) := by decide +kernel
theorem dX3_day_138 : decode cX3_day 138 = .ok (.invokevirtual 187, 3) := by decide +kernel
theorem dX3_day_141 : decode cX3_day 141 = .ok (.aload_n 0, 1) := by decide +kernel
theorem dX3_day_142 : decode cX3_day 142 = .ok (.bipush 60, 2) := by decide +kernel
theorem dX3_day_144 : decode cX3_day 144 = .ok (.iload_n 1, 1) := by decide +kernel
theorem dX3_day_145 : decode cX3_day 145 = .ok (.imul, 1) := by decide +kernel
theorem dX3_day_146 : decode cX3_day 146 = .ok (.iload_n 3, 1) := by decide +kernel
theorem dX3_day_147 : decode cX3_day 147 = .ok (.iadd, 1) := by decide +kernel
theorem dX3_day_148 : decode cX3_day 148 = .ok (.iload 4, 2) := by decide +kernel
theorem dX3_day_150 : decode cX3_day 150 = .ok (.iload 5, 2) := by decide +kernel
theorem dX3_day_152 : decode cX3_day 152 = .ok (.invokevirtual 190, 3) := by decide +kernel
theorem dX3_day_155 : decode cX3_day 155 = .ok (.istore 7, 2) := by decide +kernel
theorem dX3_day_157 : decode cX3_day 157 = .ok (.aload_n 0, 1) := by decide +kernel
theorem dX3_day_158 : decode cX3_day 158 = .ok (.invokevirtual 194, 3) := by decide +kernel
theorem dX3_day_161 : decode cX3_day 161 = .ok (.aload_n 0, 1) := by decide +kernel
theorem dX3_day_162 : decode cX3_day 162 = .ok (.iload 7, 2) := by decide +kernel
theorem dX3_day_164 : decode cX3_day 164 = .ok (.invokevirtual 102, 3) := by decide +kernel
theorem dX3_day_167 : decode cX3_day 167 = .ok (.ireturn, 1) := by decide +kernel
set_option maxRecDepth 20000 in
theorem ggX3_swing_X3_keepAll : GoodIn wsX3_swing wsX3_keepAll := goodIn_r _ [8, 3, 9, 1, 10, 2, 56, 57, 58, 59, 60, 61, 62, 63, 64, 65, 66, 67, 68, 69, 70, 71, 72, 73, 74, 75, 76, 77, 78] (by decide +kernel) (by decide +kernel)
set_option maxRecDepth 20000 in
theorem gX3_swing_X3_keepAll : GoodIn wsX3_swing (wsV RX3 187 RX3 yX3_keepAll wsX3_keepAll) := goodIn_app (goodIn_of _ (by decide +kernel)) ggX3_swing_X3_keepAll
set_option maxRecDepth 20000 in
theorem ggX3_swing_X3_everyChair : GoodIn wsX3_swing wsX3_everyChair := goodIn_r _ [14, 1, 56, 57, 58, 59, 60, 61, 62, 63, 64, 65, 66, 67, 68, 69, 70, 71, 72, 73, 74, 75, 76, 77, 78] (by decide +kernel) (by decide +kernel)
set_option maxRecDepth 20000 in
theorem gX3_swing_X3_everyChair : GoodIn wsX3_swing (wsV RX3 160 RX3 yX3_everyChair wsX3_everyChair) := goodIn_app (goodIn_of _ (by decide +kernel)) ggX3_swing_X3_everyChair
set_option maxRecDepth 20000 in
theorem ggX3_swing_X3_isIn : GoodIn wsX3_swing wsX3_isIn := goodIn_r _ [17] (by decide +kernel) (by decide +kernel)
set_option maxRecDepth 20000 in
theorem gX3_swing_X3_isIn : GoodIn wsX3_swing (va_wsS RX3 120 yX3_isIn wsX3_isIn) := goodIn_app (goodIn_of _ (by decide +kernel)) ggX3_swing_X3_isIn
set_option maxRecDepth 20000 in
theorem ggX3_swing_X3_isCarried : GoodIn wsX3_swing wsX3_isCarried := goodIn_r _ [21, 22, 23, 24, 7, 25, 1, 26, 27, 28, 29, 3, 30, 2, 15, 16, 17, 31, 32, 33, 34, 35, 36, 37, 38, 39, 40, 41, 42, 43, 44, 45, 46, 47, 48, 56, 57, 58, 59, 60, 61, 62, 63, 64, 65, 66, 67, 68, 69, 70, 71, 72, 73, 74, 75, 76, 77, 78] (by decide +kernel) (by decide +kernel)
set_option maxRecDepth 20000 in
theorem gX3_swing_X3_isCarried : GoodIn wsX3_swing (wsV RX3 148 RX3 yX3_isCarried wsX3_isCarried) := goodIn_app (goodIn_of _ (by decide +kernel)) ggX3_swing_X3_isCarried
set_option maxRecDepth 20000 in
theorem ggX3_swing_X3_bringBack : GoodIn wsX3_swing wsX3_bringBack := goodIn_r _ [52, 9, 3, 1, 2, 10, 56, 57, 58, 59, 60, 61, 62, 63, 64, 65, 66, 67, 68, 69, 70, 71, 72, 73, 74, 75, 76, 77, 78] (by decide +kernel) (by decide +kernel)
set_option maxRecDepth 20000 in
theorem gX3_swing_X3_bringBack : GoodIn wsX3_swing (wsV RX3 194 RX3 yX3_bringBack wsX3_bringBack) := goodIn_app (goodIn_of _ (by decide +kernel)) ggX3_swing_X3_bringBack
set_option maxRecDepth 20000 in
theorem ggX3_swing_X3_bits : GoodIn wsX3_swing wsX3_bits := goodIn_r _ [55] (by decide +kernel) (by decide +kernel)
set_option maxRecDepth 20000 in
theorem gX3_swing_X3_bits : GoodIn wsX3_swing (va_wsS RX3 157 yX3_bits wsX3_bits) := goodIn_app (goodIn_of _ (by decide +kernel)) ggX3_swing_X3_bits
theorem dX3_swing_0 : decode cX3_swing 0 = .ok (.aload_n 0, 1) := by decide +kernel
theorem dX3_swing_1 : decode cX3_swing 1 = .ok (.getfield 65, 3) := by decide +kernel
theorem dX3_swing_4 : decode cX3_swing 4 = .ok (.ifCond .ne 6, 3) := by decide +kernel
theorem dX3_swing_7 : decode cX3_swing 7 = .ok (.bipush (-3), 2) := by decide +kernel
theorem dX3_swing_9 : decode cX3_swing 9 = .ok (.ireturn, 1) := by decide +kernel
theorem dX3_swing_10 : decode cX3_swing 10 = .ok (.aload_n 0, 1) := by decide +kernel
theorem dX3_swing_11 : decode cX3_swing 11 = .ok (.invokevirtual 187, 3) := by decide +kernel
theorem dX3_swing_14 : decode cX3_swing 14 = .ok (.bipush (-9), 2) := by decide +kernel
theorem dX3_swing_16 : decode cX3_swing 16 = .ok (.istore_n 1, 1) := by decide +kernel
theorem dX3_swing_17 : decode cX3_swing 17 = .ok (.iconst 0, 1) := by decide +kernel
theorem dX3_swing_18 : decode cX3_swing 18 = .ok (.istore_n 2, 1) := by decide +kernel
theorem dX3_swing_19 : decode cX3_swing 19 = .ok (.iload_n 2, 1) := by decide +kernel
theorem dX3_swing_20 : decode cX3_swing 20 = .ok (.aload_n 0, 1) := by decide +kernel
theorem dX3_swing_21 : decode cX3_swing 21 = .ok (.invokevirtual 160, 3) := by decide +kernel
theorem dX3_swing_24 : decode cX3_swing 24 = .ok (.if_icmp .gt 100, 3) := by decide +kernel
theorem dX3_swing_27 : decode cX3_swing 27 = .ok (.iconst 0, 1) := by decide +kernel
theorem dX3_swing_28 : decode cX3_swing 28 = .ok (.istore_n 3, 1) := by decide +kernel
theorem dX3_swing_29 : decode cX3_swing 29 = .ok (.iload_n 3, 1) := by decide +kernel
theorem dX3_swing_30 : decode cX3_swing 30 = .ok (.aload_n 0, 1) := by decide +kernel
theorem dX3_swing_31 : decode cX3_swing 31 = .ok (.getfield 65, 3) := by decide +kernel
theorem dX3_swing_34 : decode cX3_swing 34 = .ok (.if_icmp .ge 33, 3) := by decide +kernel
theorem dX3_swing_37 : decode cX3_swing 37 = .ok (.aload_n 0, 1) := by decide +kernel
theorem dX3_swing_38 : decode cX3_swing 38 = .ok (.getfield 19, 3) := by decide +kernel
theorem dX3_swing_41 : decode cX3_swing 41 = .ok (.iload_n 3, 1) := by decide +kernel
theorem dX3_swing_42 : decode cX3_swing 42 = .ok (.iload_n 2, 1) := by decide +kernel
theorem dX3_swing_43 : decode cX3_swing 43 = .ok (.iload_n 3, 1) := by decide +kernel
theorem dX3_swing_44 : decode cX3_swing 44 = .ok (.invokestatic 120, 3) := by decide +kernel
theorem dX3_swing_47 : decode cX3_swing 47 = .ok (.ifCond .eq 7, 3) := by decide +kernel
theorem dX3_swing_50 : decode cX3_swing 50 = .ok (.iconst 0, 1) := by decide +kernel
theorem dX3_swing_51 : decode cX3_swing 51 = .ok (.goto 9, 3) := by decide +kernel
theorem dX3_swing_54 : decode cX3_swing 54 = .ok (.aload_n 0, 1) := by decide +kernel
theorem dX3_swing_55 : decode cX3_swing 55 = .ok (.getfield 19, 3) := by decide +kernel
theorem dX3_swing_58 : decode cX3_swing 58 = .ok (.iload_n 3, 1) := by decide +kernel
theorem dX3_swing_59 : decode cX3_swing 59 = .ok (.iaload, 1) := by decide +kernel
theorem dX3_swing_60 : decode cX3_swing 60 = .ok (.iastore, 1) := by decide +kernel
theorem dX3_swing_61 : decode cX3_swing 61 = .ok (.iinc 3 1, 3) := by decide +kernel
theorem dX3_swing_64 : decode cX3_swing 64 = .ok (.goto (-35), 3) := by decide +kernel
theorem dX3_swing_67 : decode cX3_swing 67 = .ok (.iload_n 2, 1) := by decide +kernel
theorem dX3_swing_68 : decode cX3_swing 68 = .ok (.aload_n 0, 1) := by decide +kernel
theorem dX3_swing_69 : decode cX3_swing 69 = .ok (.getfield 114, 3) := by decide +kernel
theorem dX3_swing_72 : decode cX3_swing 72 = .ok (.iand, 1) := by decide +kernel
theorem dX3_swing_73 : decode cX3_swing 73 = .ok (.ifCond .ne 14, 3) := by decide +kernel
theorem dX3_swing_76 : decode cX3_swing 76 = .ok (.aload_n 0, 1) := by decide +kernel
theorem dX3_swing_77 : decode cX3_swing 77 = .ok (.invokevirtual 148, 3) := by decide +kernel
theorem dX3_swing_80 : decode cX3_swing 80 = .ok (.ifCond .eq 7, 3) := by decide +kernel
theorem dX3_swing_83 : decode cX3_swing 83 = .ok (.iconst 1, 1) := by decide +kernel
theorem dX3_swing_84 : decode cX3_swing 84 = .ok (.goto 4, 3) := by decide +kernel
theorem dX3_swing_87 : decode cX3_swing 87 = .ok (.iconst 0, 1) := by decide +kernel
theorem dX3_swing_88 : decode cX3_swing 88 = .ok (.istore_n 3, 1) := by decide +kernel
theorem dX3_swing_89 : decode cX3_swing 89 = .ok (.aload_n 0, 1) := by decide +kernel
theorem dX3_swing_90 : decode cX3_swing 90 = .ok (.invokevirtual 194, 3) := by decide +kernel
theorem dX3_swing_93 : decode cX3_swing 93 = .ok (.iload_n 3, 1) := by decide +kernel
theorem dX3_swing_94 : decode cX3_swing 94 = .ok (.ifCond .eq 22, 3) := by decide +kernel
theorem dX3_swing_97 : decode cX3_swing 97 = .ok (.iload_n 1, 1) := by decide +kernel
theorem dX3_swing_98 : decode cX3_swing 98 = .ok (.ifCond .lt 14, 3) := by decide +kernel
theorem dX3_swing_101 : decode cX3_swing 101 = .ok (.iload_n 2, 1) := by decide +kernel
theorem dX3_swing_102 : decode cX3_swing 102 = .ok (.invokestatic 157, 3) := by decide +kernel
theorem dX3_swing_105 : decode cX3_swing 105 = .ok (.iload_n 1, 1) := by decide +kernel
theorem dX3_swing_106 : decode cX3_swing 106 = .ok (.invokestatic 157, 3) := by decide +kernel
theorem dX3_swing_109 : decode cX3_swing 109 = .ok (.if_icmp .ge 7, 3) := by decide +kernel
theorem dX3_swing_112 : decode cX3_swing 112 = .ok (.iload_n 2, 1) := by decide +kernel
theorem dX3_swing_113 : decode cX3_swing 113 = .ok (.goto 4, 3) := by decide +kernel
theorem dX3_swing_116 : decode cX3_swing 116 = .ok (.iload_n 1, 1) := by decide +kernel
theorem dX3_swing_117 : decode cX3_swing 117 = .ok (.istore_n 1, 1) := by decide +kernel
theorem dX3_swing_118 : decode cX3_swing 118 = .ok (.iinc 2 1, 3) := by decide +kernel
theorem dX3_swing_121 : decode cX3_swing 121 = .ok (.goto (-102), 3) := by decide +kernel
theorem dX3_swing_124 : decode cX3_swing 124 = .ok (.iload_n 1, 1) := by decide +kernel
theorem dX3_swing_125 : decode cX3_swing 125 = .ok (.ireturn, 1) := by decide +kernel
set_option maxRecDepth 20000 in
theorem ggX3_blow_X3_in : GoodIn wsX3_blow wsX3_in := goodIn_r _ [6] (by decide +kernel) (by decide +kernel)
set_option maxRecDepth 20000 in
theorem gX3_blow_X3_in : GoodIn wsX3_blow (va_wsS RX3 68 yX3_in wsX3_in) := goodIn_app (goodIn_of _ (by decide +kernel)) ggX3_blow_X3_in
set_option maxRecDepth 20000 in
theorem ggX3_blow_X3_keepAll : GoodIn wsX3_blow wsX3_keepAll := goodIn_r _ [10, 11, 12, 1, 13, 14, 57, 58, 59, 60, 61, 62, 63, 64, 65, 66, 67, 68, 69, 70, 71, 72, 73, 74, 75, 76, 77, 78, 79] (by decide +kernel) (by decide +kernel)
set_option maxRecDepth 20000 in
theorem gX3_blow_X3_keepAll : GoodIn wsX3_blow (wsV RX3 187 RX3 yX3_keepAll wsX3_keepAll) := goodIn_app (goodIn_of _ (by decide +kernel)) ggX3_blow_X3_keepAll
set_option maxRecDepth 20000 in
theorem ggX3_blow_X3_blown : GoodIn wsX3_blow wsX3_blown := goodIn_r _ [18, 1, 11, 19, 14, 20, 21, 5, 22, 57, 58, 59, 60, 61, 62, 63, 64, 65, 66, 67, 68, 69, 70, 71, 72, 73, 74, 75, 76, 77, 78, 79] (by decide +kernel) (by decide +kernel)
set_option maxRecDepth 20000 in
theorem gX3_blow_X3_blown : GoodIn wsX3_blow (wsV RX3 154 RX3 yX3_blown wsX3_blown) := goodIn_app (goodIn_of _ (by decide +kernel)) ggX3_blow_X3_blown
set_option maxRecDepth 20000 in
theorem ggX3_blow_X3_isCarried : GoodIn wsX3_blow wsX3_isCarried := goodIn_r _ [26, 27, 28, 29, 5, 30, 1, 31, 32, 33, 34, 11, 35, 14, 20, 21, 22, 36, 37, 38, 39, 40, 41, 42, 43, 44, 45, 46, 47, 48, 49, 50, 51, 19, 52, 57, 58, 59, 60, 61, 62, 63, 64, 65, 66, 67, 68, 69, 70, 71, 72, 73, 74, 75, 76, 77, 78, 79] (by decide +kernel) (by decide +kernel)
set_option maxRecDepth 20000 in
theorem gX3_blow_X3_isCarried : GoodIn wsX3_blow (wsV RX3 148 RX3 yX3_isCarried wsX3_isCarried) := goodIn_app (goodIn_of _ (by decide +kernel)) ggX3_blow_X3_isCarried
set_option maxRecDepth 20000 in
theorem ggX3_blow_X3_bringBack : GoodIn wsX3_blow wsX3_bringBack := goodIn_r _ [56, 12, 11, 1, 14, 13, 57, 58, 59, 60, 61, 62, 63, 64, 65, 66, 67, 68, 69, 70, 71, 72, 73, 74, 75, 76, 77, 78, 79] (by decide +kernel) (by decide +kernel)
set_option maxRecDepth 20000 in
theorem gX3_blow_X3_bringBack : GoodIn wsX3_blow (wsV RX3 194 RX3 yX3_bringBack wsX3_bringBack) := goodIn_app (goodIn_of _ (by decide +kernel)) ggX3_blow_X3_bringBack
theorem dX3_blow_0 : decode cX3_blow 0 = .ok (.aload_n 0, 1) := by decide +kernel
theorem dX3_blow_1 : decode cX3_blow 1 = .ok (.getfield 65, 3) := by decide +kernel
theorem dX3_blow_4 : decode cX3_blow 4 = .ok (.ifCond .ne 6, 3) := by decide +kernel
theorem dX3_blow_7 : decode cX3_blow 7 = .ok (.bipush (-3), 2) := by decide +kernel
theorem dX3_blow_9 : decode cX3_blow 9 = .ok (.ireturn, 1) := by decide +kernel
theorem dX3_blow_10 : decode cX3_blow 10 = .ok (.iload_n 1, 1) := by decide +kernel
theorem dX3_blow_11 : decode cX3_blow 11 = .ok (.i2l, 1) := by decide +kernel
theorem dX3_blow_12 : decode cX3_blow 12 = .ok (.lconst 0, 1) := by decide +kernel
theorem dX3_blow_13 : decode cX3_blow 13 = .ok (.ldc2_w 138, 3) := by decide +kernel
theorem dX3_blow_16 : decode cX3_blow 16 = .ok (.invokestatic 68, 3) := by decide +kernel
theorem dX3_blow_19 : decode cX3_blow 19 = .ok (.ifCond .ne 6, 3) := by decide +kernel
theorem dX3_blow_22 : decode cX3_blow 22 = .ok (.bipush (-2), 2) := by decide +kernel
theorem dX3_blow_24 : decode cX3_blow 24 = .ok (.ireturn, 1) := by decide +kernel
theorem dX3_blow_25 : decode cX3_blow 25 = .ok (.aload_n 0, 1) := by decide +kernel
theorem dX3_blow_26 : decode cX3_blow 26 = .ok (.invokevirtual 187, 3) := by decide +kernel
theorem dX3_blow_29 : decode cX3_blow 29 = .ok (.bipush (-9), 2) := by decide +kernel
theorem dX3_blow_31 : decode cX3_blow 31 = .ok (.istore_n 2, 1) := by decide +kernel
theorem dX3_blow_32 : decode cX3_blow 32 = .ok (.bipush 10, 2) := by decide +kernel
theorem dX3_blow_34 : decode cX3_blow 34 = .ok (.istore_n 3, 1) := by decide +kernel
theorem dX3_blow_35 : decode cX3_blow 35 = .ok (.iload_n 3, 1) := by decide +kernel
theorem dX3_blow_36 : decode cX3_blow 36 = .ok (.ifCond .lt 33, 3) := by decide +kernel
theorem dX3_blow_39 : decode cX3_blow 39 = .ok (.aload_n 0, 1) := by decide +kernel
theorem dX3_blow_40 : decode cX3_blow 40 = .ok (.iload_n 1, 1) := by decide +kernel
theorem dX3_blow_41 : decode cX3_blow 41 = .ok (.iload_n 3, 1) := by decide +kernel
theorem dX3_blow_42 : decode cX3_blow 42 = .ok (.invokevirtual 154, 3) := by decide +kernel
theorem dX3_blow_45 : decode cX3_blow 45 = .ok (.pop, 1) := by decide +kernel
theorem dX3_blow_46 : decode cX3_blow 46 = .ok (.aload_n 0, 1) := by decide +kernel
theorem dX3_blow_47 : decode cX3_blow 47 = .ok (.invokevirtual 148, 3) := by decide +kernel
theorem dX3_blow_50 : decode cX3_blow 50 = .ok (.ifCond .eq 7, 3) := by decide +kernel
theorem dX3_blow_53 : decode cX3_blow 53 = .ok (.iload_n 3, 1) := by decide +kernel
theorem dX3_blow_54 : decode cX3_blow 54 = .ok (.goto 4, 3) := by decide +kernel
theorem dX3_blow_57 : decode cX3_blow 57 = .ok (.iload_n 2, 1) := by decide +kernel
theorem dX3_blow_58 : decode cX3_blow 58 = .ok (.istore_n 2, 1) := by decide +kernel
theorem dX3_blow_59 : decode cX3_blow 59 = .ok (.aload_n 0, 1) := by decide +kernel
theorem dX3_blow_60 : decode cX3_blow 60 = .ok (.invokevirtual 194, 3) := by decide +kernel
theorem dX3_blow_63 : decode cX3_blow 63 = .ok (.iinc 3 (-1), 3) := by decide +kernel
theorem dX3_blow_66 : decode cX3_blow 66 = .ok (.goto (-31), 3) := by decide +kernel
theorem dX3_blow_69 : decode cX3_blow 69 = .ok (.iload_n 2, 1) := by decide +kernel
theorem dX3_blow_70 : decode cX3_blow 70 = .ok (.ireturn, 1) := by decide +kernel
set_option maxRecDepth 20000 in
theorem ggX3_wonBy_X3_countsAs : GoodIn wsX3_wonBy wsX3_countsAs := goodIn_r _ [6, 7, 8, 9, 10, 11, 5, 12, 13, 14, 15, 16, 1, 27, 28, 29, 30, 31, 32, 33, 34, 35, 36, 37, 38, 39, 40, 41, 42, 43, 44, 45, 46, 47, 48, 49] (by decide +kernel) (by decide +kernel)
set_option maxRecDepth 20000 in
theorem gX3_wonBy_X3_countsAs : GoodIn wsX3_wonBy (wsV RX3 135 RX3 yX3_countsAs wsX3_countsAs) := goodIn_app (goodIn_of _ (by decide +kernel)) ggX3_wonBy_X3_countsAs
set_option maxRecDepth 20000 in
theorem ggX3_wonBy_X3_votesOf : GoodIn wsX3_wonBy wsX3_votesOf := goodIn_r _ [20, 7, 10, 11, 5, 12, 21, 22, 23, 24, 25, 26, 27, 28, 29, 30, 31, 32, 33, 34, 35, 36, 37, 38, 39, 40, 41, 42, 43, 44, 45, 46, 47, 48, 49] (by decide +kernel) (by decide +kernel)
set_option maxRecDepth 20000 in
theorem gX3_wonBy_X3_votesOf : GoodIn wsX3_wonBy (wsV RX3 132 RX3 yX3_votesOf wsX3_votesOf) := goodIn_app (goodIn_of _ (by decide +kernel)) ggX3_wonBy_X3_votesOf
set_option maxRecDepth 20000 in
theorem ggX3_wonBy_X3_isIn : GoodIn wsX3_wonBy wsX3_isIn := goodIn_r _ [12] (by decide +kernel) (by decide +kernel)
set_option maxRecDepth 20000 in
theorem gX3_wonBy_X3_isIn : GoodIn wsX3_wonBy (va_wsS RX3 120 yX3_isIn wsX3_isIn) := goodIn_app (goodIn_of _ (by decide +kernel)) ggX3_wonBy_X3_isIn
theorem dX3_wonBy_0 : decode cX3_wonBy 0 = .ok (.iconst 0, 1) := by decide +kernel
theorem dX3_wonBy_1 : decode cX3_wonBy 1 = .ok (.istore_n 2, 1) := by decide +kernel
theorem dX3_wonBy_2 : decode cX3_wonBy 2 = .ok (.iconst 0, 1) := by decide +kernel
theorem dX3_wonBy_3 : decode cX3_wonBy 3 = .ok (.istore_n 3, 1) := by decide +kernel
theorem dX3_wonBy_4 : decode cX3_wonBy 4 = .ok (.iconst 0, 1) := by decide +kernel
theorem dX3_wonBy_5 : decode cX3_wonBy 5 = .ok (.istore 4, 2) := by decide +kernel
theorem dX3_wonBy_7 : decode cX3_wonBy 7 = .ok (.iload 4, 2) := by decide +kernel
theorem dX3_wonBy_9 : decode cX3_wonBy 9 = .ok (.aload_n 0, 1) := by decide +kernel
theorem dX3_wonBy_10 : decode cX3_wonBy 10 = .ok (.getfield 65, 3) := by decide +kernel
theorem dX3_wonBy_13 : decode cX3_wonBy 13 = .ok (.if_icmp .ge 88, 3) := by decide +kernel
theorem dX3_wonBy_16 : decode cX3_wonBy 16 = .ok (.aload_n 0, 1) := by decide +kernel
theorem dX3_wonBy_17 : decode cX3_wonBy 17 = .ok (.iload 4, 2) := by decide +kernel
theorem dX3_wonBy_19 : decode cX3_wonBy 19 = .ok (.invokevirtual 135, 3) := by decide +kernel
theorem dX3_wonBy_22 : decode cX3_wonBy 22 = .ok (.istore 5, 2) := by decide +kernel
theorem dX3_wonBy_24 : decode cX3_wonBy 24 = .ok (.iload_n 3, 1) := by decide +kernel
theorem dX3_wonBy_25 : decode cX3_wonBy 25 = .ok (.iload 5, 2) := by decide +kernel
theorem dX3_wonBy_27 : decode cX3_wonBy 27 = .ok (.iconst 1, 1) := by decide +kernel
theorem dX3_wonBy_28 : decode cX3_wonBy 28 = .ok (.if_icmp .ne 12, 3) := by decide +kernel
theorem dX3_wonBy_31 : decode cX3_wonBy 31 = .ok (.aload_n 0, 1) := by decide +kernel
theorem dX3_wonBy_32 : decode cX3_wonBy 32 = .ok (.iload 4, 2) := by decide +kernel
theorem dX3_wonBy_34 : decode cX3_wonBy 34 = .ok (.invokevirtual 132, 3) := by decide +kernel
theorem dX3_wonBy_37 : decode cX3_wonBy 37 = .ok (.goto 20, 3) := by decide +kernel
theorem dX3_wonBy_40 : decode cX3_wonBy 40 = .ok (.iload 5, 2) := by decide +kernel
theorem dX3_wonBy_42 : decode cX3_wonBy 42 = .ok (.iconst 2, 1) := by decide +kernel
theorem dX3_wonBy_43 : decode cX3_wonBy 43 = .ok (.if_icmp .ne 13, 3) := by decide +kernel
theorem dX3_wonBy_46 : decode cX3_wonBy 46 = .ok (.aload_n 0, 1) := by decide +kernel
end
section
theorem dX3_wonBy_47 : decode cX3_wonBy 47 = .ok (.iload 4, 2) := by decide +kernel
theorem dX3_wonBy_49 : decode cX3_wonBy 49 = .ok (.invokevirtual 132, 3) := by decide +kernel
theorem dX3_wonBy_52 : decode cX3_wonBy 52 = .ok (.ineg, 1) := by decide +kernel
theorem dX3_wonBy_53 : decode cX3_wonBy 53 = .ok (.goto 4, 3) := by decide +kernel
theorem dX3_wonBy_56 : decode cX3_wonBy 56 = .ok (.iconst 0, 1) := by decide +kernel
theorem dX3_wonBy_57 : decode cX3_wonBy 57 = .ok (.iadd, 1) := by decide +kernel
theorem dX3_wonBy_58 : decode cX3_wonBy 58 = .ok (.istore_n 3, 1) := by decide +kernel
theorem dX3_wonBy_59 : decode cX3_wonBy 59 = .ok (.iload 4, 2) := by decide +kernel
theorem dX3_wonBy_61 : decode cX3_wonBy 61 = .ok (.aload_n 0, 1) := by decide +kernel
theorem dX3_wonBy_62 : decode cX3_wonBy 62 = .ok (.getfield 65, 3) := by decide +kernel
theorem dX3_wonBy_65 : decode cX3_wonBy 65 = .ok (.iconst 1, 1) := by decide +kernel
theorem dX3_wonBy_66 : decode cX3_wonBy 66 = .ok (.isub, 1) := by decide +kernel
theorem dX3_wonBy_67 : decode cX3_wonBy 67 = .ok (.if_icmp .eq 14, 3) := by decide +kernel
theorem dX3_wonBy_70 : decode cX3_wonBy 70 = .ok (.iload_n 1, 1) := by decide +kernel
theorem dX3_wonBy_71 : decode cX3_wonBy 71 = .ok (.iload 4, 2) := by decide +kernel
theorem dX3_wonBy_73 : decode cX3_wonBy 73 = .ok (.iconst 1, 1) := by decide +kernel
theorem dX3_wonBy_74 : decode cX3_wonBy 74 = .ok (.iadd, 1) := by decide +kernel
theorem dX3_wonBy_75 : decode cX3_wonBy 75 = .ok (.invokestatic 120, 3) := by decide +kernel
theorem dX3_wonBy_78 : decode cX3_wonBy 78 = .ok (.ifCond .eq 17, 3) := by decide +kernel
theorem dX3_wonBy_81 : decode cX3_wonBy 81 = .ok (.iload_n 2, 1) := by decide +kernel
theorem dX3_wonBy_82 : decode cX3_wonBy 82 = .ok (.iload_n 3, 1) := by decide +kernel
theorem dX3_wonBy_83 : decode cX3_wonBy 83 = .ok (.ifCond .le 7, 3) := by decide +kernel
theorem dX3_wonBy_86 : decode cX3_wonBy 86 = .ok (.iconst 1, 1) := by decide +kernel
theorem dX3_wonBy_87 : decode cX3_wonBy 87 = .ok (.goto 4, 3) := by decide +kernel
theorem dX3_wonBy_90 : decode cX3_wonBy 90 = .ok (.iconst 0, 1) := by decide +kernel
theorem dX3_wonBy_91 : decode cX3_wonBy 91 = .ok (.iadd, 1) := by decide +kernel
theorem dX3_wonBy_92 : decode cX3_wonBy 92 = .ok (.istore_n 2, 1) := by decide +kernel
theorem dX3_wonBy_93 : decode cX3_wonBy 93 = .ok (.iconst 0, 1) := by decide +kernel
theorem dX3_wonBy_94 : decode cX3_wonBy 94 = .ok (.istore_n 3, 1) := by decide +kernel
theorem dX3_wonBy_95 : decode cX3_wonBy 95 = .ok (.iinc 4 1, 3) := by decide +kernel
theorem dX3_wonBy_98 : decode cX3_wonBy 98 = .ok (.goto (-91), 3) := by decide +kernel
theorem dX3_wonBy_101 : decode cX3_wonBy 101 = .ok (.iload_n 2, 1) := by decide +kernel
theorem dX3_wonBy_102 : decode cX3_wonBy 102 = .ok (.ireturn, 1) := by decide +kernel
set_option maxRecDepth 20000 in
theorem ggX3_beginOf_X3_isIn : GoodIn wsX3_beginOf wsX3_isIn := goodIn_r _ [4] (by decide +kernel) (by decide +kernel)
set_option maxRecDepth 20000 in
theorem gX3_beginOf_X3_isIn : GoodIn wsX3_beginOf (va_wsS RX3 120 yX3_isIn wsX3_isIn) := goodIn_app (goodIn_of _ (by decide +kernel)) ggX3_beginOf_X3_isIn
theorem dX3_beginOf_0 : decode cX3_beginOf 0 = .ok (.iload_n 1, 1) := by decide +kernel
theorem dX3_beginOf_1 : decode cX3_beginOf 1 = .ok (.istore_n 2, 1) := by decide +kernel
theorem dX3_beginOf_2 : decode cX3_beginOf 2 = .ok (.iconst 0, 1) := by decide +kernel
theorem dX3_beginOf_3 : decode cX3_beginOf 3 = .ok (.istore_n 3, 1) := by decide +kernel
theorem dX3_beginOf_4 : decode cX3_beginOf 4 = .ok (.iload_n 2, 1) := by decide +kernel
theorem dX3_beginOf_5 : decode cX3_beginOf 5 = .ok (.ifCond .le 25, 3) := by decide +kernel
theorem dX3_beginOf_8 : decode cX3_beginOf 8 = .ok (.iinc 3 1, 3) := by decide +kernel
theorem dX3_beginOf_11 : decode cX3_beginOf 11 = .ok (.iload_n 2, 1) := by decide +kernel
theorem dX3_beginOf_12 : decode cX3_beginOf 12 = .ok (.iload_n 0, 1) := by decide +kernel
theorem dX3_beginOf_13 : decode cX3_beginOf 13 = .ok (.iload_n 3, 1) := by decide +kernel
theorem dX3_beginOf_14 : decode cX3_beginOf 14 = .ok (.invokestatic 120, 3) := by decide +kernel
theorem dX3_beginOf_17 : decode cX3_beginOf 17 = .ok (.ifCond .eq 7, 3) := by decide +kernel
theorem dX3_beginOf_20 : decode cX3_beginOf 20 = .ok (.iconst 1, 1) := by decide +kernel
theorem dX3_beginOf_21 : decode cX3_beginOf 21 = .ok (.goto 4, 3) := by decide +kernel
theorem dX3_beginOf_24 : decode cX3_beginOf 24 = .ok (.iconst 0, 1) := by decide +kernel
theorem dX3_beginOf_25 : decode cX3_beginOf 25 = .ok (.isub, 1) := by decide +kernel
theorem dX3_beginOf_26 : decode cX3_beginOf 26 = .ok (.istore_n 2, 1) := by decide +kernel
theorem dX3_beginOf_27 : decode cX3_beginOf 27 = .ok (.goto (-23), 3) := by decide +kernel
theorem dX3_beginOf_30 : decode cX3_beginOf 30 = .ok (.iload_n 3, 1) := by decide +kernel
theorem dX3_beginOf_31 : decode cX3_beginOf 31 = .ok (.ireturn, 1) := by decide +kernel
theorem dX3_isAhead_0 : decode cX3_isAhead 0 = .ok (.iload_n 0, 1) := by decide +kernel
theorem dX3_isAhead_1 : decode cX3_isAhead 1 = .ok (.iload_n 1, 1) := by decide +kernel
theorem dX3_isAhead_2 : decode cX3_isAhead 2 = .ok (.ixor, 1) := by decide +kernel
theorem dX3_isAhead_3 : decode cX3_isAhead 3 = .ok (.istore_n 2, 1) := by decide +kernel
theorem dX3_isAhead_4 : decode cX3_isAhead 4 = .ok (.iload_n 2, 1) := by decide +kernel
theorem dX3_isAhead_5 : decode cX3_isAhead 5 = .ok (.iload_n 2, 1) := by decide +kernel
theorem dX3_isAhead_6 : decode cX3_isAhead 6 = .ok (.ineg, 1) := by decide +kernel
theorem dX3_isAhead_7 : decode cX3_isAhead 7 = .ok (.iand, 1) := by decide +kernel
theorem dX3_isAhead_8 : decode cX3_isAhead 8 = .ok (.iload_n 0, 1) := by decide +kernel
theorem dX3_isAhead_9 : decode cX3_isAhead 9 = .ok (.iand, 1) := by decide +kernel
theorem dX3_isAhead_10 : decode cX3_isAhead 10 = .ok (.ifCond .eq 7, 3) := by decide +kernel
theorem dX3_isAhead_13 : decode cX3_isAhead 13 = .ok (.iconst 1, 1) := by decide +kernel
theorem dX3_isAhead_14 : decode cX3_isAhead 14 = .ok (.goto 4, 3) := by decide +kernel
theorem dX3_isAhead_17 : decode cX3_isAhead 17 = .ok (.iconst 0, 1) := by decide +kernel
theorem dX3_isAhead_18 : decode cX3_isAhead 18 = .ok (.ireturn, 1) := by decide +kernel
set_option maxRecDepth 20000 in
theorem ggX3_wards_X3_in : GoodIn wsX3_wards wsX3_in := goodIn_r _ [8] (by decide +kernel) (by decide +kernel)
set_option maxRecDepth 20000 in
theorem gX3_wards_X3_in : GoodIn wsX3_wards (va_wsS RX3 68 yX3_in wsX3_in) := goodIn_app (goodIn_of _ (by decide +kernel)) ggX3_wards_X3_in
set_option maxRecDepth 20000 in
theorem ggX3_wards_X3_everyChair : GoodIn wsX3_wards wsX3_everyChair := goodIn_r _ [12, 1, 50, 51, 52, 53, 54, 55, 56, 57, 58, 59, 60, 61, 62, 63, 64, 65, 66, 67, 68, 69, 70, 71, 72] (by decide +kernel) (by decide +kernel)
set_option maxRecDepth 20000 in
theorem gX3_wards_X3_everyChair : GoodIn wsX3_wards (wsV RX3 160 RX3 yX3_everyChair wsX3_everyChair) := goodIn_app (goodIn_of _ (by decide +kernel)) ggX3_wards_X3_everyChair
set_option maxRecDepth 20000 in
theorem ggX3_wards_X3_bits : GoodIn wsX3_wards wsX3_bits := goodIn_r _ [15] (by decide +kernel) (by decide +kernel)
set_option maxRecDepth 20000 in
theorem gX3_wards_X3_bits : GoodIn wsX3_wards (va_wsS RX3 157 yX3_bits wsX3_bits) := goodIn_app (goodIn_of _ (by decide +kernel)) ggX3_wards_X3_bits
set_option maxRecDepth 20000 in
theorem ggX3_wards_X3_wonBy : GoodIn wsX3_wards wsX3_wonBy := goodIn_r _ [19, 1, 20, 21, 22, 7, 23, 24, 25, 26, 27, 28, 29, 30, 31, 32, 33, 34, 35, 36, 37, 38, 39, 40, 41, 42, 43, 50, 51, 52, 53, 54, 55, 56, 57, 58, 59, 60, 61, 62, 63, 64, 65, 66, 67, 68, 69, 70, 71, 72] (by decide +kernel) (by decide +kernel)
set_option maxRecDepth 20000 in
theorem gX3_wards_X3_wonBy : GoodIn wsX3_wards (wsV RX3 201 RX3 yX3_wonBy wsX3_wonBy) := goodIn_app (goodIn_of _ (by decide +kernel)) ggX3_wards_X3_wonBy
set_option maxRecDepth 20000 in
theorem ggX3_wards_X3_isAhead : GoodIn wsX3_wards wsX3_isAhead := goodIn_r _ [46] (by decide +kernel) (by decide +kernel)
set_option maxRecDepth 20000 in
theorem gX3_wards_X3_isAhead : GoodIn wsX3_wards (va_wsS RX3 204 yX3_isAhead wsX3_isAhead) := goodIn_app (goodIn_of _ (by decide +kernel)) ggX3_wards_X3_isAhead
set_option maxRecDepth 20000 in
theorem ggX3_wards_X3_beginOf : GoodIn wsX3_wards wsX3_beginOf := goodIn_r _ [49, 27, 28, 7, 29] (by decide +kernel) (by decide +kernel)
set_option maxRecDepth 20000 in
theorem gX3_wards_X3_beginOf : GoodIn wsX3_wards (va_wsS RX3 207 yX3_beginOf wsX3_beginOf) := goodIn_app (goodIn_of _ (by decide +kernel)) ggX3_wards_X3_beginOf
theorem dX3_wards_0 : decode cX3_wards 0 = .ok (.aload_n 0, 1) := by decide +kernel
theorem dX3_wards_1 : decode cX3_wards 1 = .ok (.getfield 65, 3) := by decide +kernel
theorem dX3_wards_4 : decode cX3_wards 4 = .ok (.ifCond .ne 6, 3) := by decide +kernel
theorem dX3_wards_7 : decode cX3_wards 7 = .ok (.bipush (-3), 2) := by decide +kernel
theorem dX3_wards_9 : decode cX3_wards 9 = .ok (.ireturn, 1) := by decide +kernel
theorem dX3_wards_10 : decode cX3_wards 10 = .ok (.iload_n 1, 1) := by decide +kernel
theorem dX3_wards_11 : decode cX3_wards 11 = .ok (.i2l, 1) := by decide +kernel
theorem dX3_wards_12 : decode cX3_wards 12 = .ok (.lconst 1, 1) := by decide +kernel
theorem dX3_wards_13 : decode cX3_wards 13 = .ok (.ldc2_w 197, 3) := by decide +kernel
theorem dX3_wards_16 : decode cX3_wards 16 = .ok (.invokestatic 68, 3) := by decide +kernel
theorem dX3_wards_19 : decode cX3_wards 19 = .ok (.ifCond .eq 17, 3) := by decide +kernel
theorem dX3_wards_22 : decode cX3_wards 22 = .ok (.iload_n 2, 1) := by decide +kernel
theorem dX3_wards_23 : decode cX3_wards 23 = .ok (.i2l, 1) := by decide +kernel
theorem dX3_wards_24 : decode cX3_wards 24 = .ok (.ldc2_w 199, 3) := by decide +kernel
theorem dX3_wards_27 : decode cX3_wards 27 = .ok (.ldc2_w 169, 3) := by decide +kernel
theorem dX3_wards_30 : decode cX3_wards 30 = .ok (.invokestatic 68, 3) := by decide +kernel
theorem dX3_wards_33 : decode cX3_wards 33 = .ok (.ifCond .ne 6, 3) := by decide +kernel
theorem dX3_wards_36 : decode cX3_wards 36 = .ok (.bipush (-2), 2) := by decide +kernel
theorem dX3_wards_38 : decode cX3_wards 38 = .ok (.ireturn, 1) := by decide +kernel
theorem dX3_wards_39 : decode cX3_wards 39 = .ok (.bipush (-9), 2) := by decide +kernel
theorem dX3_wards_41 : decode cX3_wards 41 = .ok (.istore_n 3, 1) := by decide +kernel
theorem dX3_wards_42 : decode cX3_wards 42 = .ok (.bipush (-9), 2) := by decide +kernel
theorem dX3_wards_44 : decode cX3_wards 44 = .ok (.istore 4, 2) := by decide +kernel
theorem dX3_wards_46 : decode cX3_wards 46 = .ok (.iconst 0, 1) := by decide +kernel
theorem dX3_wards_47 : decode cX3_wards 47 = .ok (.istore 5, 2) := by decide +kernel
theorem dX3_wards_49 : decode cX3_wards 49 = .ok (.iload 5, 2) := by decide +kernel
theorem dX3_wards_51 : decode cX3_wards 51 = .ok (.aload_n 0, 1) := by decide +kernel
theorem dX3_wards_52 : decode cX3_wards 52 = .ok (.invokevirtual 160, 3) := by decide +kernel
theorem dX3_wards_55 : decode cX3_wards 55 = .ok (.if_icmp .gt 94, 3) := by decide +kernel
theorem dX3_wards_58 : decode cX3_wards 58 = .ok (.iload 5, 2) := by decide +kernel
theorem dX3_wards_60 : decode cX3_wards 60 = .ok (.invokestatic 157, 3) := by decide +kernel
theorem dX3_wards_63 : decode cX3_wards 63 = .ok (.iload_n 1, 1) := by decide +kernel
theorem dX3_wards_64 : decode cX3_wards 64 = .ok (.iconst 1, 1) := by decide +kernel
theorem dX3_wards_65 : decode cX3_wards 65 = .ok (.isub, 1) := by decide +kernel
theorem dX3_wards_66 : decode cX3_wards 66 = .ok (.if_icmp .ne 12, 3) := by decide +kernel
theorem dX3_wards_69 : decode cX3_wards 69 = .ok (.aload_n 0, 1) := by decide +kernel
theorem dX3_wards_70 : decode cX3_wards 70 = .ok (.iload 5, 2) := by decide +kernel
theorem dX3_wards_72 : decode cX3_wards 72 = .ok (.invokevirtual 201, 3) := by decide +kernel
theorem dX3_wards_75 : decode cX3_wards 75 = .ok (.goto 5, 3) := by decide +kernel
theorem dX3_wards_78 : decode cX3_wards 78 = .ok (.bipush (-9), 2) := by decide +kernel
theorem dX3_wards_80 : decode cX3_wards 80 = .ok (.istore 6, 2) := by decide +kernel
theorem dX3_wards_82 : decode cX3_wards 82 = .ok (.iload 6, 2) := by decide +kernel
theorem dX3_wards_84 : decode cX3_wards 84 = .ok (.iload 4, 2) := by decide +kernel
theorem dX3_wards_86 : decode cX3_wards 86 = .ok (.if_icmp .gt 24, 3) := by decide +kernel
theorem dX3_wards_89 : decode cX3_wards 89 = .ok (.iload 6, 2) := by decide +kernel
theorem dX3_wards_91 : decode cX3_wards 91 = .ok (.iload 4, 2) := by decide +kernel
theorem dX3_wards_93 : decode cX3_wards 93 = .ok (.if_icmp .ne 21, 3) := by decide +kernel
theorem dX3_wards_96 : decode cX3_wards 96 = .ok (.iload 6, 2) := by decide +kernel
theorem dX3_wards_98 : decode cX3_wards 98 = .ok (.ifCond .lt 16, 3) := by decide +kernel
theorem dX3_wards_101 : decode cX3_wards 101 = .ok (.iload 5, 2) := by decide +kernel
theorem dX3_wards_103 : decode cX3_wards 103 = .ok (.iload_n 3, 1) := by decide +kernel
theorem dX3_wards_104 : decode cX3_wards 104 = .ok (.invokestatic 204, 3) := by decide +kernel
theorem dX3_wards_107 : decode cX3_wards 107 = .ok (.ifCond .eq 7, 3) := by decide +kernel
theorem dX3_wards_110 : decode cX3_wards 110 = .ok (.iconst 1, 1) := by decide +kernel
theorem dX3_wards_111 : decode cX3_wards 111 = .ok (.goto 4, 3) := by decide +kernel
theorem dX3_wards_114 : decode cX3_wards 114 = .ok (.iconst 0, 1) := by decide +kernel
theorem dX3_wards_115 : decode cX3_wards 115 = .ok (.istore 7, 2) := by decide +kernel
theorem dX3_wards_117 : decode cX3_wards 117 = .ok (.iload 7, 2) := by decide +kernel
theorem dX3_wards_119 : decode cX3_wards 119 = .ok (.ifCond .eq 8, 3) := by decide +kernel
theorem dX3_wards_122 : decode cX3_wards 122 = .ok (.iload 5, 2) := by decide +kernel
theorem dX3_wards_124 : decode cX3_wards 124 = .ok (.goto 4, 3) := by decide +kernel
theorem dX3_wards_127 : decode cX3_wards 127 = .ok (.iload_n 3, 1) := by decide +kernel
theorem dX3_wards_128 : decode cX3_wards 128 = .ok (.istore_n 3, 1) := by decide +kernel
theorem dX3_wards_129 : decode cX3_wards 129 = .ok (.iload 7, 2) := by decide +kernel
theorem dX3_wards_131 : decode cX3_wards 131 = .ok (.ifCond .eq 8, 3) := by decide +kernel
theorem dX3_wards_134 : decode cX3_wards 134 = .ok (.iload 6, 2) := by decide +kernel
theorem dX3_wards_136 : decode cX3_wards 136 = .ok (.goto 5, 3) := by decide +kernel
theorem dX3_wards_139 : decode cX3_wards 139 = .ok (.iload 4, 2) := by decide +kernel
theorem dX3_wards_141 : decode cX3_wards 141 = .ok (.istore 4, 2) := by decide +kernel
theorem dX3_wards_143 : decode cX3_wards 143 = .ok (.iinc 5 2, 3) := by decide +kernel
theorem dX3_wards_146 : decode cX3_wards 146 = .ok (.goto (-97), 3) := by decide +kernel
theorem dX3_wards_149 : decode cX3_wards 149 = .ok (.iload_n 3, 1) := by decide +kernel
theorem dX3_wards_150 : decode cX3_wards 150 = .ok (.ifCond .lt 8, 3) := by decide +kernel
theorem dX3_wards_153 : decode cX3_wards 153 = .ok (.iload_n 2, 1) := by decide +kernel
theorem dX3_wards_154 : decode cX3_wards 154 = .ok (.iload_n 1, 1) := by decide +kernel
theorem dX3_wards_155 : decode cX3_wards 155 = .ok (.if_icmp .lt 8, 3) := by decide +kernel
theorem dX3_wards_158 : decode cX3_wards 158 = .ok (.bipush (-9), 2) := by decide +kernel
theorem dX3_wards_160 : decode cX3_wards 160 = .ok (.goto 17, 3) := by decide +kernel
theorem dX3_wards_163 : decode cX3_wards 163 = .ok (.iload_n 2, 1) := by decide +kernel
theorem dX3_wards_164 : decode cX3_wards 164 = .ok (.ifCond .ge 8, 3) := by decide +kernel
theorem dX3_wards_167 : decode cX3_wards 167 = .ok (.iload 4, 2) := by decide +kernel
theorem dX3_wards_169 : decode cX3_wards 169 = .ok (.goto 8, 3) := by decide +kernel
theorem dX3_wards_172 : decode cX3_wards 172 = .ok (.iload_n 3, 1) := by decide +kernel
theorem dX3_wards_173 : decode cX3_wards 173 = .ok (.iload_n 2, 1) := by decide +kernel
theorem dX3_wards_174 : decode cX3_wards 174 = .ok (.invokestatic 207, 3) := by decide +kernel
theorem dX3_wards_177 : decode cX3_wards 177 = .ok (.ireturn, 1) := by decide +kernel
set_option maxRecDepth 20000 in
theorem ggX3_votesBy_X3_isIn : GoodIn wsX3_votesBy wsX3_isIn := goodIn_r _ [6] (by decide +kernel) (by decide +kernel)
set_option maxRecDepth 20000 in
theorem gX3_votesBy_X3_isIn : GoodIn wsX3_votesBy (va_wsS RX3 120 yX3_isIn wsX3_isIn) := goodIn_app (goodIn_of _ (by decide +kernel)) ggX3_votesBy_X3_isIn
set_option maxRecDepth 20000 in
theorem ggX3_votesBy_X3_votesOf : GoodIn wsX3_votesBy wsX3_votesOf := goodIn_r _ [10, 11, 3, 4, 5, 6, 12, 13, 14, 15, 16, 17, 18, 19, 20, 21, 22, 23, 24, 25, 26, 27, 28, 29, 30, 31, 32, 33, 34, 35, 36, 37, 38, 39, 40] (by decide +kernel) (by decide +kernel)
set_option maxRecDepth 20000 in
theorem gX3_votesBy_X3_votesOf : GoodIn wsX3_votesBy (wsV RX3 132 RX3 yX3_votesOf wsX3_votesOf) := goodIn_app (goodIn_of _ (by decide +kernel)) ggX3_votesBy_X3_votesOf
theorem dX3_votesBy_0 : decode cX3_votesBy 0 = .ok (.iconst 0, 1) := by decide +kernel
theorem dX3_votesBy_1 : decode cX3_votesBy 1 = .ok (.istore_n 2, 1) := by decide +kernel
theorem dX3_votesBy_2 : decode cX3_votesBy 2 = .ok (.iconst 0, 1) := by decide +kernel
theorem dX3_votesBy_3 : decode cX3_votesBy 3 = .ok (.istore_n 3, 1) := by decide +kernel
theorem dX3_votesBy_4 : decode cX3_votesBy 4 = .ok (.iload_n 3, 1) := by decide +kernel
theorem dX3_votesBy_5 : decode cX3_votesBy 5 = .ok (.aload_n 0, 1) := by decide +kernel
theorem dX3_votesBy_6 : decode cX3_votesBy 6 = .ok (.getfield 65, 3) := by decide +kernel
theorem dX3_votesBy_9 : decode cX3_votesBy 9 = .ok (.if_icmp .ge 34, 3) := by decide +kernel
theorem dX3_votesBy_12 : decode cX3_votesBy 12 = .ok (.iload_n 2, 1) := by decide +kernel
theorem dX3_votesBy_13 : decode cX3_votesBy 13 = .ok (.iload_n 1, 1) := by decide +kernel
theorem dX3_votesBy_14 : decode cX3_votesBy 14 = .ok (.aload_n 0, 1) := by decide +kernel
theorem dX3_votesBy_15 : decode cX3_votesBy 15 = .ok (.getfield 13, 3) := by decide +kernel
theorem dX3_votesBy_18 : decode cX3_votesBy 18 = .ok (.iload_n 3, 1) := by decide +kernel
theorem dX3_votesBy_19 : decode cX3_votesBy 19 = .ok (.iaload, 1) := by decide +kernel
theorem dX3_votesBy_20 : decode cX3_votesBy 20 = .ok (.invokestatic 120, 3) := by decide +kernel
theorem dX3_votesBy_23 : decode cX3_votesBy 23 = .ok (.ifCond .eq 11, 3) := by decide +kernel
theorem dX3_votesBy_26 : decode cX3_votesBy 26 = .ok (.aload_n 0, 1) := by decide +kernel
theorem dX3_votesBy_27 : decode cX3_votesBy 27 = .ok (.iload_n 3, 1) := by decide +kernel
theorem dX3_votesBy_28 : decode cX3_votesBy 28 = .ok (.invokevirtual 132, 3) := by decide +kernel
theorem dX3_votesBy_31 : decode cX3_votesBy 31 = .ok (.goto 4, 3) := by decide +kernel
theorem dX3_votesBy_34 : decode cX3_votesBy 34 = .ok (.iconst 0, 1) := by decide +kernel
theorem dX3_votesBy_35 : decode cX3_votesBy 35 = .ok (.iadd, 1) := by decide +kernel
theorem dX3_votesBy_36 : decode cX3_votesBy 36 = .ok (.istore_n 2, 1) := by decide +kernel
theorem dX3_votesBy_37 : decode cX3_votesBy 37 = .ok (.iinc 3 1, 3) := by decide +kernel
theorem dX3_votesBy_40 : decode cX3_votesBy 40 = .ok (.goto (-36), 3) := by decide +kernel
theorem dX3_votesBy_43 : decode cX3_votesBy 43 = .ok (.iload_n 2, 1) := by decide +kernel
theorem dX3_votesBy_44 : decode cX3_votesBy 44 = .ok (.ireturn, 1) := by decide +kernel
set_option maxRecDepth 20000 in
theorem ggX3_power_X3_in : GoodIn wsX3_power wsX3_in := goodIn_r _ [7] (by decide +kernel) (by decide +kernel)
set_option maxRecDepth 20000 in
theorem gX3_power_X3_in : GoodIn wsX3_power (va_wsS RX3 68 yX3_in wsX3_in) := goodIn_app (goodIn_of _ (by decide +kernel)) ggX3_power_X3_in
set_option maxRecDepth 20000 in
theorem ggX3_power_X3_lost : GoodIn wsX3_power wsX3_lost := goodIn_r _ [10, 11] (by decide +kernel) (by decide +kernel)
set_option maxRecDepth 20000 in
theorem gX3_power_X3_lost : GoodIn wsX3_power (va_wsS RX3 61 yX3_lost wsX3_lost) := goodIn_app (goodIn_of _ (by decide +kernel)) ggX3_power_X3_lost
set_option maxRecDepth 20000 in
theorem ggX3_power_X3_votesBy : GoodIn wsX3_power wsX3_votesBy := goodIn_r _ [15, 2, 16, 17, 18, 6, 19, 20, 21, 22, 23, 24, 25, 26, 27, 28, 29, 30, 34, 35, 36, 37, 38, 39, 40, 41, 42, 43, 44, 45, 46, 47, 48, 49, 50, 51, 52, 53, 54, 55, 56] (by decide +kernel) (by decide +kernel)
set_option maxRecDepth 20000 in
theorem gX3_power_X3_votesBy : GoodIn wsX3_power (wsV RX3 210 RX3 yX3_votesBy wsX3_votesBy) := goodIn_app (goodIn_of _ (by decide +kernel)) ggX3_power_X3_votesBy
set_option maxRecDepth 20000 in
theorem ggX3_power_X3_isIn : GoodIn wsX3_power wsX3_isIn := goodIn_r _ [19] (by decide +kernel) (by decide +kernel)
set_option maxRecDepth 20000 in
theorem gX3_power_X3_isIn : GoodIn wsX3_power (va_wsS RX3 120 yX3_isIn wsX3_isIn) := goodIn_app (goodIn_of _ (by decide +kernel)) ggX3_power_X3_isIn
set_option maxRecDepth 20000 in
theorem ggX3_power_X3_share : GoodIn wsX3_power wsX3_share := goodIn_r _ [33] (by decide +kernel) (by decide +kernel)
set_option maxRecDepth 20000 in
theorem gX3_power_X3_share : GoodIn wsX3_power (va_wsS RX3 213 yX3_share wsX3_share) := goodIn_app (goodIn_of _ (by decide +kernel)) ggX3_power_X3_share
theorem dX3_power_0 : decode cX3_power 0 = .ok (.iload_n 1, 1) := by decide +kernel
theorem dX3_power_1 : decode cX3_power 1 = .ok (.i2l, 1) := by decide +kernel
theorem dX3_power_2 : decode cX3_power 2 = .ok (.lconst 0, 1) := by decide +kernel
theorem dX3_power_3 : decode cX3_power 3 = .ok (.ldc2_w 138, 3) := by decide +kernel
theorem dX3_power_6 : decode cX3_power 6 = .ok (.invokestatic 68, 3) := by decide +kernel
theorem dX3_power_9 : decode cX3_power 9 = .ok (.ifCond .eq 20, 3) := by decide +kernel
theorem dX3_power_12 : decode cX3_power 12 = .ok (.iload_n 2, 1) := by decide +kernel
theorem dX3_power_13 : decode cX3_power 13 = .ok (.i2l, 1) := by decide +kernel
theorem dX3_power_14 : decode cX3_power 14 = .ok (.lconst 0, 1) := by decide +kernel
theorem dX3_power_15 : decode cX3_power 15 = .ok (.lconst 1, 1) := by decide +kernel
theorem dX3_power_16 : decode cX3_power 16 = .ok (.invokestatic 68, 3) := by decide +kernel
theorem dX3_power_19 : decode cX3_power 19 = .ok (.ifCond .eq 10, 3) := by decide +kernel
theorem dX3_power_22 : decode cX3_power 22 = .ok (.aload_n 0, 1) := by decide +kernel
theorem dX3_power_23 : decode cX3_power 23 = .ok (.getfield 65, 3) := by decide +kernel
theorem dX3_power_26 : decode cX3_power 26 = .ok (.ifCond .ne 7, 3) := by decide +kernel
theorem dX3_power_29 : decode cX3_power 29 = .ok (.invokestatic 61, 3) := by decide +kernel
theorem dX3_power_32 : decode cX3_power 32 = .ok (.lreturn, 1) := by decide +kernel
theorem dX3_power_33 : decode cX3_power 33 = .ok (.aload_n 0, 1) := by decide +kernel
theorem dX3_power_34 : decode cX3_power 34 = .ok (.bipush 15, 2) := by decide +kernel
theorem dX3_power_36 : decode cX3_power 36 = .ok (.invokevirtual 210, 3) := by decide +kernel
theorem dX3_power_39 : decode cX3_power 39 = .ok (.istore_n 3, 1) := by decide +kernel
theorem dX3_power_40 : decode cX3_power 40 = .ok (.lconst 0, 1) := by decide +kernel
theorem dX3_power_41 : decode cX3_power 41 = .ok (.lstore 4, 2) := by decide +kernel
theorem dX3_power_43 : decode cX3_power 43 = .ok (.iconst 0, 1) := by decide +kernel
theorem dX3_power_44 : decode cX3_power 44 = .ok (.istore 6, 2) := by decide +kernel
theorem dX3_power_46 : decode cX3_power 46 = .ok (.iload 6, 2) := by decide +kernel
theorem dX3_power_48 : decode cX3_power 48 = .ok (.bipush 16, 2) := by decide +kernel
theorem dX3_power_50 : decode cX3_power 50 = .ok (.if_icmp .ge 68, 3) := by decide +kernel
theorem dX3_power_53 : decode cX3_power 53 = .ok (.iload 6, 2) := by decide +kernel
theorem dX3_power_55 : decode cX3_power 55 = .ok (.iload_n 1, 1) := by decide +kernel
theorem dX3_power_56 : decode cX3_power 56 = .ok (.invokestatic 120, 3) := by decide +kernel
theorem dX3_power_59 : decode cX3_power 59 = .ok (.ifCond .ne 7, 3) := by decide +kernel
theorem dX3_power_62 : decode cX3_power 62 = .ok (.iconst 1, 1) := by decide +kernel
theorem dX3_power_63 : decode cX3_power 63 = .ok (.goto 4, 3) := by decide +kernel
theorem dX3_power_66 : decode cX3_power 66 = .ok (.iconst 0, 1) := by decide +kernel
theorem dX3_power_67 : decode cX3_power 67 = .ok (.istore 7, 2) := by decide +kernel
theorem dX3_power_69 : decode cX3_power 69 = .ok (.lload 4, 2) := by decide +kernel
theorem dX3_power_71 : decode cX3_power 71 = .ok (.iload 7, 2) := by decide +kernel
theorem dX3_power_73 : decode cX3_power 73 = .ok (.ifCond .eq 35, 3) := by decide +kernel
theorem dX3_power_76 : decode cX3_power 76 = .ok (.iconst 2, 1) := by decide +kernel
theorem dX3_power_77 : decode cX3_power 77 = .ok (.aload_n 0, 1) := by decide +kernel
theorem dX3_power_78 : decode cX3_power 78 = .ok (.iload 6, 2) := by decide +kernel
theorem dX3_power_80 : decode cX3_power 80 = .ok (.invokevirtual 210, 3) := by decide +kernel
theorem dX3_power_83 : decode cX3_power 83 = .ok (.imul, 1) := by decide +kernel
theorem dX3_power_84 : decode cX3_power 84 = .ok (.iload_n 3, 1) := by decide +kernel
theorem dX3_power_85 : decode cX3_power 85 = .ok (.if_icmp .gt 23, 3) := by decide +kernel
theorem dX3_power_88 : decode cX3_power 88 = .ok (.iconst 2, 1) := by decide +kernel
theorem dX3_power_89 : decode cX3_power 89 = .ok (.aload_n 0, 1) := by decide +kernel
theorem dX3_power_90 : decode cX3_power 90 = .ok (.iload 6, 2) := by decide +kernel
theorem dX3_power_92 : decode cX3_power 92 = .ok (.iconst 1, 1) := by decide +kernel
theorem dX3_power_93 : decode cX3_power 93 = .ok (.iload_n 1, 1) := by decide +kernel
theorem dX3_power_94 : decode cX3_power 94 = .ok (.ishl, 1) := by decide +kernel
theorem dX3_power_95 : decode cX3_power 95 = .ok (.ior, 1) := by decide +kernel
theorem dX3_power_96 : decode cX3_power 96 = .ok (.invokevirtual 210, 3) := by decide +kernel
theorem dX3_power_99 : decode cX3_power 99 = .ok (.imul, 1) := by decide +kernel
theorem dX3_power_100 : decode cX3_power 100 = .ok (.iload_n 3, 1) := by decide +kernel
theorem dX3_power_101 : decode cX3_power 101 = .ok (.if_icmp .le 7, 3) := by decide +kernel
theorem dX3_power_104 : decode cX3_power 104 = .ok (.lconst 1, 1) := by decide +kernel
theorem dX3_power_105 : decode cX3_power 105 = .ok (.goto 4, 3) := by decide +kernel
theorem dX3_power_108 : decode cX3_power 108 = .ok (.lconst 0, 1) := by decide +kernel
theorem dX3_power_109 : decode cX3_power 109 = .ok (.ladd, 1) := by decide +kernel
theorem dX3_power_110 : decode cX3_power 110 = .ok (.lstore 4, 2) := by decide +kernel
theorem dX3_power_112 : decode cX3_power 112 = .ok (.iinc 6 1, 3) := by decide +kernel
theorem dX3_power_115 : decode cX3_power 115 = .ok (.goto (-69), 3) := by decide +kernel
theorem dX3_power_118 : decode cX3_power 118 = .ok (.lload 4, 2) := by decide +kernel
theorem dX3_power_120 : decode cX3_power 120 = .ok (.ldc2_w 197, 3) := by decide +kernel
theorem dX3_power_123 : decode cX3_power 123 = .ok (.iload_n 2, 1) := by decide +kernel
theorem dX3_power_124 : decode cX3_power 124 = .ok (.invokestatic 213, 3) := by decide +kernel
theorem dX3_power_127 : decode cX3_power 127 = .ok (.lreturn, 1) := by decide +kernel
set_option maxRecDepth 20000 in
theorem ggX3_reading_X3_noChair : GoodIn wsX3_reading wsX3_noChair := goodIn_r _ [9, 10, 11, 12, 8, 13, 14, 15, 16, 17, 18, 19, 20, 21, 22, 23, 24, 25, 26, 27, 28, 29, 30, 31, 32, 33, 34, 35, 36] (by decide +kernel) (by decide +kernel)
set_option maxRecDepth 20000 in
theorem gX3_reading_X3_noChair : GoodIn wsX3_reading (wsV RX3 129 RX3 yX3_noChair wsX3_noChair) := goodIn_app (goodIn_of _ (by decide +kernel)) ggX3_reading_X3_noChair
set_option maxRecDepth 20000 in
theorem ggX3_reading_X3_in : GoodIn wsX3_reading wsX3_in := goodIn_r _ [13] (by decide +kernel) (by decide +kernel)
set_option maxRecDepth 20000 in
theorem gX3_reading_X3_in : GoodIn wsX3_reading (va_wsS RX3 68 yX3_in wsX3_in) := goodIn_app (goodIn_of _ (by decide +kernel)) ggX3_reading_X3_in
theorem dX3_reading_0 : decode cX3_reading 0 = .ok (.aload_n 0, 1) := by decide +kernel
theorem dX3_reading_1 : decode cX3_reading 1 = .ok (.iload_n 1, 1) := by decide +kernel
theorem dX3_reading_2 : decode cX3_reading 2 = .ok (.invokevirtual 129, 3) := by decide +kernel
theorem dX3_reading_5 : decode cX3_reading 5 = .ok (.ifCond .eq 5, 3) := by decide +kernel
theorem dX3_reading_8 : decode cX3_reading 8 = .ok (.iconst (-1), 1) := by decide +kernel
theorem dX3_reading_9 : decode cX3_reading 9 = .ok (.ireturn, 1) := by decide +kernel
theorem dX3_reading_10 : decode cX3_reading 10 = .ok (.iload_n 2, 1) := by decide +kernel
theorem dX3_reading_11 : decode cX3_reading 11 = .ok (.i2l, 1) := by decide +kernel
theorem dX3_reading_12 : decode cX3_reading 12 = .ok (.lconst 0, 1) := by decide +kernel
theorem dX3_reading_13 : decode cX3_reading 13 = .ok (.ldc2_w 152, 3) := by decide +kernel
theorem dX3_reading_16 : decode cX3_reading 16 = .ok (.invokestatic 68, 3) := by decide +kernel
theorem dX3_reading_19 : decode cX3_reading 19 = .ok (.ifCond .ne 6, 3) := by decide +kernel
theorem dX3_reading_22 : decode cX3_reading 22 = .ok (.bipush (-2), 2) := by decide +kernel
theorem dX3_reading_24 : decode cX3_reading 24 = .ok (.ireturn, 1) := by decide +kernel
theorem dX3_reading_25 : decode cX3_reading 25 = .ok (.aload_n 0, 1) := by decide +kernel
theorem dX3_reading_26 : decode cX3_reading 26 = .ok (.getfield 117, 3) := by decide +kernel
theorem dX3_reading_29 : decode cX3_reading 29 = .ok (.bipush 8, 2) := by decide +kernel
theorem dX3_reading_31 : decode cX3_reading 31 = .ok (.if_icmp .ne 6, 3) := by decide +kernel
theorem dX3_reading_34 : decode cX3_reading 34 = .ok (.bipush (-4), 2) := by decide +kernel
theorem dX3_reading_36 : decode cX3_reading 36 = .ok (.ireturn, 1) := by decide +kernel
theorem dX3_reading_37 : decode cX3_reading 37 = .ok (.aload_n 0, 1) := by decide +kernel
theorem dX3_reading_38 : decode cX3_reading 38 = .ok (.getfield 37, 3) := by decide +kernel
theorem dX3_reading_41 : decode cX3_reading 41 = .ok (.aload_n 0, 1) := by decide +kernel
theorem dX3_reading_42 : decode cX3_reading 42 = .ok (.getfield 117, 3) := by decide +kernel
theorem dX3_reading_45 : decode cX3_reading 45 = .ok (.iload_n 1, 1) := by decide +kernel
theorem dX3_reading_46 : decode cX3_reading 46 = .ok (.iastore, 1) := by decide +kernel
theorem dX3_reading_47 : decode cX3_reading 47 = .ok (.aload_n 0, 1) := by decide +kernel
theorem dX3_reading_48 : decode cX3_reading 48 = .ok (.getfield 40, 3) := by decide +kernel
theorem dX3_reading_51 : decode cX3_reading 51 = .ok (.aload_n 0, 1) := by decide +kernel
theorem dX3_reading_52 : decode cX3_reading 52 = .ok (.getfield 117, 3) := by decide +kernel
theorem dX3_reading_55 : decode cX3_reading 55 = .ok (.iload_n 2, 1) := by decide +kernel
theorem dX3_reading_56 : decode cX3_reading 56 = .ok (.iastore, 1) := by decide +kernel
theorem dX3_reading_57 : decode cX3_reading 57 = .ok (.aload_n 0, 1) := by decide +kernel
theorem dX3_reading_58 : decode cX3_reading 58 = .ok (.dup, 1) := by decide +kernel
theorem dX3_reading_59 : decode cX3_reading 59 = .ok (.getfield 117, 3) := by decide +kernel
theorem dX3_reading_62 : decode cX3_reading 62 = .ok (.iconst 1, 1) := by decide +kernel
theorem dX3_reading_63 : decode cX3_reading 63 = .ok (.iadd, 1) := by decide +kernel
theorem dX3_reading_64 : decode cX3_reading 64 = .ok (.putfield 117, 3) := by decide +kernel
theorem dX3_reading_67 : decode cX3_reading 67 = .ok (.aload_n 0, 1) := by decide +kernel
theorem dX3_reading_68 : decode cX3_reading 68 = .ok (.getfield 117, 3) := by decide +kernel
theorem dX3_reading_71 : decode cX3_reading 71 = .ok (.iconst 1, 1) := by decide +kernel
theorem dX3_reading_72 : decode cX3_reading 72 = .ok (.isub, 1) := by decide +kernel
theorem dX3_reading_73 : decode cX3_reading 73 = .ok (.ireturn, 1) := by decide +kernel
set_option maxRecDepth 20000 in
theorem ggX3_back_X3_in : GoodIn wsX3_back wsX3_in := goodIn_r _ [5] (by decide +kernel) (by decide +kernel)
set_option maxRecDepth 20000 in
theorem gX3_back_X3_in : GoodIn wsX3_back (va_wsS RX3 68 yX3_in wsX3_in) := goodIn_app (goodIn_of _ (by decide +kernel)) ggX3_back_X3_in
theorem dX3_back_0 : decode cX3_back 0 = .ok (.iload_n 1, 1) := by decide +kernel
theorem dX3_back_1 : decode cX3_back 1 = .ok (.i2l, 1) := by decide +kernel
theorem dX3_back_2 : decode cX3_back 2 = .ok (.lconst 0, 1) := by decide +kernel
theorem dX3_back_3 : decode cX3_back 3 = .ok (.aload_n 0, 1) := by decide +kernel
theorem dX3_back_4 : decode cX3_back 4 = .ok (.getfield 117, 3) := by decide +kernel
theorem dX3_back_7 : decode cX3_back 7 = .ok (.i2l, 1) := by decide +kernel
theorem dX3_back_8 : decode cX3_back 8 = .ok (.invokestatic 68, 3) := by decide +kernel
theorem dX3_back_11 : decode cX3_back 11 = .ok (.ifCond .ne 6, 3) := by decide +kernel
theorem dX3_back_14 : decode cX3_back 14 = .ok (.bipush (-2), 2) := by decide +kernel
theorem dX3_back_16 : decode cX3_back 16 = .ok (.ireturn, 1) := by decide +kernel
theorem dX3_back_17 : decode cX3_back 17 = .ok (.aload_n 0, 1) := by decide +kernel
theorem dX3_back_18 : decode cX3_back 18 = .ok (.dup, 1) := by decide +kernel
theorem dX3_back_19 : decode cX3_back 19 = .ok (.getfield 117, 3) := by decide +kernel
theorem dX3_back_22 : decode cX3_back 22 = .ok (.iload_n 1, 1) := by decide +kernel
theorem dX3_back_23 : decode cX3_back 23 = .ok (.isub, 1) := by decide +kernel
theorem dX3_back_24 : decode cX3_back 24 = .ok (.putfield 117, 3) := by decide +kernel
theorem dX3_back_27 : decode cX3_back 27 = .ok (.aload_n 0, 1) := by decide +kernel
theorem dX3_back_28 : decode cX3_back 28 = .ok (.getfield 117, 3) := by decide +kernel
theorem dX3_back_31 : decode cX3_back 31 = .ok (.ireturn, 1) := by decide +kernel
set_option maxRecDepth 20000 in
theorem ggX3_areSo_X3_votesOpen : GoodIn wsX3_areSo wsX3_votesOpen := goodIn_r _ [8, 9, 10, 11, 12, 13, 14, 15, 16, 17, 18, 19, 20, 21, 22, 23, 24, 25, 26, 27, 28, 29, 30, 31, 32, 33] (by decide +kernel) (by decide +kernel)
set_option maxRecDepth 20000 in
theorem gX3_areSo_X3_votesOpen : GoodIn wsX3_areSo (wsV RX3 123 RX3 yX3_votesOpen wsX3_votesOpen) := goodIn_app (goodIn_of _ (by decide +kernel)) ggX3_areSo_X3_votesOpen
theorem dX3_areSo_0 : decode cX3_areSo 0 = .ok (.iconst 1, 1) := by decide +kernel
theorem dX3_areSo_1 : decode cX3_areSo 1 = .ok (.istore_n 1, 1) := by decide +kernel
theorem dX3_areSo_2 : decode cX3_areSo 2 = .ok (.iconst 0, 1) := by decide +kernel
theorem dX3_areSo_3 : decode cX3_areSo 3 = .ok (.istore_n 2, 1) := by decide +kernel
theorem dX3_areSo_4 : decode cX3_areSo 4 = .ok (.iload_n 2, 1) := by decide +kernel
theorem dX3_areSo_5 : decode cX3_areSo 5 = .ok (.aload_n 0, 1) := by decide +kernel
theorem dX3_areSo_6 : decode cX3_areSo 6 = .ok (.getfield 117, 3) := by decide +kernel
theorem dX3_areSo_9 : decode cX3_areSo 9 = .ok (.if_icmp .ge 38, 3) := by decide +kernel
theorem dX3_areSo_12 : decode cX3_areSo 12 = .ok (.iload_n 1, 1) := by decide +kernel
theorem dX3_areSo_13 : decode cX3_areSo 13 = .ok (.ifCond .eq 26, 3) := by decide +kernel
theorem dX3_areSo_16 : decode cX3_areSo 16 = .ok (.aload_n 0, 1) := by decide +kernel
theorem dX3_areSo_17 : decode cX3_areSo 17 = .ok (.aload_n 0, 1) := by decide +kernel
theorem dX3_areSo_18 : decode cX3_areSo 18 = .ok (.getfield 37, 3) := by decide +kernel
theorem dX3_areSo_21 : decode cX3_areSo 21 = .ok (.iload_n 2, 1) := by decide +kernel
theorem dX3_areSo_22 : decode cX3_areSo 22 = .ok (.iaload, 1) := by decide +kernel
theorem dX3_areSo_23 : decode cX3_areSo 23 = .ok (.invokevirtual 123, 3) := by decide +kernel
theorem dX3_areSo_26 : decode cX3_areSo 26 = .ok (.aload_n 0, 1) := by decide +kernel
theorem dX3_areSo_27 : decode cX3_areSo 27 = .ok (.getfield 40, 3) := by decide +kernel
theorem dX3_areSo_30 : decode cX3_areSo 30 = .ok (.iload_n 2, 1) := by decide +kernel
theorem dX3_areSo_31 : decode cX3_areSo 31 = .ok (.iaload, 1) := by decide +kernel
theorem dX3_areSo_32 : decode cX3_areSo 32 = .ok (.if_icmp .ne 7, 3) := by decide +kernel
theorem dX3_areSo_35 : decode cX3_areSo 35 = .ok (.iconst 1, 1) := by decide +kernel
theorem dX3_areSo_36 : decode cX3_areSo 36 = .ok (.goto 4, 3) := by decide +kernel
theorem dX3_areSo_39 : decode cX3_areSo 39 = .ok (.iconst 0, 1) := by decide +kernel
theorem dX3_areSo_40 : decode cX3_areSo 40 = .ok (.istore_n 1, 1) := by decide +kernel
theorem dX3_areSo_41 : decode cX3_areSo 41 = .ok (.iinc 2 1, 3) := by decide +kernel
theorem dX3_areSo_44 : decode cX3_areSo 44 = .ok (.goto (-40), 3) := by decide +kernel
theorem dX3_areSo_47 : decode cX3_areSo 47 = .ok (.iload_n 1, 1) := by decide +kernel
theorem dX3_areSo_48 : decode cX3_areSo 48 = .ok (.ireturn, 1) := by decide +kernel
set_option maxRecDepth 20000 in
theorem ggX3_weights_X3_noChair : GoodIn wsX3_weights wsX3_noChair := goodIn_r _ [6, 7, 8, 9, 5, 10, 23, 24, 25, 26, 27, 28, 29, 30, 31, 32, 33, 34, 35, 36, 37, 38, 39, 40, 41, 42, 43, 44, 45] (by decide +kernel) (by decide +kernel)
set_option maxRecDepth 20000 in
theorem gX3_weights_X3_noChair : GoodIn wsX3_weights (wsV RX3 129 RX3 yX3_noChair wsX3_noChair) := goodIn_app (goodIn_of _ (by decide +kernel)) ggX3_weights_X3_noChair
set_option maxRecDepth 20000 in
theorem ggX3_weights_X3_areSo : GoodIn wsX3_weights wsX3_areSo := goodIn_r _ [14, 15, 16, 17, 18, 19, 20, 5, 21, 1, 22, 23, 24, 25, 26, 27, 28, 29, 30, 31, 32, 33, 34, 35, 36, 37, 38, 39, 40, 41, 42, 43, 44, 45] (by decide +kernel) (by decide +kernel)
set_option maxRecDepth 20000 in
theorem gX3_weights_X3_areSo : GoodIn wsX3_weights (wsV RX3 217 RX3 yX3_areSo wsX3_areSo) := goodIn_app (goodIn_of _ (by decide +kernel)) ggX3_weights_X3_areSo
theorem dX3_weights_0 : decode cX3_weights 0 = .ok (.aload_n 0, 1) := by decide +kernel
theorem dX3_weights_1 : decode cX3_weights 1 = .ok (.iload_n 1, 1) := by decide +kernel
theorem dX3_weights_2 : decode cX3_weights 2 = .ok (.invokevirtual 129, 3) := by decide +kernel
theorem dX3_weights_5 : decode cX3_weights 5 = .ok (.ifCond .eq 5, 3) := by decide +kernel
theorem dX3_weights_8 : decode cX3_weights 8 = .ok (.iconst (-1), 1) := by decide +kernel
theorem dX3_weights_9 : decode cX3_weights 9 = .ok (.ireturn, 1) := by decide +kernel
theorem dX3_weights_10 : decode cX3_weights 10 = .ok (.aload_n 0, 1) := by decide +kernel
theorem dX3_weights_11 : decode cX3_weights 11 = .ok (.getfield 16, 3) := by decide +kernel
theorem dX3_weights_14 : decode cX3_weights 14 = .ok (.iload_n 1, 1) := by decide +kernel
theorem dX3_weights_15 : decode cX3_weights 15 = .ok (.iaload, 1) := by decide +kernel
theorem dX3_weights_16 : decode cX3_weights 16 = .ok (.istore_n 2, 1) := by decide +kernel
theorem dX3_weights_17 : decode cX3_weights 17 = .ok (.iconst 0, 1) := by decide +kernel
theorem dX3_weights_18 : decode cX3_weights 18 = .ok (.istore_n 3, 1) := by decide +kernel
theorem dX3_weights_19 : decode cX3_weights 19 = .ok (.iconst 1, 1) := by decide +kernel
theorem dX3_weights_20 : decode cX3_weights 20 = .ok (.istore 4, 2) := by decide +kernel
theorem dX3_weights_22 : decode cX3_weights 22 = .ok (.iload 4, 2) := by decide +kernel
theorem dX3_weights_24 : decode cX3_weights 24 = .ok (.bipush 10, 2) := by decide +kernel
theorem dX3_weights_26 : decode cX3_weights 26 = .ok (.if_icmp .ge 35, 3) := by decide +kernel
theorem dX3_weights_29 : decode cX3_weights 29 = .ok (.aload_n 0, 1) := by decide +kernel
theorem dX3_weights_30 : decode cX3_weights 30 = .ok (.getfield 16, 3) := by decide +kernel
theorem dX3_weights_33 : decode cX3_weights 33 = .ok (.iload_n 1, 1) := by decide +kernel
theorem dX3_weights_34 : decode cX3_weights 34 = .ok (.iload 4, 2) := by decide +kernel
theorem dX3_weights_36 : decode cX3_weights 36 = .ok (.iastore, 1) := by decide +kernel
theorem dX3_weights_37 : decode cX3_weights 37 = .ok (.iload_n 3, 1) := by decide +kernel
theorem dX3_weights_38 : decode cX3_weights 38 = .ok (.aload_n 0, 1) := by decide +kernel
theorem dX3_weights_39 : decode cX3_weights 39 = .ok (.invokevirtual 217, 3) := by decide +kernel
theorem dX3_weights_42 : decode cX3_weights 42 = .ok (.ifCond .eq 10, 3) := by decide +kernel
theorem dX3_weights_45 : decode cX3_weights 45 = .ok (.iconst 1, 1) := by decide +kernel
theorem dX3_weights_46 : decode cX3_weights 46 = .ok (.iload 4, 2) := by decide +kernel
theorem dX3_weights_48 : decode cX3_weights 48 = .ok (.ishl, 1) := by decide +kernel
theorem dX3_weights_49 : decode cX3_weights 49 = .ok (.goto 4, 3) := by decide +kernel
theorem dX3_weights_52 : decode cX3_weights 52 = .ok (.iconst 0, 1) := by decide +kernel
theorem dX3_weights_53 : decode cX3_weights 53 = .ok (.ior, 1) := by decide +kernel
theorem dX3_weights_54 : decode cX3_weights 54 = .ok (.istore_n 3, 1) := by decide +kernel
theorem dX3_weights_55 : decode cX3_weights 55 = .ok (.iinc 4 1, 3) := by decide +kernel
theorem dX3_weights_58 : decode cX3_weights 58 = .ok (.goto (-36), 3) := by decide +kernel
theorem dX3_weights_61 : decode cX3_weights 61 = .ok (.aload_n 0, 1) := by decide +kernel
theorem dX3_weights_62 : decode cX3_weights 62 = .ok (.getfield 16, 3) := by decide +kernel
theorem dX3_weights_65 : decode cX3_weights 65 = .ok (.iload_n 1, 1) := by decide +kernel
theorem dX3_weights_66 : decode cX3_weights 66 = .ok (.iload_n 2, 1) := by decide +kernel
theorem dX3_weights_67 : decode cX3_weights 67 = .ok (.iastore, 1) := by decide +kernel
theorem dX3_weights_68 : decode cX3_weights 68 = .ok (.iload_n 3, 1) := by decide +kernel
theorem dX3_weights_69 : decode cX3_weights 69 = .ok (.ireturn, 1) := by decide +kernel
set_option maxRecDepth 20000 in
theorem ggX3_kinds_X3_noChair : GoodIn wsX3_kinds wsX3_noChair := goodIn_r _ [6, 7, 8, 9, 5, 10, 23, 24, 25, 26, 27, 28, 29, 30, 31, 32, 33, 34, 35, 36, 37, 38, 39, 40, 41, 42, 43, 44, 45] (by decide +kernel) (by decide +kernel)
set_option maxRecDepth 20000 in
theorem gX3_kinds_X3_noChair : GoodIn wsX3_kinds (wsV RX3 129 RX3 yX3_noChair wsX3_noChair) := goodIn_app (goodIn_of _ (by decide +kernel)) ggX3_kinds_X3_noChair
set_option maxRecDepth 20000 in
theorem ggX3_kinds_X3_areSo : GoodIn wsX3_kinds wsX3_areSo := goodIn_r _ [14, 15, 16, 17, 18, 19, 20, 5, 21, 22, 1, 23, 24, 25, 26, 27, 28, 29, 30, 31, 32, 33, 34, 35, 36, 37, 38, 39, 40, 41, 42, 43, 44, 45] (by decide +kernel) (by decide +kernel)
set_option maxRecDepth 20000 in
theorem gX3_kinds_X3_areSo : GoodIn wsX3_kinds (wsV RX3 217 RX3 yX3_areSo wsX3_areSo) := goodIn_app (goodIn_of _ (by decide +kernel)) ggX3_kinds_X3_areSo
theorem dX3_kinds_0 : decode cX3_kinds 0 = .ok (.aload_n 0, 1) := by decide +kernel
theorem dX3_kinds_1 : decode cX3_kinds 1 = .ok (.iload_n 1, 1) := by decide +kernel
theorem dX3_kinds_2 : decode cX3_kinds 2 = .ok (.invokevirtual 129, 3) := by decide +kernel
theorem dX3_kinds_5 : decode cX3_kinds 5 = .ok (.ifCond .eq 5, 3) := by decide +kernel
theorem dX3_kinds_8 : decode cX3_kinds 8 = .ok (.iconst (-1), 1) := by decide +kernel
theorem dX3_kinds_9 : decode cX3_kinds 9 = .ok (.ireturn, 1) := by decide +kernel
theorem dX3_kinds_10 : decode cX3_kinds 10 = .ok (.aload_n 0, 1) := by decide +kernel
theorem dX3_kinds_11 : decode cX3_kinds 11 = .ok (.getfield 7, 3) := by decide +kernel
theorem dX3_kinds_14 : decode cX3_kinds 14 = .ok (.iload_n 1, 1) := by decide +kernel
theorem dX3_kinds_15 : decode cX3_kinds 15 = .ok (.iaload, 1) := by decide +kernel
theorem dX3_kinds_16 : decode cX3_kinds 16 = .ok (.istore_n 2, 1) := by decide +kernel
theorem dX3_kinds_17 : decode cX3_kinds 17 = .ok (.iconst 0, 1) := by decide +kernel
theorem dX3_kinds_18 : decode cX3_kinds 18 = .ok (.istore_n 3, 1) := by decide +kernel
theorem dX3_kinds_19 : decode cX3_kinds 19 = .ok (.iconst 0, 1) := by decide +kernel
theorem dX3_kinds_20 : decode cX3_kinds 20 = .ok (.istore 4, 2) := by decide +kernel
theorem dX3_kinds_22 : decode cX3_kinds 22 = .ok (.iload 4, 2) := by decide +kernel
theorem dX3_kinds_24 : decode cX3_kinds 24 = .ok (.iconst 3, 1) := by decide +kernel
theorem dX3_kinds_25 : decode cX3_kinds 25 = .ok (.if_icmp .ge 35, 3) := by decide +kernel
theorem dX3_kinds_28 : decode cX3_kinds 28 = .ok (.aload_n 0, 1) := by decide +kernel
theorem dX3_kinds_29 : decode cX3_kinds 29 = .ok (.getfield 7, 3) := by decide +kernel
theorem dX3_kinds_32 : decode cX3_kinds 32 = .ok (.iload_n 1, 1) := by decide +kernel
theorem dX3_kinds_33 : decode cX3_kinds 33 = .ok (.iload 4, 2) := by decide +kernel
theorem dX3_kinds_35 : decode cX3_kinds 35 = .ok (.iastore, 1) := by decide +kernel
theorem dX3_kinds_36 : decode cX3_kinds 36 = .ok (.iload_n 3, 1) := by decide +kernel
theorem dX3_kinds_37 : decode cX3_kinds 37 = .ok (.aload_n 0, 1) := by decide +kernel
theorem dX3_kinds_38 : decode cX3_kinds 38 = .ok (.invokevirtual 217, 3) := by decide +kernel
theorem dX3_kinds_41 : decode cX3_kinds 41 = .ok (.ifCond .eq 10, 3) := by decide +kernel
theorem dX3_kinds_44 : decode cX3_kinds 44 = .ok (.iconst 1, 1) := by decide +kernel
theorem dX3_kinds_45 : decode cX3_kinds 45 = .ok (.iload 4, 2) := by decide +kernel
theorem dX3_kinds_47 : decode cX3_kinds 47 = .ok (.ishl, 1) := by decide +kernel
theorem dX3_kinds_48 : decode cX3_kinds 48 = .ok (.goto 4, 3) := by decide +kernel
theorem dX3_kinds_51 : decode cX3_kinds 51 = .ok (.iconst 0, 1) := by decide +kernel
theorem dX3_kinds_52 : decode cX3_kinds 52 = .ok (.ior, 1) := by decide +kernel
theorem dX3_kinds_53 : decode cX3_kinds 53 = .ok (.istore_n 3, 1) := by decide +kernel
theorem dX3_kinds_54 : decode cX3_kinds 54 = .ok (.iinc 4 1, 3) := by decide +kernel
theorem dX3_kinds_57 : decode cX3_kinds 57 = .ok (.goto (-35), 3) := by decide +kernel
theorem dX3_kinds_60 : decode cX3_kinds 60 = .ok (.aload_n 0, 1) := by decide +kernel
theorem dX3_kinds_61 : decode cX3_kinds 61 = .ok (.getfield 7, 3) := by decide +kernel
theorem dX3_kinds_64 : decode cX3_kinds 64 = .ok (.iload_n 1, 1) := by decide +kernel
theorem dX3_kinds_65 : decode cX3_kinds 65 = .ok (.iload_n 2, 1) := by decide +kernel
theorem dX3_kinds_66 : decode cX3_kinds 66 = .ok (.iastore, 1) := by decide +kernel
theorem dX3_kinds_67 : decode cX3_kinds 67 = .ok (.iload_n 3, 1) := by decide +kernel
theorem dX3_kinds_68 : decode cX3_kinds 68 = .ok (.ireturn, 1) := by decide +kernel
set_option maxRecDepth 20000 in
theorem ggX3_moreBy_X3_isIn : GoodIn wsX3_moreBy wsX3_isIn := goodIn_r _ [5] (by decide +kernel) (by decide +kernel)
set_option maxRecDepth 20000 in
theorem gX3_moreBy_X3_isIn : GoodIn wsX3_moreBy (va_wsS RX3 120 yX3_isIn wsX3_isIn) := goodIn_app (goodIn_of _ (by decide +kernel)) ggX3_moreBy_X3_isIn
set_option maxRecDepth 20000 in
theorem ggX3_moreBy_X3_votesOf : GoodIn wsX3_moreBy wsX3_votesOf := goodIn_r _ [9, 10, 2, 3, 4, 5, 11, 12, 13, 14, 15, 16, 17, 18, 19, 20, 21, 22, 23, 24, 25, 26, 27, 28, 29, 30, 31, 32, 33, 34, 35, 36, 37, 38, 39] (by decide +kernel) (by decide +kernel)
set_option maxRecDepth 20000 in
theorem gX3_moreBy_X3_votesOf : GoodIn wsX3_moreBy (wsV RX3 132 RX3 yX3_votesOf wsX3_votesOf) := goodIn_app (goodIn_of _ (by decide +kernel)) ggX3_moreBy_X3_votesOf
theorem dX3_moreBy_0 : decode cX3_moreBy 0 = .ok (.iconst 0, 1) := by decide +kernel
theorem dX3_moreBy_1 : decode cX3_moreBy 1 = .ok (.istore_n 2, 1) := by decide +kernel
theorem dX3_moreBy_2 : decode cX3_moreBy 2 = .ok (.iconst 0, 1) := by decide +kernel
theorem dX3_moreBy_3 : decode cX3_moreBy 3 = .ok (.istore_n 3, 1) := by decide +kernel
theorem dX3_moreBy_4 : decode cX3_moreBy 4 = .ok (.iload_n 3, 1) := by decide +kernel
theorem dX3_moreBy_5 : decode cX3_moreBy 5 = .ok (.aload_n 0, 1) := by decide +kernel
theorem dX3_moreBy_6 : decode cX3_moreBy 6 = .ok (.getfield 65, 3) := by decide +kernel
theorem dX3_moreBy_9 : decode cX3_moreBy 9 = .ok (.if_icmp .ge 34, 3) := by decide +kernel
theorem dX3_moreBy_12 : decode cX3_moreBy 12 = .ok (.iload_n 2, 1) := by decide +kernel
theorem dX3_moreBy_13 : decode cX3_moreBy 13 = .ok (.iload_n 1, 1) := by decide +kernel
theorem dX3_moreBy_14 : decode cX3_moreBy 14 = .ok (.iload_n 3, 1) := by decide +kernel
theorem dX3_moreBy_15 : decode cX3_moreBy 15 = .ok (.invokestatic 120, 3) := by decide +kernel
theorem dX3_moreBy_18 : decode cX3_moreBy 18 = .ok (.ifCond .eq 11, 3) := by decide +kernel
theorem dX3_moreBy_21 : decode cX3_moreBy 21 = .ok (.aload_n 0, 1) := by decide +kernel
theorem dX3_moreBy_22 : decode cX3_moreBy 22 = .ok (.iload_n 3, 1) := by decide +kernel
theorem dX3_moreBy_23 : decode cX3_moreBy 23 = .ok (.invokevirtual 132, 3) := by decide +kernel
theorem dX3_moreBy_26 : decode cX3_moreBy 26 = .ok (.goto 9, 3) := by decide +kernel
theorem dX3_moreBy_29 : decode cX3_moreBy 29 = .ok (.aload_n 0, 1) := by decide +kernel
theorem dX3_moreBy_30 : decode cX3_moreBy 30 = .ok (.iload_n 3, 1) := by decide +kernel
theorem dX3_moreBy_31 : decode cX3_moreBy 31 = .ok (.invokevirtual 132, 3) := by decide +kernel
theorem dX3_moreBy_34 : decode cX3_moreBy 34 = .ok (.ineg, 1) := by decide +kernel
theorem dX3_moreBy_35 : decode cX3_moreBy 35 = .ok (.iadd, 1) := by decide +kernel
theorem dX3_moreBy_36 : decode cX3_moreBy 36 = .ok (.istore_n 2, 1) := by decide +kernel
theorem dX3_moreBy_37 : decode cX3_moreBy 37 = .ok (.iinc 3 1, 3) := by decide +kernel
theorem dX3_moreBy_40 : decode cX3_moreBy 40 = .ok (.goto (-36), 3) := by decide +kernel
theorem dX3_moreBy_43 : decode cX3_moreBy 43 = .ok (.iload_n 2, 1) := by decide +kernel
theorem dX3_moreBy_44 : decode cX3_moreBy 44 = .ok (.ireturn, 1) := by decide +kernel
set_option maxRecDepth 20000 in
theorem ggX3_odds_X3_noChair : GoodIn wsX3_odds wsX3_noChair := goodIn_r _ [7, 1, 8, 9, 6, 10, 39, 40, 41, 42, 43, 44, 45, 46, 47, 48, 49, 50, 51, 52, 53, 54, 55, 56, 57, 58, 59, 60, 61] (by decide +kernel) (by decide +kernel)
set_option maxRecDepth 20000 in
theorem gX3_odds_X3_noChair : GoodIn wsX3_odds (wsV RX3 129 RX3 yX3_noChair wsX3_noChair) := goodIn_app (goodIn_of _ (by decide +kernel)) ggX3_odds_X3_noChair
set_option maxRecDepth 20000 in
theorem ggX3_odds_X3_in : GoodIn wsX3_odds wsX3_in := goodIn_r _ [10] (by decide +kernel) (by decide +kernel)
set_option maxRecDepth 20000 in
theorem gX3_odds_X3_in : GoodIn wsX3_odds (va_wsS RX3 68 yX3_in wsX3_in) := goodIn_app (goodIn_of _ (by decide +kernel)) ggX3_odds_X3_in
set_option maxRecDepth 20000 in
theorem ggX3_odds_X3_isIn : GoodIn wsX3_odds wsX3_isIn := goodIn_r _ [13] (by decide +kernel) (by decide +kernel)
set_option maxRecDepth 20000 in
theorem gX3_odds_X3_isIn : GoodIn wsX3_odds (va_wsS RX3 120 yX3_isIn wsX3_isIn) := goodIn_app (goodIn_of _ (by decide +kernel)) ggX3_odds_X3_isIn
set_option maxRecDepth 20000 in
theorem ggX3_odds_X3_lost : GoodIn wsX3_odds wsX3_lost := goodIn_r _ [16, 17] (by decide +kernel) (by decide +kernel)
set_option maxRecDepth 20000 in
theorem gX3_odds_X3_lost : GoodIn wsX3_odds (va_wsS RX3 61 yX3_lost wsX3_lost) := goodIn_app (goodIn_of _ (by decide +kernel)) ggX3_odds_X3_lost
set_option maxRecDepth 20000 in
theorem ggX3_odds_X3_everyChair : GoodIn wsX3_odds wsX3_everyChair := goodIn_r _ [21, 1, 39, 40, 41, 42, 43, 44, 45, 46, 47, 48, 49, 50, 51, 52, 53, 54, 55, 56, 57, 58, 59, 60, 61] (by decide +kernel) (by decide +kernel)
set_option maxRecDepth 20000 in
theorem gX3_odds_X3_everyChair : GoodIn wsX3_odds (wsV RX3 160 RX3 yX3_everyChair wsX3_everyChair) := goodIn_app (goodIn_of _ (by decide +kernel)) ggX3_odds_X3_everyChair
set_option maxRecDepth 20000 in
theorem ggX3_odds_X3_moreBy : GoodIn wsX3_odds wsX3_moreBy := goodIn_r _ [25, 1, 11, 12, 6, 13, 26, 27, 28, 29, 2, 30, 31, 32, 33, 34, 35, 39, 40, 41, 42, 43, 44, 45, 46, 47, 48, 49, 50, 51, 52, 53, 54, 55, 56, 57, 58, 59, 60, 61] (by decide +kernel) (by decide +kernel)
set_option maxRecDepth 20000 in
theorem gX3_odds_X3_moreBy : GoodIn wsX3_odds (wsV RX3 220 RX3 yX3_moreBy wsX3_moreBy) := goodIn_app (goodIn_of _ (by decide +kernel)) ggX3_odds_X3_moreBy
set_option maxRecDepth 20000 in
theorem ggX3_odds_X3_share : GoodIn wsX3_odds wsX3_share := goodIn_r _ [38] (by decide +kernel) (by decide +kernel)
set_option maxRecDepth 20000 in
theorem gX3_odds_X3_share : GoodIn wsX3_odds (va_wsS RX3 213 yX3_share wsX3_share) := goodIn_app (goodIn_of _ (by decide +kernel)) ggX3_odds_X3_share
theorem dX3_odds_0 : decode cX3_odds 0 = .ok (.aload_n 0, 1) := by decide +kernel
theorem dX3_odds_1 : decode cX3_odds 1 = .ok (.getfield 65, 3) := by decide +kernel
theorem dX3_odds_4 : decode cX3_odds 4 = .ok (.ifCond .eq 41, 3) := by decide +kernel
theorem dX3_odds_7 : decode cX3_odds 7 = .ok (.iload_n 1, 1) := by decide +kernel
theorem dX3_odds_8 : decode cX3_odds 8 = .ok (.iconst (-1), 1) := by decide +kernel
theorem dX3_odds_9 : decode cX3_odds 9 = .ok (.if_icmp .eq 11, 3) := by decide +kernel
theorem dX3_odds_12 : decode cX3_odds 12 = .ok (.aload_n 0, 1) := by decide +kernel
theorem dX3_odds_13 : decode cX3_odds 13 = .ok (.iload_n 1, 1) := by decide +kernel
theorem dX3_odds_14 : decode cX3_odds 14 = .ok (.invokevirtual 129, 3) := by decide +kernel
theorem dX3_odds_17 : decode cX3_odds 17 = .ok (.ifCond .ne 28, 3) := by decide +kernel
theorem dX3_odds_20 : decode cX3_odds 20 = .ok (.iload_n 2, 1) := by decide +kernel
theorem dX3_odds_21 : decode cX3_odds 21 = .ok (.i2l, 1) := by decide +kernel
theorem dX3_odds_22 : decode cX3_odds 22 = .ok (.lconst 0, 1) := by decide +kernel
theorem dX3_odds_23 : decode cX3_odds 23 = .ok (.lconst 1, 1) := by decide +kernel
theorem dX3_odds_24 : decode cX3_odds 24 = .ok (.invokestatic 68, 3) := by decide +kernel
theorem dX3_odds_27 : decode cX3_odds 27 = .ok (.ifCond .eq 18, 3) := by decide +kernel
theorem dX3_odds_30 : decode cX3_odds 30 = .ok (.iload_n 1, 1) := by decide +kernel
theorem dX3_odds_31 : decode cX3_odds 31 = .ok (.ifCond .lt 18, 3) := by decide +kernel
theorem dX3_odds_34 : decode cX3_odds 34 = .ok (.aload_n 0, 1) := by decide +kernel
theorem dX3_odds_35 : decode cX3_odds 35 = .ok (.getfield 114, 3) := by decide +kernel
theorem dX3_odds_38 : decode cX3_odds 38 = .ok (.iload_n 1, 1) := by decide +kernel
theorem dX3_odds_39 : decode cX3_odds 39 = .ok (.invokestatic 120, 3) := by decide +kernel
theorem dX3_odds_42 : decode cX3_odds 42 = .ok (.ifCond .eq 7, 3) := by decide +kernel
theorem dX3_odds_45 : decode cX3_odds 45 = .ok (.invokestatic 61, 3) := by decide +kernel
theorem dX3_odds_48 : decode cX3_odds 48 = .ok (.lreturn, 1) := by decide +kernel
theorem dX3_odds_49 : decode cX3_odds 49 = .ok (.lconst 0, 1) := by decide +kernel
theorem dX3_odds_50 : decode cX3_odds 50 = .ok (.lstore_n 3, 1) := by decide +kernel
theorem dX3_odds_51 : decode cX3_odds 51 = .ok (.lconst 0, 1) := by decide +kernel
theorem dX3_odds_52 : decode cX3_odds 52 = .ok (.lstore 5, 2) := by decide +kernel
theorem dX3_odds_54 : decode cX3_odds 54 = .ok (.iconst 0, 1) := by decide +kernel
theorem dX3_odds_55 : decode cX3_odds 55 = .ok (.istore 7, 2) := by decide +kernel
theorem dX3_odds_57 : decode cX3_odds 57 = .ok (.iload 7, 2) := by decide +kernel
theorem dX3_odds_59 : decode cX3_odds 59 = .ok (.aload_n 0, 1) := by decide +kernel
theorem dX3_odds_60 : decode cX3_odds 60 = .ok (.invokevirtual 160, 3) := by decide +kernel
theorem dX3_odds_63 : decode cX3_odds 63 = .ok (.if_icmp .gt 105, 3) := by decide +kernel
theorem dX3_odds_66 : decode cX3_odds 66 = .ok (.iload 7, 2) := by decide +kernel
theorem dX3_odds_68 : decode cX3_odds 68 = .ok (.aload_n 0, 1) := by decide +kernel
theorem dX3_odds_69 : decode cX3_odds 69 = .ok (.getfield 114, 3) := by decide +kernel
theorem dX3_odds_72 : decode cX3_odds 72 = .ok (.iand, 1) := by decide +kernel
theorem dX3_odds_73 : decode cX3_odds 73 = .ok (.ifCond .ne 20, 3) := by decide +kernel
theorem dX3_odds_76 : decode cX3_odds 76 = .ok (.iload_n 1, 1) := by decide +kernel
theorem dX3_odds_77 : decode cX3_odds 77 = .ok (.ifCond .lt 12, 3) := by decide +kernel
theorem dX3_odds_80 : decode cX3_odds 80 = .ok (.iload 7, 2) := by decide +kernel
theorem dX3_odds_82 : decode cX3_odds 82 = .ok (.iload_n 1, 1) := by decide +kernel
theorem dX3_odds_83 : decode cX3_odds 83 = .ok (.invokestatic 120, 3) := by decide +kernel
theorem dX3_odds_86 : decode cX3_odds 86 = .ok (.ifCond .eq 7, 3) := by decide +kernel
theorem dX3_odds_89 : decode cX3_odds 89 = .ok (.iconst 1, 1) := by decide +kernel
theorem dX3_odds_90 : decode cX3_odds 90 = .ok (.goto 4, 3) := by decide +kernel
theorem dX3_odds_93 : decode cX3_odds 93 = .ok (.iconst 0, 1) := by decide +kernel
theorem dX3_odds_94 : decode cX3_odds 94 = .ok (.istore 8, 2) := by decide +kernel
theorem dX3_odds_96 : decode cX3_odds 96 = .ok (.aload_n 0, 1) := by decide +kernel
theorem dX3_odds_97 : decode cX3_odds 97 = .ok (.iload 7, 2) := by decide +kernel
theorem dX3_odds_99 : decode cX3_odds 99 = .ok (.invokevirtual 220, 3) := by decide +kernel
theorem dX3_odds_102 : decode cX3_odds 102 = .ok (.ifCond .le 24, 3) := by decide +kernel
theorem dX3_odds_105 : decode cX3_odds 105 = .ok (.iload_n 1, 1) := by decide +kernel
theorem dX3_odds_106 : decode cX3_odds 106 = .ok (.ifCond .lt 16, 3) := by decide +kernel
theorem dX3_odds_109 : decode cX3_odds 109 = .ok (.aload_n 0, 1) := by decide +kernel
theorem dX3_odds_110 : decode cX3_odds 110 = .ok (.iload 7, 2) := by decide +kernel
theorem dX3_odds_112 : decode cX3_odds 112 = .ok (.iconst 1, 1) := by decide +kernel
theorem dX3_odds_113 : decode cX3_odds 113 = .ok (.iload_n 1, 1) := by decide +kernel
theorem dX3_odds_114 : decode cX3_odds 114 = .ok (.ishl, 1) := by decide +kernel
theorem dX3_odds_115 : decode cX3_odds 115 = .ok (.ixor, 1) := by decide +kernel
theorem dX3_odds_116 : decode cX3_odds 116 = .ok (.invokevirtual 220, 3) := by decide +kernel
theorem dX3_odds_119 : decode cX3_odds 119 = .ok (.ifCond .gt 7, 3) := by decide +kernel
theorem dX3_odds_122 : decode cX3_odds 122 = .ok (.iconst 1, 1) := by decide +kernel
theorem dX3_odds_123 : decode cX3_odds 123 = .ok (.goto 4, 3) := by decide +kernel
theorem dX3_odds_126 : decode cX3_odds 126 = .ok (.iconst 0, 1) := by decide +kernel
theorem dX3_odds_127 : decode cX3_odds 127 = .ok (.istore 9, 2) := by decide +kernel
theorem dX3_odds_129 : decode cX3_odds 129 = .ok (.lload 5, 2) := by decide +kernel
theorem dX3_odds_131 : decode cX3_odds 131 = .ok (.iload 8, 2) := by decide +kernel
theorem dX3_odds_133 : decode cX3_odds 133 = .ok (.ifCond .eq 7, 3) := by decide +kernel
theorem dX3_odds_136 : decode cX3_odds 136 = .ok (.lconst 1, 1) := by decide +kernel
theorem dX3_odds_137 : decode cX3_odds 137 = .ok (.goto 4, 3) := by decide +kernel
theorem dX3_odds_140 : decode cX3_odds 140 = .ok (.lconst 0, 1) := by decide +kernel
theorem dX3_odds_141 : decode cX3_odds 141 = .ok (.ladd, 1) := by decide +kernel
theorem dX3_odds_142 : decode cX3_odds 142 = .ok (.lstore 5, 2) := by decide +kernel
theorem dX3_odds_144 : decode cX3_odds 144 = .ok (.lload_n 3, 1) := by decide +kernel
theorem dX3_odds_145 : decode cX3_odds 145 = .ok (.iload 8, 2) := by decide +kernel
theorem dX3_odds_147 : decode cX3_odds 147 = .ok (.ifCond .eq 12, 3) := by decide +kernel
theorem dX3_odds_150 : decode cX3_odds 150 = .ok (.iload 9, 2) := by decide +kernel
theorem dX3_odds_152 : decode cX3_odds 152 = .ok (.ifCond .eq 7, 3) := by decide +kernel
theorem dX3_odds_155 : decode cX3_odds 155 = .ok (.lconst 1, 1) := by decide +kernel
theorem dX3_odds_156 : decode cX3_odds 156 = .ok (.goto 4, 3) := by decide +kernel
theorem dX3_odds_159 : decode cX3_odds 159 = .ok (.lconst 0, 1) := by decide +kernel
theorem dX3_odds_160 : decode cX3_odds 160 = .ok (.ladd, 1) := by decide +kernel
theorem dX3_odds_161 : decode cX3_odds 161 = .ok (.lstore_n 3, 1) := by decide +kernel
theorem dX3_odds_162 : decode cX3_odds 162 = .ok (.iinc 7 1, 3) := by decide +kernel
theorem dX3_odds_165 : decode cX3_odds 165 = .ok (.goto (-108), 3) := by decide +kernel
theorem dX3_odds_168 : decode cX3_odds 168 = .ok (.lload_n 3, 1) := by decide +kernel
theorem dX3_odds_169 : decode cX3_odds 169 = .ok (.lload 5, 2) := by decide +kernel
theorem dX3_odds_171 : decode cX3_odds 171 = .ok (.iload_n 2, 1) := by decide +kernel
theorem dX3_odds_172 : decode cX3_odds 172 = .ok (.invokestatic 213, 3) := by decide +kernel
theorem dX3_odds_175 : decode cX3_odds 175 = .ok (.lreturn, 1) := by decide +kernel
set_option maxRecDepth 20000 in
theorem ggX3_noSheet_X3_in : GoodIn wsX3_noSheet wsX3_in := goodIn_r _ [5] (by decide +kernel) (by decide +kernel)
set_option maxRecDepth 20000 in
theorem gX3_noSheet_X3_in : GoodIn wsX3_noSheet (va_wsS RX3 68 yX3_in wsX3_in) := goodIn_app (goodIn_of _ (by decide +kernel)) ggX3_noSheet_X3_in
theorem dX3_noSheet_0 : decode cX3_noSheet 0 = .ok (.iload_n 0, 1) := by decide +kernel
theorem dX3_noSheet_1 : decode cX3_noSheet 1 = .ok (.i2l, 1) := by decide +kernel
theorem dX3_noSheet_2 : decode cX3_noSheet 2 = .ok (.lconst 0, 1) := by decide +kernel
theorem dX3_noSheet_3 : decode cX3_noSheet 3 = .ok (.ldc2_w 138, 3) := by decide +kernel
theorem dX3_noSheet_6 : decode cX3_noSheet 6 = .ok (.invokestatic 68, 3) := by decide +kernel
theorem dX3_noSheet_9 : decode cX3_noSheet 9 = .ok (.ifCond .ne 7, 3) := by decide +kernel
theorem dX3_noSheet_12 : decode cX3_noSheet 12 = .ok (.iconst 1, 1) := by decide +kernel
theorem dX3_noSheet_13 : decode cX3_noSheet 13 = .ok (.goto 4, 3) := by decide +kernel
theorem dX3_noSheet_16 : decode cX3_noSheet 16 = .ok (.iconst 0, 1) := by decide +kernel
theorem dX3_noSheet_17 : decode cX3_noSheet 17 = .ok (.ireturn, 1) := by decide +kernel
set_option maxRecDepth 20000 in
theorem ggX3_sheet_X3_noSheet : GoodIn wsX3_sheet wsX3_noSheet := goodIn_r _ [8, 9, 10, 11, 7, 12] (by decide +kernel) (by decide +kernel)
set_option maxRecDepth 20000 in
theorem gX3_sheet_X3_noSheet : GoodIn wsX3_sheet (va_wsS RX3 98 yX3_noSheet wsX3_noSheet) := goodIn_app (goodIn_of _ (by decide +kernel)) ggX3_sheet_X3_noSheet
set_option maxRecDepth 20000 in
theorem ggX3_sheet_X3_refused : GoodIn wsX3_sheet wsX3_refused := goodIn_r _ [16, 17, 22, 23, 24, 25, 26, 27, 28, 29, 30, 31, 32, 33, 34, 35, 36, 37, 38, 39, 40, 41, 42, 43, 44] (by decide +kernel) (by decide +kernel)
set_option maxRecDepth 20000 in
theorem gX3_sheet_X3_refused : GoodIn wsX3_sheet (wsV RX3 102 RX3 yX3_refused wsX3_refused) := goodIn_app (goodIn_of _ (by decide +kernel)) ggX3_sheet_X3_refused
set_option maxRecDepth 20000 in
theorem ggX3_sheet_X3_in : GoodIn wsX3_sheet wsX3_in := goodIn_r _ [12] (by decide +kernel) (by decide +kernel)
set_option maxRecDepth 20000 in
theorem gX3_sheet_X3_in : GoodIn wsX3_sheet (va_wsS RX3 68 yX3_in wsX3_in) := goodIn_app (goodIn_of _ (by decide +kernel)) ggX3_sheet_X3_in
set_option maxRecDepth 20000 in
theorem ggX3_sheet_X3_failed : GoodIn wsX3_sheet wsX3_failed := goodIn_r _ [21, 17, 22, 23, 24, 25, 26, 27, 28, 29, 30, 31, 32, 33, 34, 35, 36, 37, 38, 39, 40, 41, 42, 43, 44] (by decide +kernel) (by decide +kernel)
set_option maxRecDepth 20000 in
theorem gX3_sheet_X3_failed : GoodIn wsX3_sheet (wsV RX3 90 RX3 yX3_failed wsX3_failed) := goodIn_app (goodIn_of _ (by decide +kernel)) ggX3_sheet_X3_failed
theorem dX3_sheet_0 : decode cX3_sheet 0 = .ok (.iload_n 1, 1) := by decide +kernel
theorem dX3_sheet_1 : decode cX3_sheet 1 = .ok (.invokestatic 98, 3) := by decide +kernel
theorem dX3_sheet_4 : decode cX3_sheet 4 = .ok (.ifCond .eq 9, 3) := by decide +kernel
theorem dX3_sheet_7 : decode cX3_sheet 7 = .ok (.aload_n 0, 1) := by decide +kernel
theorem dX3_sheet_8 : decode cX3_sheet 8 = .ok (.iconst (-1), 1) := by decide +kernel
theorem dX3_sheet_9 : decode cX3_sheet 9 = .ok (.invokevirtual 102, 3) := by decide +kernel
theorem dX3_sheet_12 : decode cX3_sheet 12 = .ok (.ireturn, 1) := by decide +kernel
theorem dX3_sheet_13 : decode cX3_sheet 13 = .ok (.iload_n 2, 1) := by decide +kernel
theorem dX3_sheet_14 : decode cX3_sheet 14 = .ok (.i2l, 1) := by decide +kernel
theorem dX3_sheet_15 : decode cX3_sheet 15 = .ok (.lconst 0, 1) := by decide +kernel
theorem dX3_sheet_16 : decode cX3_sheet 16 = .ok (.ldc2_w 105, 3) := by decide +kernel
theorem dX3_sheet_19 : decode cX3_sheet 19 = .ok (.invokestatic 68, 3) := by decide +kernel
theorem dX3_sheet_22 : decode cX3_sheet 22 = .ok (.ifCond .eq 9, 3) := by decide +kernel
theorem dX3_sheet_25 : decode cX3_sheet 25 = .ok (.iload_n 3, 1) := by decide +kernel
theorem dX3_sheet_26 : decode cX3_sheet 26 = .ok (.bipush 60, 2) := by decide +kernel
theorem dX3_sheet_28 : decode cX3_sheet 28 = .ok (.if_icmp .le 10, 3) := by decide +kernel
theorem dX3_sheet_31 : decode cX3_sheet 31 = .ok (.aload_n 0, 1) := by decide +kernel
theorem dX3_sheet_32 : decode cX3_sheet 32 = .ok (.bipush (-2), 2) := by decide +kernel
theorem dX3_sheet_34 : decode cX3_sheet 34 = .ok (.invokevirtual 102, 3) := by decide +kernel
theorem dX3_sheet_37 : decode cX3_sheet 37 = .ok (.ireturn, 1) := by decide +kernel
theorem dX3_sheet_38 : decode cX3_sheet 38 = .ok (.iload_n 3, 1) := by decide +kernel
theorem dX3_sheet_39 : decode cX3_sheet 39 = .ok (.ifCond .ge 9, 3) := by decide +kernel
theorem dX3_sheet_42 : decode cX3_sheet 42 = .ok (.aload_n 0, 1) := by decide +kernel
theorem dX3_sheet_43 : decode cX3_sheet 43 = .ok (.iconst 4, 1) := by decide +kernel
theorem dX3_sheet_44 : decode cX3_sheet 44 = .ok (.invokevirtual 90, 3) := by decide +kernel
theorem dX3_sheet_47 : decode cX3_sheet 47 = .ok (.ireturn, 1) := by decide +kernel
theorem dX3_sheet_48 : decode cX3_sheet 48 = .ok (.aload_n 0, 1) := by decide +kernel
theorem dX3_sheet_49 : decode cX3_sheet 49 = .ok (.getfield 43, 3) := by decide +kernel
theorem dX3_sheet_52 : decode cX3_sheet 52 = .ok (.iload_n 1, 1) := by decide +kernel
theorem dX3_sheet_53 : decode cX3_sheet 53 = .ok (.iload_n 3, 1) := by decide +kernel
theorem dX3_sheet_54 : decode cX3_sheet 54 = .ok (.iastore, 1) := by decide +kernel
theorem dX3_sheet_55 : decode cX3_sheet 55 = .ok (.aload_n 0, 1) := by decide +kernel
theorem dX3_sheet_56 : decode cX3_sheet 56 = .ok (.getfield 46, 3) := by decide +kernel
theorem dX3_sheet_59 : decode cX3_sheet 59 = .ok (.iload_n 1, 1) := by decide +kernel
theorem dX3_sheet_60 : decode cX3_sheet 60 = .ok (.iload_n 2, 1) := by decide +kernel
theorem dX3_sheet_61 : decode cX3_sheet 61 = .ok (.iastore, 1) := by decide +kernel
theorem dX3_sheet_62 : decode cX3_sheet 62 = .ok (.iconst 0, 1) := by decide +kernel
theorem dX3_sheet_63 : decode cX3_sheet 63 = .ok (.istore 4, 2) := by decide +kernel
theorem dX3_sheet_65 : decode cX3_sheet 65 = .ok (.iload 4, 2) := by decide +kernel
theorem dX3_sheet_67 : decode cX3_sheet 67 = .ok (.iload_n 3, 1) := by decide +kernel
theorem dX3_sheet_68 : decode cX3_sheet 68 = .ok (.if_icmp .ge 22, 3) := by decide +kernel
theorem dX3_sheet_71 : decode cX3_sheet 71 = .ok (.aload_n 0, 1) := by decide +kernel
theorem dX3_sheet_72 : decode cX3_sheet 72 = .ok (.getfield 49, 3) := by decide +kernel
theorem dX3_sheet_75 : decode cX3_sheet 75 = .ok (.bipush 60, 2) := by decide +kernel
theorem dX3_sheet_77 : decode cX3_sheet 77 = .ok (.iload_n 1, 1) := by decide +kernel
theorem dX3_sheet_78 : decode cX3_sheet 78 = .ok (.imul, 1) := by decide +kernel
theorem dX3_sheet_79 : decode cX3_sheet 79 = .ok (.iload 4, 2) := by decide +kernel
theorem dX3_sheet_81 : decode cX3_sheet 81 = .ok (.iadd, 1) := by decide +kernel
theorem dX3_sheet_82 : decode cX3_sheet 82 = .ok (.iconst 0, 1) := by decide +kernel
theorem dX3_sheet_83 : decode cX3_sheet 83 = .ok (.iastore, 1) := by decide +kernel
theorem dX3_sheet_84 : decode cX3_sheet 84 = .ok (.iinc 4 1, 3) := by decide +kernel
theorem dX3_sheet_87 : decode cX3_sheet 87 = .ok (.goto (-22), 3) := by decide +kernel
theorem dX3_sheet_90 : decode cX3_sheet 90 = .ok (.aload_n 0, 1) := by decide +kernel
theorem dX3_sheet_91 : decode cX3_sheet 91 = .ok (.iconst 1, 1) := by decide +kernel
theorem dX3_sheet_92 : decode cX3_sheet 92 = .ok (.invokevirtual 102, 3) := by decide +kernel
theorem dX3_sheet_95 : decode cX3_sheet 95 = .ok (.ireturn, 1) := by decide +kernel
set_option maxRecDepth 20000 in
theorem ggX3_lose_X3_noSheet : GoodIn wsX3_lose wsX3_noSheet := goodIn_r _ [5, 6, 7, 8, 4, 9] (by decide +kernel) (by decide +kernel)
set_option maxRecDepth 20000 in
theorem gX3_lose_X3_noSheet : GoodIn wsX3_lose (va_wsS RX3 98 yX3_noSheet wsX3_noSheet) := goodIn_app (goodIn_of _ (by decide +kernel)) ggX3_lose_X3_noSheet
theorem dX3_lose_0 : decode cX3_lose 0 = .ok (.iload_n 1, 1) := by decide +kernel
theorem dX3_lose_1 : decode cX3_lose 1 = .ok (.invokestatic 98, 3) := by decide +kernel
theorem dX3_lose_4 : decode cX3_lose 4 = .ok (.ifCond .eq 5, 3) := by decide +kernel
theorem dX3_lose_7 : decode cX3_lose 7 = .ok (.iconst (-1), 1) := by decide +kernel
theorem dX3_lose_8 : decode cX3_lose 8 = .ok (.ireturn, 1) := by decide +kernel
theorem dX3_lose_9 : decode cX3_lose 9 = .ok (.aload_n 0, 1) := by decide +kernel
theorem dX3_lose_10 : decode cX3_lose 10 = .ok (.getfield 43, 3) := by decide +kernel
theorem dX3_lose_13 : decode cX3_lose 13 = .ok (.iload_n 1, 1) := by decide +kernel
theorem dX3_lose_14 : decode cX3_lose 14 = .ok (.iaload, 1) := by decide +kernel
theorem dX3_lose_15 : decode cX3_lose 15 = .ok (.ifCond .ge 7, 3) := by decide +kernel
theorem dX3_lose_18 : decode cX3_lose 18 = .ok (.iconst 0, 1) := by decide +kernel
theorem dX3_lose_19 : decode cX3_lose 19 = .ok (.goto 4, 3) := by decide +kernel
theorem dX3_lose_22 : decode cX3_lose 22 = .ok (.iconst 1, 1) := by decide +kernel
theorem dX3_lose_23 : decode cX3_lose 23 = .ok (.istore_n 2, 1) := by decide +kernel
theorem dX3_lose_24 : decode cX3_lose 24 = .ok (.aload_n 0, 1) := by decide +kernel
theorem dX3_lose_25 : decode cX3_lose 25 = .ok (.getfield 43, 3) := by decide +kernel
theorem dX3_lose_28 : decode cX3_lose 28 = .ok (.iload_n 1, 1) := by decide +kernel
theorem dX3_lose_29 : decode cX3_lose 29 = .ok (.iconst (-1), 1) := by decide +kernel
theorem dX3_lose_30 : decode cX3_lose 30 = .ok (.iastore, 1) := by decide +kernel
theorem dX3_lose_31 : decode cX3_lose 31 = .ok (.iload_n 2, 1) := by decide +kernel
theorem dX3_lose_32 : decode cX3_lose 32 = .ok (.ireturn, 1) := by decide +kernel
set_option maxRecDepth 20000 in
theorem ggX3_noCell_X3_in : GoodIn wsX3_noCell wsX3_in := goodIn_r _ [5] (by decide +kernel) (by decide +kernel)
set_option maxRecDepth 20000 in
theorem gX3_noCell_X3_in : GoodIn wsX3_noCell (va_wsS RX3 68 yX3_in wsX3_in) := goodIn_app (goodIn_of _ (by decide +kernel)) ggX3_noCell_X3_in
theorem dX3_noCell_0 : decode cX3_noCell 0 = .ok (.aload_n 0, 1) := by decide +kernel
theorem dX3_noCell_1 : decode cX3_noCell 1 = .ok (.getfield 43, 3) := by decide +kernel
theorem dX3_noCell_4 : decode cX3_noCell 4 = .ok (.iload_n 1, 1) := by decide +kernel
theorem dX3_noCell_5 : decode cX3_noCell 5 = .ok (.iaload, 1) := by decide +kernel
theorem dX3_noCell_6 : decode cX3_noCell 6 = .ok (.ifCond .ge 7, 3) := by decide +kernel
theorem dX3_noCell_9 : decode cX3_noCell 9 = .ok (.iconst 1, 1) := by decide +kernel
theorem dX3_noCell_10 : decode cX3_noCell 10 = .ok (.goto 26, 3) := by decide +kernel
theorem dX3_noCell_13 : decode cX3_noCell 13 = .ok (.iload_n 2, 1) := by decide +kernel
theorem dX3_noCell_14 : decode cX3_noCell 14 = .ok (.i2l, 1) := by decide +kernel
theorem dX3_noCell_15 : decode cX3_noCell 15 = .ok (.lconst 0, 1) := by decide +kernel
theorem dX3_noCell_16 : decode cX3_noCell 16 = .ok (.aload_n 0, 1) := by decide +kernel
theorem dX3_noCell_17 : decode cX3_noCell 17 = .ok (.getfield 43, 3) := by decide +kernel
theorem dX3_noCell_20 : decode cX3_noCell 20 = .ok (.iload_n 1, 1) := by decide +kernel
theorem dX3_noCell_21 : decode cX3_noCell 21 = .ok (.iaload, 1) := by decide +kernel
theorem dX3_noCell_22 : decode cX3_noCell 22 = .ok (.i2l, 1) := by decide +kernel
theorem dX3_noCell_23 : decode cX3_noCell 23 = .ok (.lconst 1, 1) := by decide +kernel
theorem dX3_noCell_24 : decode cX3_noCell 24 = .ok (.lsub, 1) := by decide +kernel
theorem dX3_noCell_25 : decode cX3_noCell 25 = .ok (.invokestatic 68, 3) := by decide +kernel
theorem dX3_noCell_28 : decode cX3_noCell 28 = .ok (.ifCond .eq 7, 3) := by decide +kernel
theorem dX3_noCell_31 : decode cX3_noCell 31 = .ok (.iconst 0, 1) := by decide +kernel
theorem dX3_noCell_32 : decode cX3_noCell 32 = .ok (.goto 4, 3) := by decide +kernel
theorem dX3_noCell_35 : decode cX3_noCell 35 = .ok (.iconst 3, 1) := by decide +kernel
theorem dX3_noCell_36 : decode cX3_noCell 36 = .ok (.ireturn, 1) := by decide +kernel
set_option maxRecDepth 20000 in
theorem ggX3_put_X3_noSheet : GoodIn wsX3_put wsX3_noSheet := goodIn_r _ [6, 7, 8, 9, 5, 10] (by decide +kernel) (by decide +kernel)
set_option maxRecDepth 20000 in
theorem gX3_put_X3_noSheet : GoodIn wsX3_put (va_wsS RX3 98 yX3_noSheet wsX3_noSheet) := goodIn_app (goodIn_of _ (by decide +kernel)) ggX3_put_X3_noSheet
set_option maxRecDepth 20000 in
theorem ggX3_put_X3_refused : GoodIn wsX3_put wsX3_refused := goodIn_r _ [14, 15, 25, 26, 27, 28, 29, 30, 31, 32, 33, 34, 35, 36, 37, 38, 39, 40, 41, 42, 43, 44, 45, 46, 47] (by decide +kernel) (by decide +kernel)
set_option maxRecDepth 20000 in
theorem gX3_put_X3_refused : GoodIn wsX3_put (wsV RX3 102 RX3 yX3_refused wsX3_refused) := goodIn_app (goodIn_of _ (by decide +kernel)) ggX3_put_X3_refused
set_option maxRecDepth 20000 in
theorem ggX3_put_X3_noCell : GoodIn wsX3_put wsX3_noCell := goodIn_r _ [19, 20, 8, 9, 5, 10, 25, 26, 27, 28, 29, 30, 31, 32, 33, 34, 35, 36, 37, 38, 39, 40, 41, 42, 43, 44, 45, 46, 47] (by decide +kernel) (by decide +kernel)
set_option maxRecDepth 20000 in
theorem gX3_put_X3_noCell : GoodIn wsX3_put (wsV RX3 223 RX3 yX3_noCell wsX3_noCell) := goodIn_app (goodIn_of _ (by decide +kernel)) ggX3_put_X3_noCell
set_option maxRecDepth 20000 in
theorem ggX3_put_X3_failed : GoodIn wsX3_put wsX3_failed := goodIn_r _ [24, 15, 25, 26, 27, 28, 29, 30, 31, 32, 33, 34, 35, 36, 37, 38, 39, 40, 41, 42, 43, 44, 45, 46, 47] (by decide +kernel) (by decide +kernel)
set_option maxRecDepth 20000 in
theorem gX3_put_X3_failed : GoodIn wsX3_put (wsV RX3 90 RX3 yX3_failed wsX3_failed) := goodIn_app (goodIn_of _ (by decide +kernel)) ggX3_put_X3_failed
theorem dX3_put_0 : decode cX3_put 0 = .ok (.iload_n 1, 1) := by decide +kernel
theorem dX3_put_1 : decode cX3_put 1 = .ok (.invokestatic 98, 3) := by decide +kernel
theorem dX3_put_4 : decode cX3_put 4 = .ok (.ifCond .eq 9, 3) := by decide +kernel
theorem dX3_put_7 : decode cX3_put 7 = .ok (.aload_n 0, 1) := by decide +kernel
theorem dX3_put_8 : decode cX3_put 8 = .ok (.iconst (-1), 1) := by decide +kernel
theorem dX3_put_9 : decode cX3_put 9 = .ok (.invokevirtual 102, 3) := by decide +kernel
theorem dX3_put_12 : decode cX3_put 12 = .ok (.ireturn, 1) := by decide +kernel
theorem dX3_put_13 : decode cX3_put 13 = .ok (.aload_n 0, 1) := by decide +kernel
theorem dX3_put_14 : decode cX3_put 14 = .ok (.iload_n 1, 1) := by decide +kernel
theorem dX3_put_15 : decode cX3_put 15 = .ok (.iload_n 2, 1) := by decide +kernel
theorem dX3_put_16 : decode cX3_put 16 = .ok (.invokevirtual 223, 3) := by decide +kernel
theorem dX3_put_19 : decode cX3_put 19 = .ok (.ifCond .le 14, 3) := by decide +kernel
theorem dX3_put_22 : decode cX3_put 22 = .ok (.aload_n 0, 1) := by decide +kernel
theorem dX3_put_23 : decode cX3_put 23 = .ok (.aload_n 0, 1) := by decide +kernel
theorem dX3_put_24 : decode cX3_put 24 = .ok (.iload_n 1, 1) := by decide +kernel
theorem dX3_put_25 : decode cX3_put 25 = .ok (.iload_n 2, 1) := by decide +kernel
theorem dX3_put_26 : decode cX3_put 26 = .ok (.invokevirtual 223, 3) := by decide +kernel
theorem dX3_put_29 : decode cX3_put 29 = .ok (.invokevirtual 90, 3) := by decide +kernel
theorem dX3_put_32 : decode cX3_put 32 = .ok (.ireturn, 1) := by decide +kernel
theorem dX3_put_33 : decode cX3_put 33 = .ok (.aload_n 0, 1) := by decide +kernel
theorem dX3_put_34 : decode cX3_put 34 = .ok (.getfield 49, 3) := by decide +kernel
theorem dX3_put_37 : decode cX3_put 37 = .ok (.bipush 60, 2) := by decide +kernel
theorem dX3_put_39 : decode cX3_put 39 = .ok (.iload_n 1, 1) := by decide +kernel
theorem dX3_put_40 : decode cX3_put 40 = .ok (.imul, 1) := by decide +kernel
theorem dX3_put_41 : decode cX3_put 41 = .ok (.iload_n 2, 1) := by decide +kernel
theorem dX3_put_42 : decode cX3_put 42 = .ok (.iadd, 1) := by decide +kernel
theorem dX3_put_43 : decode cX3_put 43 = .ok (.aload_n 0, 1) := by decide +kernel
theorem dX3_put_44 : decode cX3_put 44 = .ok (.getfield 46, 3) := by decide +kernel
theorem dX3_put_47 : decode cX3_put 47 = .ok (.iload_n 1, 1) := by decide +kernel
theorem dX3_put_48 : decode cX3_put 48 = .ok (.iaload, 1) := by decide +kernel
theorem dX3_put_49 : decode cX3_put 49 = .ok (.ifCond .ne 8, 3) := by decide +kernel
theorem dX3_put_52 : decode cX3_put 52 = .ok (.iload_n 3, 1) := by decide +kernel
theorem dX3_put_53 : decode cX3_put 53 = .ok (.i2b, 1) := by decide +kernel
theorem dX3_put_54 : decode cX3_put 54 = .ok (.goto 19, 3) := by decide +kernel
theorem dX3_put_57 : decode cX3_put 57 = .ok (.aload_n 0, 1) := by decide +kernel
theorem dX3_put_58 : decode cX3_put 58 = .ok (.getfield 46, 3) := by decide +kernel
theorem dX3_put_61 : decode cX3_put 61 = .ok (.iload_n 1, 1) := by decide +kernel
theorem dX3_put_62 : decode cX3_put 62 = .ok (.iaload, 1) := by decide +kernel
theorem dX3_put_63 : decode cX3_put 63 = .ok (.iconst 1, 1) := by decide +kernel
theorem dX3_put_64 : decode cX3_put 64 = .ok (.if_icmp .ne 8, 3) := by decide +kernel
theorem dX3_put_67 : decode cX3_put 67 = .ok (.iload_n 3, 1) := by decide +kernel
theorem dX3_put_68 : decode cX3_put 68 = .ok (.i2s, 1) := by decide +kernel
theorem dX3_put_69 : decode cX3_put 69 = .ok (.goto 4, 3) := by decide +kernel
theorem dX3_put_72 : decode cX3_put 72 = .ok (.iload_n 3, 1) := by decide +kernel
theorem dX3_put_73 : decode cX3_put 73 = .ok (.iastore, 1) := by decide +kernel
theorem dX3_put_74 : decode cX3_put 74 = .ok (.aload_n 0, 1) := by decide +kernel
theorem dX3_put_75 : decode cX3_put 75 = .ok (.iconst 1, 1) := by decide +kernel
theorem dX3_put_76 : decode cX3_put 76 = .ok (.invokevirtual 102, 3) := by decide +kernel
theorem dX3_put_79 : decode cX3_put 79 = .ok (.ireturn, 1) := by decide +kernel
set_option maxRecDepth 20000 in
theorem ggX3_cell_X3_noSheet : GoodIn wsX3_cell wsX3_noSheet := goodIn_r _ [9, 10, 11, 12, 8, 13] (by decide +kernel) (by decide +kernel)
set_option maxRecDepth 20000 in
theorem gX3_cell_X3_noSheet : GoodIn wsX3_cell (va_wsS RX3 98 yX3_noSheet wsX3_noSheet) := goodIn_app (goodIn_of _ (by decide +kernel)) ggX3_cell_X3_noSheet
set_option maxRecDepth 20000 in
theorem ggX3_cell_X3_in : GoodIn wsX3_cell wsX3_in := goodIn_r _ [13] (by decide +kernel) (by decide +kernel)
set_option maxRecDepth 20000 in
theorem gX3_cell_X3_in : GoodIn wsX3_cell (va_wsS RX3 68 yX3_in wsX3_in) := goodIn_app (goodIn_of _ (by decide +kernel)) ggX3_cell_X3_in
set_option maxRecDepth 20000 in
theorem ggX3_cell_X3_lost : GoodIn wsX3_cell wsX3_lost := goodIn_r _ [16, 17] (by decide +kernel) (by decide +kernel)
set_option maxRecDepth 20000 in
theorem gX3_cell_X3_lost : GoodIn wsX3_cell (va_wsS RX3 61 yX3_lost wsX3_lost) := goodIn_app (goodIn_of _ (by decide +kernel)) ggX3_cell_X3_lost
set_option maxRecDepth 20000 in
theorem ggX3_cell_X3_failedLong : GoodIn wsX3_cell wsX3_failedLong := goodIn_r _ [21, 1, 14, 15, 8, 16, 17, 26, 27, 28, 29, 30, 31, 32, 33, 34, 35, 36, 37, 38, 39, 40, 41, 42, 43, 44, 45, 46, 47, 48] (by decide +kernel) (by decide +kernel)
set_option maxRecDepth 20000 in
theorem gX3_cell_X3_failedLong : GoodIn wsX3_cell (wsV RX3 226 RX3 yX3_failedLong wsX3_failedLong) := goodIn_app (goodIn_of _ (by decide +kernel)) ggX3_cell_X3_failedLong
set_option maxRecDepth 20000 in
theorem ggX3_cell_X3_noCell : GoodIn wsX3_cell wsX3_noCell := goodIn_r _ [25, 3, 11, 12, 8, 13, 26, 27, 28, 29, 30, 31, 32, 33, 34, 35, 36, 37, 38, 39, 40, 41, 42, 43, 44, 45, 46, 47, 48] (by decide +kernel) (by decide +kernel)
set_option maxRecDepth 20000 in
theorem gX3_cell_X3_noCell : GoodIn wsX3_cell (wsV RX3 223 RX3 yX3_noCell wsX3_noCell) := goodIn_app (goodIn_of _ (by decide +kernel)) ggX3_cell_X3_noCell
theorem dX3_cell_0 : decode cX3_cell 0 = .ok (.aload_n 0, 1) := by decide +kernel
theorem dX3_cell_1 : decode cX3_cell 1 = .ok (.iconst 0, 1) := by decide +kernel
theorem dX3_cell_2 : decode cX3_cell 2 = .ok (.putfield 57, 3) := by decide +kernel
theorem dX3_cell_5 : decode cX3_cell 5 = .ok (.iload_n 1, 1) := by decide +kernel
theorem dX3_cell_6 : decode cX3_cell 6 = .ok (.invokestatic 98, 3) := by decide +kernel
theorem dX3_cell_9 : decode cX3_cell 9 = .ok (.ifCond .ne 15, 3) := by decide +kernel
theorem dX3_cell_12 : decode cX3_cell 12 = .ok (.iload_n 3, 1) := by decide +kernel
theorem dX3_cell_13 : decode cX3_cell 13 = .ok (.i2l, 1) := by decide +kernel
theorem dX3_cell_14 : decode cX3_cell 14 = .ok (.lconst 0, 1) := by decide +kernel
theorem dX3_cell_15 : decode cX3_cell 15 = .ok (.ldc2_w 105, 3) := by decide +kernel
theorem dX3_cell_18 : decode cX3_cell 18 = .ok (.invokestatic 68, 3) := by decide +kernel
theorem dX3_cell_21 : decode cX3_cell 21 = .ok (.ifCond .ne 7, 3) := by decide +kernel
theorem dX3_cell_24 : decode cX3_cell 24 = .ok (.invokestatic 61, 3) := by decide +kernel
theorem dX3_cell_27 : decode cX3_cell 27 = .ok (.lreturn, 1) := by decide +kernel
theorem dX3_cell_28 : decode cX3_cell 28 = .ok (.aload_n 0, 1) := by decide +kernel
theorem dX3_cell_29 : decode cX3_cell 29 = .ok (.getfield 43, 3) := by decide +kernel
theorem dX3_cell_32 : decode cX3_cell 32 = .ok (.iload_n 1, 1) := by decide +kernel
theorem dX3_cell_33 : decode cX3_cell 33 = .ok (.iaload, 1) := by decide +kernel
theorem dX3_cell_34 : decode cX3_cell 34 = .ok (.ifCond .lt 19, 3) := by decide +kernel
theorem dX3_cell_37 : decode cX3_cell 37 = .ok (.aload_n 0, 1) := by decide +kernel
theorem dX3_cell_38 : decode cX3_cell 38 = .ok (.getfield 46, 3) := by decide +kernel
theorem dX3_cell_41 : decode cX3_cell 41 = .ok (.iload_n 1, 1) := by decide +kernel
theorem dX3_cell_42 : decode cX3_cell 42 = .ok (.iaload, 1) := by decide +kernel
theorem dX3_cell_43 : decode cX3_cell 43 = .ok (.iload_n 3, 1) := by decide +kernel
theorem dX3_cell_44 : decode cX3_cell 44 = .ok (.if_icmp .eq 9, 3) := by decide +kernel
theorem dX3_cell_47 : decode cX3_cell 47 = .ok (.aload_n 0, 1) := by decide +kernel
theorem dX3_cell_48 : decode cX3_cell 48 = .ok (.iconst 2, 1) := by decide +kernel
theorem dX3_cell_49 : decode cX3_cell 49 = .ok (.invokevirtual 226, 3) := by decide +kernel
theorem dX3_cell_52 : decode cX3_cell 52 = .ok (.lreturn, 1) := by decide +kernel
theorem dX3_cell_53 : decode cX3_cell 53 = .ok (.aload_n 0, 1) := by decide +kernel
theorem dX3_cell_54 : decode cX3_cell 54 = .ok (.iload_n 1, 1) := by decide +kernel
theorem dX3_cell_55 : decode cX3_cell 55 = .ok (.iload_n 2, 1) := by decide +kernel
theorem dX3_cell_56 : decode cX3_cell 56 = .ok (.invokevirtual 223, 3) := by decide +kernel
theorem dX3_cell_59 : decode cX3_cell 59 = .ok (.ifCond .le 16, 3) := by decide +kernel
theorem dX3_cell_62 : decode cX3_cell 62 = .ok (.aload_n 0, 1) := by decide +kernel
theorem dX3_cell_63 : decode cX3_cell 63 = .ok (.aload_n 0, 1) := by decide +kernel
theorem dX3_cell_64 : decode cX3_cell 64 = .ok (.iload_n 1, 1) := by decide +kernel
theorem dX3_cell_65 : decode cX3_cell 65 = .ok (.iload_n 2, 1) := by decide +kernel
theorem dX3_cell_66 : decode cX3_cell 66 = .ok (.invokevirtual 223, 3) := by decide +kernel
theorem dX3_cell_69 : decode cX3_cell 69 = .ok (.invokevirtual 226, 3) := by decide +kernel
theorem dX3_cell_72 : decode cX3_cell 72 = .ok (.goto 15, 3) := by decide +kernel
theorem dX3_cell_75 : decode cX3_cell 75 = .ok (.aload_n 0, 1) := by decide +kernel
theorem dX3_cell_76 : decode cX3_cell 76 = .ok (.getfield 49, 3) := by decide +kernel
theorem dX3_cell_79 : decode cX3_cell 79 = .ok (.bipush 60, 2) := by decide +kernel
theorem dX3_cell_81 : decode cX3_cell 81 = .ok (.iload_n 1, 1) := by decide +kernel
theorem dX3_cell_82 : decode cX3_cell 82 = .ok (.imul, 1) := by decide +kernel
theorem dX3_cell_83 : decode cX3_cell 83 = .ok (.iload_n 2, 1) := by decide +kernel
theorem dX3_cell_84 : decode cX3_cell 84 = .ok (.iadd, 1) := by decide +kernel
theorem dX3_cell_85 : decode cX3_cell 85 = .ok (.iaload, 1) := by decide +kernel
theorem dX3_cell_86 : decode cX3_cell 86 = .ok (.i2l, 1) := by decide +kernel
theorem dX3_cell_87 : decode cX3_cell 87 = .ok (.lreturn, 1) := by decide +kernel
theorem dX3_isBeyond_0 : decode cX3_isBeyond 0 = .ok (.iload_n 0, 1) := by decide +kernel
theorem dX3_isBeyond_1 : decode cX3_isBeyond 1 = .ok (.ifCond .lt 19, 3) := by decide +kernel
theorem dX3_isBeyond_4 : decode cX3_isBeyond 4 = .ok (.lload_n 1, 1) := by decide +kernel
theorem dX3_isBeyond_5 : decode cX3_isBeyond 5 = .ok (.lconst 0, 1) := by decide +kernel
theorem dX3_isBeyond_6 : decode cX3_isBeyond 6 = .ok (.lcmp, 1) := by decide +kernel
theorem dX3_isBeyond_7 : decode cX3_isBeyond 7 = .ok (.ifCond .lt 13, 3) := by decide +kernel
theorem dX3_isBeyond_10 : decode cX3_isBeyond 10 = .ok (.iload_n 0, 1) := by decide +kernel
theorem dX3_isBeyond_11 : decode cX3_isBeyond 11 = .ok (.i2l, 1) := by decide +kernel
theorem dX3_isBeyond_12 : decode cX3_isBeyond 12 = .ok (.lload_n 1, 1) := by decide +kernel
theorem dX3_isBeyond_13 : decode cX3_isBeyond 13 = .ok (.ladd, 1) := by decide +kernel
theorem dX3_isBeyond_14 : decode cX3_isBeyond 14 = .ok (.iload_n 3, 1) := by decide +kernel
theorem dX3_isBeyond_15 : decode cX3_isBeyond 15 = .ok (.i2l, 1) := by decide +kernel
theorem dX3_isBeyond_16 : decode cX3_isBeyond 16 = .ok (.lcmp, 1) := by decide +kernel
theorem dX3_isBeyond_17 : decode cX3_isBeyond 17 = .ok (.ifCond .le 7, 3) := by decide +kernel
theorem dX3_isBeyond_20 : decode cX3_isBeyond 20 = .ok (.iconst 1, 1) := by decide +kernel
theorem dX3_isBeyond_21 : decode cX3_isBeyond 21 = .ok (.goto 4, 3) := by decide +kernel
theorem dX3_isBeyond_24 : decode cX3_isBeyond 24 = .ok (.iconst 0, 1) := by decide +kernel
theorem dX3_isBeyond_25 : decode cX3_isBeyond 25 = .ok (.ireturn, 1) := by decide +kernel
set_option maxRecDepth 20000 in
theorem ggX3_copy_X3_noSheet : GoodIn wsX3_copy wsX3_noSheet := goodIn_r _ [8, 9, 10, 11, 7, 12] (by decide +kernel) (by decide +kernel)
set_option maxRecDepth 20000 in
theorem gX3_copy_X3_noSheet : GoodIn wsX3_copy (va_wsS RX3 98 yX3_noSheet wsX3_noSheet) := goodIn_app (goodIn_of _ (by decide +kernel)) ggX3_copy_X3_noSheet
set_option maxRecDepth 20000 in
theorem ggX3_copy_X3_refused : GoodIn wsX3_copy wsX3_refused := goodIn_r _ [16, 17, 25, 26, 27, 28, 29, 30, 31, 32, 33, 34, 35, 36, 37, 38, 39, 40, 41, 42, 43, 44, 45, 46, 47] (by decide +kernel) (by decide +kernel)
set_option maxRecDepth 20000 in
theorem gX3_copy_X3_refused : GoodIn wsX3_copy (wsV RX3 102 RX3 yX3_refused wsX3_refused) := goodIn_app (goodIn_of _ (by decide +kernel)) ggX3_copy_X3_refused
set_option maxRecDepth 20000 in
theorem ggX3_copy_X3_failed : GoodIn wsX3_copy wsX3_failed := goodIn_r _ [21, 17, 25, 26, 27, 28, 29, 30, 31, 32, 33, 34, 35, 36, 37, 38, 39, 40, 41, 42, 43, 44, 45, 46, 47] (by decide +kernel) (by decide +kernel)
set_option maxRecDepth 20000 in
theorem gX3_copy_X3_failed : GoodIn wsX3_copy (wsV RX3 90 RX3 yX3_failed wsX3_failed) := goodIn_app (goodIn_of _ (by decide +kernel)) ggX3_copy_X3_failed
set_option maxRecDepth 20000 in
theorem ggX3_copy_X3_isBeyond : GoodIn wsX3_copy wsX3_isBeyond := goodIn_r _ [24] (by decide +kernel) (by decide +kernel)
set_option maxRecDepth 20000 in
theorem gX3_copy_X3_isBeyond : GoodIn wsX3_copy (va_wsS RX3 94 yX3_isBeyond wsX3_isBeyond) := goodIn_app (goodIn_of _ (by decide +kernel)) ggX3_copy_X3_isBeyond
theorem dX3_copy_0 : decode cX3_copy 0 = .ok (.iload_n 1, 1) := by decide +kernel
theorem dX3_copy_1 : decode cX3_copy 1 = .ok (.invokestatic 98, 3) := by decide +kernel
theorem dX3_copy_4 : decode cX3_copy 4 = .ok (.ifCond .ne 10, 3) := by decide +kernel
theorem dX3_copy_7 : decode cX3_copy 7 = .ok (.iload_n 3, 1) := by decide +kernel
theorem dX3_copy_8 : decode cX3_copy 8 = .ok (.invokestatic 98, 3) := by decide +kernel
theorem dX3_copy_11 : decode cX3_copy 11 = .ok (.ifCond .eq 9, 3) := by decide +kernel
theorem dX3_copy_14 : decode cX3_copy 14 = .ok (.aload_n 0, 1) := by decide +kernel
theorem dX3_copy_15 : decode cX3_copy 15 = .ok (.iconst (-1), 1) := by decide +kernel
theorem dX3_copy_16 : decode cX3_copy 16 = .ok (.invokevirtual 102, 3) := by decide +kernel
theorem dX3_copy_19 : decode cX3_copy 19 = .ok (.ireturn, 1) := by decide +kernel
theorem dX3_copy_20 : decode cX3_copy 20 = .ok (.aload_n 0, 1) := by decide +kernel
theorem dX3_copy_21 : decode cX3_copy 21 = .ok (.getfield 43, 3) := by decide +kernel
theorem dX3_copy_24 : decode cX3_copy 24 = .ok (.iload_n 1, 1) := by decide +kernel
theorem dX3_copy_25 : decode cX3_copy 25 = .ok (.iaload, 1) := by decide +kernel
theorem dX3_copy_26 : decode cX3_copy 26 = .ok (.ifCond .lt 12, 3) := by decide +kernel
theorem dX3_copy_29 : decode cX3_copy 29 = .ok (.aload_n 0, 1) := by decide +kernel
theorem dX3_copy_30 : decode cX3_copy 30 = .ok (.getfield 43, 3) := by decide +kernel
theorem dX3_copy_33 : decode cX3_copy 33 = .ok (.iload_n 3, 1) := by decide +kernel
theorem dX3_copy_34 : decode cX3_copy 34 = .ok (.iaload, 1) := by decide +kernel
theorem dX3_copy_35 : decode cX3_copy 35 = .ok (.ifCond .ge 9, 3) := by decide +kernel
theorem dX3_copy_38 : decode cX3_copy 38 = .ok (.aload_n 0, 1) := by decide +kernel
theorem dX3_copy_39 : decode cX3_copy 39 = .ok (.iconst 1, 1) := by decide +kernel
theorem dX3_copy_40 : decode cX3_copy 40 = .ok (.invokevirtual 90, 3) := by decide +kernel
theorem dX3_copy_43 : decode cX3_copy 43 = .ok (.ireturn, 1) := by decide +kernel
theorem dX3_copy_44 : decode cX3_copy 44 = .ok (.aload_n 0, 1) := by decide +kernel
theorem dX3_copy_45 : decode cX3_copy 45 = .ok (.getfield 46, 3) := by decide +kernel
theorem dX3_copy_48 : decode cX3_copy 48 = .ok (.iload_n 1, 1) := by decide +kernel
theorem dX3_copy_49 : decode cX3_copy 49 = .ok (.iaload, 1) := by decide +kernel
theorem dX3_copy_50 : decode cX3_copy 50 = .ok (.aload_n 0, 1) := by decide +kernel
theorem dX3_copy_51 : decode cX3_copy 51 = .ok (.getfield 46, 3) := by decide +kernel
theorem dX3_copy_54 : decode cX3_copy 54 = .ok (.iload_n 3, 1) := by decide +kernel
theorem dX3_copy_55 : decode cX3_copy 55 = .ok (.iaload, 1) := by decide +kernel
theorem dX3_copy_56 : decode cX3_copy 56 = .ok (.if_icmp .eq 9, 3) := by decide +kernel
theorem dX3_copy_59 : decode cX3_copy 59 = .ok (.aload_n 0, 1) := by decide +kernel
theorem dX3_copy_60 : decode cX3_copy 60 = .ok (.iconst 2, 1) := by decide +kernel
theorem dX3_copy_61 : decode cX3_copy 61 = .ok (.invokevirtual 90, 3) := by decide +kernel
theorem dX3_copy_64 : decode cX3_copy 64 = .ok (.ireturn, 1) := by decide +kernel
theorem dX3_copy_65 : decode cX3_copy 65 = .ok (.iload_n 2, 1) := by decide +kernel
theorem dX3_copy_66 : decode cX3_copy 66 = .ok (.iload 5, 2) := by decide +kernel
theorem dX3_copy_68 : decode cX3_copy 68 = .ok (.i2l, 1) := by decide +kernel
theorem dX3_copy_69 : decode cX3_copy 69 = .ok (.aload_n 0, 1) := by decide +kernel
theorem dX3_copy_70 : decode cX3_copy 70 = .ok (.getfield 43, 3) := by decide +kernel
theorem dX3_copy_73 : decode cX3_copy 73 = .ok (.iload_n 1, 1) := by decide +kernel
theorem dX3_copy_74 : decode cX3_copy 74 = .ok (.iaload, 1) := by decide +kernel
theorem dX3_copy_75 : decode cX3_copy 75 = .ok (.invokestatic 94, 3) := by decide +kernel
theorem dX3_copy_78 : decode cX3_copy 78 = .ok (.ifCond .ne 20, 3) := by decide +kernel
theorem dX3_copy_81 : decode cX3_copy 81 = .ok (.iload 4, 2) := by decide +kernel
theorem dX3_copy_83 : decode cX3_copy 83 = .ok (.iload 5, 2) := by decide +kernel
theorem dX3_copy_85 : decode cX3_copy 85 = .ok (.i2l, 1) := by decide +kernel
theorem dX3_copy_86 : decode cX3_copy 86 = .ok (.aload_n 0, 1) := by decide +kernel
theorem dX3_copy_87 : decode cX3_copy 87 = .ok (.getfield 43, 3) := by decide +kernel
theorem dX3_copy_90 : decode cX3_copy 90 = .ok (.iload_n 3, 1) := by decide +kernel
theorem dX3_copy_91 : decode cX3_copy 91 = .ok (.iaload, 1) := by decide +kernel
theorem dX3_copy_92 : decode cX3_copy 92 = .ok (.invokestatic 94, 3) := by decide +kernel
theorem dX3_copy_95 : decode cX3_copy 95 = .ok (.ifCond .eq 9, 3) := by decide +kernel
theorem dX3_copy_98 : decode cX3_copy 98 = .ok (.aload_n 0, 1) := by decide +kernel
theorem dX3_copy_99 : decode cX3_copy 99 = .ok (.iconst 3, 1) := by decide +kernel
theorem dX3_copy_100 : decode cX3_copy 100 = .ok (.invokevirtual 90, 3) := by decide +kernel
theorem dX3_copy_103 : decode cX3_copy 103 = .ok (.ireturn, 1) := by decide +kernel
theorem dX3_copy_104 : decode cX3_copy 104 = .ok (.iconst 0, 1) := by decide +kernel
theorem dX3_copy_105 : decode cX3_copy 105 = .ok (.istore 6, 2) := by decide +kernel
theorem dX3_copy_107 : decode cX3_copy 107 = .ok (.iload 6, 2) := by decide +kernel
theorem dX3_copy_109 : decode cX3_copy 109 = .ok (.iload 5, 2) := by decide +kernel
theorem dX3_copy_111 : decode cX3_copy 111 = .ok (.if_icmp .ge 30, 3) := by decide +kernel
theorem dX3_copy_114 : decode cX3_copy 114 = .ok (.aload_n 0, 1) := by decide +kernel
theorem dX3_copy_115 : decode cX3_copy 115 = .ok (.getfield 52, 3) := by decide +kernel
theorem dX3_copy_118 : decode cX3_copy 118 = .ok (.iload 6, 2) := by decide +kernel
theorem dX3_copy_120 : decode cX3_copy 120 = .ok (.aload_n 0, 1) := by decide +kernel
theorem dX3_copy_121 : decode cX3_copy 121 = .ok (.getfield 49, 3) := by decide +kernel
theorem dX3_copy_124 : decode cX3_copy 124 = .ok (.bipush 60, 2) := by decide +kernel
theorem dX3_copy_126 : decode cX3_copy 126 = .ok (.iload_n 1, 1) := by decide +kernel
theorem dX3_copy_127 : decode cX3_copy 127 = .ok (.imul, 1) := by decide +kernel
theorem dX3_copy_128 : decode cX3_copy 128 = .ok (.iload_n 2, 1) := by decide +kernel
theorem dX3_copy_129 : decode cX3_copy 129 = .ok (.iadd, 1) := by decide +kernel
theorem dX3_copy_130 : decode cX3_copy 130 = .ok (.iload 6, 2) := by decide +kernel
theorem dX3_copy_132 : decode cX3_copy 132 = .ok (.iadd, 1) := by decide +kernel
theorem dX3_copy_133 : decode cX3_copy 133 = .ok (.iaload, 1) := by decide +kernel
theorem dX3_copy_134 : decode cX3_copy 134 = .ok (.iastore, 1) := by decide +kernel
theorem dX3_copy_135 : decode cX3_copy 135 = .ok (.iinc 6 1, 3) := by decide +kernel
theorem dX3_copy_138 : decode cX3_copy 138 = .ok (.goto (-31), 3) := by decide +kernel
theorem dX3_copy_141 : decode cX3_copy 141 = .ok (.iconst 0, 1) := by decide +kernel
theorem dX3_copy_142 : decode cX3_copy 142 = .ok (.istore 6, 2) := by decide +kernel
theorem dX3_copy_144 : decode cX3_copy 144 = .ok (.iload 6, 2) := by decide +kernel
theorem dX3_copy_146 : decode cX3_copy 146 = .ok (.iload 5, 2) := by decide +kernel
theorem dX3_copy_148 : decode cX3_copy 148 = .ok (.if_icmp .ge 31, 3) := by decide +kernel
theorem dX3_copy_151 : decode cX3_copy 151 = .ok (.aload_n 0, 1) := by decide +kernel
theorem dX3_copy_152 : decode cX3_copy 152 = .ok (.getfield 49, 3) := by decide +kernel
theorem dX3_copy_155 : decode cX3_copy 155 = .ok (.bipush 60, 2) := by decide +kernel
theorem dX3_copy_157 : decode cX3_copy 157 = .ok (.iload_n 3, 1) := by decide +kernel
theorem dX3_copy_158 : decode cX3_copy 158 = .ok (.imul, 1) := by decide +kernel
theorem dX3_copy_159 : decode cX3_copy 159 = .ok (.iload 4, 2) := by decide +kernel
theorem dX3_copy_161 : decode cX3_copy 161 = .ok (.iadd, 1) := by decide +kernel
theorem dX3_copy_162 : decode cX3_copy 162 = .ok (.iload 6, 2) := by decide +kernel
theorem dX3_copy_164 : decode cX3_copy 164 = .ok (.iadd, 1) := by decide +kernel
theorem dX3_copy_165 : decode cX3_copy 165 = .ok (.aload_n 0, 1) := by decide +kernel
theorem dX3_copy_166 : decode cX3_copy 166 = .ok (.getfield 52, 3) := by decide +kernel
theorem dX3_copy_169 : decode cX3_copy 169 = .ok (.iload 6, 2) := by decide +kernel
theorem dX3_copy_171 : decode cX3_copy 171 = .ok (.iaload, 1) := by decide +kernel
theorem dX3_copy_172 : decode cX3_copy 172 = .ok (.iastore, 1) := by decide +kernel
theorem dX3_copy_173 : decode cX3_copy 173 = .ok (.iinc 6 1, 3) := by decide +kernel
theorem dX3_copy_176 : decode cX3_copy 176 = .ok (.goto (-32), 3) := by decide +kernel
theorem dX3_copy_179 : decode cX3_copy 179 = .ok (.aload_n 0, 1) := by decide +kernel
theorem dX3_copy_180 : decode cX3_copy 180 = .ok (.iload 5, 2) := by decide +kernel
theorem dX3_copy_182 : decode cX3_copy 182 = .ok (.invokevirtual 102, 3) := by decide +kernel
theorem dX3_copy_185 : decode cX3_copy 185 = .ok (.ireturn, 1) := by decide +kernel
theorem dX3_traced_0 : decode cX3_traced 0 = .ok (.aload_n 0, 1) := by decide +kernel
theorem dX3_traced_1 : decode cX3_traced 1 = .ok (.bipush 31, 2) := by decide +kernel
theorem dX3_traced_3 : decode cX3_traced 3 = .ok (.aload_n 0, 1) := by decide +kernel
theorem dX3_traced_4 : decode cX3_traced 4 = .ok (.getfield 230, 3) := by decide +kernel
theorem dX3_traced_7 : decode cX3_traced 7 = .ok (.imul, 1) := by decide +kernel
theorem dX3_traced_8 : decode cX3_traced 8 = .ok (.iload_n 1, 1) := by decide +kernel
theorem dX3_traced_9 : decode cX3_traced 9 = .ok (.iadd, 1) := by decide +kernel
theorem dX3_traced_10 : decode cX3_traced 10 = .ok (.putfield 230, 3) := by decide +kernel
theorem dX3_traced_13 : decode cX3_traced 13 = .ok (.return_, 1) := by decide +kernel
set_option maxRecDepth 20000 in
theorem ggX3_tell_X3_noChair : GoodIn wsX3_tell wsX3_noChair := goodIn_r _ [7, 8, 9, 10, 6, 11, 17, 18, 19, 20, 21, 22, 23, 24, 25, 26, 27, 28, 29, 30, 31, 32, 33, 34, 35, 36, 37, 38, 39] (by decide +kernel) (by decide +kernel)
set_option maxRecDepth 20000 in
theorem gX3_tell_X3_noChair : GoodIn wsX3_tell (wsV RX3 129 RX3 yX3_noChair wsX3_noChair) := goodIn_app (goodIn_of _ (by decide +kernel)) ggX3_tell_X3_noChair
set_option maxRecDepth 20000 in
theorem ggX3_tell_X3_traced : GoodIn wsX3_tell wsX3_traced := goodIn_r _ [15, 16, 17, 18, 19, 20, 21, 22, 23, 24, 25, 26, 27, 28, 29, 30, 31, 32, 33, 34, 35, 36, 37, 38, 39] (by decide +kernel) (by decide +kernel)
set_option maxRecDepth 20000 in
theorem gX3_tell_X3_traced : GoodIn wsX3_tell (wsV RX3 233 RX3 yX3_traced wsX3_traced) := goodIn_app (goodIn_of _ (by decide +kernel)) ggX3_tell_X3_traced
theorem dX3_tell_0 : decode cX3_tell 0 = .ok (.aload_n 0, 1) := by decide +kernel
theorem dX3_tell_1 : decode cX3_tell 1 = .ok (.iload_n 1, 1) := by decide +kernel
theorem dX3_tell_2 : decode cX3_tell 2 = .ok (.invokevirtual 129, 3) := by decide +kernel
theorem dX3_tell_5 : decode cX3_tell 5 = .ok (.ifCond .eq 5, 3) := by decide +kernel
theorem dX3_tell_8 : decode cX3_tell 8 = .ok (.iconst (-1), 1) := by decide +kernel
theorem dX3_tell_9 : decode cX3_tell 9 = .ok (.ireturn, 1) := by decide +kernel
theorem dX3_tell_10 : decode cX3_tell 10 = .ok (.aload_n 0, 1) := by decide +kernel
theorem dX3_tell_11 : decode cX3_tell 11 = .ok (.getfield 7, 3) := by decide +kernel
theorem dX3_tell_14 : decode cX3_tell 14 = .ok (.iload_n 1, 1) := by decide +kernel
theorem dX3_tell_15 : decode cX3_tell 15 = .ok (.iaload, 1) := by decide +kernel
theorem dX3_tell_16 : decode cX3_tell 16 = .ok (.istore_n 2, 1) := by decide +kernel
theorem dX3_tell_17 : decode cX3_tell 17 = .ok (.iload_n 2, 1) := by decide +kernel
theorem dX3_tell_18 : decode cX3_tell 18 = .ok (.iconst 2, 1) := by decide +kernel
theorem dX3_tell_19 : decode cX3_tell 19 = .ok (.if_icmp .ne 8, 3) := by decide +kernel
theorem dX3_tell_22 : decode cX3_tell 22 = .ok (.aload_n 0, 1) := by decide +kernel
theorem dX3_tell_23 : decode cX3_tell 23 = .ok (.iconst 3, 1) := by decide +kernel
theorem dX3_tell_24 : decode cX3_tell 24 = .ok (.invokevirtual 233, 3) := by decide +kernel
theorem dX3_tell_27 : decode cX3_tell 27 = .ok (.iload_n 2, 1) := by decide +kernel
theorem dX3_tell_28 : decode cX3_tell 28 = .ok (.ifCond .le 8, 3) := by decide +kernel
theorem dX3_tell_31 : decode cX3_tell 31 = .ok (.aload_n 0, 1) := by decide +kernel
theorem dX3_tell_32 : decode cX3_tell 32 = .ok (.iconst 2, 1) := by decide +kernel
theorem dX3_tell_33 : decode cX3_tell 33 = .ok (.invokevirtual 233, 3) := by decide +kernel
theorem dX3_tell_36 : decode cX3_tell 36 = .ok (.aload_n 0, 1) := by decide +kernel
theorem dX3_tell_37 : decode cX3_tell 37 = .ok (.iconst 1, 1) := by decide +kernel
theorem dX3_tell_38 : decode cX3_tell 38 = .ok (.invokevirtual 233, 3) := by decide +kernel
theorem dX3_tell_41 : decode cX3_tell 41 = .ok (.iload_n 2, 1) := by decide +kernel
theorem dX3_tell_42 : decode cX3_tell 42 = .ok (.iconst 2, 1) := by decide +kernel
theorem dX3_tell_43 : decode cX3_tell 43 = .ok (.if_icmp .ne 8, 3) := by decide +kernel
theorem dX3_tell_46 : decode cX3_tell 46 = .ok (.aload_n 0, 1) := by decide +kernel
theorem dX3_tell_47 : decode cX3_tell 47 = .ok (.iconst 1, 1) := by decide +kernel
theorem dX3_tell_48 : decode cX3_tell 48 = .ok (.invokevirtual 233, 3) := by decide +kernel
theorem dX3_tell_51 : decode cX3_tell 51 = .ok (.aload_n 0, 1) := by decide +kernel
theorem dX3_tell_52 : decode cX3_tell 52 = .ok (.getfield 16, 3) := by decide +kernel
theorem dX3_tell_55 : decode cX3_tell 55 = .ok (.iload_n 1, 1) := by decide +kernel
theorem dX3_tell_56 : decode cX3_tell 56 = .ok (.iaload, 1) := by decide +kernel
theorem dX3_tell_57 : decode cX3_tell 57 = .ok (.istore_n 3, 1) := by decide +kernel
theorem dX3_tell_58 : decode cX3_tell 58 = .ok (.iload_n 2, 1) := by decide +kernel
theorem dX3_tell_59 : decode cX3_tell 59 = .ok (.ifCond .ne 7, 3) := by decide +kernel
theorem dX3_tell_62 : decode cX3_tell 62 = .ok (.iload_n 3, 1) := by decide +kernel
theorem dX3_tell_63 : decode cX3_tell 63 = .ok (.goto 21, 3) := by decide +kernel
theorem dX3_tell_66 : decode cX3_tell 66 = .ok (.iload_n 2, 1) := by decide +kernel
theorem dX3_tell_67 : decode cX3_tell 67 = .ok (.iconst 1, 1) := by decide +kernel
theorem dX3_tell_68 : decode cX3_tell 68 = .ok (.if_icmp .ne 10, 3) := by decide +kernel
theorem dX3_tell_71 : decode cX3_tell 71 = .ok (.iload_n 3, 1) := by decide +kernel
theorem dX3_tell_72 : decode cX3_tell 72 = .ok (.bipush 100, 2) := by decide +kernel
theorem dX3_tell_74 : decode cX3_tell 74 = .ok (.iadd, 1) := by decide +kernel
theorem dX3_tell_75 : decode cX3_tell 75 = .ok (.goto 9, 3) := by decide +kernel
theorem dX3_tell_78 : decode cX3_tell 78 = .ok (.iconst 2, 1) := by decide +kernel
theorem dX3_tell_79 : decode cX3_tell 79 = .ok (.iload_n 3, 1) := by decide +kernel
theorem dX3_tell_80 : decode cX3_tell 80 = .ok (.imul, 1) := by decide +kernel
theorem dX3_tell_81 : decode cX3_tell 81 = .ok (.bipush 100, 2) := by decide +kernel
theorem dX3_tell_83 : decode cX3_tell 83 = .ok (.iadd, 1) := by decide +kernel
theorem dX3_tell_84 : decode cX3_tell 84 = .ok (.ireturn, 1) := by decide +kernel
set_option maxRecDepth 20000 in
theorem ggX3_chalk_X3_noChair : GoodIn wsX3_chalk wsX3_noChair := goodIn_r _ [6, 7, 8, 9, 5, 10, 16, 17, 18, 19, 20, 21, 22, 23, 24, 25, 26, 27, 28, 29, 30, 31, 32, 33, 34, 35, 36, 37, 38] (by decide +kernel) (by decide +kernel)
set_option maxRecDepth 20000 in
theorem gX3_chalk_X3_noChair : GoodIn wsX3_chalk (wsV RX3 129 RX3 yX3_noChair wsX3_noChair) := goodIn_app (goodIn_of _ (by decide +kernel)) ggX3_chalk_X3_noChair
set_option maxRecDepth 20000 in
theorem ggX3_chalk_X3_traced : GoodIn wsX3_chalk wsX3_traced := goodIn_r _ [14, 15, 16, 17, 18, 19, 20, 21, 22, 23, 24, 25, 26, 27, 28, 29, 30, 31, 32, 33, 34, 35, 36, 37, 38] (by decide +kernel) (by decide +kernel)
set_option maxRecDepth 20000 in
theorem gX3_chalk_X3_traced : GoodIn wsX3_chalk (wsV RX3 233 RX3 yX3_traced wsX3_traced) := goodIn_app (goodIn_of _ (by decide +kernel)) ggX3_chalk_X3_traced
theorem dX3_chalk_0 : decode cX3_chalk 0 = .ok (.aload_n 0, 1) := by decide +kernel
theorem dX3_chalk_1 : decode cX3_chalk 1 = .ok (.iload_n 1, 1) := by decide +kernel
theorem dX3_chalk_2 : decode cX3_chalk 2 = .ok (.invokevirtual 129, 3) := by decide +kernel
theorem dX3_chalk_5 : decode cX3_chalk 5 = .ok (.ifCond .eq 5, 3) := by decide +kernel
theorem dX3_chalk_8 : decode cX3_chalk 8 = .ok (.iconst (-1), 1) := by decide +kernel
theorem dX3_chalk_9 : decode cX3_chalk 9 = .ok (.ireturn, 1) := by decide +kernel
theorem dX3_chalk_10 : decode cX3_chalk 10 = .ok (.aload_n 0, 1) := by decide +kernel
theorem dX3_chalk_11 : decode cX3_chalk 11 = .ok (.aload_n 0, 1) := by decide +kernel
theorem dX3_chalk_12 : decode cX3_chalk 12 = .ok (.getfield 7, 3) := by decide +kernel
theorem dX3_chalk_15 : decode cX3_chalk 15 = .ok (.iload_n 1, 1) := by decide +kernel
theorem dX3_chalk_16 : decode cX3_chalk 16 = .ok (.iaload, 1) := by decide +kernel
theorem dX3_chalk_17 : decode cX3_chalk 17 = .ok (.iconst 2, 1) := by decide +kernel
theorem dX3_chalk_18 : decode cX3_chalk 18 = .ok (.if_icmp .ne 7, 3) := by decide +kernel
theorem dX3_chalk_21 : decode cX3_chalk 21 = .ok (.iconst 5, 1) := by decide +kernel
theorem dX3_chalk_22 : decode cX3_chalk 22 = .ok (.goto 4, 3) := by decide +kernel
theorem dX3_chalk_25 : decode cX3_chalk 25 = .ok (.iconst 4, 1) := by decide +kernel
theorem dX3_chalk_26 : decode cX3_chalk 26 = .ok (.invokevirtual 233, 3) := by decide +kernel
theorem dX3_chalk_29 : decode cX3_chalk 29 = .ok (.aload_n 0, 1) := by decide +kernel
theorem dX3_chalk_30 : decode cX3_chalk 30 = .ok (.getfield 7, 3) := by decide +kernel
theorem dX3_chalk_33 : decode cX3_chalk 33 = .ok (.iload_n 1, 1) := by decide +kernel
theorem dX3_chalk_34 : decode cX3_chalk 34 = .ok (.iaload, 1) := by decide +kernel
theorem dX3_chalk_35 : decode cX3_chalk 35 = .ok (.iconst 2, 1) := by decide +kernel
theorem dX3_chalk_36 : decode cX3_chalk 36 = .ok (.if_icmp .ne 8, 3) := by decide +kernel
theorem dX3_chalk_39 : decode cX3_chalk 39 = .ok (.bipush 40, 2) := by decide +kernel
theorem dX3_chalk_41 : decode cX3_chalk 41 = .ok (.goto 4, 3) := by decide +kernel
theorem dX3_chalk_44 : decode cX3_chalk 44 = .ok (.iload_n 1, 1) := by decide +kernel
theorem dX3_chalk_45 : decode cX3_chalk 45 = .ok (.ireturn, 1) := by decide +kernel
set_option maxRecDepth 20000 in
theorem ggX3_as_X3_noChair : GoodIn wsX3_as wsX3_noChair := goodIn_r _ [7, 8, 9, 10, 6, 11, 21, 22, 23, 24, 25, 26, 27, 28, 29, 30, 31, 32, 33, 34, 35, 36, 37, 38, 39, 40, 41, 42, 43] (by decide +kernel) (by decide +kernel)
set_option maxRecDepth 20000 in
theorem gX3_as_X3_noChair : GoodIn wsX3_as (wsV RX3 129 RX3 yX3_noChair wsX3_noChair) := goodIn_app (goodIn_of _ (by decide +kernel)) ggX3_as_X3_noChair
set_option maxRecDepth 20000 in
theorem ggX3_as_X3_refused : GoodIn wsX3_as wsX3_refused := goodIn_r _ [15, 16, 21, 22, 23, 24, 25, 26, 27, 28, 29, 30, 31, 32, 33, 34, 35, 36, 37, 38, 39, 40, 41, 42, 43] (by decide +kernel) (by decide +kernel)
set_option maxRecDepth 20000 in
theorem gX3_as_X3_refused : GoodIn wsX3_as (wsV RX3 102 RX3 yX3_refused wsX3_refused) := goodIn_app (goodIn_of _ (by decide +kernel)) ggX3_as_X3_refused
set_option maxRecDepth 20000 in
theorem ggX3_as_X3_in : GoodIn wsX3_as wsX3_in := goodIn_r _ [11] (by decide +kernel) (by decide +kernel)
set_option maxRecDepth 20000 in
theorem gX3_as_X3_in : GoodIn wsX3_as (va_wsS RX3 68 yX3_in wsX3_in) := goodIn_app (goodIn_of _ (by decide +kernel)) ggX3_as_X3_in
set_option maxRecDepth 20000 in
theorem ggX3_as_X3_failed : GoodIn wsX3_as wsX3_failed := goodIn_r _ [20, 16, 21, 22, 23, 24, 25, 26, 27, 28, 29, 30, 31, 32, 33, 34, 35, 36, 37, 38, 39, 40, 41, 42, 43] (by decide +kernel) (by decide +kernel)
set_option maxRecDepth 20000 in
theorem gX3_as_X3_failed : GoodIn wsX3_as (wsV RX3 90 RX3 yX3_failed wsX3_failed) := goodIn_app (goodIn_of _ (by decide +kernel)) ggX3_as_X3_failed
theorem dX3_as_0 : decode cX3_as 0 = .ok (.aload_n 0, 1) := by decide +kernel
theorem dX3_as_1 : decode cX3_as 1 = .ok (.iload_n 1, 1) := by decide +kernel
theorem dX3_as_2 : decode cX3_as 2 = .ok (.invokevirtual 129, 3) := by decide +kernel
theorem dX3_as_5 : decode cX3_as 5 = .ok (.ifCond .eq 9, 3) := by decide +kernel
theorem dX3_as_8 : decode cX3_as 8 = .ok (.aload_n 0, 1) := by decide +kernel
theorem dX3_as_9 : decode cX3_as 9 = .ok (.iconst (-1), 1) := by decide +kernel
theorem dX3_as_10 : decode cX3_as 10 = .ok (.invokevirtual 102, 3) := by decide +kernel
theorem dX3_as_13 : decode cX3_as 13 = .ok (.ireturn, 1) := by decide +kernel
theorem dX3_as_14 : decode cX3_as 14 = .ok (.iload_n 2, 1) := by decide +kernel
theorem dX3_as_15 : decode cX3_as 15 = .ok (.i2l, 1) := by decide +kernel
theorem dX3_as_16 : decode cX3_as 16 = .ok (.lconst 0, 1) := by decide +kernel
theorem dX3_as_17 : decode cX3_as 17 = .ok (.ldc2_w 105, 3) := by decide +kernel
theorem dX3_as_20 : decode cX3_as 20 = .ok (.invokestatic 68, 3) := by decide +kernel
end
section
theorem dX3_as_23 : decode cX3_as 23 = .ok (.ifCond .ne 10, 3) := by decide +kernel
theorem dX3_as_26 : decode cX3_as 26 = .ok (.aload_n 0, 1) := by decide +kernel
theorem dX3_as_27 : decode cX3_as 27 = .ok (.bipush (-2), 2) := by decide +kernel
theorem dX3_as_29 : decode cX3_as 29 = .ok (.invokevirtual 102, 3) := by decide +kernel
theorem dX3_as_32 : decode cX3_as 32 = .ok (.ireturn, 1) := by decide +kernel
theorem dX3_as_33 : decode cX3_as 33 = .ok (.aload_n 0, 1) := by decide +kernel
theorem dX3_as_34 : decode cX3_as 34 = .ok (.getfield 7, 3) := by decide +kernel
theorem dX3_as_37 : decode cX3_as 37 = .ok (.iload_n 1, 1) := by decide +kernel
theorem dX3_as_38 : decode cX3_as 38 = .ok (.iaload, 1) := by decide +kernel
theorem dX3_as_39 : decode cX3_as 39 = .ok (.iload_n 2, 1) := by decide +kernel
theorem dX3_as_40 : decode cX3_as 40 = .ok (.if_icmp .lt 11, 3) := by decide +kernel
theorem dX3_as_43 : decode cX3_as 43 = .ok (.aload_n 0, 1) := by decide +kernel
theorem dX3_as_44 : decode cX3_as 44 = .ok (.iconst 1, 1) := by decide +kernel
theorem dX3_as_45 : decode cX3_as 45 = .ok (.invokevirtual 102, 3) := by decide +kernel
theorem dX3_as_48 : decode cX3_as 48 = .ok (.goto 8, 3) := by decide +kernel
theorem dX3_as_51 : decode cX3_as 51 = .ok (.aload_n 0, 1) := by decide +kernel
theorem dX3_as_52 : decode cX3_as 52 = .ok (.iconst 2, 1) := by decide +kernel
theorem dX3_as_53 : decode cX3_as 53 = .ok (.invokevirtual 90, 3) := by decide +kernel
theorem dX3_as_56 : decode cX3_as 56 = .ok (.ireturn, 1) := by decide +kernel
theorem dX3_trace_0 : decode cX3_trace 0 = .ok (.aload_n 0, 1) := by decide +kernel
theorem dX3_trace_1 : decode cX3_trace 1 = .ok (.getfield 230, 3) := by decide +kernel
theorem dX3_trace_4 : decode cX3_trace 4 = .ok (.ireturn, 1) := by decide +kernel
theorem dX3_fault_0 : decode cX3_fault 0 = .ok (.aload_n 0, 1) := by decide +kernel
theorem dX3_fault_1 : decode cX3_fault 1 = .ok (.getfield 57, 3) := by decide +kernel
theorem dX3_fault_4 : decode cX3_fault 4 = .ok (.ireturn, 1) := by decide +kernel
set_option maxRecDepth 20000 in
theorem ggX3_many_X3_bits : GoodIn wsX3_many wsX3_bits := goodIn_r _ [7] (by decide +kernel) (by decide +kernel)
set_option maxRecDepth 20000 in
theorem gX3_many_X3_bits : GoodIn wsX3_many (va_wsS RX3 157 yX3_bits wsX3_bits) := goodIn_app (goodIn_of _ (by decide +kernel)) ggX3_many_X3_bits
set_option maxRecDepth 20000 in
theorem ggX3_many_X3_everyChair : GoodIn wsX3_many wsX3_everyChair := goodIn_r _ [11, 1, 29, 30, 31, 32, 33, 34, 35, 36, 37, 38, 39, 40, 41, 42, 43, 44, 45, 46, 47, 48, 49, 50, 51] (by decide +kernel) (by decide +kernel)
set_option maxRecDepth 20000 in
theorem gX3_many_X3_everyChair : GoodIn wsX3_many (wsV RX3 160 RX3 yX3_everyChair wsX3_everyChair) := goodIn_app (goodIn_of _ (by decide +kernel)) ggX3_many_X3_everyChair
set_option maxRecDepth 20000 in
theorem ggX3_many_X3_votesIn : GoodIn wsX3_many wsX3_votesIn := goodIn_r _ [15, 1, 16, 17, 6, 18, 19, 20, 21, 22, 2, 23, 24, 25, 26, 27, 28, 29, 30, 31, 32, 33, 34, 35, 36, 37, 38, 39, 40, 41, 42, 43, 44, 45, 46, 47, 48, 49, 50, 51] (by decide +kernel) (by decide +kernel)
set_option maxRecDepth 20000 in
theorem gX3_many_X3_votesIn : GoodIn wsX3_many (wsV RX3 145 RX3 yX3_votesIn wsX3_votesIn) := goodIn_app (goodIn_of _ (by decide +kernel)) ggX3_many_X3_votesIn
theorem dX3_many_0 : decode cX3_many 0 = .ok (.iload_n 1, 1) := by decide +kernel
theorem dX3_many_1 : decode cX3_many 1 = .ok (.tableswitch 58 0 3 #[31, 36, 44, 53], 31) := by decide +kernel
theorem dX3_many_32 : decode cX3_many 32 = .ok (.aload_n 0, 1) := by decide +kernel
theorem dX3_many_33 : decode cX3_many 33 = .ok (.getfield 65, 3) := by decide +kernel
theorem dX3_many_36 : decode cX3_many 36 = .ok (.ireturn, 1) := by decide +kernel
theorem dX3_many_37 : decode cX3_many 37 = .ok (.aload_n 0, 1) := by decide +kernel
theorem dX3_many_38 : decode cX3_many 38 = .ok (.getfield 114, 3) := by decide +kernel
theorem dX3_many_41 : decode cX3_many 41 = .ok (.invokestatic 157, 3) := by decide +kernel
theorem dX3_many_44 : decode cX3_many 44 = .ok (.ireturn, 1) := by decide +kernel
theorem dX3_many_45 : decode cX3_many 45 = .ok (.aload_n 0, 1) := by decide +kernel
theorem dX3_many_46 : decode cX3_many 46 = .ok (.aload_n 0, 1) := by decide +kernel
theorem dX3_many_47 : decode cX3_many 47 = .ok (.invokevirtual 160, 3) := by decide +kernel
theorem dX3_many_50 : decode cX3_many 50 = .ok (.invokevirtual 145, 3) := by decide +kernel
theorem dX3_many_53 : decode cX3_many 53 = .ok (.ireturn, 1) := by decide +kernel
theorem dX3_many_54 : decode cX3_many 54 = .ok (.aload_n 0, 1) := by decide +kernel
theorem dX3_many_55 : decode cX3_many 55 = .ok (.getfield 117, 3) := by decide +kernel
theorem dX3_many_58 : decode cX3_many 58 = .ok (.ireturn, 1) := by decide +kernel
theorem dX3_many_59 : decode cX3_many 59 = .ok (.bipush (-2), 2) := by decide +kernel
theorem dX3_many_61 : decode cX3_many 61 = .ok (.ireturn, 1) := by decide +kernel
theorem dJ6_bitCount_0f7a4_0 : decode cJ6_bitCount_0f7a4 0 = .ok (.iload_n 0, 1) := by decide +kernel
theorem dJ6_bitCount_0f7a4_1 : decode cJ6_bitCount_0f7a4 1 = .ok (.iload_n 0, 1) := by decide +kernel
theorem dJ6_bitCount_0f7a4_2 : decode cJ6_bitCount_0f7a4 2 = .ok (.iconst 1, 1) := by decide +kernel
theorem dJ6_bitCount_0f7a4_3 : decode cJ6_bitCount_0f7a4 3 = .ok (.iushr, 1) := by decide +kernel
theorem dJ6_bitCount_0f7a4_4 : decode cJ6_bitCount_0f7a4 4 = .ok (.ldc_w 265, 3) := by decide +kernel
theorem dJ6_bitCount_0f7a4_7 : decode cJ6_bitCount_0f7a4 7 = .ok (.iand, 1) := by decide +kernel
theorem dJ6_bitCount_0f7a4_8 : decode cJ6_bitCount_0f7a4 8 = .ok (.isub, 1) := by decide +kernel
theorem dJ6_bitCount_0f7a4_9 : decode cJ6_bitCount_0f7a4 9 = .ok (.istore_n 0, 1) := by decide +kernel
theorem dJ6_bitCount_0f7a4_10 : decode cJ6_bitCount_0f7a4 10 = .ok (.iload_n 0, 1) := by decide +kernel
theorem dJ6_bitCount_0f7a4_11 : decode cJ6_bitCount_0f7a4 11 = .ok (.ldc_w 266, 3) := by decide +kernel
theorem dJ6_bitCount_0f7a4_14 : decode cJ6_bitCount_0f7a4 14 = .ok (.iand, 1) := by decide +kernel
theorem dJ6_bitCount_0f7a4_15 : decode cJ6_bitCount_0f7a4 15 = .ok (.iload_n 0, 1) := by decide +kernel
theorem dJ6_bitCount_0f7a4_16 : decode cJ6_bitCount_0f7a4 16 = .ok (.iconst 2, 1) := by decide +kernel
theorem dJ6_bitCount_0f7a4_17 : decode cJ6_bitCount_0f7a4 17 = .ok (.iushr, 1) := by decide +kernel
theorem dJ6_bitCount_0f7a4_18 : decode cJ6_bitCount_0f7a4 18 = .ok (.ldc_w 266, 3) := by decide +kernel
theorem dJ6_bitCount_0f7a4_21 : decode cJ6_bitCount_0f7a4 21 = .ok (.iand, 1) := by decide +kernel
theorem dJ6_bitCount_0f7a4_22 : decode cJ6_bitCount_0f7a4 22 = .ok (.iadd, 1) := by decide +kernel
theorem dJ6_bitCount_0f7a4_23 : decode cJ6_bitCount_0f7a4 23 = .ok (.istore_n 0, 1) := by decide +kernel
theorem dJ6_bitCount_0f7a4_24 : decode cJ6_bitCount_0f7a4 24 = .ok (.iload_n 0, 1) := by decide +kernel
theorem dJ6_bitCount_0f7a4_25 : decode cJ6_bitCount_0f7a4 25 = .ok (.iload_n 0, 1) := by decide +kernel
theorem dJ6_bitCount_0f7a4_26 : decode cJ6_bitCount_0f7a4 26 = .ok (.iconst 4, 1) := by decide +kernel
theorem dJ6_bitCount_0f7a4_27 : decode cJ6_bitCount_0f7a4 27 = .ok (.iushr, 1) := by decide +kernel
theorem dJ6_bitCount_0f7a4_28 : decode cJ6_bitCount_0f7a4 28 = .ok (.iadd, 1) := by decide +kernel
theorem dJ6_bitCount_0f7a4_29 : decode cJ6_bitCount_0f7a4 29 = .ok (.ldc_w 267, 3) := by decide +kernel
theorem dJ6_bitCount_0f7a4_32 : decode cJ6_bitCount_0f7a4 32 = .ok (.iand, 1) := by decide +kernel
theorem dJ6_bitCount_0f7a4_33 : decode cJ6_bitCount_0f7a4 33 = .ok (.istore_n 0, 1) := by decide +kernel
theorem dJ6_bitCount_0f7a4_34 : decode cJ6_bitCount_0f7a4 34 = .ok (.iload_n 0, 1) := by decide +kernel
theorem dJ6_bitCount_0f7a4_35 : decode cJ6_bitCount_0f7a4 35 = .ok (.iload_n 0, 1) := by decide +kernel
theorem dJ6_bitCount_0f7a4_36 : decode cJ6_bitCount_0f7a4 36 = .ok (.bipush 8, 2) := by decide +kernel
theorem dJ6_bitCount_0f7a4_38 : decode cJ6_bitCount_0f7a4 38 = .ok (.iushr, 1) := by decide +kernel
theorem dJ6_bitCount_0f7a4_39 : decode cJ6_bitCount_0f7a4 39 = .ok (.iadd, 1) := by decide +kernel
theorem dJ6_bitCount_0f7a4_40 : decode cJ6_bitCount_0f7a4 40 = .ok (.istore_n 0, 1) := by decide +kernel
theorem dJ6_bitCount_0f7a4_41 : decode cJ6_bitCount_0f7a4 41 = .ok (.iload_n 0, 1) := by decide +kernel
theorem dJ6_bitCount_0f7a4_42 : decode cJ6_bitCount_0f7a4 42 = .ok (.iload_n 0, 1) := by decide +kernel
theorem dJ6_bitCount_0f7a4_43 : decode cJ6_bitCount_0f7a4 43 = .ok (.bipush 16, 2) := by decide +kernel
theorem dJ6_bitCount_0f7a4_45 : decode cJ6_bitCount_0f7a4 45 = .ok (.iushr, 1) := by decide +kernel
theorem dJ6_bitCount_0f7a4_46 : decode cJ6_bitCount_0f7a4 46 = .ok (.iadd, 1) := by decide +kernel
theorem dJ6_bitCount_0f7a4_47 : decode cJ6_bitCount_0f7a4 47 = .ok (.istore_n 0, 1) := by decide +kernel
theorem dJ6_bitCount_0f7a4_48 : decode cJ6_bitCount_0f7a4 48 = .ok (.iload_n 0, 1) := by decide +kernel
theorem dJ6_bitCount_0f7a4_49 : decode cJ6_bitCount_0f7a4 49 = .ok (.bipush 63, 2) := by decide +kernel
theorem dJ6_bitCount_0f7a4_51 : decode cJ6_bitCount_0f7a4 51 = .ok (.iand, 1) := by decide +kernel
theorem dJ6_bitCount_0f7a4_52 : decode cJ6_bitCount_0f7a4 52 = .ok (.ireturn, 1) := by decide +kernel
theorem dJ9_min_7cf53_0 : decode cJ9_min_7cf53 0 = .ok (.iload_n 0, 1) := by decide +kernel
theorem dJ9_min_7cf53_1 : decode cJ9_min_7cf53 1 = .ok (.iload_n 1, 1) := by decide +kernel
theorem dJ9_min_7cf53_2 : decode cJ9_min_7cf53 2 = .ok (.if_icmp .gt 7, 3) := by decide +kernel
theorem dJ9_min_7cf53_5 : decode cJ9_min_7cf53 5 = .ok (.iload_n 0, 1) := by decide +kernel
theorem dJ9_min_7cf53_6 : decode cJ9_min_7cf53 6 = .ok (.goto 4, 3) := by decide +kernel
theorem dJ9_min_7cf53_9 : decode cJ9_min_7cf53 9 = .ok (.iload_n 1, 1) := by decide +kernel
theorem dJ9_min_7cf53_10 : decode cJ9_min_7cf53 10 = .ok (.ireturn, 1) := by decide +kernel
end
section
/-! ===== small words: a Bool as an int, arrays of small numbers, address lists ===== -/
def bI (b : Bool) : Int32 := match b with
  | true => 1
  | false => 0
theorem bI_0 {b : Bool} : bI b = 0 ↔ b = false := by cases b <;> simp [bI]
theorem bI_n0 {b : Bool} : ¬ bI b = 0 ↔ b = true := by cases b <;> simp [bI]
theorem bI_nar {b : Bool} : narrow .boolean (.int (bI b)) = .int (bI b) := by cases b <;> rfl
def aI (f : Nat → Nat) : Nat → Int32 := fun j => nI (f j)
def updN (f : Nat → Nat) (k v : Nat) : Nat → Nat := fun j => if j = k then v else f j
theorem upd_aI {f : Nat → Nat} {k v : Nat} : upd (aI f) k (nI v) = aI (updN f k v) := by
  funext j
  simp only [upd, aI, updN]
  split <;> rfl
theorem nI0 : nI 0 = 0 := rfl
theorem nI1 : nI 1 = 1 := rfl
/-- addresses apart -/
def nd (l : List Nat) : Prop := ∀ (i j a : Nat), l[i]? = some a → l[j]? = some a → i = j
theorem nd.sub {l l' : List Nat} (h : nd l) (is : List Nat) (hn : va_nd is = true) (hs : is.map (fun i => l[i]?) = l'.map some) : nd l' := by
  intro i j a h1 h2
  have key : ∀ (k b : Nat), l'[k]? = some b → ∃ x : Nat, is[k]? = some x ∧ l[x]? = some b := by
    intro k b hk
    have e : (is.map (fun i => l[i]?))[k]? = some (some b) := by rw [hs, List.getElem?_map, hk]; rfl
    rw [List.getElem?_map] at e
    cases hi : is[k]? with
    | none => rw [hi] at e; cases e
    | some x => rw [hi] at e; exact ⟨x, rfl, Option.some.inj e⟩
  obtain ⟨x, a1, a2⟩ := key i a h1
  obtain ⟨y, b1, b2⟩ := key j a h2
  have := h x y a a2 b2
  subst this
  exact va_nd_inj is hn i j x a1 b1
def AW (as : List Nat) : Nat → Prop := fun q => q ∈ as
theorem nd.D {w : va_W} {as : List Nat} (h : nd as) (e : w.map Prod.fst = as) : va_D (AW as) w := by
  subst e
  refine ⟨fun i j p q h1 h2 hpq => ?_, fun k q hk => ?_⟩
  · refine h i j p.1 ?_ ?_
    · rw [List.getElem?_map, h1]; rfl
    · rw [List.getElem?_map, h2, hpq]; rfl
  · exact List.mem_map.mpr ⟨q, List.mem_of_getElem? hk, rfl⟩
theorem va_D.re {A : Nat → Prop} {w w' : va_W} (h : va_D A w) (e : w'.map Prod.fst = w.map Prod.fst) : va_D A w' := by
  have key : ∀ (k : Nat) (q : Nat × va_E), w'[k]? = some q → ∃ q0, w[k]? = some q0 ∧ q0.1 = q.1 := by
    intro k q hk
    have e1 : (w'.map Prod.fst)[k]? = some q.1 := by rw [List.getElem?_map, hk]; rfl
    rw [e, List.getElem?_map] at e1
    cases hw : w[k]? with
    | none => rw [hw] at e1; cases e1
    | some q0 => rw [hw] at e1; exact ⟨q0, rfl, Option.some.inj e1⟩
  refine ⟨fun i j x y hi hj hxy => ?_, fun k q hk => ?_⟩
  · obtain ⟨x0, h1, h2⟩ := key i x hi
    obtain ⟨y0, h3, h4⟩ := key j y hj
    exact h.1 i j x0 y0 h1 h3 (h2.trans (hxy.trans h4.symm))
  · obtain ⟨q0, h1, h2⟩ := key k q hk
    rw [← h2]
    exact h.2 k q0 h1
/-- some cells of a world replaced -/
def xset : va_W → List Nat → va_W → va_W
  | ws, i :: is, x :: xs => xset (ws.set i x) is xs
  | ws, _, _ => ws
theorem xset_get : ∀ (is : List Nat) (xs ws : va_W), is.length = xs.length → ∀ (k : Nat) (q : Nat × va_E), (xset ws is xs)[k]? = some q → (∃ j : Nat, xs[j]? = some q) ∨ (k ∉ is ∧ ws[k]? = some q)
  | [], xs, ws, _, k, q, h => by
    cases xs with
    | nil => exact Or.inr ⟨List.not_mem_nil, h⟩
    | cons x xs => exact Or.inr ⟨List.not_mem_nil, h⟩
  | i :: is, [], ws, hl, k, q, h => by cases hl
  | i :: is, x :: xs, ws, hl, k, q, h => by
    have hl' : is.length = xs.length := by simpa using hl
    rcases xset_get is xs (ws.set i x) hl' k q h with ⟨j, hj⟩ | ⟨h1, h2⟩
    · exact Or.inl ⟨j + 1, by simpa using hj⟩
    · by_cases hk : k = i
      · subst hk
        rw [List.getElem?_set] at h2
        simp only [if_true] at h2
        split at h2
        · cases h2
          exact Or.inl ⟨0, rfl⟩
        · cases h2
      · rw [List.getElem?_set_ne (Ne.symm hk)] at h2
        exact Or.inr ⟨by simp [hk, h1], h2⟩
theorem xset_len : ∀ (is : List Nat) (xs ws : va_W), (xset ws is xs).length = ws.length
  | [], xs, ws => by cases xs <;> rfl
  | i :: is, [], ws => rfl
  | i :: is, x :: xs, ws => by
    show (xset (ws.set i x) is xs).length = _
    rw [xset_len is xs]; simp
theorem xset_fst : ∀ (is : List Nat) (xs ws : va_W), is.map (fun i => (ws.map Prod.fst)[i]?) = (xs.map Prod.fst).map some → (xset ws is xs).map Prod.fst = ws.map Prod.fst
  | [], xs, ws, _ => by cases xs <;> rfl
  | i :: is, [], ws, h => rfl
  | i :: is, x :: xs, ws, h => by
    simp only [List.map_cons, List.cons.injEq] at h
    have e : (ws.set i x).map Prod.fst = ws.map Prod.fst := by
      rw [List.map_set]
      apply List.ext_getElem?
      intro n
      rw [List.getElem?_set]
      split
      · subst_vars
        split
        · exact h.1.symm
        · rename_i hh
          rw [List.getElem?_eq_none (by simpa using hh)]
      · rfl
    show (xset (ws.set i x) is xs).map Prod.fst = _
    rw [xset_fst is xs (ws.set i x) (by rw [e]; exact h.2), e]
/-! ===== what is known of the machine all along: classes, arrays' classes, the two links of Row to its host ===== -/
def Gk (D : va_G) (cI cS : ClassId) (U : State) : Prop := va_K D vwCl [(cI, .int), (cS, .object "ChairBallot$Sheet")] U ∧ va_Nw (.methodLinkNest RX0 41 yX2_votesAs RX2) U ∧ va_Nw (.methodLinkNest RX0 70 yX2_isIn RX2) U
theorem Gk.warm {D : va_G} {cI cS : ClassId} {s U : State} (hW : s.WarmedH U.vm) (h : Gk D cI cS s) : Gk D cI cS U := ⟨va_K.moved hW.alike h.1, va_Nw.warmM hW h.2.1, va_Nw.warmM hW h.2.2⟩
theorem Gk.same {D : va_G} {cI cS : ClassId} {s U : State} (e : s.vm = U.vm) (h : Gk D cI cS s) : Gk D cI cS U := ⟨va_K.moved (by rw [e]; exact Vm.Alike.refl U.vm) h.1, va_Nw.same rfl e h.2.1, va_Nw.same rfl e h.2.2⟩
def PR (D : va_G) (cI cS : ClassId) (as : List Value) (w : va_W) : Array Value → State → Prop := va_Pc as (fun U => Gk D cI cS U ∧ va_P D vwCl w U.heap)
theorem PR.blind (D : va_G) (cI cS : ClassId) (as : List Value) (w : va_W) : FrameBlind (PR D cI cS as w) := fun _ U g mk h => ⟨h.1, Gk.same (U := U.calling g mk _) rfl h.2.1, h.2.2⟩
theorem PR.pre {D : va_G} {cI cS : ClassId} {as : List Value} {w : va_W} {s : State} {H : Heap} (hG : Gk D cI cS s) (hP : va_P D vwCl w H) : PreS s H (PR D cI cS as w) as := ⟨PR.blind D cI cS as w, fun U hU hW => ⟨rfl, Gk.warm hW hG, by rw [hU]; exact hP⟩⟩
theorem PR.preV {D : va_G} {cI cS : ClassId} {b : Nat} {As : List Value} {w : va_W} {s : State} {H : Heap} (hG : Gk D cI cS s) (hP : va_P D vwCl w H) {ci : Nat} {fs : List Value} {q : vw_C} (hc : vwCl[ci]? = some q) (he : w[0]? = some (b, .inr (ci, fs))) : PreV s H q.1 b (PR D cI cS (.ref b :: As) w) As := ⟨PR.blind D cI cS _ w, va_recv hG.1 hP hc he, fun U hU hW => ⟨rfl, Gk.warm hW hG, by rw [hU]; exact hP⟩⟩
/-! ===== a method's start ===== -/
theorem startR {l : Launch} {y : MethodName} {ws ws' : List Cond} {rm : Room} {D : va_G} {cI cS : ClassId} {as : List Value} {w : va_W} {Qc : Array Value → State → Outcome → State → Prop} {free : Addr → Prop} {cc : ByteArray} {maxL : Nat} {ret : Option FieldType}
    (hy : plainName y.cls = true) (hw : ws = Cond.code y cc maxL ret :: ws') (hn : (lg_sl as).length ≤ maxL)
    (body : ∀ (p : Program) (e : Env) (s : State) (m : MethodId) (below : List Frame) (meth : Method) (c : Code), p.tables.exec = Jvm.exec → c.code = cc → meth.sig.returnType = ret → (∀ w ∈ ws, w.before as.toArray s = true) → s.vm.findClass y.cls = some m.cls → meth.locks = false → c.maxLocals = maxL → Gk D cI cS s → va_P D vwCl w s.heap →
      ∀ ls : Array Slot, lv_has ls maxL (lv_args 0 as) → W p l e rm s m as.toArray below meth c s.heap [] 0 0 (MQ below Qc as.toArray s 0 0 free) (F0 m 0 ls [])) :
    Met l y ws rm (PR D cI cS as w) Qc 0 0 free := by
  refine Met.ofW (cc := cc) (maxL := maxL) (ret := ret) hy hw ?_
  intro p e s m args below meth c s₁ B hml hv
  obtain ⟨rfl, hG, hP⟩ := hv
  have hl := lv_entry as (n := maxL) hn
  rw [lg_entry_eq]
  exact body p e s m below meth c B.exec B.bytes B.returns (atoms_spec (ws := ws) B.pre) (findClass_of_methodNamed B.named) B.notSynchronized hml hG hP _ hl
theorem startM {l : Launch} {y : MethodName} {ws ws' : List Cond} {rm : Room} {D : va_G} {cI cS : ClassId} {as : List Value} {w : va_W} {Qc : Array Value → State → Outcome → State → Prop} {ad : List Nat} {cc : ByteArray} {maxL : Nat} {ret : Option FieldType}
    (hy : plainName y.cls = true) (hw : ws = Cond.code y cc maxL ret :: ws') (hn : (lg_sl as).length ≤ maxL) (hnd : nd ad) (had : w.map Prod.fst = ad)
    (body : ∀ (p : Program) (e : Env) (s : State) (m : MethodId) (below : List Frame) (meth : Method) (c : Code), p.tables.exec = Jvm.exec → c.code = cc → meth.sig.returnType = ret → (∀ w ∈ ws, w.before as.toArray s = true) → s.vm.findClass y.cls = some m.cls → meth.locks = false → c.maxLocals = maxL → Gk D cI cS s → va_P D vwCl w s.heap → va_D (AW ad) w → va_S (AW ad) s.heap s.heap [] →
      ∀ ls : Array Slot, lv_has ls maxL (lv_args 0 as) → W p l e rm s m as.toArray below meth c s.heap [] 0 0 (MQ below Qc as.toArray s 0 0 (AW ad)) (F0 m 0 ls [])) :
    Met l y ws rm (PR D cI cS as w) Qc 0 0 (AW ad) :=
  startR hy hw hn fun p e s m below meth c hx hb hr hts hown hlk hml hG hP ls hl => body p e s m below meth c hx hb hr hts hown hlk hml hG hP (hnd.D had) va_S.rf ls hl
section XL
variable {p : Program} {l : Launch} {e : Env} {R : Room} {s : State} {m : MethodId} {args : Array Value} {below : List Frame} {meth : Method} {c : Code} {H : Heap} {locs : List Loc} {cells slots : Nat} {Q : State → Prop}
variable {cc : ByteArray} {pc : Nat} {ls : Array Slot} {rest : List Value} {D : va_G} {cI cS : ClassId} {A : Nat → Prop} {a : Nat} {ws : va_W} {H0 : Heap}
/-! ===== a method's end ===== -/
theorem xretR {v v' : Int32} {free : Addr → Prop} (hx : p.tables.exec = Jvm.exec) (hb : c.code = cc) (hr : meth.sig.returnType = some .int) (hlk : meth.locks = false) (hdg : decode cc pc = .ok (.ireturn, 1)) (hv : v = v') : W p l e R s m args below meth c s.heap [] cells slots (MQ below (vp_Si (fun r => r = v')) args s cells slots free) (F0 m pc ls [.int v]) :=
  W.iret (v := v) hx hb hr (fun t ht _ => ⟨v, rfl, hv, ht⟩) (fun _ h => by cases h) hdg hlk
theorem xretRz {v v' : Int32} {free : Addr → Prop} (hx : p.tables.exec = Jvm.exec) (hb : c.code = cc) (hr : meth.sig.returnType = some .boolean) (hlk : meth.locks = false) (hdg : decode cc pc = .ok (.ireturn, 1)) (b : Bool) (hv : v = bI b) (hv' : v = v') : W p l e R s m args below meth c s.heap [] cells slots (MQ below (vp_Si (fun r => r = v')) args s cells slots free) (F0 m pc ls [.int v]) :=
  W.zret (v := v) hx hb hr (by rw [hv]; exact bI_nar) (fun t ht _ => ⟨v, rfl, hv', ht⟩) (fun _ h => by cases h) hdg hlk
theorem xretRl {v v' : Int64} {free : Addr → Prop} (hx : p.tables.exec = Jvm.exec) (hb : c.code = cc) (hr : meth.sig.returnType = some .long) (hlk : meth.locks = false) (hdg : decode cc pc = .ok (.lreturn, 1)) (hv : v = v') : W p l e R s m args below meth c s.heap [] cells slots (MQ below (vp_Sl (fun r => r = v')) args s cells slots free) (F0 m pc ls [.long v]) :=
  W.lret (v := v) hx hb hr (fun t ht _ => ⟨v, rfl, hv, ht⟩) (fun _ h => by cases h) hdg hlk
theorem xretM {S : Type} {post : Int32 → S → Prop} {B : S → State → Prop} {v : Int32} (hx : p.tables.exec = Jvm.exec) (hb : c.code = cc) (hr : meth.sig.returnType = some .int) (hlk : meth.locks = false) (hdg : decode cc pc = .ok (.ireturn, 1)) (hS : va_S A s.heap H locs) (u : S) (hp : post v u) (hB : ∀ t : State, t.heap = H → B u t) : W p l e R s m args below meth c H locs cells slots (MQ below (va_Qi post B A) args s cells slots A) (F0 m pc ls [.int v]) :=
  W.iret (v := v) hx hb hr (fun t ht _ => ⟨⟨v, u, rfl, hp, hB t ht⟩, hS.F ht⟩) hS.2.2 hdg hlk
theorem xretMz {S : Type} {post : Int32 → S → Prop} {B : S → State → Prop} {v : Int32} (hx : p.tables.exec = Jvm.exec) (hb : c.code = cc) (hr : meth.sig.returnType = some .boolean) (hlk : meth.locks = false) (hdg : decode cc pc = .ok (.ireturn, 1)) (hS : va_S A s.heap H locs) (b : Bool) (hv : v = bI b) (u : S) (hp : post v u) (hB : ∀ t : State, t.heap = H → B u t) : W p l e R s m args below meth c H locs cells slots (MQ below (va_Qi post B A) args s cells slots A) (F0 m pc ls [.int v]) :=
  W.zret (v := v) hx hb hr (by rw [hv]; exact bI_nar) (fun t ht _ => ⟨⟨v, u, rfl, hp, hB t ht⟩, hS.F ht⟩) hS.2.2 hdg hlk
theorem xretMl {S : Type} {post : Int64 → S → Prop} {B : S → State → Prop} {v : Int64} (hx : p.tables.exec = Jvm.exec) (hb : c.code = cc) (hr : meth.sig.returnType = some .long) (hlk : meth.locks = false) (hdg : decode cc pc = .ok (.lreturn, 1)) (hS : va_S A s.heap H locs) (u : S) (hp : post v u) (hB : ∀ t : State, t.heap = H → B u t) : W p l e R s m args below meth c H locs cells slots (MQ below (va_Ql post B A) args s cells slots A) (F0 m pc ls [.long v]) :=
  W.lret (v := v) hx hb hr (fun t ht _ => ⟨⟨v, u, rfl, hp, hB t ht⟩, hS.F ht⟩) hS.2.2 hdg hlk
theorem xretMv {S : Type} {post : S → Prop} {B : S → State → Prop} (hx : p.tables.exec = Jvm.exec) (hb : c.code = cc) (hr : meth.sig.returnType = none) (hlk : meth.locks = false) (hdg : decode cc pc = .ok (.return_, 1)) (hS : va_S A s.heap H locs) (u : S) (hp : post u) (hB : ∀ t : State, t.heap = H → B u t) : W p l e R s m args below meth c H locs cells slots (MQ below (va_Qv post B A) args s cells slots A) (F0 m pc ls []) :=
  W.vret hx hb hr (fun t ht _ => ⟨⟨u, rfl, hp, hB t ht⟩, hS.F ht⟩) hS.2.2 hdg hlk
/-! ===== arrays ===== -/
theorem xald (hx : p.tables.exec = Jvm.exec) (hb : c.code = cc) (hG : Gk D cI cS s) (hP : va_P D vwCl ws H) (q0 : Nat) {n : Nat} {f : Nat → Int32} (ha : ws[q0]? = some (a, .inl (cI, n, .inl f))) {i : Int32} (j : Nat) (e0 : i = nI j) (hj : j < n) (hn : n < 2 ^ 31) (hdg : decode cc pc = .ok (.iaload, 1))
    (kk : W p l e R s m args below meth c H locs cells slots Q (F0 m (pc + 1) ls (.int (f j) :: rest))) : W p l e R s m args below meth c H locs cells slots Q (F0 m pc ls (.int i :: .ref a :: rest)) := by
  subst e0
  refine va_iald hx hb hG.1 hP q0 0 ha rfl (vp_in_nI hj hn) hdg ?_
  rw [nI_clamp (Nat.lt_trans hj hn)]
  exact kk
theorem xaldN (hx : p.tables.exec = Jvm.exec) (hb : c.code = cc) (hG : Gk D cI cS s) (hP : va_P D vwCl ws H) (q0 : Nat) {n : Nat} {f : Nat → Nat} (ha : ws[q0]? = some (a, .inl (cI, n, .inl (aI f)))) {i : Int32} (j : Nat) (e0 : i = nI j) (hj : j < n) (hn : n < 2 ^ 31) (hdg : decode cc pc = .ok (.iaload, 1))
    (kk : W p l e R s m args below meth c H locs cells slots Q (F0 m (pc + 1) ls (.int (nI (f j)) :: rest))) : W p l e R s m args below meth c H locs cells slots Q (F0 m pc ls (.int i :: .ref a :: rest)) := xald hx hb hG hP q0 ha j e0 hj hn hdg kk
theorem xast (hx : p.tables.exec = Jvm.exec) (hb : c.code = cc) (hG : Gk D cI cS s) (hP : va_P D vwCl ws H) (hD : va_D A ws) (hS : va_S A H0 H locs) (q0 : Nat) {n : Nat} {f : Nat → Int32} (ha : ws[q0]? = some (a, .inl (cI, n, .inl f))) {i x : Int32} (j : Nat) (e0 : i = nI j) (hj : j < n) (hn : n < 2 ^ 31) (hdg : decode cc pc = .ok (.iastore, 1))
    (kk : ∀ (H1 : Heap) (locs1 : List Loc), va_P D vwCl (ws.set q0 (a, .inl (cI, n, .inl (upd f j x)))) H1 → va_D A (ws.set q0 (a, .inl (cI, n, .inl (upd f j x)))) → va_S A H0 H1 locs1 → W p l e R s m args below meth c H1 locs1 cells slots Q (F0 m (pc + 1) ls rest)) : W p l e R s m args below meth c H locs cells slots Q (F0 m pc ls (.int x :: .int i :: .ref a :: rest)) := by
  subst e0
  refine va_iast hx hb hG.1 hP hD hS q0 0 ha rfl (vp_in_nI hj hn) hdg ?_
  rw [nI_clamp (Nat.lt_trans hj hn)]
  exact kk
theorem xastN (hx : p.tables.exec = Jvm.exec) (hb : c.code = cc) (hG : Gk D cI cS s) (hP : va_P D vwCl ws H) (hD : va_D A ws) (hS : va_S A H0 H locs) (q0 : Nat) {n : Nat} {f : Nat → Nat} (ha : ws[q0]? = some (a, .inl (cI, n, .inl (aI f)))) {i x : Int32} (j v : Nat) (e0 : i = nI j) (e1 : x = nI v) (hj : j < n) (hn : n < 2 ^ 31) (hdg : decode cc pc = .ok (.iastore, 1))
    (kk : ∀ (H1 : Heap) (locs1 : List Loc), va_P D vwCl (ws.set q0 (a, .inl (cI, n, .inl (aI (updN f j v))))) H1 → va_D A (ws.set q0 (a, .inl (cI, n, .inl (aI (updN f j v))))) → va_S A H0 H1 locs1 → W p l e R s m args below meth c H1 locs1 cells slots Q (F0 m (pc + 1) ls rest)) : W p l e R s m args below meth c H locs cells slots Q (F0 m pc ls (.int x :: .int i :: .ref a :: rest)) := by
  subst e1
  refine xast hx hb hG hP hD hS q0 ha j e0 hj hn hdg ?_
  rw [upd_aI]
  exact kk
/-! ===== arithmetic of small numbers ===== -/
theorem xaddN (hx : p.tables.exec = Jvm.exec) (hb : c.code = cc) {x y : Nat} (hdg : decode cc pc = .ok (.iadd, 1)) (kk : W p l e R s m args below meth c H locs cells slots Q (F0 m (pc + 1) ls (.int (nI (x + y)) :: rest))) : W p l e R s m args below meth c H locs cells slots Q (F0 m pc ls (.int (nI y) :: .int (nI x) :: rest)) := by
  refine lv_iadd hx hb hdg ?_
  rw [nI_add]
  exact kk
theorem xsubN (hx : p.tables.exec = Jvm.exec) (hb : c.code = cc) {x y : Nat} (h : y ≤ x) (hdg : decode cc pc = .ok (.isub, 1)) (kk : W p l e R s m args below meth c H locs cells slots Q (F0 m (pc + 1) ls (.int (nI (x - y)) :: rest))) : W p l e R s m args below meth c H locs cells slots Q (F0 m pc ls (.int (nI y) :: .int (nI x) :: rest)) := by
  refine lv_isub hx hb hdg ?_
  rw [pk_sub h]
  exact kk
theorem xmulN (hx : p.tables.exec = Jvm.exec) (hb : c.code = cc) {x y : Nat} (hdg : decode cc pc = .ok (.imul, 1)) (kk : W p l e R s m args below meth c H locs cells slots Q (F0 m (pc + 1) ls (.int (nI (x * y)) :: rest))) : W p l e R s m args below meth c H locs cells slots Q (F0 m pc ls (.int (nI y) :: .int (nI x) :: rest)) := by
  refine lv_imul hx hb hdg ?_
  rw [pk_mul]
  exact kk
/-- a value's name changed to an equal one -/
theorem xtop {x x' : Int32} (e0 : x = x') (kk : W p l e R s m args below meth c H locs cells slots Q (F0 m pc ls (.int x' :: rest))) : W p l e R s m args below meth c H locs cells slots Q (F0 m pc ls (.int x :: rest)) := by
  subst e0; exact kk
theorem xtopl {x x' : Int64} (e0 : x = x') (kk : W p l e R s m args below meth c H locs cells slots Q (F0 m pc ls (.long x' :: rest))) : W p l e R s m args below meth c H locs cells slots Q (F0 m pc ls (.long x :: rest)) := by
  subst e0; exact kk
end XL
section XC
variable {p : Program} {l : Launch} {e : Env} {R : Room} {s : State} {m : MethodId} {args : Array Value} {below : List Frame} {meth : Method} {c : Code} {H : Heap} {locs : List Loc} {cells slots : Nat} {Q : State → Prop}
variable {cc : ByteArray} {pc : Nat} {ls : Array Slot} {rest st0 : List Value} {D : va_G} {cI cS : ClassId} {A : Nat → Prop} {a : Array Value} {ws : va_W} {H0 : Heap} {free : Addr → Prop}
/-! ===== calls of methods that only read ===== -/
theorem xrd {v : Int32} (hr : va_Run p l e R s m args below meth c H locs cells slots 0 0 (F0 m pc ls st0) rest (vp_Si (fun r => r = v) a) (fun _ => False))
    (kk : W p l e R s m args below meth c H locs cells slots Q (F0 m (pc + 3) ls (.int v :: rest))) : W p l e R s m args below meth c H locs cells slots Q (F0 m pc ls st0) := by
  intro T hT X
  obtain ⟨w, st₀, t, T', L, h0, X', hL, e1, -, ⟨r, hv, hp, hh⟩, st⟩ := hr T hT X
  cases hv
  subst hp
  obtain ⟨t2, a1, b1⟩ := kk T' (by rw [e1, hh, h0]) (Stand.forget X' (fun q h => (hL q h).elim))
  exact ⟨t2, st t2 a1, b1⟩
theorem xrdl {v : Int64} (hr : va_Run p l e R s m args below meth c H locs cells slots 0 0 (F0 m pc ls st0) rest (vp_Sl (fun r => r = v) a) (fun _ => False))
    (kk : W p l e R s m args below meth c H locs cells slots Q (F0 m (pc + 3) ls (.long v :: rest))) : W p l e R s m args below meth c H locs cells slots Q (F0 m pc ls st0) := by
  intro T hT X
  obtain ⟨w, st₀, t, T', L, h0, X', hL, e1, -, ⟨r, hv, hp, hh⟩, st⟩ := hr T hT X
  cases hv
  subst hp
  obtain ⟨t2, a1, b1⟩ := kk T' (by rw [e1, hh, h0]) (Stand.forget X' (fun q h => (hL q h).elim))
  exact ⟨t2, st t2 a1, b1⟩
/-! ===== calls of methods that write: the caller's world with the callee's cells replaced ===== -/
theorem xjoin {wc w1 : va_W} {ad : List Nat} {H1 : Heap} (hP : va_P D vwCl ws H) (hD : va_D A ws) (is : List Nat) (hC : is.map (fun i => ws[i]?) = wc.map some) (had : wc.map Prod.fst = ad) (had1 : w1.map Prod.fst = ad) (hk : ∀ q : Nat, q < H.size → ¬ AW ad q → H1[q]? = H[q]?) (hP1 : va_P D vwCl w1 H1) : va_P D vwCl (xset ws is w1) H1 ∧ va_D A (xset ws is w1) := by
  have hlen : is.length = wc.length := by simpa using congrArg List.length hC
  have hlen1 : w1.length = wc.length := by
    have := congrArg List.length (had1.trans had.symm)
    simpa using this
  have hfst : is.map (fun i => (ws.map Prod.fst)[i]?) = (w1.map Prod.fst).map some := by
    have e1 : is.map (fun i => (ws.map Prod.fst)[i]?) = (is.map (fun i => ws[i]?)).map (Option.map Prod.fst) := by
      rw [List.map_map]
      apply List.map_congr_left
      intro i _
      simp
    rw [e1, hC, had1, ← had]
    simp
  refine ⟨fun k q hq => ?_, hD.re (xset_fst is w1 ws hfst)⟩
  rcases xset_get is w1 ws (by omega) k q hq with ⟨j, hj⟩ | ⟨h1, h2⟩
  · exact hP1 j q hj
  · refine (hP k q h2).kept (hk q.1 ((hP k q h2).lt) ?_)
    intro hq1
    have hq2 : q.1 ∈ wc.map Prod.fst := by rw [had]; exact hq1
    obtain ⟨j, hj⟩ := List.getElem?_of_mem hq2
    rw [List.getElem?_map] at hj
    cases hw : wc[j]? with
    | none => rw [hw] at hj; cases hj
    | some x =>
      rw [hw] at hj
      have hx : x.1 = q.1 := Option.some.inj hj
      have e2 : (is.map (fun i => ws[i]?))[j]? = some (some x) := by rw [hC, List.getElem?_map, hw]; rfl
      rw [List.getElem?_map] at e2
      cases hi : is[j]? with
      | none => rw [hi] at e2; cases e2
      | some i =>
        rw [hi] at e2
        have e3 : ws[i]? = some x := Option.some.inj e2
        have hik := hD.1 i k x q e3 h2 hx
        subst hik
        exact h1 (List.mem_of_getElem? hi)
theorem adIn {wc : va_W} {ad : List Nat} (hD : va_D A ws) (is : List Nat) (hC : is.map (fun i => ws[i]?) = wc.map some) (had : wc.map Prod.fst = ad) : ∀ q, AW ad q → A q := by
  intro q hq
  have hq2 : q ∈ wc.map Prod.fst := by rw [had]; exact hq
  obtain ⟨j, hj⟩ := List.getElem?_of_mem hq2
  rw [List.getElem?_map] at hj
  cases hw : wc[j]? with
  | none => rw [hw] at hj; cases hj
  | some x =>
    rw [hw] at hj
    have hx : x.1 = q := Option.some.inj hj
    have e2 : (is.map (fun i => ws[i]?))[j]? = some (some x) := by rw [hC, List.getElem?_map, hw]; rfl
    rw [List.getElem?_map] at e2
    cases hi : is[j]? with
    | none => rw [hi] at e2; cases e2
    | some i =>
      rw [hi] at e2
      rw [← hx]
      exact hD.2 i x (Option.some.inj e2)
theorem xmu {S : Type} {post : Int32 → S → Prop} {wc : va_W} {w1 : S → va_W} {ad : List Nat} (hr : va_Run p l e R s m args below meth c H locs cells slots 0 0 (F0 m pc ls st0) rest (va_Qi post (fun u t => va_P D vwCl (w1 u) t.heap) (AW ad) a) (AW ad)) (hP : va_P D vwCl ws H) (hD : va_D A ws) (hS : va_S A H0 H locs) (is : List Nat) (hC : is.map (fun i => ws[i]?) = wc.map some) (had : wc.map Prod.fst = ad) (had1 : ∀ u, (w1 u).map Prod.fst = ad)
    (kk : ∀ (r : Int32) (u : S) (H1 : Heap) (locs1 : List Loc), post r u → va_P D vwCl (xset ws is (w1 u)) H1 → va_D A (xset ws is (w1 u)) → va_S A H0 H1 locs1 → W p l e R s m args below meth c H1 locs1 cells slots Q (F0 m (pc + 3) ls (.int r :: rest))) : W p l e R s m args below meth c H locs cells slots Q (F0 m pc ls st0) := by
  have hA := adIn hD is hC had
  refine va_calli hr hS (fun q _ h => hA q h) hA (fun r u t H1 locs1 ht hvm hw hB hz hk hS1 => ?_)
  have hB' : va_P D vwCl (w1 u) H1 := by rw [← ht]; exact hB
  obtain ⟨g1, g2⟩ := xjoin hP hD is hC had (had1 u) hk hB'
  exact kk r u H1 locs1 hw g1 g2 hS1
theorem xmul {S : Type} {post : Int64 → S → Prop} {wc : va_W} {w1 : S → va_W} {ad : List Nat} (hr : va_Run p l e R s m args below meth c H locs cells slots 0 0 (F0 m pc ls st0) rest (va_Ql post (fun u t => va_P D vwCl (w1 u) t.heap) (AW ad) a) (AW ad)) (hP : va_P D vwCl ws H) (hD : va_D A ws) (hS : va_S A H0 H locs) (is : List Nat) (hC : is.map (fun i => ws[i]?) = wc.map some) (had : wc.map Prod.fst = ad) (had1 : ∀ u, (w1 u).map Prod.fst = ad)
    (kk : ∀ (r : Int64) (u : S) (H1 : Heap) (locs1 : List Loc), post r u → va_P D vwCl (xset ws is (w1 u)) H1 → va_D A (xset ws is (w1 u)) → va_S A H0 H1 locs1 → W p l e R s m args below meth c H1 locs1 cells slots Q (F0 m (pc + 3) ls (.long r :: rest))) : W p l e R s m args below meth c H locs cells slots Q (F0 m pc ls st0) := by
  have hA := adIn hD is hC had
  refine va_calll hr hS (fun q _ h => hA q h) hA (fun r u t H1 locs1 ht hvm hw hB hz hk hS1 => ?_)
  have hB' : va_P D vwCl (w1 u) H1 := by rw [← ht]; exact hB
  obtain ⟨g1, g2⟩ := xjoin hP hD is hC had (had1 u) hk hB'
  exact kk r u H1 locs1 hw g1 g2 hS1
theorem xmuv {S : Type} {post : S → Prop} {wc : va_W} {w1 : S → va_W} {ad : List Nat} (hr : va_Run p l e R s m args below meth c H locs cells slots 0 0 (F0 m pc ls st0) rest (va_Qv post (fun u t => va_P D vwCl (w1 u) t.heap) (AW ad) a) (AW ad)) (hP : va_P D vwCl ws H) (hD : va_D A ws) (hS : va_S A H0 H locs) (is : List Nat) (hC : is.map (fun i => ws[i]?) = wc.map some) (had : wc.map Prod.fst = ad) (had1 : ∀ u, (w1 u).map Prod.fst = ad)
    (kk : ∀ (u : S) (H1 : Heap) (locs1 : List Loc), post u → va_P D vwCl (xset ws is (w1 u)) H1 → va_D A (xset ws is (w1 u)) → va_S A H0 H1 locs1 → W p l e R s m args below meth c H1 locs1 cells slots Q (F0 m (pc + 3) ls rest)) : W p l e R s m args below meth c H locs cells slots Q (F0 m pc ls st0) := by
  have hA := adIn hD is hC had
  refine va_callv hr hS (fun q _ h => hA q h) hA (fun u t H1 locs1 ht hvm hw hB hz hk hS1 => ?_)
  have hB' : va_P D vwCl (w1 u) H1 := by rw [← ht]; exact hB
  obtain ⟨g1, g2⟩ := xjoin hP hD is hC had (had1 u) hk hB'
  exact kk u H1 locs1 hw g1 g2 hS1
end XC
/-- an array's function matters within its length alone -/
theorem va_at_fun {D : va_G} {cl : List vw_C} {q : Nat} {cA : ClassId} {n : Nat} {f g : Nat → Int32} {H : Heap} (h : ∀ j, j < n → f j = g j) (hP : va_at D cl (q, .inl (cA, n, .inl f)) H) : va_at D cl (q, .inl (cA, n, .inl g)) H := by
  have e : vp_cell cA (n, .inl f) = vp_cell cA (n, .inl g) := by
    rw [vp_cell_i, vp_cell_i]
    unfold arrV
    congr 1
    apply Array.ext
    · simp
    · intro i h1 h2
      have hi : i < n := by simpa using h1
      simp [h i hi]
  show H[q]? = _
  rw [← e]
  exact hP
theorem va_P.fn {D : va_G} {cl : List vw_C} {ws : va_W} {H : Heap} (hP : va_P D cl ws H) (k : Nat) {q : Nat} {cA : ClassId} {n : Nat} {f g : Nat → Int32} (hk : ws[k]? = some (q, .inl (cA, n, .inl f))) (h : ∀ j, j < n → f j = g j) : va_P D cl (ws.set k (q, .inl (cA, n, .inl g))) H := by
  intro i x hx
  by_cases hik : k = i
  · subst hik
    rw [List.getElem?_set] at hx
    simp only [if_true] at hx
    split at hx
    · cases hx
      exact va_at_fun h (hP k _ hk)
    · cases hx
  · rw [List.getElem?_set_ne hik] at hx
    exact hP i x hx
section XD
variable {p : Program} {l : Launch} {e : Env} {R : Room} {s : State} {m : MethodId} {args : Array Value} {below : List Frame} {meth : Method} {c : Code} {H : Heap} {locs : List Loc} {cells slots : Nat} {Q : State → Prop}
variable {cc : ByteArray} {pc : Nat} {ls : Array Slot} {rest : List Value}
theorem xdivN {x y : Nat} (h1 : x < 2 ^ 31) (h2 : 0 < y) (h3 : y < 2 ^ 31) (hx : p.tables.exec = Jvm.exec) (hb : c.code = cc) (hdg : decode cc pc = .ok (.idiv, 1)) (kk : W p l e R s m args below meth c H locs cells slots Q (F0 m (pc + 1) ls (.int (nI (x / y)) :: rest))) : W p l e R s m args below meth c H locs cells slots Q (F0 m pc ls (.int (nI y) :: .int (nI x) :: rest)) := by
  refine lv_idiv hx hb hdg (nI_ne0 h2 h3) ?_
  rw [pk_div h1 h2 h3]
  exact kk
theorem xremN {x y : Nat} (h1 : x < 2 ^ 31) (h2 : 0 < y) (h3 : y < 2 ^ 31) (hx : p.tables.exec = Jvm.exec) (hb : c.code = cc) (hdg : decode cc pc = .ok (.irem, 1)) (kk : W p l e R s m args below meth c H locs cells slots Q (F0 m (pc + 1) ls (.int (nI (x % y)) :: rest))) : W p l e R s m args below meth c H locs cells slots Q (F0 m pc ls (.int (nI y) :: .int (nI x) :: rest)) := by
  refine lv_irem hx hb hdg (nI_ne0 h2 h3) ?_
  first
    | (rw [pk_rem h1 h2 h3]; exact kk)
    | exact (pk_rem h1 h2 h3) ▸ kk
end XD
section XCP
variable {p : Program} {l : Launch} {e : Env} {R : Room} {s : State} {m : MethodId} {args : Array Value} {below : List Frame} {meth : Method} {c : Code} {H : Heap} {locs : List Loc} {cells slots : Nat} {Q : State → Prop}
variable {cc : ByteArray} {pc : Nat} {ls : Array Slot} {rest : List Value} {D : va_G} {cI cS : ClassId} {A : Nat → Prop} {a : Nat} {ws : va_W} {H0 : Heap}
/-- System.arraycopy of ints, at small places -/
theorem xcopy (hx : p.tables.exec = Jvm.exec) (hb : c.code = cc) (hml : c.maxLocals = ls.size) {own : String} {index : Nat} (hown : s.vm.findClass own = some m.cls) (hlink : (Cond.methodLink own index arraycopyName).before args s = true) (hnat : (Cond.native arraycopyName).before args s = true) (hstat : (Cond.static arraycopyName).before args s = true) (hini : (Cond.initialized "java/lang/System").before args s = true)
    (hG : Gk D cI cS s) (hP : va_P D vwCl ws H) (hD : va_D A ws) (hS : va_S A H0 H locs) (q0 q1 : Nat) {a0 n0 n1 : Nat} {f g : Nat → Int32} (ha0 : ws[q0]? = some (a0, .inl (cI, n0, .inl f))) (ha1 : ws[q1]? = some (a, .inl (cI, n1, .inl g))) (i j k : Nat) {sp dp n : Int32} (e1 : sp = nI i) (e2 : dp = nI j) (e3 : n = nI k) (h1 : i + k ≤ n0) (h2 : j + k ≤ n1) (h3 : n0 < 1000) (h4 : n1 < 1000)
    (hframes : 1 ≤ R.frames) (hlocals : (rest.map fun v => v.category).sum + 18 ≤ R.locals) (hdg : decode cc pc = .ok (.invokestatic index, 3))
    (kk : ∀ (H1 : Heap) (locs1 : List Loc), va_P D vwCl (ws.set q1 (a, .inl (cI, n1, .inl (va_cpy f g i j k)))) H1 → va_D A (ws.set q1 (a, .inl (cI, n1, .inl (va_cpy f g i j k)))) → va_S A H0 H1 locs1 → W p l e R s m args below meth c H1 locs1 cells slots Q (F0 m (pc + 3) ls rest)) : W p l e R s m args below meth c H locs cells slots Q (F0 m pc ls (.int n :: .int dp :: .ref a :: .int sp :: .ref a0 :: rest)) := by
  subst e1; subst e2; subst e3
  have b1 : (nI i).toNatClampNeg = i := nI_clamp (by omega)
  have b2 : (nI j).toNatClampNeg = j := nI_clamp (by omega)
  have b3 : (nI k).toNatClampNeg = k := nI_clamp (by omega)
  refine va_copyi hx hb hml hown hlink hnat hstat hini hG.1 hP hD hS q0 q1 0 0 ha0 ha1 rfl rfl rfl (nI_pos (by omega)) (nI_pos (by omega)) (nI_pos (by omega)) (by rw [b1, b3]; exact h1) (by rw [b2, b3]; exact h2) (fun _ _ => rfl) hframes hlocals hdg ?_
  rw [b1, b2, b3]
  exact kk
/-- a whole array copied to one of the same length -/
theorem xcopyA {N : Nat} (hx : p.tables.exec = Jvm.exec) (hb : c.code = cc) (hml : c.maxLocals = ls.size) {own : String} {index : Nat} (hown : s.vm.findClass own = some m.cls) (hlink : (Cond.methodLink own index arraycopyName).before args s = true) (hnat : (Cond.native arraycopyName).before args s = true) (hstat : (Cond.static arraycopyName).before args s = true) (hini : (Cond.initialized "java/lang/System").before args s = true)
    (hG : Gk D cI cS s) (hP : va_P D vwCl ws H) (hD : va_D A ws) (hS : va_S A H0 H locs) (q0 q1 : Nat) {a0 : Nat} {f g : Nat → Int32} (ha0 : ws[q0]? = some (a0, .inl (cI, N, .inl f))) (ha1 : ws[q1]? = some (a, .inl (cI, N, .inl g))) (hN : N < 1000)
    (hframes : 1 ≤ R.frames) (hlocals : (rest.map fun v => v.category).sum + 18 ≤ R.locals) (hdg : decode cc pc = .ok (.invokestatic index, 3))
    (kk : ∀ (H1 : Heap) (locs1 : List Loc), va_P D vwCl (ws.set q1 (a, .inl (cI, N, .inl f))) H1 → va_D A (ws.set q1 (a, .inl (cI, N, .inl f))) → va_S A H0 H1 locs1 → W p l e R s m args below meth c H1 locs1 cells slots Q (F0 m (pc + 3) ls rest)) : W p l e R s m args below meth c H locs cells slots Q (F0 m pc ls (.int (nI N) :: .int (nI 0) :: .ref a :: .int (nI 0) :: .ref a0 :: rest)) := by
  refine xcopy hx hb hml hown hlink hnat hstat hini hG hP hD hS q0 q1 ha0 ha1 0 0 N rfl rfl rfl (by omega) (by omega) hN hN hframes hlocals hdg (fun H1 locs1 hP1 hD1 hS1 => ?_)
  have hl : q1 < ws.length := (List.getElem?_eq_some_iff.mp ha1).1
  have hk : (ws.set q1 (a, .inl (cI, N, .inl (va_cpy f g 0 0 N))))[q1]? = some (a, .inl (cI, N, .inl (va_cpy f g 0 0 N))) := List.getElem?_set_self hl
  have hP2 := hP1.fn q1 (g := f) hk (fun j hj => by rw [pk_cpy_in (Nat.zero_le _) (by omega)]; congr 1; omega)
  rw [List.set_set] at hP2
  exact kk H1 locs1 hP2 (hD1.re (by rw [List.map_set, List.map_set])) hS1
end XCP
end
section
/-! ===== the worlds: a Row, a Sheet ===== -/
def wRow (cI : ClassId) (q a0 a1 a2 a3 n fo : Nat) (ki st we lo : Nat → Nat) : va_W := [(q, .inr (0, [.ref a0, .ref a1, .ref a2, .ref a3, .int (nI n), .int (nI fo)])), (a0, .inl (cI, 8, .inl (aI ki))), (a1, .inl (cI, 8, .inl (aI st))), (a2, .inl (cI, 8, .inl (aI we))), (a3, .inl (cI, 8, .inl (aI lo)))]
def wSheet (cI : ClassId) (q a : Nat) (h : Bool) (la le : Nat) (f : Nat → Int32) : va_W := [(q, .inr (1, [.ref a, .int (bI h), .int (nI la), .int (nI le)])), (a, .inl (cI, 60, .inl f))]
def wRow2 (cI : ClassId) (q a0 a1 a2 a3 n fo : Nat) (ki st we lo : Nat → Nat) (r b0 b1 b2 b3 n2 go : Nat) (kj sj wj lj : Nat → Nat) : va_W := wRow cI q a0 a1 a2 a3 n fo ki st we lo ++ wRow cI r b0 b1 b2 b3 n2 go kj sj wj lj
end
section
/-! ===== the words of the claim's own state: pure functions over small numbers ===== -/
/-- there is a chair of that number -/
def hasB (n : Nat) (k : Int32) : Bool := decide (0 ≤ k.toInt ∧ k.toInt < (n : Int))
theorem hasB_y {n : Nat} {k : Int32} (hn : n ≤ 8) (h1 : ¬ k < 0) (h2 : ¬ nI n ≤ k) : nI 1 = bI (hasB n k) := by
  rw [Int32.lt_iff_toInt_lt, Int32.toInt_zero] at h1
  rw [Int32.le_iff_toInt_le, nI_toInt (by omega)] at h2
  have : hasB n k = true := by simp only [hasB, decide_eq_true_eq]; omega
  rw [this]; rfl
theorem hasB_n1 {n : Nat} {k : Int32} (h1 : k < 0) : nI 0 = bI (hasB n k) := by
  rw [Int32.lt_iff_toInt_lt, Int32.toInt_zero] at h1
  have : hasB n k = false := by simp only [hasB, decide_eq_false_iff_not]; omega
  rw [this]; rfl
theorem hasB_n2 {n : Nat} {k : Int32} (hn : n ≤ 8) (h2 : nI n ≤ k) : nI 0 = bI (hasB n k) := by
  rw [Int32.le_iff_toInt_le, nI_toInt (by omega)] at h2
  have : hasB n k = false := by simp only [hasB, decide_eq_false_iff_not]; omega
  rw [this]; rfl
theorem hasB_nI {n j : Nat} (hj : j < 2 ^ 31) : hasB n (nI j) = decide (j < n) := by
  unfold hasB
  rw [nI_toInt hj]
  congr 1
  simp
theorem hasB_m1 {n : Nat} : hasB n (-1) = false := by
  unfold hasB
  have : (-1 : Int32).toInt = -1 := by decide
  rw [this]; simp
theorem nI_ofT {k : Int32} (h : 0 ≤ k.toInt) : k = nI k.toInt.toNat := by
  have h2 : k.toInt < 2 ^ 31 := by have := Int32.toInt_lt k; simpa using this
  apply Int32.toInt_inj.mp
  rw [nI_toInt (by omega)]
  omega
theorem hasB_t {n : Nat} {k : Int32} (h : hasB n k = true) : ∃ j, j < n ∧ k = nI j := by
  simp only [hasB, decide_eq_true_eq] at h
  exact ⟨k.toInt.toNat, by omega, nI_ofT h.1⟩
/-- votes of a kind and a weight -/
def vtA (k w : Nat) : Nat := if k = 0 then w else if k = 1 then w + 1 else (w + 1) / 2
/-- votes of a chair -/
def voN (fo : Nat) (ki we : Nat → Nat) (j : Nat) : Nat := if fo.testBit j then 0 else vtA (ki j) (we j)
/-- chairs j and j + 1 meet -/
def mtB (n fo : Nat) (lo : Nat → Nat) (j : Nat) : Bool := decide (j + 1 < n) && (!fo.testBit j && (!fo.testBit (j + 1) && (decide (lo j = 1) && decide (lo (j + 1) = 3))))
/-- how a chair counts -/
def sdN (n fo : Nat) (st lo : Nat → Nat) (j : Nat) : Nat :=
  if fo.testBit j then 0
  else if mtB n fo lo j then (if st j = st (j + 1) then 1 else 2)
  else if decide (0 < j) && mtB n fo lo (j - 1) then (if st j = st (j - 1) then 1 else 2)
  else if lo j = 0 then 1 else if lo j = 2 then 2 else 0
def sumN (g : Nat → Nat) : Nat → Nat
  | 0 => 0
  | k + 1 => sumN g k + g k
def setN (p : Nat → Bool) : Nat → Nat
  | 0 => 0
  | k + 1 => setN p k ||| (if p k then 2 ^ k else 0)
theorem sumN_le {g : Nat → Nat} {b : Nat} (h : ∀ j, g j ≤ b) : ∀ n, sumN g n ≤ b * n
  | 0 => Nat.le_refl _
  | n + 1 => by
    have h1 := sumN_le h n
    have h2 := h n
    show sumN g n + g n ≤ b * (n + 1)
    rw [Nat.mul_succ]; omega
theorem sumN_congr {f g : Nat → Nat} : ∀ {n : Nat}, (∀ j, j < n → f j = g j) → sumN f n = sumN g n
  | 0, _ => rfl
  | n + 1, h => by
    show sumN f n + f n = sumN g n + g n
    rw [sumN_congr (fun j hj => h j (by omega)), h n (by omega)]
theorem setN_lt (p : Nat → Bool) : ∀ n, setN p n < 2 ^ n
  | 0 => by simp [setN]
  | n + 1 => by
    have h := setN_lt p n
    have e : 2 ^ n < 2 ^ (n + 1) := Nat.pow_lt_pow_right (by decide) (by omega)
    refine Nat.or_lt_two_pow (by omega) ?_
    split
    · exact e
    · exact Nat.two_pow_pos _
theorem setN_bit (p : Nat → Bool) : ∀ (n j : Nat), (setN p n).testBit j = (decide (j < n) && p j)
  | 0, j => by simp [setN]
  | n + 1, j => by
    show (setN p n ||| _).testBit j = _
    rw [Nat.testBit_or, setN_bit p n j]
    by_cases hp : p n = true
    · rw [if_pos hp, Nat.testBit_two_pow]
      by_cases hj : j = n
      · subst hj; simp [hp]
      · have h1 : decide (n = j) = false := decide_eq_false (fun h => hj h.symm)
        have h2 : decide (j < n + 1) = decide (j < n) := by congr 1; apply propext; omega
        rw [h1, h2, Bool.or_false]
    · rw [if_neg hp, Nat.zero_testBit, Bool.or_false]
      by_cases hj : j = n
      · subst hj; simp [hp]
      · have h2 : decide (j < n + 1) = decide (j < n) := by congr 1; apply propext; omega
        rw [h2]
/-! ints as bits: sets of at most some thirty bits -/
theorem nI_or (a b : Nat) : nI a ||| nI b = nI (a ||| b) := by
  apply Int32.toBitVec_inj.1
  show BitVec.ofNat 32 a ||| BitVec.ofNat 32 b = BitVec.ofNat 32 (a ||| b)
  apply BitVec.eq_of_getLsbD_eq
  intro i hi
  simp [hi]
theorem nI_and (a b : Nat) : nI a &&& nI b = nI (a &&& b) := by
  apply Int32.toBitVec_inj.1
  show BitVec.ofNat 32 a &&& BitVec.ofNat 32 b = BitVec.ofNat 32 (a &&& b)
  apply BitVec.eq_of_getLsbD_eq
  intro i hi
  simp [hi]
theorem nI_xor (a b : Nat) : nI a ^^^ nI b = nI (a ^^^ b) := by
  apply Int32.toBitVec_inj.1
  show BitVec.ofNat 32 a ^^^ BitVec.ofNat 32 b = BitVec.ofNat 32 (a ^^^ b)
  apply BitVec.eq_of_getLsbD_eq
  intro i hi
  simp [hi]
theorem shl1 : ∀ k, k < 31 → nI 1 <<< (nI k &&& 31) = nI (2 ^ k) := by decide +kernel
theorem bit_nI : ∀ a, a < 256 → ∀ k, k < 8 → (nI a >>> (nI k &&& 31)) &&& nI 1 = nI (if a.testBit k then 1 else 0) := by decide +kernel
/-! rows of the walk over them -/
theorem xinc1 {i : Nat} : nI i + Int32.ofInt 1 = nI (i + 1) := nI_1 i
theorem xinc2 {i : Nat} : nI i + Int32.ofInt 2 = nI (i + 2) := by rw [← nI_add]; rfl
theorem xinc6 {i : Nat} : nI i + Int32.ofInt 6 = nI (i + 6) := by rw [← nI_add]; rfl
theorem xdec {i : Nat} : nI (i + 1) + Int32.ofInt (-1) = nI i := pk_m1 i
theorem bI_fit {b : Bool} : fits .boolean (.int (bI b)) = true := by cases b <;> rfl
theorem bit_b : ∀ a, a < 256 → ∀ k, k < 8 → (nI a >>> (nI k &&& 31)) &&& nI 1 = bI (a.testBit k) := by decide +kernel
theorem clr_bit : ∀ a, a < 256 → ∀ k, k < 8 → a.testBit k = true → nI a &&& (nI (2 ^ k) ^^^ (-1)) = nI (a ^^^ 2 ^ k) := by decide +kernel
theorem pk_m1s (n : Nat) : nI (n + 1) - nI 1 = nI n := nI_pred n
theorem mtB_lt {n fo : Nat} {lo : Nat → Nat} {j : Nat} (h : mtB n fo lo j = true) : j + 1 < n := by
  simp only [mtB, Bool.and_eq_true, decide_eq_true_eq] at h
  exact h.1
theorem sdN_le (n fo : Nat) (st lo : Nat → Nat) (j : Nat) : sdN n fo st lo j ≤ 2 := by
  unfold sdN
  repeat' split
  all_goals omega
theorem voN_le {fo : Nat} {ki we : Nat → Nat} (hwe : ∀ j, we j ≤ 9) (j : Nat) : voN fo ki we j ≤ 10 := by
  have h := hwe j
  unfold voN vtA
  repeat' split
  all_goals omega
/-! sums with a sign -/
def zI (z : Int) : Int32 := Int32.ofInt z
theorem zI_nat (n : Nat) : zI (n : Int) = nI n := rfl
theorem zI_0 : zI 0 = nI 0 := rfl
theorem zI_add (a b : Int) : zI a + zI b = zI (a + b) := by
  apply Int32.toBitVec_inj.1
  show BitVec.ofInt 32 a + BitVec.ofInt 32 b = BitVec.ofInt 32 (a + b)
  rw [BitVec.ofInt_add]
theorem zI_neg (n : Nat) : zI (-(n : Int)) = -nI n := by
  apply Int32.toBitVec_inj.1
  show BitVec.ofInt 32 (-(n : Int)) = -BitVec.ofInt 32 (n : Int)
  rw [BitVec.ofInt_neg]
theorem zI_toInt {z : Int} (h1 : -2147483648 ≤ z) (h2 : z < 2147483648) : (zI z).toInt = z := by
  show (Int32.ofInt z).toInt = z
  rw [Int32.toInt_ofInt, Int.bmod_eq_of_le (by show -(4294967296 / 2 : Int) ≤ z; omega) (by show z < ((4294967296 : Int) + 1) / 2; omega)]
def sumZ (g : Nat → Int) : Nat → Int
  | 0 => 0
  | k + 1 => sumZ g k + g k
theorem sumZ_le {g : Nat → Int} {b : Int} (h : ∀ j, g j ≤ b) : ∀ n : Nat, sumZ g n ≤ b * n
  | 0 => by simp [sumZ]
  | n + 1 => by
    have h1 := sumZ_le h n
    have h2 := h n
    show sumZ g n + g n ≤ b * ((n + 1 : Nat) : Int)
    have e : b * ((n + 1 : Nat) : Int) = b * n + b := by rw [Int.natCast_add, Int.mul_add]; simp
    omega
theorem sumZ_ge {g : Nat → Int} {b : Int} (h : ∀ j, b ≤ g j) : ∀ n : Nat, b * n ≤ sumZ g n
  | 0 => by simp [sumZ]
  | n + 1 => by
    have h1 := sumZ_ge h n
    have h2 := h n
    show b * ((n + 1 : Nat) : Int) ≤ sumZ g n + g n
    have e : b * ((n + 1 : Nat) : Int) = b * n + b := by rw [Int.natCast_add, Int.mul_add]; simp
    omega
/-- by how much a chair helps -/
def tiN (n fo : Nat) (ki st we lo : Nat → Nat) (j : Nat) : Int :=
  if sdN n fo st lo j = 1 then (voN fo ki we j : Int) else if sdN n fo st lo j = 2 then -(voN fo ki we j : Int) else 0
theorem tiN_b {n fo : Nat} {ki st we lo : Nat → Nat} (hwe : ∀ j, we j ≤ 9) (j : Nat) : -10 ≤ tiN n fo ki st we lo j ∧ tiN n fo ki st we lo j ≤ 10 := by
  have h := voN_le (fo := fo) (ki := ki) hwe j
  unfold tiN
  split
  · omega
  · split <;> omega
theorem tiN_sum {n fo : Nat} {ki st we lo : Nat → Nat} (hwe : ∀ j, we j ≤ 9) {m : Nat} (hm : m ≤ 8) : -80 ≤ sumZ (tiN n fo ki st we lo) m ∧ sumZ (tiN n fo ki st we lo) m ≤ 80 := by
  have h1 := sumZ_le (fun j => (tiN_b (n := n) (fo := fo) (ki := ki) (st := st) (lo := lo) hwe j).2) m
  have h2 := sumZ_ge (fun j => (tiN_b (n := n) (fo := fo) (ki := ki) (st := st) (lo := lo) hwe j).1) m
  omega
theorem carX_1 {n fo : Nat} {ki st we lo : Nat → Nat} (_ : ∀ j, ki j ≤ 2) (hwe : ∀ j, we j ≤ 9) (hn : n ≤ 8) (h : ¬ zI (sumZ (tiN n fo ki st we lo) n) ≤ 0) : nI 1 = bI (decide (0 < sumZ (tiN n fo ki st we lo) n)) := by
  obtain ⟨h1, h2⟩ := tiN_sum (n := n) (fo := fo) (ki := ki) (st := st) (lo := lo) hwe hn
  rw [Int32.le_iff_toInt_le, zI_toInt (by omega) (by omega), Int32.toInt_zero] at h
  rw [decide_eq_true (by omega)]; rfl
theorem carX_0 {n fo : Nat} {ki st we lo : Nat → Nat} (_ : ∀ j, ki j ≤ 2) (hwe : ∀ j, we j ≤ 9) (hn : n ≤ 8) (h : zI (sumZ (tiN n fo ki st we lo) n) ≤ 0) : nI 0 = bI (decide (0 < sumZ (tiN n fo ki st we lo) n)) := by
  obtain ⟨h1, h2⟩ := tiN_sum (n := n) (fo := fo) (ki := ki) (st := st) (lo := lo) hwe hn
  rw [Int32.le_iff_toInt_le, zI_toInt (by omega) (by omega), Int32.toInt_zero] at h
  rw [decide_eq_false (by omega)]; rfl
/-- votes in a set of chairs; of stripes -/
def viN (set fo : Nat) (ki we : Nat → Nat) (j : Nat) : Nat := if set.testBit j then voN fo ki we j else 0
def vsN (set : Nat) (st : Nat → Nat) (fo : Nat) (ki we : Nat → Nat) (j : Nat) : Nat := if set.testBit (st j) then voN fo ki we j else 0
/-- votes of a side -/
def vfN (n fo : Nat) (ki st we lo : Nat → Nat) (s1 : Nat) : Nat := sumN (fun j => if sdN n fo st lo j = s1 then voN fo ki we j else 0) n
theorem setN_256 {p : Nat → Bool} {n : Nat} (hn : n ≤ 8) : setN p n < 256 := Nat.lt_of_lt_of_le (setN_lt p n) (show 2 ^ n ≤ 2 ^ 8 from Nat.pow_le_pow_right (by decide) hn)
theorem vf_eq {n fo : Nat} {ki st we lo : Nat → Nat} {s1 : Nat} : sumN (viN (setN (fun j => decide (sdN n fo st lo j = s1)) n) fo ki we) n = vfN n fo ki st we lo s1 := by
  apply sumN_congr
  intro j hj
  unfold viN
  rw [setN_bit]
  simp [hj]
/-! what writes -/
def trn (fo : Nat) (lo : Nat → Nat) (j w : Nat) : Nat → Nat := if fo.testBit j then lo else updN lo j w
def opn (fo j : Nat) : Nat := if fo.testBit j then fo ^^^ 2 ^ j else fo
def blwL (n fo : Nat) (we lo : Nat → Nat) (w v : Nat) : Nat → Nat := fun j => if decide (j < n) && (!fo.testBit j && decide (we j < v)) then w else lo j
def blwC (fo : Nat) (we lo : Nat → Nat) (w v : Nat) (j : Nat) : Nat := if !fo.testBit j && (decide (we j < v) && !decide (lo j = w)) then 1 else 0
theorem blwL_0 {fo : Nat} {we lo : Nat → Nat} {w v : Nat} : blwL 0 fo we lo w v = lo := by
  funext j; simp [blwL]
theorem blwL_n {fo : Nat} {we lo : Nat → Nat} {w v i : Nat} (h : (!fo.testBit i && decide (we i < v)) = false ∨ lo i = w) : blwL i fo we lo w v = blwL (i + 1) fo we lo w v := by
  funext j
  unfold blwL
  by_cases hj : j = i
  · subst hj
    rcases h with h | h
    · rw [h]; simp
    · simp only [Nat.lt_irrefl, decide_false, Bool.false_and]
      split
      · simp_all
      · simp [h]
  · have e : decide (j < i + 1) = decide (j < i) := by congr 1; apply propext; omega
    rw [e]
theorem blwL_a {fo : Nat} {we lo : Nat → Nat} {w v i : Nat} (h : fo.testBit i = true) : blwL i fo we lo w v = blwL (i + 1) fo we lo w v := blwL_n (Or.inl (by simp [h]))
theorem blwL_b {fo : Nat} {we lo : Nat → Nat} {w v i : Nat} (h : v ≤ we i) : blwL i fo we lo w v = blwL (i + 1) fo we lo w v := blwL_n (Or.inl (by simp; intro _; exact h))
theorem blwL_c {fo : Nat} {we lo : Nat → Nat} {w v i : Nat} (h : lo i = w) : blwL i fo we lo w v = blwL (i + 1) fo we lo w v := blwL_n (Or.inr h)
theorem blwL_s {fo : Nat} {we lo : Nat → Nat} {w v i : Nat} (h1 : fo.testBit i = false) (h2 : ¬ v ≤ we i) : updN (blwL i fo we lo w v) i w = blwL (i + 1) fo we lo w v := by
  funext j
  unfold blwL updN
  by_cases hj : j = i
  · subst hj
    have h3 : we j < v := by omega
    simp [h1, h3]
  · have e : decide (j < i + 1) = decide (j < i) := by congr 1; apply propext; omega
    rw [e, if_neg hj]
def popN (a : Nat) : Nat := sumN (fun j => if a.testBit j then 1 else 0) 8
def bc1 (x : Int32) : Int32 := x - (((x.toUInt32 >>> ((nI 1).toUInt32 &&& Int32.toUInt32 31)).toInt32) &&& (1431655765))
def bc2 (x : Int32) : Int32 := (x &&& (858993459)) + (((x.toUInt32 >>> ((nI 2).toUInt32 &&& Int32.toUInt32 31)).toInt32) &&& (858993459))
def bc3 (x : Int32) : Int32 := (x + (x.toUInt32 >>> ((nI 4).toUInt32 &&& Int32.toUInt32 31)).toInt32) &&& (252645135)
def bc4 (x : Int32) : Int32 := x + (x.toUInt32 >>> ((nI 8).toUInt32 &&& Int32.toUInt32 31)).toInt32
def bc5 (x : Int32) : Int32 := x + (x.toUInt32 >>> ((nI 16).toUInt32 &&& Int32.toUInt32 31)).toInt32
theorem bc_pop : ∀ a, a < 256 → (bc5 (bc4 (bc3 (bc2 (bc1 (nI a)))))) &&& nI 63 = nI (popN a) := by decide +kernel
/-- an act of a day can be told -/
def actOk (n a b : Nat) : Prop := (b < 4 ∨ b = 9 → a < n) ∧ (4 ≤ b → b < 8 → a ≤ 10)
def actB (fo a b : Nat) : Bool := if b = 9 then fo.testBit a else if b < 4 then !fo.testBit a else true
def actF (n fo a b : Nat) : Nat := if b = 9 then opn fo a else if b = 8 then 2 ^ n - 1 else fo
def actL (n fo : Nat) (we lo : Nat → Nat) (a b : Nat) : Nat → Nat := if b = 9 then lo else if b = 8 then lo else if b < 4 then trn fo lo a b else blwL n fo we lo (b - 4) a
/-! sheets -/
def fltN (h : Bool) (la w : Nat) : Nat := if h = false then 1 else if la = w then 0 else 2
def hldB (le : Nat) (i k : Int32) : Bool := decide (0 ≤ i.toInt ∧ i.toInt ≤ (le : Int) ∧ 0 ≤ k.toInt ∧ k.toInt ≤ (le : Int) - i.toInt)
theorem i32_ge {i : Int32} (h : ¬ i < 0) : 0 ≤ i.toInt := by
  rw [Int32.lt_iff_toInt_lt, Int32.toInt_zero] at h
  omega
theorem i32_lt0 {i : Int32} (h : i < 0) : i.toInt < 0 := by
  rw [Int32.lt_iff_toInt_lt, Int32.toInt_zero] at h
  exact h
theorem i32_sub {le : Nat} {i : Int32} (hle : le ≤ 60) (h1 : 0 ≤ i.toInt) (h2 : i.toInt ≤ (le : Int)) : (nI le - i).toInt = (le : Int) - i.toInt := by
  rw [nI_ofT h1, pk_sub_toInt (by omega) (by omega), nI_toInt (by omega)]
theorem hldB_1 {le : Nat} {i k : Int32} (h : i < 0) : nI 0 = bI (hldB le i k) := by
  have h := i32_lt0 h
  rw [show hldB le i k = false from by simp only [hldB, decide_eq_false_iff_not]; omega]; rfl
theorem hldB_2 {le : Nat} {i k : Int32} (hle : le ≤ 60) (h : nI le < i) : nI 0 = bI (hldB le i k) := by
  rw [Int32.lt_iff_toInt_lt, nI_toInt (by omega)] at h
  rw [show hldB le i k = false from by simp only [hldB, decide_eq_false_iff_not]; omega]; rfl
theorem hldB_3 {le : Nat} {i k : Int32} (h : k < 0) : nI 0 = bI (hldB le i k) := by
  have h := i32_lt0 h
  rw [show hldB le i k = false from by simp only [hldB, decide_eq_false_iff_not]; omega]; rfl
theorem hldB_4 {le : Nat} {i k : Int32} (hle : le ≤ 60) (h1 : ¬ i < 0) (h2 : ¬ nI le < i) (h : nI le - i < k) : nI 0 = bI (hldB le i k) := by
  have h1 := i32_ge h1
  rw [Int32.lt_iff_toInt_lt, nI_toInt (by omega)] at h2
  rw [Int32.lt_iff_toInt_lt, i32_sub hle h1 (by omega)] at h
  rw [show hldB le i k = false from by simp only [hldB, decide_eq_false_iff_not]; omega]; rfl
theorem hldB_y {le : Nat} {i k : Int32} (hle : le ≤ 60) (h1 : ¬ i < 0) (h2 : ¬ nI le < i) (h3 : ¬ k < 0) (h : ¬ nI le - i < k) : nI 1 = bI (hldB le i k) := by
  have h1 := i32_ge h1
  have h3 := i32_ge h3
  rw [Int32.lt_iff_toInt_lt, nI_toInt (by omega)] at h2
  rw [Int32.lt_iff_toInt_lt, i32_sub hle h1 (by omega)] at h
  rw [show hldB le i k = true from by simp only [hldB, decide_eq_true_eq]; omega]; rfl
theorem hldB_at {le : Nat} {i : Int32} (h : hldB le i (nI 1) = true) : ∃ j, j < le ∧ i = nI j := by
  simp only [hldB, decide_eq_true_eq] at h
  have e : (nI 1).toInt = 1 := by decide
  rw [e] at h
  exact ⟨i.toInt.toNat, by omega, nI_ofT h.1⟩
theorem hldB_1j {le j : Nat} (hj : j < le) (hle : le ≤ 60) : hldB le (nI j) (nI 1) = true := by
  simp only [hldB, decide_eq_true_eq]
  have e : (nI 1).toInt = 1 := by decide
  rw [e, nI_toInt (by omega)]
  omega
def atF (le : Nat) (f : Nat → Int32) (i : Int32) : Int32 := if hldB le i (nI 1) then f i.toNatClampNeg else 0
theorem atF_y {le j : Nat} {f : Nat → Int32} (hj : j < le) (hle : le ≤ 60) : atF le f (nI j) = f j := by
  unfold atF
  rw [if_pos (hldB_1j hj hle), nI_clamp (by omega)]
theorem atF_n {le : Nat} {f : Nat → Int32} {i : Int32} (h : hldB le i (nI 1) = false) : atF le f i = nI 0 := by
  unfold atF
  rw [h]; rfl
def cutF (la : Nat) (v : Int32) : Int32 := if la = 0 then v.toInt8.toInt32 else if la = 1 then v.toInt16.toInt32 else v
def clrF (k : Nat) (f : Nat → Int32) : Nat → Int32 := fun j => if j < k then nI 0 else f j
theorem clrF_0 (f : Nat → Int32) : clrF 0 f = f := by funext j; simp [clrF]
theorem clrF_s (f : Nat → Int32) (i : Nat) : upd (clrF i f) i (nI 0) = clrF (i + 1) f := by
  funext j
  unfold upd clrF
  by_cases h : j = i
  · subst h; simp
  · have : (j < i + 1) = (j < i) := by apply propext; omega
    rw [if_neg h]; simp only [this]
theorem min60 {k : Nat} (h : k ≤ 60) : (if nI 60 < nI k then nI 60 else nI k) = nI k := by
  rw [if_neg (nI_nlt h (by omega))]
end
section
theorem hD_J6_bitCount_0f7a4 : yJ6_bitCount_0f7a4.cls ≠ "java/lang/invoke/MethodHandle" ∧ yJ6_bitCount_0f7a4.cls ≠ "java/lang/invoke/VarHandle" ∧ (parseMethodDescriptor yJ6_bitCount_0f7a4.desc).map (fun d => d.parameters.length) = some 1 := by decide +kernel
theorem hV_X0_blown : yX0_blown.cls = RX0 ∧ yX0_blown.cls ≠ "java/lang/invoke/MethodHandle" ∧ yX0_blown.cls ≠ "java/lang/invoke/VarHandle" ∧ (parseMethodDescriptor yX0_blown.desc).map (fun d => d.parameters.length) = some 2 := by decide +kernel
theorem hV_X0_chairsOf : yX0_chairsOf.cls = RX0 ∧ yX0_chairsOf.cls ≠ "java/lang/invoke/MethodHandle" ∧ yX0_chairsOf.cls ≠ "java/lang/invoke/VarHandle" ∧ (parseMethodDescriptor yX0_chairsOf.desc).map (fun d => d.parameters.length) = some 1 := by decide +kernel
theorem hV_X0_foldedByRain : yX0_foldedByRain.cls = RX0 ∧ yX0_foldedByRain.cls ≠ "java/lang/invoke/MethodHandle" ∧ yX0_foldedByRain.cls ≠ "java/lang/invoke/VarHandle" ∧ (parseMethodDescriptor yX0_foldedByRain.desc).map (fun d => d.parameters.length) = some 0 := by decide +kernel
theorem hV_X0_has : yX0_has.cls = RX0 ∧ yX0_has.cls ≠ "java/lang/invoke/MethodHandle" ∧ yX0_has.cls ≠ "java/lang/invoke/VarHandle" ∧ (parseMethodDescriptor yX0_has.desc).map (fun d => d.parameters.length) = some 1 := by decide +kernel
theorem hV_X0_isFolded : yX0_isFolded.cls = RX0 ∧ yX0_isFolded.cls ≠ "java/lang/invoke/MethodHandle" ∧ yX0_isFolded.cls ≠ "java/lang/invoke/VarHandle" ∧ (parseMethodDescriptor yX0_isFolded.desc).map (fun d => d.parameters.length) = some 1 := by decide +kernel
theorem hV_X0_meetsNext : yX0_meetsNext.cls = RX0 ∧ yX0_meetsNext.cls ≠ "java/lang/invoke/MethodHandle" ∧ yX0_meetsNext.cls ≠ "java/lang/invoke/VarHandle" ∧ (parseMethodDescriptor yX0_meetsNext.desc).map (fun d => d.parameters.length) = some 1 := by decide +kernel
theorem hV_X0_opened : yX0_opened.cls = RX0 ∧ yX0_opened.cls ≠ "java/lang/invoke/MethodHandle" ∧ yX0_opened.cls ≠ "java/lang/invoke/VarHandle" ∧ (parseMethodDescriptor yX0_opened.desc).map (fun d => d.parameters.length) = some 1 := by decide +kernel
theorem hV_X0_side : yX0_side.cls = RX0 ∧ yX0_side.cls ≠ "java/lang/invoke/MethodHandle" ∧ yX0_side.cls ≠ "java/lang/invoke/VarHandle" ∧ (parseMethodDescriptor yX0_side.desc).map (fun d => d.parameters.length) = some 1 := by decide +kernel
theorem hV_X0_tilt : yX0_tilt.cls = RX0 ∧ yX0_tilt.cls ≠ "java/lang/invoke/MethodHandle" ∧ yX0_tilt.cls ≠ "java/lang/invoke/VarHandle" ∧ (parseMethodDescriptor yX0_tilt.desc).map (fun d => d.parameters.length) = some 1 := by decide +kernel
theorem hV_X0_turned : yX0_turned.cls = RX0 ∧ yX0_turned.cls ≠ "java/lang/invoke/MethodHandle" ∧ yX0_turned.cls ≠ "java/lang/invoke/VarHandle" ∧ (parseMethodDescriptor yX0_turned.desc).map (fun d => d.parameters.length) = some 2 := by decide +kernel
theorem hV_X0_votes : yX0_votes.cls = RX0 ∧ yX0_votes.cls ≠ "java/lang/invoke/MethodHandle" ∧ yX0_votes.cls ≠ "java/lang/invoke/VarHandle" ∧ (parseMethodDescriptor yX0_votes.desc).map (fun d => d.parameters.length) = some 1 := by decide +kernel
theorem hV_X0_votesIn : yX0_votesIn.cls = RX0 ∧ yX0_votesIn.cls ≠ "java/lang/invoke/MethodHandle" ∧ yX0_votesIn.cls ≠ "java/lang/invoke/VarHandle" ∧ (parseMethodDescriptor yX0_votesIn.desc).map (fun d => d.parameters.length) = some 1 := by decide +kernel
theorem hV_X0_votesWhenOpen : yX0_votesWhenOpen.cls = RX0 ∧ yX0_votesWhenOpen.cls ≠ "java/lang/invoke/MethodHandle" ∧ yX0_votesWhenOpen.cls ≠ "java/lang/invoke/VarHandle" ∧ (parseMethodDescriptor yX0_votesWhenOpen.desc).map (fun d => d.parameters.length) = some 1 := by decide +kernel
theorem hD_X2_isIn : yX2_isIn.cls ≠ "java/lang/invoke/MethodHandle" ∧ yX2_isIn.cls ≠ "java/lang/invoke/VarHandle" ∧ (parseMethodDescriptor yX2_isIn.desc).map (fun d => d.parameters.length) = some 2 := by decide +kernel
theorem hD_X2_votesAs : yX2_votesAs.cls ≠ "java/lang/invoke/MethodHandle" ∧ yX2_votesAs.cls ≠ "java/lang/invoke/VarHandle" ∧ (parseMethodDescriptor yX2_votesAs.desc).map (fun d => d.parameters.length) = some 2 := by decide +kernel
set_option maxHeartbeats 4000000 in
set_option maxRecDepth 100000 in
theorem c_X2_isIn (l : Launch) (D : va_G) (cI cS : ClassId) (a : Nat) (k : Nat) (ha : a < 256) (hk : k < 8) : Met l yX2_isIn wsX2_isIn ({ frames := 0, cells := 0, slots := 0, locals := 0 }) (PR D cI cS [.int (nI a), .int (nI k)] []) (vp_Si (fun r => r = bI (a.testBit k))) 0 0 (fun _ => False) := by
  refine startR (by decide) rfl (Nat.le_of_ble_eq_true rfl) ?_
  intro p e s m below meth c hx hb hr hts hown hlk hml hG hP ls hl
  have hl : lv_has ls 2 [(0, .int (nI a)), (1, .int (nI k))] := hl
  have hF : CallFix p m c cX2_isIn 2 s _ wsX2_isIn RX2 := ⟨hx, hb, hml, hown, hts⟩
  refine lv_iload_n hx hb dX2_isIn_0 rfl (lv_at hl 0 rfl) ?_
  refine lv_iload_n hx hb dX2_isIn_1 rfl (lv_at hl 1 rfl) ?_
  refine lv_ishr hx hb dX2_isIn_2 ?_
  refine lv_iconst (v := nI 1) hx hb dX2_isIn_3 (by decide) ?_
  refine lv_iand hx hb dX2_isIn_4 ?_
  refine xtop (x' := bI (a.testBit k)) (by exact bit_b a ha k hk) ?_
  refine lv_if_eq (tgt := 12) hx hb dX2_isIn_5 (by decide) (fun c_5 => ?_) (fun c_5 => ?_)
  ·
    replace c_5 := bI_0.mp c_5
    refine lv_iconst (v := nI 0) hx hb dX2_isIn_12 (by decide) ?_
    exact xretRz hx hb hr hlk dX2_isIn_13 (false) rfl (by rw [c_5]; rfl)
  ·
    replace c_5 := bI_n0.mp c_5
    refine lv_iconst (v := nI 1) hx hb dX2_isIn_8 (by decide) ?_
    refine lv_goto (tgt := 13) hx hb dX2_isIn_9 (by decide) ?_
    exact xretRz hx hb hr hlk dX2_isIn_13 (true) rfl (by rw [c_5]; rfl)

set_option maxHeartbeats 4000000 in
set_option maxRecDepth 100000 in
theorem c_X2_votesAs (l : Launch) (D : va_G) (cI cS : ClassId) (k : Nat) (w : Nat) (hk : k < 1000) (hw : w < 1000) : Met l yX2_votesAs wsX2_votesAs ({ frames := 0, cells := 0, slots := 0, locals := 0 }) (PR D cI cS [.int (nI k), .int (nI w)] []) (vp_Si (fun r => r = nI (vtA k w))) 0 0 (fun _ => False) := by
  refine startR (by decide) rfl (Nat.le_of_ble_eq_true rfl) ?_
  intro p e s m below meth c hx hb hr hts hown hlk hml hG hP ls hl
  have hl : lv_has ls 2 [(0, .int (nI k)), (1, .int (nI w))] := hl
  have hF : CallFix p m c cX2_votesAs 2 s _ wsX2_votesAs RX2 := ⟨hx, hb, hml, hown, hts⟩
  refine lv_iload_n hx hb dX2_votesAs_0 rfl (lv_at hl 0 rfl) ?_
  by_cases c_1_0 : k = 0
  ·
    refine lv_lookup (off := 27) (tgt := 28) hx hb dX2_votesAs_1 (by decide) (by rw [c_1_0]; decide) (by decide) ?_
    refine lv_iload_n hx hb dX2_votesAs_28 rfl (lv_at hl 1 rfl) ?_
    exact xretR hx hb hr hlk dX2_votesAs_29 (by simp [vtA, c_1_0])
  by_cases c_1_1 : k = 1
  ·
    refine lv_lookup (off := 29) (tgt := 30) hx hb dX2_votesAs_1 (by decide) (by rw [c_1_1]; decide) (by decide) ?_
    refine lv_iload_n hx hb dX2_votesAs_30 rfl (lv_at hl 1 rfl) ?_
    refine lv_iconst (v := nI 1) hx hb dX2_votesAs_31 (by decide) ?_
    refine xaddN hx hb dX2_votesAs_32 ?_
    exact xretR hx hb hr hlk dX2_votesAs_33 (by simp [vtA, c_1_1])
  refine lv_lookup (off := 33) (tgt := 34) hx hb dX2_votesAs_1 (by decide) (by rw [nI_toInt (by omega)]; simp only [Op.lookupswitch.offset_cons, Op.lookupswitch.offset_nil]; rw [if_neg (by omega)]; rw [if_neg (by omega)]) (by decide) ?_
  refine lv_iload_n hx hb dX2_votesAs_34 rfl (lv_at hl 1 rfl) ?_
  refine lv_iconst (v := nI 1) hx hb dX2_votesAs_35 (by decide) ?_
  refine xaddN hx hb dX2_votesAs_36 ?_
  refine lv_iconst (v := nI 2) hx hb dX2_votesAs_37 (by decide) ?_
  refine xdivN (x := w + 1) (y := 2) (by omega) (by omega) (by omega) hx hb dX2_votesAs_38 ?_
  exact xretR hx hb hr hlk dX2_votesAs_39 (by simp [vtA, c_1_0, c_1_1])

set_option maxHeartbeats 4000000 in
set_option maxRecDepth 100000 in
theorem c_X0_has (l : Launch) (D : va_G) (cI cS : ClassId) (q : Nat) (a0 : Nat) (a1 : Nat) (a2 : Nat) (a3 : Nat) (n : Nat) (fo : Nat) (ki : Nat → Nat) (st : Nat → Nat) (we : Nat → Nat) (lo : Nat → Nat) (k : Int32) (hn : n ≤ 8) : Met l yX0_has wsX0_has ({ frames := 0, cells := 0, slots := 0, locals := 0 }) (PR D cI cS [.ref q, .int k] (wRow cI q a0 a1 a2 a3 n fo ki st we lo)) (vp_Si (fun r => r = bI (hasB n k))) 0 0 (fun _ => False) := by
  refine startR (by decide) rfl (Nat.le_of_ble_eq_true rfl) ?_
  intro p e s m below meth c hx hb hr hts hown hlk hml hG hP ls hl
  have hl : lv_has ls 2 [(0, .ref q), (1, .int k)] := hl
  have f24 := hts (.fieldLink RX0 24 "ChairBallot$Row" "count" "I") (by decide +kernel)
  have yX0 : ∀ w ∈ u_ws RX0 TX0 6, w.before _ s = true := fun w h => hts w ((by decide +kernel : ∀ w ∈ wsX00, w ∈ wsX0_has) w h)
  have hF : CallFix p m c cX0_has 2 s _ wsX0_has RX0 := ⟨hx, hb, hml, hown, hts⟩
  refine lv_iload_n hx hb dX0_has_0 rfl (lv_at hl 1 rfl) ?_
  refine lv_if_lt (tgt := 16) hx hb dX0_has_1 (by decide) (fun c_1 => ?_) (fun c_1 => ?_)
  ·
    refine lv_iconst (v := nI 0) hx hb dX0_has_16 (by decide) ?_
    exact xretRz hx hb hr hlk dX0_has_17 (false) rfl (by first | exact hasB_y hn c_1 c_9 | exact hasB_n1 c_1 | exact hasB_n2 hn c_9)
  ·
    refine lv_iload_n hx hb dX0_has_4 rfl (lv_at hl 1 rfl) ?_
    refine lv_aload_n hx hb dX0_has_5 rfl (lv_at hl 0 rfl) ?_
    refine va_get (D := D) (ci := 0) (v := .int (nI n)) (C := RX0) (T := TX0) (N := 6) hx hb yX0 (fun _ h => h) hown hG.1 hP 0 rfl rfl 4 (by decide) f24 (fun _ h => h) rfl dX0_has_6 ?_
    refine lv_icmp_ge (tgt := 16) hx hb dX0_has_9 (by decide) (fun c_9 => ?_) (fun c_9 => ?_)
    ·
      refine lv_iconst (v := nI 0) hx hb dX0_has_16 (by decide) ?_
      exact xretRz hx hb hr hlk dX0_has_17 (false) rfl (by first | exact hasB_y hn c_1 c_9 | exact hasB_n1 c_1 | exact hasB_n2 hn c_9)
    ·
      refine lv_iconst (v := nI 1) hx hb dX0_has_12 (by decide) ?_
      refine lv_goto (tgt := 17) hx hb dX0_has_13 (by decide) ?_
      exact xretRz hx hb hr hlk dX0_has_17 (true) rfl (by first | exact hasB_y hn c_1 c_9 | exact hasB_n1 c_1 | exact hasB_n2 hn c_9)

set_option maxHeartbeats 4000000 in
set_option maxRecDepth 100000 in
theorem c_X0_hasN (l : Launch) (D : va_G) (cI cS : ClassId) (q : Nat) (a0 : Nat) (a1 : Nat) (a2 : Nat) (a3 : Nat) (n : Nat) (fo : Nat) (ki : Nat → Nat) (st : Nat → Nat) (we : Nat → Nat) (lo : Nat → Nat) (j : Nat) (hn : n ≤ 8) (hj : j < 2 ^ 31) : Met l yX0_has wsX0_has ({ frames := 0, cells := 0, slots := 0, locals := 0 }) (PR D cI cS [.ref q, .int (nI j)] (wRow cI q a0 a1 a2 a3 n fo ki st we lo)) (vp_Si (fun r => r = bI (decide (j < n)))) 0 0 (fun _ => False) := by
  have h := c_X0_has l D cI cS q a0 a1 a2 a3 n fo ki st we lo (nI j) hn
  rw [hasB_nI hj] at h
  exact h

set_option maxHeartbeats 4000000 in
set_option maxRecDepth 100000 in
theorem c_X0_isFolded (l : Launch) (D : va_G) (cI cS : ClassId) (q : Nat) (a0 : Nat) (a1 : Nat) (a2 : Nat) (a3 : Nat) (n : Nat) (fo : Nat) (ki : Nat → Nat) (st : Nat → Nat) (we : Nat → Nat) (lo : Nat → Nat) (j : Nat) (hfo : fo < 256) (hj : j < 8) : Met l yX0_isFolded wsX0_isFolded ({ frames := 0, cells := 0, slots := 0, locals := 0 }) (PR D cI cS [.ref q, .int (nI j)] (wRow cI q a0 a1 a2 a3 n fo ki st we lo)) (vp_Si (fun r => r = bI (fo.testBit j))) 0 0 (fun _ => False) := by
  refine startR (by decide) rfl (Nat.le_of_ble_eq_true rfl) ?_
  intro p e s m below meth c hx hb hr hts hown hlk hml hG hP ls hl
  have hl : lv_has ls 2 [(0, .ref q), (1, .int (nI j))] := hl
  have f28 := hts (.fieldLink RX0 28 "ChairBallot$Row" "folded" "I") (by decide +kernel)
  have yX0 : ∀ w ∈ u_ws RX0 TX0 6, w.before _ s = true := fun w h => hts w ((by decide +kernel : ∀ w ∈ wsX00, w ∈ wsX0_isFolded) w h)
  have hF : CallFix p m c cX0_isFolded 2 s _ wsX0_isFolded RX0 := ⟨hx, hb, hml, hown, hts⟩
  refine lv_aload_n hx hb dX0_isFolded_0 rfl (lv_at hl 0 rfl) ?_
  refine va_get (D := D) (ci := 0) (v := .int (nI fo)) (C := RX0) (T := TX0) (N := 6) hx hb yX0 (fun _ h => h) hown hG.1 hP 0 rfl rfl 5 (by decide) f28 (fun _ h => h) rfl dX0_isFolded_1 ?_
  refine lv_iload_n hx hb dX0_isFolded_4 rfl (lv_at hl 1 rfl) ?_
  refine lv_ishr hx hb dX0_isFolded_5 ?_
  refine lv_iconst (v := nI 1) hx hb dX0_isFolded_6 (by decide) ?_
  refine lv_iand hx hb dX0_isFolded_7 ?_
  refine xtop (x' := bI (fo.testBit j)) (by exact bit_b fo hfo j hj) ?_
  refine lv_if_eq (tgt := 15) hx hb dX0_isFolded_8 (by decide) (fun c_8 => ?_) (fun c_8 => ?_)
  ·
    replace c_8 := bI_0.mp c_8
    refine lv_iconst (v := nI 0) hx hb dX0_isFolded_15 (by decide) ?_
    exact xretRz hx hb hr hlk dX0_isFolded_16 (false) rfl (by rw [c_8]; rfl)
  ·
    replace c_8 := bI_n0.mp c_8
    refine lv_iconst (v := nI 1) hx hb dX0_isFolded_11 (by decide) ?_
    refine lv_goto (tgt := 16) hx hb dX0_isFolded_12 (by decide) ?_
    exact xretRz hx hb hr hlk dX0_isFolded_16 (true) rfl (by rw [c_8]; rfl)

set_option maxHeartbeats 4000000 in
set_option maxRecDepth 100000 in
theorem c_X0_votesWhenOpen (l : Launch) (D : va_G) (cI cS : ClassId) (q : Nat) (a0 : Nat) (a1 : Nat) (a2 : Nat) (a3 : Nat) (n : Nat) (fo : Nat) (ki : Nat → Nat) (st : Nat → Nat) (we : Nat → Nat) (lo : Nat → Nat) (j : Nat) (hn : n ≤ 8) (hj : j < n) (hki : ∀ j, ki j ≤ 2) (hwe : ∀ j, we j ≤ 9) : Met l yX0_votesWhenOpen wsX0_votesWhenOpen ({ frames := 1, cells := 0, slots := 0, locals := 21 }) (PR D cI cS [.ref q, .int (nI j)] (wRow cI q a0 a1 a2 a3 n fo ki st we lo)) (vp_Si (fun r => r = nI (vtA (ki j) (we j)))) 0 0 (fun _ => False) := by
  refine startR (by decide) rfl (Nat.le_of_ble_eq_true rfl) ?_
  intro p e s m below meth c hx hb hr hts hown hlk hml hG hP ls hl
  have hl : lv_has ls 2 [(0, .ref q), (1, .int (nI j))] := hl
  have f9 := hts (.fieldLink RX0 9 "ChairBallot$Row" "kind" "[I") (by decide +kernel)
  have f18 := hts (.fieldLink RX0 18 "ChairBallot$Row" "weight" "[I") (by decide +kernel)
  have yX0 : ∀ w ∈ u_ws RX0 TX0 6, w.before _ s = true := fun w h => hts w ((by decide +kernel : ∀ w ∈ wsX00, w ∈ wsX0_votesWhenOpen) w h)
  have hF : CallFix p m c cX0_votesWhenOpen 2 s _ wsX0_votesWhenOpen RX0 := ⟨hx, hb, hml, hown, hts⟩
  have hkj := hki j
  have hwj := hwe j
  refine lv_aload_n hx hb dX0_votesWhenOpen_0 rfl (lv_at hl 0 rfl) ?_
  refine lv_iload_n hx hb dX0_votesWhenOpen_1 rfl (lv_at hl 1 rfl) ?_
  refine xrd (va_runV (As := [.int (nI j)]) (rest := []) hF (c_X0_hasN l D cI cS q a0 a1 a2 a3 n fo ki st we lo j (by first | assumption | omega) (by first | assumption | omega)) (cwV 1 hts gX0_votesWhenOpen_X0_has rfl rfl rfl hV_X0_has ⟨Nat.le_of_ble_eq_true rfl, Nat.le_of_ble_eq_true rfl⟩) (PR.preV hG hP (ci := 0) rfl rfl) rfl rfl hl.1 rfl (lv_room (Nat.le_of_ble_eq_true rfl)) dX0_votesWhenOpen_2 ⟨Nat.le_refl _, Nat.le_refl _⟩) ?_
  refine lv_if_eq (tgt := 26) hx hb dX0_votesWhenOpen_5 (by decide) (fun c_5 => ?_) (fun c_5 => ?_)
  ·
    replace c_5 := bI_0.mp c_5
    replace c_5 := of_decide_eq_false c_5
    omega
  ·
    replace c_5 := bI_n0.mp c_5
    replace c_5 := of_decide_eq_true c_5
    refine lv_aload_n hx hb dX0_votesWhenOpen_8 rfl (lv_at hl 0 rfl) ?_
    refine va_get (D := D) (ci := 0) (v := .ref a0) (C := RX0) (T := TX0) (N := 6) hx hb yX0 (fun _ h => h) hown hG.1 hP 0 rfl rfl 0 (by decide) f9 (fun _ h => h) rfl dX0_votesWhenOpen_9 ?_
    refine lv_iload_n hx hb dX0_votesWhenOpen_12 rfl (lv_at hl 1 rfl) ?_
    refine xaldN hx hb hG hP 1 rfl (j) rfl (by omega) (by decide) dX0_votesWhenOpen_13 ?_
    refine lv_aload_n hx hb dX0_votesWhenOpen_14 rfl (lv_at hl 0 rfl) ?_
    refine va_get (D := D) (ci := 0) (v := .ref a2) (C := RX0) (T := TX0) (N := 6) hx hb yX0 (fun _ h => h) hown hG.1 hP 0 rfl rfl 2 (by decide) f18 (fun _ h => h) rfl dX0_votesWhenOpen_15 ?_
    refine lv_iload_n hx hb dX0_votesWhenOpen_18 rfl (lv_at hl 1 rfl) ?_
    refine xaldN hx hb hG hP 3 rfl (j) rfl (by omega) (by decide) dX0_votesWhenOpen_19 ?_
    refine xrd (va_runSN (As := [.int (nI (ki j)), .int (nI (we j))]) (rest := []) hF (c_X2_votesAs l D cI cS (ki j) (we j) (by first | assumption | omega) (by first | assumption | omega)) ⟨va_cnB 2 hts gX0_votesWhenOpen_X2_votesAs_n41 rfl rfl rfl hG.2.1 (hts (.initialized RX2) (by decide +kernel)) hD_X2_votesAs ⟨Nat.le_of_ble_eq_true rfl, Nat.le_of_ble_eq_true rfl⟩, hts (.static yX2_votesAs) (by decide +kernel), trivial⟩ (PR.pre hG (hP.sub (ws' := []) [] rfl)) rfl rfl hl.1 rfl (lv_room (Nat.le_of_ble_eq_true rfl)) dX0_votesWhenOpen_20 ⟨Nat.le_refl _, Nat.le_refl _⟩) ?_
    refine lv_goto (tgt := 27) hx hb dX0_votesWhenOpen_23 (by decide) ?_
    exact xretR hx hb hr hlk dX0_votesWhenOpen_27 (by rfl)

set_option maxHeartbeats 4000000 in
set_option maxRecDepth 100000 in
theorem c_X0_votes (l : Launch) (D : va_G) (cI cS : ClassId) (q : Nat) (a0 : Nat) (a1 : Nat) (a2 : Nat) (a3 : Nat) (n : Nat) (fo : Nat) (ki : Nat → Nat) (st : Nat → Nat) (we : Nat → Nat) (lo : Nat → Nat) (j : Nat) (hn : n ≤ 8) (hfo : fo < 256) (hj : j < n) (hki : ∀ j, ki j ≤ 2) (hwe : ∀ j, we j ≤ 9) : Met l yX0_votes wsX0_votes ({ frames := 2, cells := 0, slots := 0, locals := 42 }) (PR D cI cS [.ref q, .int (nI j)] (wRow cI q a0 a1 a2 a3 n fo ki st we lo)) (vp_Si (fun r => r = nI (voN fo ki we j))) 0 0 (fun _ => False) := by
  refine startR (by decide) rfl (Nat.le_of_ble_eq_true rfl) ?_
  intro p e s m below meth c hx hb hr hts hown hlk hml hG hP ls hl
  have hl : lv_has ls 2 [(0, .ref q), (1, .int (nI j))] := hl
  have hF : CallFix p m c cX0_votes 2 s _ wsX0_votes RX0 := ⟨hx, hb, hml, hown, hts⟩
  refine lv_aload_n hx hb dX0_votes_0 rfl (lv_at hl 0 rfl) ?_
  refine lv_iload_n hx hb dX0_votes_1 rfl (lv_at hl 1 rfl) ?_
  refine xrd (va_runV (As := [.int (nI j)]) (rest := []) hF (c_X0_isFolded l D cI cS q a0 a1 a2 a3 n fo ki st we lo j (by first | assumption | omega) (by first | assumption | omega)) (cwV 1 hts gX0_votes_X0_isFolded rfl rfl rfl hV_X0_isFolded ⟨Nat.le_of_ble_eq_true rfl, Nat.le_of_ble_eq_true rfl⟩) (PR.preV hG hP (ci := 0) rfl rfl) rfl rfl hl.1 rfl (lv_room (Nat.le_of_ble_eq_true rfl)) dX0_votes_2 ⟨Nat.le_refl _, Nat.le_refl _⟩) ?_
  refine lv_if_eq (tgt := 12) hx hb dX0_votes_5 (by decide) (fun c_5 => ?_) (fun c_5 => ?_)
  ·
    replace c_5 := bI_0.mp c_5
    refine lv_aload_n hx hb dX0_votes_12 rfl (lv_at hl 0 rfl) ?_
    refine lv_iload_n hx hb dX0_votes_13 rfl (lv_at hl 1 rfl) ?_
    refine xrd (va_runV (As := [.int (nI j)]) (rest := []) hF (c_X0_votesWhenOpen l D cI cS q a0 a1 a2 a3 n fo ki st we lo j (by first | assumption | omega) (by first | assumption | omega) (by first | assumption | omega) (by first | assumption | omega)) (cwV 1 hts gX0_votes_X0_votesWhenOpen rfl rfl rfl hV_X0_votesWhenOpen ⟨Nat.le_of_ble_eq_true rfl, Nat.le_of_ble_eq_true rfl⟩) (PR.preV hG hP (ci := 0) rfl rfl) rfl rfl hl.1 rfl (lv_room (Nat.le_of_ble_eq_true rfl)) dX0_votes_14 ⟨Nat.le_refl _, Nat.le_refl _⟩) ?_
    exact xretR hx hb hr hlk dX0_votes_17 (by simp [voN, c_5])
  ·
    replace c_5 := bI_n0.mp c_5
    refine lv_iconst (v := nI 0) hx hb dX0_votes_8 (by decide) ?_
    refine lv_goto (tgt := 17) hx hb dX0_votes_9 (by decide) ?_
    exact xretR hx hb hr hlk dX0_votes_17 (by simp [voN, c_5])

set_option maxHeartbeats 4000000 in
set_option maxRecDepth 100000 in
theorem c_X0_meetsNext (l : Launch) (D : va_G) (cI cS : ClassId) (q : Nat) (a0 : Nat) (a1 : Nat) (a2 : Nat) (a3 : Nat) (n : Nat) (fo : Nat) (ki : Nat → Nat) (st : Nat → Nat) (we : Nat → Nat) (lo : Nat → Nat) (j : Nat) (hn : n ≤ 8) (hfo : fo < 256) (hj : j < n) (hlo : ∀ j, lo j ≤ 3) : Met l yX0_meetsNext wsX0_meetsNext ({ frames := 1, cells := 0, slots := 0, locals := 21 }) (PR D cI cS [.ref q, .int (nI j)] (wRow cI q a0 a1 a2 a3 n fo ki st we lo)) (vp_Si (fun r => r = bI (mtB n fo lo j))) 0 0 (fun _ => False) := by
  refine startR (by decide) rfl (Nat.le_of_ble_eq_true rfl) ?_
  intro p e s m below meth c hx hb hr hts hown hlk hml hG hP ls hl
  have hl : lv_has ls 2 [(0, .ref q), (1, .int (nI j))] := hl
  have f21 := hts (.fieldLink RX0 21 "ChairBallot$Row" "looks" "[I") (by decide +kernel)
  have yX0 : ∀ w ∈ u_ws RX0 TX0 6, w.before _ s = true := fun w h => hts w ((by decide +kernel : ∀ w ∈ wsX00, w ∈ wsX0_meetsNext) w h)
  have hF : CallFix p m c cX0_meetsNext 2 s _ wsX0_meetsNext RX0 := ⟨hx, hb, hml, hown, hts⟩
  have hlj := hlo j
  have hlj1 := hlo (j + 1)
  refine lv_aload_n hx hb dX0_meetsNext_0 rfl (lv_at hl 0 rfl) ?_
  refine lv_iload_n hx hb dX0_meetsNext_1 rfl (lv_at hl 1 rfl) ?_
  refine xrd (va_runV (As := [.int (nI j)]) (rest := []) hF (c_X0_hasN l D cI cS q a0 a1 a2 a3 n fo ki st we lo j (by first | assumption | omega) (by first | assumption | omega)) (cwV 1 hts gX0_meetsNext_X0_has rfl rfl rfl hV_X0_has ⟨Nat.le_of_ble_eq_true rfl, Nat.le_of_ble_eq_true rfl⟩) (PR.preV hG hP (ci := 0) rfl rfl) rfl rfl hl.1 rfl (lv_room (Nat.le_of_ble_eq_true rfl)) dX0_meetsNext_2 ⟨Nat.le_refl _, Nat.le_refl _⟩) ?_
  refine lv_if_eq (tgt := 62) hx hb dX0_meetsNext_5 (by decide) (fun c_5 => ?_) (fun c_5 => ?_)
  ·
    replace c_5 := bI_0.mp c_5
    replace c_5 := of_decide_eq_false c_5
    omega
  ·
    replace c_5 := bI_n0.mp c_5
    replace c_5 := of_decide_eq_true c_5
    refine lv_aload_n hx hb dX0_meetsNext_8 rfl (lv_at hl 0 rfl) ?_
    refine lv_iload_n hx hb dX0_meetsNext_9 rfl (lv_at hl 1 rfl) ?_
    refine lv_iconst (v := nI 1) hx hb dX0_meetsNext_10 (by decide) ?_
    refine xaddN hx hb dX0_meetsNext_11 ?_
    refine xrd (va_runV (As := [.int (nI (j + 1))]) (rest := []) hF (c_X0_hasN l D cI cS q a0 a1 a2 a3 n fo ki st we lo (j + 1) (by first | assumption | omega) (by first | assumption | omega)) (cwV 1 hts gX0_meetsNext_X0_has rfl rfl rfl hV_X0_has ⟨Nat.le_of_ble_eq_true rfl, Nat.le_of_ble_eq_true rfl⟩) (PR.preV hG hP (ci := 0) rfl rfl) rfl rfl hl.1 rfl (lv_room (Nat.le_of_ble_eq_true rfl)) dX0_meetsNext_12 ⟨Nat.le_refl _, Nat.le_refl _⟩) ?_
    refine lv_if_eq (tgt := 62) hx hb dX0_meetsNext_15 (by decide) (fun c_15 => ?_) (fun c_15 => ?_)
    ·
      replace c_15 := bI_0.mp c_15
      replace c_15 := of_decide_eq_false c_15
      refine lv_iconst (v := nI 0) hx hb dX0_meetsNext_62 (by decide) ?_
      exact xretRz hx hb hr hlk dX0_meetsNext_63 (false) rfl (by rw [show (mtB n fo lo j) = false from by simp [mtB, c_5, c_15]]; rfl)
    ·
      replace c_15 := bI_n0.mp c_15
      replace c_15 := of_decide_eq_true c_15
      refine lv_aload_n hx hb dX0_meetsNext_18 rfl (lv_at hl 0 rfl) ?_
      refine lv_iload_n hx hb dX0_meetsNext_19 rfl (lv_at hl 1 rfl) ?_
      refine xrd (va_runV (As := [.int (nI j)]) (rest := []) hF (c_X0_isFolded l D cI cS q a0 a1 a2 a3 n fo ki st we lo j (by first | assumption | omega) (by first | assumption | omega)) (cwV 1 hts gX0_meetsNext_X0_isFolded rfl rfl rfl hV_X0_isFolded ⟨Nat.le_of_ble_eq_true rfl, Nat.le_of_ble_eq_true rfl⟩) (PR.preV hG hP (ci := 0) rfl rfl) rfl rfl hl.1 rfl (lv_room (Nat.le_of_ble_eq_true rfl)) dX0_meetsNext_20 ⟨Nat.le_refl _, Nat.le_refl _⟩) ?_
      refine lv_if_ne (tgt := 62) hx hb dX0_meetsNext_23 (by decide) (fun c_23 => ?_) (fun c_23 => ?_)
      ·
        replace c_23 := bI_n0.mp c_23
        refine lv_iconst (v := nI 0) hx hb dX0_meetsNext_62 (by decide) ?_
        exact xretRz hx hb hr hlk dX0_meetsNext_63 (false) rfl (by rw [show (mtB n fo lo j) = false from by simp [mtB, c_5, c_15, c_23]]; rfl)
      ·
        replace c_23 := bI_0.mp c_23
        refine lv_aload_n hx hb dX0_meetsNext_26 rfl (lv_at hl 0 rfl) ?_
        refine lv_iload_n hx hb dX0_meetsNext_27 rfl (lv_at hl 1 rfl) ?_
        refine lv_iconst (v := nI 1) hx hb dX0_meetsNext_28 (by decide) ?_
        refine xaddN hx hb dX0_meetsNext_29 ?_
        refine xrd (va_runV (As := [.int (nI (j + 1))]) (rest := []) hF (c_X0_isFolded l D cI cS q a0 a1 a2 a3 n fo ki st we lo (j + 1) (by first | assumption | omega) (by first | assumption | omega)) (cwV 1 hts gX0_meetsNext_X0_isFolded rfl rfl rfl hV_X0_isFolded ⟨Nat.le_of_ble_eq_true rfl, Nat.le_of_ble_eq_true rfl⟩) (PR.preV hG hP (ci := 0) rfl rfl) rfl rfl hl.1 rfl (lv_room (Nat.le_of_ble_eq_true rfl)) dX0_meetsNext_30 ⟨Nat.le_refl _, Nat.le_refl _⟩) ?_
        refine lv_if_ne (tgt := 62) hx hb dX0_meetsNext_33 (by decide) (fun c_33 => ?_) (fun c_33 => ?_)
        ·
          replace c_33 := bI_n0.mp c_33
          refine lv_iconst (v := nI 0) hx hb dX0_meetsNext_62 (by decide) ?_
          exact xretRz hx hb hr hlk dX0_meetsNext_63 (false) rfl (by rw [show (mtB n fo lo j) = false from by simp [mtB, c_5, c_15, c_23, c_33]]; rfl)
        ·
          replace c_33 := bI_0.mp c_33
          refine lv_aload_n hx hb dX0_meetsNext_36 rfl (lv_at hl 0 rfl) ?_
          refine va_get (D := D) (ci := 0) (v := .ref a3) (C := RX0) (T := TX0) (N := 6) hx hb yX0 (fun _ h => h) hown hG.1 hP 0 rfl rfl 3 (by decide) f21 (fun _ h => h) rfl dX0_meetsNext_37 ?_
          refine lv_iload_n hx hb dX0_meetsNext_40 rfl (lv_at hl 1 rfl) ?_
          refine xaldN hx hb hG hP 4 rfl (j) rfl (by omega) (by decide) dX0_meetsNext_41 ?_
          refine lv_iconst (v := nI 1) hx hb dX0_meetsNext_42 (by decide) ?_
          refine lv_icmp_ne (tgt := 62) hx hb dX0_meetsNext_43 (by decide) (fun c_43 => ?_) (fun c_43 => ?_)
          ·
            replace c_43 := (not_congr (nI_eq (a := lo j) (b := 1) (by omega) (by omega))).mp c_43
            refine lv_iconst (v := nI 0) hx hb dX0_meetsNext_62 (by decide) ?_
            exact xretRz hx hb hr hlk dX0_meetsNext_63 (false) rfl (by rw [show (mtB n fo lo j) = false from by simp [mtB, c_5, c_15, c_23, c_33, c_43]]; rfl)
          ·
            replace c_43 := (nI_eq (a := lo j) (b := 1) (by omega) (by omega)).mp c_43
            refine lv_aload_n hx hb dX0_meetsNext_46 rfl (lv_at hl 0 rfl) ?_
            refine va_get (D := D) (ci := 0) (v := .ref a3) (C := RX0) (T := TX0) (N := 6) hx hb yX0 (fun _ h => h) hown hG.1 hP 0 rfl rfl 3 (by decide) f21 (fun _ h => h) rfl dX0_meetsNext_47 ?_
            refine lv_iload_n hx hb dX0_meetsNext_50 rfl (lv_at hl 1 rfl) ?_
            refine lv_iconst (v := nI 1) hx hb dX0_meetsNext_51 (by decide) ?_
            refine xaddN hx hb dX0_meetsNext_52 ?_
            refine xaldN hx hb hG hP 4 rfl (j + 1) rfl (by omega) (by decide) dX0_meetsNext_53 ?_
            refine lv_iconst (v := nI 3) hx hb dX0_meetsNext_54 (by decide) ?_
            refine lv_icmp_ne (tgt := 62) hx hb dX0_meetsNext_55 (by decide) (fun c_55 => ?_) (fun c_55 => ?_)
            ·
              replace c_55 := (not_congr (nI_eq (a := lo (j + 1)) (b := 3) (by omega) (by omega))).mp c_55
              refine lv_iconst (v := nI 0) hx hb dX0_meetsNext_62 (by decide) ?_
              exact xretRz hx hb hr hlk dX0_meetsNext_63 (false) rfl (by rw [show (mtB n fo lo j) = false from by simp [mtB, c_5, c_15, c_23, c_33, c_43, c_55]]; rfl)
            ·
              replace c_55 := (nI_eq (a := lo (j + 1)) (b := 3) (by omega) (by omega)).mp c_55
              refine lv_iconst (v := nI 1) hx hb dX0_meetsNext_58 (by decide) ?_
              refine lv_goto (tgt := 63) hx hb dX0_meetsNext_59 (by decide) ?_
              exact xretRz hx hb hr hlk dX0_meetsNext_63 (true) rfl (by rw [show (mtB n fo lo j) = true from by simp [mtB, c_5, c_15, c_23, c_33, c_43, c_55]]; rfl)

set_option maxHeartbeats 4000000 in
set_option maxRecDepth 100000 in
theorem c_X0_meetsM (l : Launch) (D : va_G) (cI cS : ClassId) (q : Nat) (a0 : Nat) (a1 : Nat) (a2 : Nat) (a3 : Nat) (n : Nat) (fo : Nat) (ki : Nat → Nat) (st : Nat → Nat) (we : Nat → Nat) (lo : Nat → Nat) (hn : n ≤ 8) : Met l yX0_meetsNext wsX0_meetsNext ({ frames := 1, cells := 0, slots := 0, locals := 21 }) (PR D cI cS [.ref q, .int (-1)] (wRow cI q a0 a1 a2 a3 n fo ki st we lo)) (vp_Si (fun r => r = bI false)) 0 0 (fun _ => False) := by
  refine startR (by decide) rfl (Nat.le_of_ble_eq_true rfl) ?_
  intro p e s m below meth c hx hb hr hts hown hlk hml hG hP ls hl
  have hl : lv_has ls 2 [(0, .ref q), (1, .int (-1))] := hl
  have f21 := hts (.fieldLink RX0 21 "ChairBallot$Row" "looks" "[I") (by decide +kernel)
  have yX0 : ∀ w ∈ u_ws RX0 TX0 6, w.before _ s = true := fun w h => hts w ((by decide +kernel : ∀ w ∈ wsX00, w ∈ wsX0_meetsNext) w h)
  have hF : CallFix p m c cX0_meetsNext 2 s _ wsX0_meetsNext RX0 := ⟨hx, hb, hml, hown, hts⟩
  refine lv_aload_n hx hb dX0_meetsNext_0 rfl (lv_at hl 0 rfl) ?_
  refine lv_iload_n hx hb dX0_meetsNext_1 rfl (lv_at hl 1 rfl) ?_
  refine xrd (va_runV (As := [.int (-1)]) (rest := []) hF (c_X0_has l D cI cS q a0 a1 a2 a3 n fo ki st we lo (-1) (by first | assumption | omega)) (cwV 1 hts gX0_meetsNext_X0_has rfl rfl rfl hV_X0_has ⟨Nat.le_of_ble_eq_true rfl, Nat.le_of_ble_eq_true rfl⟩) (PR.preV hG hP (ci := 0) rfl rfl) rfl rfl hl.1 rfl (lv_room (Nat.le_of_ble_eq_true rfl)) dX0_meetsNext_2 ⟨Nat.le_refl _, Nat.le_refl _⟩) ?_
  refine lv_if_eq (tgt := 62) hx hb dX0_meetsNext_5 (by decide) (fun c_5 => ?_) (fun c_5 => ?_)
  ·
    replace c_5 := bI_0.mp c_5
    refine lv_iconst (v := nI 0) hx hb dX0_meetsNext_62 (by decide) ?_
    exact xretRz hx hb hr hlk dX0_meetsNext_63 (false) rfl (by rfl)
  ·
    replace c_5 := bI_n0.mp c_5
    exact absurd (hasB_m1 (n := n)) (by rw [c_5]; decide)

set_option maxHeartbeats 4000000 in
set_option maxRecDepth 100000 in
theorem c_X0_side (l : Launch) (D : va_G) (cI cS : ClassId) (q : Nat) (a0 : Nat) (a1 : Nat) (a2 : Nat) (a3 : Nat) (n : Nat) (fo : Nat) (ki : Nat → Nat) (st : Nat → Nat) (we : Nat → Nat) (lo : Nat → Nat) (j : Nat) (hn : n ≤ 8) (hfo : fo < 256) (hj : j < n) (hst : ∀ j, st j ≤ 3) (hlo : ∀ j, lo j ≤ 3) : Met l yX0_side wsX0_side ({ frames := 2, cells := 0, slots := 0, locals := 42 }) (PR D cI cS [.ref q, .int (nI j)] (wRow cI q a0 a1 a2 a3 n fo ki st we lo)) (vp_Si (fun r => r = nI (sdN n fo st lo j))) 0 0 (fun _ => False) := by
  refine startR (by decide) rfl (Nat.le_of_ble_eq_true rfl) ?_
  intro p e s m below meth c hx hb hr hts hown hlk hml hG hP ls hl
  have hl : lv_has ls 2 [(0, .ref q), (1, .int (nI j))] := hl
  have f15 := hts (.fieldLink RX0 15 "ChairBallot$Row" "stripe" "[I") (by decide +kernel)
  have f21 := hts (.fieldLink RX0 21 "ChairBallot$Row" "looks" "[I") (by decide +kernel)
  have yX0 : ∀ w ∈ u_ws RX0 TX0 6, w.before _ s = true := fun w h => hts w ((by decide +kernel : ∀ w ∈ wsX00, w ∈ wsX0_side) w h)
  have hF : CallFix p m c cX0_side 2 s _ wsX0_side RX0 := ⟨hx, hb, hml, hown, hts⟩
  have hlj := hlo j
  have hsj := hst j
  have hsj1 := hst (j + 1)
  refine lv_aload_n hx hb dX0_side_0 rfl (lv_at hl 0 rfl) ?_
  refine lv_iload_n hx hb dX0_side_1 rfl (lv_at hl 1 rfl) ?_
  refine xrd (va_runV (As := [.int (nI j)]) (rest := []) hF (c_X0_hasN l D cI cS q a0 a1 a2 a3 n fo ki st we lo j (by first | assumption | omega) (by first | assumption | omega)) (cwV 1 hts gX0_side_X0_has rfl rfl rfl hV_X0_has ⟨Nat.le_of_ble_eq_true rfl, Nat.le_of_ble_eq_true rfl⟩) (PR.preV hG hP (ci := 0) rfl rfl) rfl rfl hl.1 rfl (lv_room (Nat.le_of_ble_eq_true rfl)) dX0_side_2 ⟨Nat.le_refl _, Nat.le_refl _⟩) ?_
  refine lv_if_eq (tgt := 16) hx hb dX0_side_5 (by decide) (fun c_5 => ?_) (fun c_5 => ?_)
  ·
    replace c_5 := bI_0.mp c_5
    replace c_5 := of_decide_eq_false c_5
    omega
  ·
    replace c_5 := bI_n0.mp c_5
    replace c_5 := of_decide_eq_true c_5
    refine lv_aload_n hx hb dX0_side_8 rfl (lv_at hl 0 rfl) ?_
    refine lv_iload_n hx hb dX0_side_9 rfl (lv_at hl 1 rfl) ?_
    refine xrd (va_runV (As := [.int (nI j)]) (rest := []) hF (c_X0_isFolded l D cI cS q a0 a1 a2 a3 n fo ki st we lo j (by first | assumption | omega) (by first | assumption | omega)) (cwV 1 hts gX0_side_X0_isFolded rfl rfl rfl hV_X0_isFolded ⟨Nat.le_of_ble_eq_true rfl, Nat.le_of_ble_eq_true rfl⟩) (PR.preV hG hP (ci := 0) rfl rfl) rfl rfl hl.1 rfl (lv_room (Nat.le_of_ble_eq_true rfl)) dX0_side_10 ⟨Nat.le_refl _, Nat.le_refl _⟩) ?_
    refine lv_if_eq (tgt := 18) hx hb dX0_side_13 (by decide) (fun c_13 => ?_) (fun c_13 => ?_)
    ·
      replace c_13 := bI_0.mp c_13
      refine lv_aload_n hx hb dX0_side_18 rfl (lv_at hl 0 rfl) ?_
      refine lv_iload_n hx hb dX0_side_19 rfl (lv_at hl 1 rfl) ?_
      refine xrd (va_runV (As := [.int (nI j)]) (rest := []) hF (c_X0_meetsNext l D cI cS q a0 a1 a2 a3 n fo ki st we lo j (by first | assumption | omega) (by first | assumption | omega) (by first | assumption | omega) (by first | assumption | omega)) (cwV 1 hts gX0_side_X0_meetsNext rfl rfl rfl hV_X0_meetsNext ⟨Nat.le_of_ble_eq_true rfl, Nat.le_of_ble_eq_true rfl⟩) (PR.preV hG hP (ci := 0) rfl rfl) rfl rfl hl.1 rfl (lv_room (Nat.le_of_ble_eq_true rfl)) dX0_side_20 ⟨Nat.le_refl _, Nat.le_refl _⟩) ?_
      refine lv_if_eq (tgt := 49) hx hb dX0_side_23 (by decide) (fun c_23 => ?_) (fun c_23 => ?_)
      ·
        replace c_23 := bI_0.mp c_23
        cases j with
        | zero =>
          refine lv_aload_n hx hb dX0_side_49 rfl (lv_at hl 0 rfl) ?_
          refine lv_iload_n hx hb dX0_side_50 rfl (lv_at hl 1 rfl) ?_
          refine lv_iconst (v := nI 1) hx hb dX0_side_51 (by decide) ?_
          refine lv_isub hx hb dX0_side_52 ?_
          refine xtop (x' := (-1)) (by rfl) ?_
          refine xrd (va_runV (As := [.int (-1)]) (rest := []) hF (c_X0_meetsM l D cI cS q a0 a1 a2 a3 n fo ki st we lo (by first | assumption | omega)) (cwV 1 hts gX0_side_X0_meetsNext rfl rfl rfl hV_X0_meetsNext ⟨Nat.le_of_ble_eq_true rfl, Nat.le_of_ble_eq_true rfl⟩) (PR.preV hG hP (ci := 0) rfl rfl) rfl rfl hl.1 rfl (lv_room (Nat.le_of_ble_eq_true rfl)) dX0_side_53 ⟨Nat.le_refl _, Nat.le_refl _⟩) ?_
          refine lv_if_eq (tgt := 82) hx hb dX0_side_56 (by decide) (fun c_56 => ?_) (fun c_56 => ?_)
          ·
            refine lv_aload_n hx hb dX0_side_82 rfl (lv_at hl 0 rfl) ?_
            refine va_get (D := D) (ci := 0) (v := .ref a3) (C := RX0) (T := TX0) (N := 6) hx hb yX0 (fun _ h => h) hown hG.1 hP 0 rfl rfl 3 (by decide) f21 (fun _ h => h) rfl dX0_side_83 ?_
            refine lv_iload_n hx hb dX0_side_86 rfl (lv_at hl 1 rfl) ?_
            refine xaldN hx hb hG hP 4 rfl (0) rfl (by omega) (by decide) dX0_side_87 ?_
            by_cases c_88_0 : lo 0 = 0
            ·
              refine lv_lookup (off := 28) (tgt := 116) hx hb dX0_side_88 (by decide) (by rw [c_88_0]; decide) (by decide) ?_
              refine lv_iconst (v := nI 1) hx hb dX0_side_116 (by decide) ?_
              exact xretR hx hb hr hlk dX0_side_117 (by simp [sdN, c_5, c_13, c_23, c_56, c_88_0])
            by_cases c_88_2 : lo 0 = 2
            ·
              refine lv_lookup (off := 30) (tgt := 118) hx hb dX0_side_88 (by decide) (by rw [c_88_2]; decide) (by decide) ?_
              refine lv_iconst (v := nI 2) hx hb dX0_side_118 (by decide) ?_
              exact xretR hx hb hr hlk dX0_side_119 (by simp [sdN, c_5, c_13, c_23, c_56, c_88_2])
            refine lv_lookup (off := 32) (tgt := 120) hx hb dX0_side_88 (by decide) (by rw [nI_toInt (by omega)]; simp only [Op.lookupswitch.offset_cons, Op.lookupswitch.offset_nil]; rw [if_neg (by omega)]; rw [if_neg (by omega)]) (by decide) ?_
            refine lv_iconst (v := nI 0) hx hb dX0_side_120 (by decide) ?_
            exact xretR hx hb hr hlk dX0_side_121 (by simp [sdN, c_5, c_13, c_23, c_56, c_88_0, c_88_2])
          · exact absurd (by decide) c_56
        | succ j =>
          have hsj0 := hst j
          refine lv_aload_n hx hb dX0_side_49 rfl (lv_at hl 0 rfl) ?_
          refine lv_iload_n hx hb dX0_side_50 rfl (lv_at hl 1 rfl) ?_
          refine lv_iconst (v := nI 1) hx hb dX0_side_51 (by decide) ?_
          refine lv_isub hx hb dX0_side_52 ?_
          refine xtop (x' := nI j) (by exact pk_m1s j) ?_
          refine xrd (va_runV (As := [.int (nI j)]) (rest := []) hF (c_X0_meetsNext l D cI cS q a0 a1 a2 a3 n fo ki st we lo j (by first | assumption | omega) (by first | assumption | omega) (by first | assumption | omega) (by first | assumption | omega)) (cwV 1 hts gX0_side_X0_meetsNext rfl rfl rfl hV_X0_meetsNext ⟨Nat.le_of_ble_eq_true rfl, Nat.le_of_ble_eq_true rfl⟩) (PR.preV hG hP (ci := 0) rfl rfl) rfl rfl hl.1 rfl (lv_room (Nat.le_of_ble_eq_true rfl)) dX0_side_53 ⟨Nat.le_refl _, Nat.le_refl _⟩) ?_
          refine lv_if_eq (tgt := 82) hx hb dX0_side_56 (by decide) (fun c_56 => ?_) (fun c_56 => ?_)
          ·
            replace c_56 := bI_0.mp c_56
            refine lv_aload_n hx hb dX0_side_82 rfl (lv_at hl 0 rfl) ?_
            refine va_get (D := D) (ci := 0) (v := .ref a3) (C := RX0) (T := TX0) (N := 6) hx hb yX0 (fun _ h => h) hown hG.1 hP 0 rfl rfl 3 (by decide) f21 (fun _ h => h) rfl dX0_side_83 ?_
            refine lv_iload_n hx hb dX0_side_86 rfl (lv_at hl 1 rfl) ?_
            refine xaldN hx hb hG hP 4 rfl ((j + 1)) rfl (by omega) (by decide) dX0_side_87 ?_
            by_cases c_88_0 : lo (j + 1) = 0
            ·
              refine lv_lookup (off := 28) (tgt := 116) hx hb dX0_side_88 (by decide) (by rw [c_88_0]; decide) (by decide) ?_
              refine lv_iconst (v := nI 1) hx hb dX0_side_116 (by decide) ?_
              exact xretR hx hb hr hlk dX0_side_117 (by simp [sdN, c_5, c_13, c_23, c_56, c_88_0])
            by_cases c_88_2 : lo (j + 1) = 2
            ·
              refine lv_lookup (off := 30) (tgt := 118) hx hb dX0_side_88 (by decide) (by rw [c_88_2]; decide) (by decide) ?_
              refine lv_iconst (v := nI 2) hx hb dX0_side_118 (by decide) ?_
              exact xretR hx hb hr hlk dX0_side_119 (by simp [sdN, c_5, c_13, c_23, c_56, c_88_2])
            refine lv_lookup (off := 32) (tgt := 120) hx hb dX0_side_88 (by decide) (by rw [nI_toInt (by omega)]; simp only [Op.lookupswitch.offset_cons, Op.lookupswitch.offset_nil]; rw [if_neg (by omega)]; rw [if_neg (by omega)]) (by decide) ?_
            refine lv_iconst (v := nI 0) hx hb dX0_side_120 (by decide) ?_
            exact xretR hx hb hr hlk dX0_side_121 (by simp [sdN, c_5, c_13, c_23, c_56, c_88_0, c_88_2])
          ·
            replace c_56 := bI_n0.mp c_56
            refine lv_aload_n hx hb dX0_side_59 rfl (lv_at hl 0 rfl) ?_
            refine va_get (D := D) (ci := 0) (v := .ref a1) (C := RX0) (T := TX0) (N := 6) hx hb yX0 (fun _ h => h) hown hG.1 hP 0 rfl rfl 1 (by decide) f15 (fun _ h => h) rfl dX0_side_60 ?_
            refine lv_iload_n hx hb dX0_side_63 rfl (lv_at hl 1 rfl) ?_
            refine xaldN hx hb hG hP 2 rfl ((j + 1)) rfl (by omega) (by decide) dX0_side_64 ?_
            refine lv_aload_n hx hb dX0_side_65 rfl (lv_at hl 0 rfl) ?_
            refine va_get (D := D) (ci := 0) (v := .ref a1) (C := RX0) (T := TX0) (N := 6) hx hb yX0 (fun _ h => h) hown hG.1 hP 0 rfl rfl 1 (by decide) f15 (fun _ h => h) rfl dX0_side_66 ?_
            refine lv_iload_n hx hb dX0_side_69 rfl (lv_at hl 1 rfl) ?_
            refine lv_iconst (v := nI 1) hx hb dX0_side_70 (by decide) ?_
            refine lv_isub hx hb dX0_side_71 ?_
            refine xtop (x' := nI j) (by exact pk_m1s j) ?_
            refine xaldN hx hb hG hP 2 rfl (j) rfl (by omega) (by decide) dX0_side_72 ?_
            refine lv_icmp_ne (tgt := 80) hx hb dX0_side_73 (by decide) (fun c_73 => ?_) (fun c_73 => ?_)
            ·
              replace c_73 := (not_congr (nI_eq (a := st (j + 1)) (b := st j) (by omega) (by omega))).mp c_73
              refine lv_iconst (v := nI 2) hx hb dX0_side_80 (by decide) ?_
              exact xretR hx hb hr hlk dX0_side_81 (by simp [sdN, c_5, c_13, c_23, c_56, c_73])
            ·
              replace c_73 := (nI_eq (a := st (j + 1)) (b := st j) (by omega) (by omega)).mp c_73
              refine lv_iconst (v := nI 1) hx hb dX0_side_76 (by decide) ?_
              refine lv_goto (tgt := 81) hx hb dX0_side_77 (by decide) ?_
              exact xretR hx hb hr hlk dX0_side_81 (by simp [sdN, c_5, c_13, c_23, c_56, c_73])
      ·
        replace c_23 := bI_n0.mp c_23
        have hj1 : j + 1 < n := mtB_lt c_23
        refine lv_aload_n hx hb dX0_side_26 rfl (lv_at hl 0 rfl) ?_
        refine va_get (D := D) (ci := 0) (v := .ref a1) (C := RX0) (T := TX0) (N := 6) hx hb yX0 (fun _ h => h) hown hG.1 hP 0 rfl rfl 1 (by decide) f15 (fun _ h => h) rfl dX0_side_27 ?_
        refine lv_iload_n hx hb dX0_side_30 rfl (lv_at hl 1 rfl) ?_
        refine xaldN hx hb hG hP 2 rfl (j) rfl (by omega) (by decide) dX0_side_31 ?_
        refine lv_aload_n hx hb dX0_side_32 rfl (lv_at hl 0 rfl) ?_
        refine va_get (D := D) (ci := 0) (v := .ref a1) (C := RX0) (T := TX0) (N := 6) hx hb yX0 (fun _ h => h) hown hG.1 hP 0 rfl rfl 1 (by decide) f15 (fun _ h => h) rfl dX0_side_33 ?_
        refine lv_iload_n hx hb dX0_side_36 rfl (lv_at hl 1 rfl) ?_
        refine lv_iconst (v := nI 1) hx hb dX0_side_37 (by decide) ?_
        refine xaddN hx hb dX0_side_38 ?_
        refine xaldN hx hb hG hP 2 rfl (j + 1) rfl (by omega) (by decide) dX0_side_39 ?_
        refine lv_icmp_ne (tgt := 47) hx hb dX0_side_40 (by decide) (fun c_40 => ?_) (fun c_40 => ?_)
        ·
          replace c_40 := (not_congr (nI_eq (a := st j) (b := st (j + 1)) (by omega) (by omega))).mp c_40
          refine lv_iconst (v := nI 2) hx hb dX0_side_47 (by decide) ?_
          exact xretR hx hb hr hlk dX0_side_48 (by simp [sdN, c_5, c_13, c_23, c_40])
        ·
          replace c_40 := (nI_eq (a := st j) (b := st (j + 1)) (by omega) (by omega)).mp c_40
          refine lv_iconst (v := nI 1) hx hb dX0_side_43 (by decide) ?_
          refine lv_goto (tgt := 48) hx hb dX0_side_44 (by decide) ?_
          exact xretR hx hb hr hlk dX0_side_48 (by simp [sdN, c_5, c_13, c_23, c_40])
    ·
      replace c_13 := bI_n0.mp c_13
      refine lv_iconst (v := nI 0) hx hb dX0_side_16 (by decide) ?_
      exact xretR hx hb hr hlk dX0_side_17 (by simp [sdN, c_5, c_13])

set_option maxHeartbeats 4000000 in
set_option maxRecDepth 100000 in
theorem c_X0_tilt (l : Launch) (D : va_G) (cI cS : ClassId) (q : Nat) (a0 : Nat) (a1 : Nat) (a2 : Nat) (a3 : Nat) (n : Nat) (fo : Nat) (ki : Nat → Nat) (st : Nat → Nat) (we : Nat → Nat) (lo : Nat → Nat) (j : Nat) (hn : n ≤ 8) (hfo : fo < 256) (hj : j < n) (hki : ∀ j, ki j ≤ 2) (hwe : ∀ j, we j ≤ 9) (hst : ∀ j, st j ≤ 3) (hlo : ∀ j, lo j ≤ 3) : Met l yX0_tilt wsX0_tilt ({ frames := 3, cells := 0, slots := 0, locals := 63 }) (PR D cI cS [.ref q, .int (nI j)] (wRow cI q a0 a1 a2 a3 n fo ki st we lo)) (vp_Si (fun r => r = zI (tiN n fo ki st we lo j))) 0 0 (fun _ => False) := by
  refine startR (by decide) rfl (Nat.le_of_ble_eq_true rfl) ?_
  intro p e s m below meth c hx hb hr hts hown hlk hml hG hP ls hl
  have hl : lv_has ls 2 [(0, .ref q), (1, .int (nI j))] := hl
  have hF : CallFix p m c cX0_tilt 2 s _ wsX0_tilt RX0 := ⟨hx, hb, hml, hown, hts⟩
  have hs2 := sdN_le n fo st lo j
  refine lv_aload_n hx hb dX0_tilt_0 rfl (lv_at hl 0 rfl) ?_
  refine lv_iload_n hx hb dX0_tilt_1 rfl (lv_at hl 1 rfl) ?_
  refine xrd (va_runV (As := [.int (nI j)]) (rest := []) hF (c_X0_side l D cI cS q a0 a1 a2 a3 n fo ki st we lo j (by first | assumption | omega) (by first | assumption | omega) (by first | assumption | omega) (by first | assumption | omega) (by first | assumption | omega)) (cwV 1 hts gX0_tilt_X0_side rfl rfl rfl hV_X0_side ⟨Nat.le_of_ble_eq_true rfl, Nat.le_of_ble_eq_true rfl⟩) (PR.preV hG hP (ci := 0) rfl rfl) rfl rfl hl.1 rfl (lv_room (Nat.le_of_ble_eq_true rfl)) dX0_tilt_2 ⟨Nat.le_refl _, Nat.le_refl _⟩) ?_
  by_cases c_5_1 : sdN n fo st lo j = 1
  ·
    refine lv_lookup (off := 27) (tgt := 32) hx hb dX0_tilt_5 (by decide) (by rw [c_5_1]; decide) (by decide) ?_
    refine lv_aload_n hx hb dX0_tilt_32 rfl (lv_at hl 0 rfl) ?_
    refine lv_iload_n hx hb dX0_tilt_33 rfl (lv_at hl 1 rfl) ?_
    refine xrd (va_runV (As := [.int (nI j)]) (rest := []) hF (c_X0_votes l D cI cS q a0 a1 a2 a3 n fo ki st we lo j (by first | assumption | omega) (by first | assumption | omega) (by first | assumption | omega) (by first | assumption | omega) (by first | assumption | omega)) (cwV 1 hts gX0_tilt_X0_votes rfl rfl rfl hV_X0_votes ⟨Nat.le_of_ble_eq_true rfl, Nat.le_of_ble_eq_true rfl⟩) (PR.preV hG hP (ci := 0) rfl rfl) rfl rfl hl.1 rfl (lv_room (Nat.le_of_ble_eq_true rfl)) dX0_tilt_34 ⟨Nat.le_refl _, Nat.le_refl _⟩) ?_
    exact xretR hx hb hr hlk dX0_tilt_37 (by simp [tiN, c_5_1, zI_nat])
  by_cases c_5_2 : sdN n fo st lo j = 2
  ·
    refine lv_lookup (off := 33) (tgt := 38) hx hb dX0_tilt_5 (by decide) (by rw [c_5_2]; decide) (by decide) ?_
    refine lv_aload_n hx hb dX0_tilt_38 rfl (lv_at hl 0 rfl) ?_
    refine lv_iload_n hx hb dX0_tilt_39 rfl (lv_at hl 1 rfl) ?_
    refine xrd (va_runV (As := [.int (nI j)]) (rest := []) hF (c_X0_votes l D cI cS q a0 a1 a2 a3 n fo ki st we lo j (by first | assumption | omega) (by first | assumption | omega) (by first | assumption | omega) (by first | assumption | omega) (by first | assumption | omega)) (cwV 1 hts gX0_tilt_X0_votes rfl rfl rfl hV_X0_votes ⟨Nat.le_of_ble_eq_true rfl, Nat.le_of_ble_eq_true rfl⟩) (PR.preV hG hP (ci := 0) rfl rfl) rfl rfl hl.1 rfl (lv_room (Nat.le_of_ble_eq_true rfl)) dX0_tilt_40 ⟨Nat.le_refl _, Nat.le_refl _⟩) ?_
    refine lv_ineg hx hb dX0_tilt_43 ?_
    exact xretR hx hb hr hlk dX0_tilt_44 (by simp [tiN, c_5_2, zI_neg])
  refine lv_lookup (off := 40) (tgt := 45) hx hb dX0_tilt_5 (by decide) (by rw [nI_toInt (by omega)]; simp only [Op.lookupswitch.offset_cons, Op.lookupswitch.offset_nil]; rw [if_neg (by omega)]; rw [if_neg (by omega)]) (by decide) ?_
  refine lv_iconst (v := nI 0) hx hb dX0_tilt_45 (by decide) ?_
  exact xretR hx hb hr hlk dX0_tilt_46 (by simp [tiN, c_5_1, c_5_2, zI_0])

set_option maxHeartbeats 4000000 in
set_option maxRecDepth 100000 in
theorem c_X0_isCarried (l : Launch) (D : va_G) (cI cS : ClassId) (q : Nat) (a0 : Nat) (a1 : Nat) (a2 : Nat) (a3 : Nat) (n : Nat) (fo : Nat) (ki : Nat → Nat) (st : Nat → Nat) (we : Nat → Nat) (lo : Nat → Nat) (hn : n ≤ 8) (hfo : fo < 256) (hki : ∀ j, ki j ≤ 2) (hwe : ∀ j, we j ≤ 9) (hst : ∀ j, st j ≤ 3) (hlo : ∀ j, lo j ≤ 3) : Met l yX0_isCarried wsX0_isCarried ({ frames := 4, cells := 0, slots := 0, locals := 84 }) (PR D cI cS [.ref q] (wRow cI q a0 a1 a2 a3 n fo ki st we lo)) (vp_Si (fun r => r = bI (decide (0 < sumZ (tiN n fo ki st we lo) n)))) 0 0 (fun _ => False) := by
  refine startR (by decide) rfl (Nat.le_of_ble_eq_true rfl) ?_
  intro p e s m below meth c hx hb hr hts hown hlk hml hG hP ls hl
  have hl : lv_has ls 3 [(0, .ref q)] := hl
  have f24 := hts (.fieldLink RX0 24 "ChairBallot$Row" "count" "I") (by decide +kernel)
  have yX0 : ∀ w ∈ u_ws RX0 TX0 6, w.before _ s = true := fun w h => hts w ((by decide +kernel : ∀ w ∈ wsX00, w ∈ wsX0_isCarried) w h)
  have hF : CallFix p m c cX0_isCarried 3 s _ wsX0_isCarried RX0 := ⟨hx, hb, hml, hown, hts⟩
  refine lv_iconst (v := nI 0) hx hb dX0_isCarried_0 (by decide) ?_
  refine lv_istore_n (lv' := [(1, .int (nI 0)), (0, .ref q)]) hx hb dX0_isCarried_1 rfl hl (by decide) rfl (fun ls hl => ?_)
  refine lv_iconst (v := nI 0) hx hb dX0_isCarried_2 (by decide) ?_
  refine lv_istore_n (lv' := [(2, .int (nI 0)), (1, .int (nI 0)), (0, .ref q)]) hx hb dX0_isCarried_3 rfl hl (by decide) rfl (fun ls hl => ?_)
  have K4 : ∀ (fuel : Nat) (i : Nat) (x1 : Int32), x1 = zI (sumZ (tiN n fo ki st we lo) i) → (i ≤ n) → (n - i) < fuel → ∀ ls : Array Slot, lv_has ls 3 [(2, .int (nI i)), (1, .int x1), (0, .ref q)] → W p l e ({ frames := 4, cells := 0, slots := 0, locals := 84 }) s m (([.ref q] : List Value).toArray) below meth c s.heap [] 0 0 (MQ below (vp_Si (fun r => r = bI (decide (0 < sumZ (tiN n fo ki st we lo) n)))) (([.ref q] : List Value).toArray) s 0 0 (fun _ => False)) (F0 m 4 ls []) := by
    intro fuel
    induction fuel with
    | zero => intro i x1 e_x1 hi hmu; exact absurd hmu (Nat.not_lt_zero _)
    | succ fuel ih =>
      intro i x1 e_x1 hi hmu ls hl
      subst e_x1
      refine lv_iload_n hx hb dX0_isCarried_4 rfl (lv_at hl 0 rfl) ?_
      refine lv_aload_n hx hb dX0_isCarried_5 rfl (lv_at hl 2 rfl) ?_
      refine va_get (D := D) (ci := 0) (v := .int (nI n)) (C := RX0) (T := TX0) (N := 6) hx hb yX0 (fun _ h => h) hown hG.1 hP 0 rfl rfl 4 (by decide) f24 (fun _ h => h) rfl dX0_isCarried_6 ?_
      refine lv_icmp_ge (tgt := 26) hx hb dX0_isCarried_9 (by decide) (fun c_9 => ?_) (fun c_9 => ?_)
      ·
        replace c_9 := (nI_leI (a := n) (b := i) (by omega) (by omega)).mp c_9
        have hin : n = i := by omega
        subst hin
        refine lv_iload_n hx hb dX0_isCarried_26 rfl (lv_at hl 1 rfl) ?_
        refine lv_if_le (tgt := 34) hx hb dX0_isCarried_27 (by decide) (fun c_27 => ?_) (fun c_27 => ?_)
        ·
          refine lv_iconst (v := nI 0) hx hb dX0_isCarried_34 (by decide) ?_
          exact xretRz hx hb hr hlk dX0_isCarried_35 (false) rfl (by first | exact carX_1 hki hwe hn c_27 | exact carX_0 hki hwe hn c_27)
        ·
          refine lv_iconst (v := nI 1) hx hb dX0_isCarried_30 (by decide) ?_
          refine lv_goto (tgt := 35) hx hb dX0_isCarried_31 (by decide) ?_
          exact xretRz hx hb hr hlk dX0_isCarried_35 (true) rfl (by first | exact carX_1 hki hwe hn c_27 | exact carX_0 hki hwe hn c_27)
      ·
        replace c_9 := (not_congr (nI_leI (a := n) (b := i) (by omega) (by omega))).mp c_9
        refine lv_iload_n hx hb dX0_isCarried_12 rfl (lv_at hl 1 rfl) ?_
        refine lv_aload_n hx hb dX0_isCarried_13 rfl (lv_at hl 2 rfl) ?_
        refine lv_iload_n hx hb dX0_isCarried_14 rfl (lv_at hl 0 rfl) ?_
        refine xrd (va_runV (As := [.int (nI i)]) (rest := [.int (zI (sumZ (tiN n fo ki st we lo) i))]) hF (c_X0_tilt l D cI cS q a0 a1 a2 a3 n fo ki st we lo i (by first | assumption | omega) (by first | assumption | omega) (by first | assumption | omega) (by first | assumption | omega) (by first | assumption | omega) (by first | assumption | omega) (by first | assumption | omega)) (cwV 1 hts gX0_isCarried_X0_tilt rfl rfl rfl hV_X0_tilt ⟨Nat.le_of_ble_eq_true rfl, Nat.le_of_ble_eq_true rfl⟩) (PR.preV hG hP (ci := 0) rfl rfl) rfl rfl hl.1 rfl (lv_room (Nat.le_of_ble_eq_true rfl)) dX0_isCarried_15 ⟨Nat.le_refl _, Nat.le_refl _⟩) ?_
        refine lv_iadd hx hb dX0_isCarried_18 ?_
        refine lv_istore_n (lv' := [(1, .int ((zI (sumZ (tiN n fo ki st we lo) i)) + (zI (tiN n fo ki st we lo i)))), (2, .int (nI i)), (0, .ref q)]) hx hb dX0_isCarried_19 rfl hl (by decide) rfl (fun ls hl => ?_)
        refine lv_iinc (v := nI (i + 1)) (lv' := [(2, .int (nI (i + 1))), (1, .int ((zI (sumZ (tiN n fo ki st we lo) i)) + (zI (tiN n fo ki st we lo i)))), (0, .ref q)]) hx hb dX0_isCarried_20 hl (k := 1) rfl xinc1 (by decide) rfl (fun ls hl => ?_)
        refine lv_goto (tgt := 4) hx hb dX0_isCarried_23 (by decide) ?_
        exact ih (i + 1) ((zI (sumZ (tiN n fo ki st we lo) i)) + (zI (tiN n fo ki st we lo i))) (by exact zI_add _ _) (by omega) (by omega) ls (lv_sub hl [0, 1, 2] rfl)
  exact K4 _ 0 (nI 0) (by first | rfl | omega | assumption) (by first | rfl | omega | assumption) (Nat.lt_succ_self _) ls (lv_sub hl [0, 1, 2] rfl)

set_option maxHeartbeats 4000000 in
set_option maxRecDepth 100000 in
theorem c_X0_chairsOf (l : Launch) (D : va_G) (cI cS : ClassId) (q : Nat) (a0 : Nat) (a1 : Nat) (a2 : Nat) (a3 : Nat) (n : Nat) (fo : Nat) (ki : Nat → Nat) (st : Nat → Nat) (we : Nat → Nat) (lo : Nat → Nat) (s1 : Nat) (hn : n ≤ 8) (hfo : fo < 256) (hst : ∀ j, st j ≤ 3) (hlo : ∀ j, lo j ≤ 3) (hs : s1 ≤ 2) : Met l yX0_chairsOf wsX0_chairsOf ({ frames := 3, cells := 0, slots := 0, locals := 63 }) (PR D cI cS [.ref q, .int (nI s1)] (wRow cI q a0 a1 a2 a3 n fo ki st we lo)) (vp_Si (fun r => r = nI (setN (fun j => decide (sdN n fo st lo j = s1)) n))) 0 0 (fun _ => False) := by
  refine startR (by decide) rfl (Nat.le_of_ble_eq_true rfl) ?_
  intro p e s m below meth c hx hb hr hts hown hlk hml hG hP ls hl
  have hl : lv_has ls 4 [(0, .ref q), (1, .int (nI s1))] := hl
  have f24 := hts (.fieldLink RX0 24 "ChairBallot$Row" "count" "I") (by decide +kernel)
  have yX0 : ∀ w ∈ u_ws RX0 TX0 6, w.before _ s = true := fun w h => hts w ((by decide +kernel : ∀ w ∈ wsX00, w ∈ wsX0_chairsOf) w h)
  have hF : CallFix p m c cX0_chairsOf 4 s _ wsX0_chairsOf RX0 := ⟨hx, hb, hml, hown, hts⟩
  refine lv_iconst (v := nI 0) hx hb dX0_chairsOf_0 (by decide) ?_
  refine lv_istore_n (lv' := [(2, .int (nI 0)), (0, .ref q), (1, .int (nI s1))]) hx hb dX0_chairsOf_1 rfl hl (by decide) rfl (fun ls hl => ?_)
  refine lv_iconst (v := nI 0) hx hb dX0_chairsOf_2 (by decide) ?_
  refine lv_istore_n (lv' := [(3, .int (nI 0)), (2, .int (nI 0)), (0, .ref q), (1, .int (nI s1))]) hx hb dX0_chairsOf_3 rfl hl (by decide) rfl (fun ls hl => ?_)
  have K4 : ∀ (fuel : Nat) (i : Nat) (x2 : Int32), x2 = nI (setN (fun j => decide (sdN n fo st lo j = s1)) i) → (i ≤ n) → (n - i) < fuel → ∀ ls : Array Slot, lv_has ls 4 [(3, .int (nI i)), (2, .int x2), (0, .ref q), (1, .int (nI s1))] → W p l e ({ frames := 3, cells := 0, slots := 0, locals := 63 }) s m (([.ref q, .int (nI s1)] : List Value).toArray) below meth c s.heap [] 0 0 (MQ below (vp_Si (fun r => r = nI (setN (fun j => decide (sdN n fo st lo j = s1)) n))) (([.ref q, .int (nI s1)] : List Value).toArray) s 0 0 (fun _ => False)) (F0 m 4 ls []) := by
    intro fuel
    induction fuel with
    | zero => intro i x2 e_x2 hi hmu; exact absurd hmu (Nat.not_lt_zero _)
    | succ fuel ih =>
      intro i x2 e_x2 hi hmu ls hl
      subst e_x2
      have hs2 := sdN_le n fo st lo i
      refine lv_iload_n hx hb dX0_chairsOf_4 rfl (lv_at hl 0 rfl) ?_
      refine lv_aload_n hx hb dX0_chairsOf_5 rfl (lv_at hl 2 rfl) ?_
      refine va_get (D := D) (ci := 0) (v := .int (nI n)) (C := RX0) (T := TX0) (N := 6) hx hb yX0 (fun _ h => h) hown hG.1 hP 0 rfl rfl 4 (by decide) f24 (fun _ h => h) rfl dX0_chairsOf_6 ?_
      refine lv_icmp_ge (tgt := 33) hx hb dX0_chairsOf_9 (by decide) (fun c_9 => ?_) (fun c_9 => ?_)
      ·
        replace c_9 := (nI_leI (a := n) (b := i) (by omega) (by omega)).mp c_9
        have hin : n = i := by omega
        subst hin
        refine lv_iload_n hx hb dX0_chairsOf_33 rfl (lv_at hl 1 rfl) ?_
        exact xretR hx hb hr hlk dX0_chairsOf_34 (by rfl)
      ·
        replace c_9 := (not_congr (nI_leI (a := n) (b := i) (by omega) (by omega))).mp c_9
        refine lv_aload_n hx hb dX0_chairsOf_12 rfl (lv_at hl 2 rfl) ?_
        refine lv_iload_n hx hb dX0_chairsOf_13 rfl (lv_at hl 0 rfl) ?_
        refine xrd (va_runV (As := [.int (nI i)]) (rest := []) hF (c_X0_side l D cI cS q a0 a1 a2 a3 n fo ki st we lo i (by first | assumption | omega) (by first | assumption | omega) (by first | assumption | omega) (by first | assumption | omega) (by first | assumption | omega)) (cwV 1 hts gX0_chairsOf_X0_side rfl rfl rfl hV_X0_side ⟨Nat.le_of_ble_eq_true rfl, Nat.le_of_ble_eq_true rfl⟩) (PR.preV hG hP (ci := 0) rfl rfl) rfl rfl hl.1 rfl (lv_room (Nat.le_of_ble_eq_true rfl)) dX0_chairsOf_14 ⟨Nat.le_refl _, Nat.le_refl _⟩) ?_
        refine lv_iload_n hx hb dX0_chairsOf_17 rfl (lv_at hl 3 rfl) ?_
        refine lv_icmp_ne (tgt := 27) hx hb dX0_chairsOf_18 (by decide) (fun c_18 => ?_) (fun c_18 => ?_)
        ·
          replace c_18 := (not_congr (nI_eq (a := sdN n fo st lo i) (b := s1) (by omega) (by omega))).mp c_18
          refine lv_iinc (v := nI (i + 1)) (lv' := [(3, .int (nI (i + 1))), (2, .int (nI (setN (fun j => decide (sdN n fo st lo j = s1)) i))), (0, .ref q), (1, .int (nI s1))]) hx hb dX0_chairsOf_27 hl (k := 0) rfl xinc1 (by decide) rfl (fun ls hl => ?_)
          refine lv_goto (tgt := 4) hx hb dX0_chairsOf_30 (by decide) ?_
          exact ih (i + 1) (nI (setN (fun j => decide (sdN n fo st lo j = s1)) i)) (by simp [setN, c_9, c_18]) (by omega) (by omega) ls (lv_sub hl [0, 1, 2, 3] rfl)
        ·
          replace c_18 := (nI_eq (a := sdN n fo st lo i) (b := s1) (by omega) (by omega)).mp c_18
          refine lv_iload_n hx hb dX0_chairsOf_21 rfl (lv_at hl 1 rfl) ?_
          refine lv_iconst (v := nI 1) hx hb dX0_chairsOf_22 (by decide) ?_
          refine lv_iload_n hx hb dX0_chairsOf_23 rfl (lv_at hl 0 rfl) ?_
          refine lv_ishl hx hb dX0_chairsOf_24 ?_
          refine xtop (x' := nI (2 ^ i)) (by exact shl1 i (by omega)) ?_
          refine lv_ior hx hb dX0_chairsOf_25 ?_
          refine xtop (x' := nI (setN (fun j => decide (sdN n fo st lo j = s1)) i ||| 2 ^ i)) (by exact nI_or _ _) ?_
          refine lv_istore_n (lv' := [(2, .int (nI (setN (fun j => decide (sdN n fo st lo j = s1)) i ||| 2 ^ i))), (3, .int (nI i)), (0, .ref q), (1, .int (nI s1))]) hx hb dX0_chairsOf_26 rfl hl (by decide) rfl (fun ls hl => ?_)
          refine lv_iinc (v := nI (i + 1)) (lv' := [(3, .int (nI (i + 1))), (2, .int (nI (setN (fun j => decide (sdN n fo st lo j = s1)) i ||| 2 ^ i))), (0, .ref q), (1, .int (nI s1))]) hx hb dX0_chairsOf_27 hl (k := 1) rfl xinc1 (by decide) rfl (fun ls hl => ?_)
          refine lv_goto (tgt := 4) hx hb dX0_chairsOf_30 (by decide) ?_
          exact ih (i + 1) (nI (setN (fun j => decide (sdN n fo st lo j = s1)) i ||| 2 ^ i)) (by simp [setN, c_9, c_18]) (by omega) (by omega) ls (lv_sub hl [0, 1, 2, 3] rfl)
  exact K4 _ 0 (nI 0) (by first | rfl | omega | assumption) (by first | rfl | omega | assumption) (Nat.lt_succ_self _) ls (lv_sub hl [0, 1, 2, 3] rfl)

set_option maxHeartbeats 4000000 in
set_option maxRecDepth 100000 in
theorem c_X0_votesIn (l : Launch) (D : va_G) (cI cS : ClassId) (q : Nat) (a0 : Nat) (a1 : Nat) (a2 : Nat) (a3 : Nat) (n : Nat) (fo : Nat) (ki : Nat → Nat) (st : Nat → Nat) (we : Nat → Nat) (lo : Nat → Nat) (s1 : Nat) (hn : n ≤ 8) (hfo : fo < 256) (hki : ∀ j, ki j ≤ 2) (hwe : ∀ j, we j ≤ 9) (hs : s1 < 256) : Met l yX0_votesIn wsX0_votesIn ({ frames := 3, cells := 0, slots := 0, locals := 63 }) (PR D cI cS [.ref q, .int (nI s1)] (wRow cI q a0 a1 a2 a3 n fo ki st we lo)) (vp_Si (fun r => r = nI (sumN (viN s1 fo ki we) n))) 0 0 (fun _ => False) := by
  refine startR (by decide) rfl (Nat.le_of_ble_eq_true rfl) ?_
  intro p e s m below meth c hx hb hr hts hown hlk hml hG hP ls hl
  have hl : lv_has ls 4 [(0, .ref q), (1, .int (nI s1))] := hl
  have f24 := hts (.fieldLink RX0 24 "ChairBallot$Row" "count" "I") (by decide +kernel)
  have yX0 : ∀ w ∈ u_ws RX0 TX0 6, w.before _ s = true := fun w h => hts w ((by decide +kernel : ∀ w ∈ wsX00, w ∈ wsX0_votesIn) w h)
  have hF : CallFix p m c cX0_votesIn 4 s _ wsX0_votesIn RX0 := ⟨hx, hb, hml, hown, hts⟩
  refine lv_iconst (v := nI 0) hx hb dX0_votesIn_0 (by decide) ?_
  refine lv_istore_n (lv' := [(2, .int (nI 0)), (0, .ref q), (1, .int (nI s1))]) hx hb dX0_votesIn_1 rfl hl (by decide) rfl (fun ls hl => ?_)
  refine lv_iconst (v := nI 0) hx hb dX0_votesIn_2 (by decide) ?_
  refine lv_istore_n (lv' := [(3, .int (nI 0)), (2, .int (nI 0)), (0, .ref q), (1, .int (nI s1))]) hx hb dX0_votesIn_3 rfl hl (by decide) rfl (fun ls hl => ?_)
  have K4 : ∀ (fuel : Nat) (i : Nat) (x2 : Int32), x2 = nI (sumN (viN s1 fo ki we) i) → (i ≤ n) → (n - i) < fuel → ∀ ls : Array Slot, lv_has ls 4 [(3, .int (nI i)), (2, .int x2), (0, .ref q), (1, .int (nI s1))] → W p l e ({ frames := 3, cells := 0, slots := 0, locals := 63 }) s m (([.ref q, .int (nI s1)] : List Value).toArray) below meth c s.heap [] 0 0 (MQ below (vp_Si (fun r => r = nI (sumN (viN s1 fo ki we) n))) (([.ref q, .int (nI s1)] : List Value).toArray) s 0 0 (fun _ => False)) (F0 m 4 ls []) := by
    intro fuel
    induction fuel with
    | zero => intro i x2 e_x2 hi hmu; exact absurd hmu (Nat.not_lt_zero _)
    | succ fuel ih =>
      intro i x2 e_x2 hi hmu ls hl
      subst e_x2
      refine lv_iload_n hx hb dX0_votesIn_4 rfl (lv_at hl 0 rfl) ?_
      refine lv_aload_n hx hb dX0_votesIn_5 rfl (lv_at hl 2 rfl) ?_
      refine va_get (D := D) (ci := 0) (v := .int (nI n)) (C := RX0) (T := TX0) (N := 6) hx hb yX0 (fun _ h => h) hown hG.1 hP 0 rfl rfl 4 (by decide) f24 (fun _ h => h) rfl dX0_votesIn_6 ?_
      refine lv_icmp_ge (tgt := 34) hx hb dX0_votesIn_9 (by decide) (fun c_9 => ?_) (fun c_9 => ?_)
      ·
        replace c_9 := (nI_leI (a := n) (b := i) (by omega) (by omega)).mp c_9
        have hin : n = i := by omega
        subst hin
        refine lv_iload_n hx hb dX0_votesIn_34 rfl (lv_at hl 1 rfl) ?_
        exact xretR hx hb hr hlk dX0_votesIn_35 (by rfl)
      ·
        replace c_9 := (not_congr (nI_leI (a := n) (b := i) (by omega) (by omega))).mp c_9
        refine lv_iload_n hx hb dX0_votesIn_12 rfl (lv_at hl 3 rfl) ?_
        refine lv_iload_n hx hb dX0_votesIn_13 rfl (lv_at hl 0 rfl) ?_
        refine xrd (va_runSN (As := [.int (nI s1), .int (nI i)]) (rest := []) hF (c_X2_isIn l D cI cS s1 i (by first | assumption | omega) (by first | assumption | omega)) ⟨va_cnB 2 hts gX0_votesIn_X2_isIn_n70 rfl rfl rfl hG.2.2 (hts (.initialized RX2) (by decide +kernel)) hD_X2_isIn ⟨Nat.le_of_ble_eq_true rfl, Nat.le_of_ble_eq_true rfl⟩, hts (.static yX2_isIn) (by decide +kernel), trivial⟩ (PR.pre hG (hP.sub (ws' := []) [] rfl)) rfl rfl hl.1 rfl (lv_room (Nat.le_of_ble_eq_true rfl)) dX0_votesIn_14 ⟨Nat.le_refl _, Nat.le_refl _⟩) ?_
        refine lv_if_eq (tgt := 28) hx hb dX0_votesIn_17 (by decide) (fun c_17 => ?_) (fun c_17 => ?_)
        ·
          replace c_17 := bI_0.mp c_17
          refine lv_iinc (v := nI (i + 1)) (lv' := [(3, .int (nI (i + 1))), (2, .int (nI (sumN (viN s1 fo ki we) i))), (0, .ref q), (1, .int (nI s1))]) hx hb dX0_votesIn_28 hl (k := 0) rfl xinc1 (by decide) rfl (fun ls hl => ?_)
          refine lv_goto (tgt := 4) hx hb dX0_votesIn_31 (by decide) ?_
          exact ih (i + 1) (nI (sumN (viN s1 fo ki we) i)) (by simp [sumN, viN, c_9, c_17]) (by omega) (by omega) ls (lv_sub hl [0, 1, 2, 3] rfl)
        ·
          replace c_17 := bI_n0.mp c_17
          refine lv_iload_n hx hb dX0_votesIn_20 rfl (lv_at hl 1 rfl) ?_
          refine lv_aload_n hx hb dX0_votesIn_21 rfl (lv_at hl 2 rfl) ?_
          refine lv_iload_n hx hb dX0_votesIn_22 rfl (lv_at hl 0 rfl) ?_
          refine xrd (va_runV (As := [.int (nI i)]) (rest := [.int (nI (sumN (viN s1 fo ki we) i))]) hF (c_X0_votes l D cI cS q a0 a1 a2 a3 n fo ki st we lo i (by first | assumption | omega) (by first | assumption | omega) (by first | assumption | omega) (by first | assumption | omega) (by first | assumption | omega)) (cwV 1 hts gX0_votesIn_X0_votes rfl rfl rfl hV_X0_votes ⟨Nat.le_of_ble_eq_true rfl, Nat.le_of_ble_eq_true rfl⟩) (PR.preV hG hP (ci := 0) rfl rfl) rfl rfl hl.1 rfl (lv_room (Nat.le_of_ble_eq_true rfl)) dX0_votesIn_23 ⟨Nat.le_refl _, Nat.le_refl _⟩) ?_
          refine xaddN hx hb dX0_votesIn_26 ?_
          refine lv_istore_n (lv' := [(2, .int (nI (sumN (viN s1 fo ki we) i + voN fo ki we i))), (3, .int (nI i)), (0, .ref q), (1, .int (nI s1))]) hx hb dX0_votesIn_27 rfl hl (by decide) rfl (fun ls hl => ?_)
          refine lv_iinc (v := nI (i + 1)) (lv' := [(3, .int (nI (i + 1))), (2, .int (nI (sumN (viN s1 fo ki we) i + voN fo ki we i))), (0, .ref q), (1, .int (nI s1))]) hx hb dX0_votesIn_28 hl (k := 1) rfl xinc1 (by decide) rfl (fun ls hl => ?_)
          refine lv_goto (tgt := 4) hx hb dX0_votesIn_31 (by decide) ?_
          exact ih (i + 1) (nI (sumN (viN s1 fo ki we) i + voN fo ki we i)) (by simp [sumN, viN, c_9, c_17]) (by omega) (by omega) ls (lv_sub hl [0, 1, 2, 3] rfl)
  exact K4 _ 0 (nI 0) (by first | rfl | omega | assumption) (by first | rfl | omega | assumption) (Nat.lt_succ_self _) ls (lv_sub hl [0, 1, 2, 3] rfl)

set_option maxHeartbeats 4000000 in
set_option maxRecDepth 100000 in
theorem c_X0_votesOf (l : Launch) (D : va_G) (cI cS : ClassId) (q : Nat) (a0 : Nat) (a1 : Nat) (a2 : Nat) (a3 : Nat) (n : Nat) (fo : Nat) (ki : Nat → Nat) (st : Nat → Nat) (we : Nat → Nat) (lo : Nat → Nat) (s1 : Nat) (hn : n ≤ 8) (hfo : fo < 256) (hki : ∀ j, ki j ≤ 2) (hwe : ∀ j, we j ≤ 9) (hst : ∀ j, st j ≤ 3) (hlo : ∀ j, lo j ≤ 3) (hs : s1 ≤ 2) : Met l yX0_votesOf wsX0_votesOf ({ frames := 4, cells := 0, slots := 0, locals := 86 }) (PR D cI cS [.ref q, .int (nI s1)] (wRow cI q a0 a1 a2 a3 n fo ki st we lo)) (vp_Si (fun r => r = nI (vfN n fo ki st we lo s1))) 0 0 (fun _ => False) := by
  refine startR (by decide) rfl (Nat.le_of_ble_eq_true rfl) ?_
  intro p e s m below meth c hx hb hr hts hown hlk hml hG hP ls hl
  have hl : lv_has ls 2 [(0, .ref q), (1, .int (nI s1))] := hl
  have hF : CallFix p m c cX0_votesOf 2 s _ wsX0_votesOf RX0 := ⟨hx, hb, hml, hown, hts⟩
  refine lv_aload_n hx hb dX0_votesOf_0 rfl (lv_at hl 0 rfl) ?_
  refine lv_aload_n hx hb dX0_votesOf_1 rfl (lv_at hl 0 rfl) ?_
  refine lv_iload_n hx hb dX0_votesOf_2 rfl (lv_at hl 1 rfl) ?_
  refine xrd (va_runV (As := [.int (nI s1)]) (rest := [.ref q]) hF (c_X0_chairsOf l D cI cS q a0 a1 a2 a3 n fo ki st we lo s1 (by first | assumption | omega) (by first | assumption | omega) (by first | assumption | omega) (by first | assumption | omega) (by first | assumption | omega)) (cwV 1 hts gX0_votesOf_X0_chairsOf rfl rfl rfl hV_X0_chairsOf ⟨Nat.le_of_ble_eq_true rfl, Nat.le_of_ble_eq_true rfl⟩) (PR.preV hG hP (ci := 0) rfl rfl) rfl rfl hl.1 rfl (lv_room (Nat.le_of_ble_eq_true rfl)) dX0_votesOf_3 ⟨Nat.le_refl _, Nat.le_refl _⟩) ?_
  refine xrd (va_runV (As := [.int (nI (setN (fun j => decide (sdN n fo st lo j = s1)) n))]) (rest := []) hF (c_X0_votesIn l D cI cS q a0 a1 a2 a3 n fo ki st we lo (setN (fun j => decide (sdN n fo st lo j = s1)) n) (by first | assumption | omega) (by first | assumption | omega) (by first | assumption | omega) (by first | assumption | omega) (by exact setN_256 hn)) (cwV 1 hts gX0_votesOf_X0_votesIn rfl rfl rfl hV_X0_votesIn ⟨Nat.le_of_ble_eq_true rfl, Nat.le_of_ble_eq_true rfl⟩) (PR.preV hG hP (ci := 0) rfl rfl) rfl rfl hl.1 rfl (lv_room (Nat.le_of_ble_eq_true rfl)) dX0_votesOf_6 ⟨Nat.le_refl _, Nat.le_refl _⟩) ?_
  exact xretR hx hb hr hlk dX0_votesOf_9 (by rw [vf_eq])

set_option maxHeartbeats 4000000 in
set_option maxRecDepth 100000 in
theorem c_X0_votesOfStripes (l : Launch) (D : va_G) (cI cS : ClassId) (q : Nat) (a0 : Nat) (a1 : Nat) (a2 : Nat) (a3 : Nat) (n : Nat) (fo : Nat) (ki : Nat → Nat) (st : Nat → Nat) (we : Nat → Nat) (lo : Nat → Nat) (s1 : Nat) (hn : n ≤ 8) (hfo : fo < 256) (hki : ∀ j, ki j ≤ 2) (hwe : ∀ j, we j ≤ 9) (hst : ∀ j, st j ≤ 3) (hs : s1 < 256) : Met l yX0_votesOfStripes wsX0_votesOfStripes ({ frames := 3, cells := 0, slots := 0, locals := 63 }) (PR D cI cS [.ref q, .int (nI s1)] (wRow cI q a0 a1 a2 a3 n fo ki st we lo)) (vp_Si (fun r => r = nI (sumN (vsN s1 st fo ki we) n))) 0 0 (fun _ => False) := by
  refine startR (by decide) rfl (Nat.le_of_ble_eq_true rfl) ?_
  intro p e s m below meth c hx hb hr hts hown hlk hml hG hP ls hl
  have hl : lv_has ls 4 [(0, .ref q), (1, .int (nI s1))] := hl
  have f24 := hts (.fieldLink RX0 24 "ChairBallot$Row" "count" "I") (by decide +kernel)
  have f15 := hts (.fieldLink RX0 15 "ChairBallot$Row" "stripe" "[I") (by decide +kernel)
  have yX0 : ∀ w ∈ u_ws RX0 TX0 6, w.before _ s = true := fun w h => hts w ((by decide +kernel : ∀ w ∈ wsX00, w ∈ wsX0_votesOfStripes) w h)
  have hF : CallFix p m c cX0_votesOfStripes 4 s _ wsX0_votesOfStripes RX0 := ⟨hx, hb, hml, hown, hts⟩
  refine lv_iconst (v := nI 0) hx hb dX0_votesOfStripes_0 (by decide) ?_
  refine lv_istore_n (lv' := [(2, .int (nI 0)), (0, .ref q), (1, .int (nI s1))]) hx hb dX0_votesOfStripes_1 rfl hl (by decide) rfl (fun ls hl => ?_)
  refine lv_iconst (v := nI 0) hx hb dX0_votesOfStripes_2 (by decide) ?_
  refine lv_istore_n (lv' := [(3, .int (nI 0)), (2, .int (nI 0)), (0, .ref q), (1, .int (nI s1))]) hx hb dX0_votesOfStripes_3 rfl hl (by decide) rfl (fun ls hl => ?_)
  have K4 : ∀ (fuel : Nat) (i : Nat) (x2 : Int32), x2 = nI (sumN (vsN s1 st fo ki we) i) → (i ≤ n) → (n - i) < fuel → ∀ ls : Array Slot, lv_has ls 4 [(3, .int (nI i)), (2, .int x2), (0, .ref q), (1, .int (nI s1))] → W p l e ({ frames := 3, cells := 0, slots := 0, locals := 63 }) s m (([.ref q, .int (nI s1)] : List Value).toArray) below meth c s.heap [] 0 0 (MQ below (vp_Si (fun r => r = nI (sumN (vsN s1 st fo ki we) n))) (([.ref q, .int (nI s1)] : List Value).toArray) s 0 0 (fun _ => False)) (F0 m 4 ls []) := by
    intro fuel
    induction fuel with
    | zero => intro i x2 e_x2 hi hmu; exact absurd hmu (Nat.not_lt_zero _)
    | succ fuel ih =>
      intro i x2 e_x2 hi hmu ls hl
      subst e_x2
      have hsi := hst i
      refine lv_iload_n hx hb dX0_votesOfStripes_4 rfl (lv_at hl 0 rfl) ?_
      refine lv_aload_n hx hb dX0_votesOfStripes_5 rfl (lv_at hl 2 rfl) ?_
      refine va_get (D := D) (ci := 0) (v := .int (nI n)) (C := RX0) (T := TX0) (N := 6) hx hb yX0 (fun _ h => h) hown hG.1 hP 0 rfl rfl 4 (by decide) f24 (fun _ h => h) rfl dX0_votesOfStripes_6 ?_
      refine lv_icmp_ge (tgt := 39) hx hb dX0_votesOfStripes_9 (by decide) (fun c_9 => ?_) (fun c_9 => ?_)
      ·
        replace c_9 := (nI_leI (a := n) (b := i) (by omega) (by omega)).mp c_9
        have hin : n = i := by omega
        subst hin
        refine lv_iload_n hx hb dX0_votesOfStripes_39 rfl (lv_at hl 1 rfl) ?_
        exact xretR hx hb hr hlk dX0_votesOfStripes_40 (by rfl)
      ·
        replace c_9 := (not_congr (nI_leI (a := n) (b := i) (by omega) (by omega))).mp c_9
        refine lv_iload_n hx hb dX0_votesOfStripes_12 rfl (lv_at hl 3 rfl) ?_
        refine lv_aload_n hx hb dX0_votesOfStripes_13 rfl (lv_at hl 2 rfl) ?_
        refine va_get (D := D) (ci := 0) (v := .ref a1) (C := RX0) (T := TX0) (N := 6) hx hb yX0 (fun _ h => h) hown hG.1 hP 0 rfl rfl 1 (by decide) f15 (fun _ h => h) rfl dX0_votesOfStripes_14 ?_
        refine lv_iload_n hx hb dX0_votesOfStripes_17 rfl (lv_at hl 0 rfl) ?_
        refine xaldN hx hb hG hP 2 rfl (i) rfl (by omega) (by decide) dX0_votesOfStripes_18 ?_
        refine xrd (va_runSN (As := [.int (nI s1), .int (nI (st i))]) (rest := []) hF (c_X2_isIn l D cI cS s1 (st i) (by first | assumption | omega) (by first | assumption | omega)) ⟨va_cnB 2 hts gX0_votesOfStripes_X2_isIn_n70 rfl rfl rfl hG.2.2 (hts (.initialized RX2) (by decide +kernel)) hD_X2_isIn ⟨Nat.le_of_ble_eq_true rfl, Nat.le_of_ble_eq_true rfl⟩, hts (.static yX2_isIn) (by decide +kernel), trivial⟩ (PR.pre hG (hP.sub (ws' := []) [] rfl)) rfl rfl hl.1 rfl (lv_room (Nat.le_of_ble_eq_true rfl)) dX0_votesOfStripes_19 ⟨Nat.le_refl _, Nat.le_refl _⟩) ?_
        refine lv_if_eq (tgt := 33) hx hb dX0_votesOfStripes_22 (by decide) (fun c_22 => ?_) (fun c_22 => ?_)
        ·
          replace c_22 := bI_0.mp c_22
          refine lv_iinc (v := nI (i + 1)) (lv' := [(3, .int (nI (i + 1))), (2, .int (nI (sumN (vsN s1 st fo ki we) i))), (0, .ref q), (1, .int (nI s1))]) hx hb dX0_votesOfStripes_33 hl (k := 0) rfl xinc1 (by decide) rfl (fun ls hl => ?_)
          refine lv_goto (tgt := 4) hx hb dX0_votesOfStripes_36 (by decide) ?_
          exact ih (i + 1) (nI (sumN (vsN s1 st fo ki we) i)) (by simp [sumN, vsN, c_9, c_22]) (by omega) (by omega) ls (lv_sub hl [0, 1, 2, 3] rfl)
        ·
          replace c_22 := bI_n0.mp c_22
          refine lv_iload_n hx hb dX0_votesOfStripes_25 rfl (lv_at hl 1 rfl) ?_
          refine lv_aload_n hx hb dX0_votesOfStripes_26 rfl (lv_at hl 2 rfl) ?_
          refine lv_iload_n hx hb dX0_votesOfStripes_27 rfl (lv_at hl 0 rfl) ?_
          refine xrd (va_runV (As := [.int (nI i)]) (rest := [.int (nI (sumN (vsN s1 st fo ki we) i))]) hF (c_X0_votes l D cI cS q a0 a1 a2 a3 n fo ki st we lo i (by first | assumption | omega) (by first | assumption | omega) (by first | assumption | omega) (by first | assumption | omega) (by first | assumption | omega)) (cwV 1 hts gX0_votesOfStripes_X0_votes rfl rfl rfl hV_X0_votes ⟨Nat.le_of_ble_eq_true rfl, Nat.le_of_ble_eq_true rfl⟩) (PR.preV hG hP (ci := 0) rfl rfl) rfl rfl hl.1 rfl (lv_room (Nat.le_of_ble_eq_true rfl)) dX0_votesOfStripes_28 ⟨Nat.le_refl _, Nat.le_refl _⟩) ?_
          refine xaddN hx hb dX0_votesOfStripes_31 ?_
          refine lv_istore_n (lv' := [(2, .int (nI (sumN (vsN s1 st fo ki we) i + voN fo ki we i))), (3, .int (nI i)), (0, .ref q), (1, .int (nI s1))]) hx hb dX0_votesOfStripes_32 rfl hl (by decide) rfl (fun ls hl => ?_)
          refine lv_iinc (v := nI (i + 1)) (lv' := [(3, .int (nI (i + 1))), (2, .int (nI (sumN (vsN s1 st fo ki we) i + voN fo ki we i))), (0, .ref q), (1, .int (nI s1))]) hx hb dX0_votesOfStripes_33 hl (k := 1) rfl xinc1 (by decide) rfl (fun ls hl => ?_)
          refine lv_goto (tgt := 4) hx hb dX0_votesOfStripes_36 (by decide) ?_
          exact ih (i + 1) (nI (sumN (vsN s1 st fo ki we) i + voN fo ki we i)) (by simp [sumN, vsN, c_9, c_22]) (by omega) (by omega) ls (lv_sub hl [0, 1, 2, 3] rfl)
  exact K4 _ 0 (nI 0) (by first | rfl | omega | assumption) (by first | rfl | omega | assumption) (Nat.lt_succ_self _) ls (lv_sub hl [0, 1, 2, 3] rfl)

set_option maxHeartbeats 4000000 in
set_option maxRecDepth 100000 in
theorem c_X0_turned (l : Launch) (D : va_G) (cI cS : ClassId) (q : Nat) (a0 : Nat) (a1 : Nat) (a2 : Nat) (a3 : Nat) (n : Nat) (fo : Nat) (ki : Nat → Nat) (st : Nat → Nat) (we : Nat → Nat) (lo : Nat → Nat) (j : Nat) (w : Nat) (hnd : nd [q, a0, a1, a2, a3]) (hn : n ≤ 8) (hfo : fo < 256) (hj : j < n) : Met l yX0_turned wsX0_turned ({ frames := 1, cells := 0, slots := 0, locals := 21 }) (PR D cI cS [.ref q, .int (nI j), .int (nI w)] (wRow cI q a0 a1 a2 a3 n fo ki st we lo)) (va_Qi (fun r (u : Unit) => r = bI (!fo.testBit j)) (fun (u : Unit) t => va_P D vwCl (wRow cI q a0 a1 a2 a3 n fo ki st we (trn fo lo j w)) t.heap) (AW [q, a0, a1, a2, a3])) 0 0 (AW [q, a0, a1, a2, a3]) := by
  refine startM (by decide) rfl (Nat.le_of_ble_eq_true rfl) hnd rfl ?_
  intro p e s m below meth c hx hb hr hts hown hlk hml hG hP hD hS ls hl
  have hl : lv_has ls 3 [(0, .ref q), (1, .int (nI j)), (2, .int (nI w))] := hl
  have f21 := hts (.fieldLink RX0 21 "ChairBallot$Row" "looks" "[I") (by decide +kernel)
  have yX0 : ∀ w ∈ u_ws RX0 TX0 6, w.before _ s = true := fun w h => hts w ((by decide +kernel : ∀ w ∈ wsX00, w ∈ wsX0_turned) w h)
  have hF : CallFix p m c cX0_turned 3 s _ wsX0_turned RX0 := ⟨hx, hb, hml, hown, hts⟩
  refine lv_aload_n hx hb dX0_turned_0 rfl (lv_at hl 0 rfl) ?_
  refine lv_iload_n hx hb dX0_turned_1 rfl (lv_at hl 1 rfl) ?_
  refine xrd (va_runV (As := [.int (nI j)]) (rest := []) hF (c_X0_hasN l D cI cS q a0 a1 a2 a3 n fo ki st we lo j (by first | assumption | omega) (by first | assumption | omega)) (cwV 1 hts gX0_turned_X0_has rfl rfl rfl hV_X0_has ⟨Nat.le_of_ble_eq_true rfl, Nat.le_of_ble_eq_true rfl⟩) (PR.preV hG hP (ci := 0) rfl rfl) rfl rfl hl.1 rfl (lv_room (Nat.le_of_ble_eq_true rfl)) dX0_turned_2 ⟨Nat.le_refl _, Nat.le_refl _⟩) ?_
  refine lv_if_eq (tgt := 16) hx hb dX0_turned_5 (by decide) (fun c_5 => ?_) (fun c_5 => ?_)
  ·
    replace c_5 := bI_0.mp c_5
    replace c_5 := of_decide_eq_false c_5
    omega
  ·
    replace c_5 := bI_n0.mp c_5
    replace c_5 := of_decide_eq_true c_5
    refine lv_aload_n hx hb dX0_turned_8 rfl (lv_at hl 0 rfl) ?_
    refine lv_iload_n hx hb dX0_turned_9 rfl (lv_at hl 1 rfl) ?_
    refine xrd (va_runV (As := [.int (nI j)]) (rest := []) hF (c_X0_isFolded l D cI cS q a0 a1 a2 a3 n fo ki st we lo j (by first | assumption | omega) (by first | assumption | omega)) (cwV 1 hts gX0_turned_X0_isFolded rfl rfl rfl hV_X0_isFolded ⟨Nat.le_of_ble_eq_true rfl, Nat.le_of_ble_eq_true rfl⟩) (PR.preV hG hP (ci := 0) rfl rfl) rfl rfl hl.1 rfl (lv_room (Nat.le_of_ble_eq_true rfl)) dX0_turned_10 ⟨Nat.le_refl _, Nat.le_refl _⟩) ?_
    refine lv_if_eq (tgt := 18) hx hb dX0_turned_13 (by decide) (fun c_13 => ?_) (fun c_13 => ?_)
    ·
      replace c_13 := bI_0.mp c_13
      refine lv_aload_n hx hb dX0_turned_18 rfl (lv_at hl 0 rfl) ?_
      refine va_get (D := D) (ci := 0) (v := .ref a3) (C := RX0) (T := TX0) (N := 6) hx hb yX0 (fun _ h => h) hown hG.1 hP 0 rfl rfl 3 (by decide) f21 (fun _ h => h) rfl dX0_turned_19 ?_
      refine lv_iload_n hx hb dX0_turned_22 rfl (lv_at hl 1 rfl) ?_
      refine lv_iload_n hx hb dX0_turned_23 rfl (lv_at hl 2 rfl) ?_
      refine xastN hx hb hG hP hD hS 4 rfl (j) (w) rfl rfl (by omega) (by decide) dX0_turned_24 (fun H locs hP hD hS => ?_)
      have hP : va_P D vwCl (wRow cI q a0 a1 a2 a3 n fo ki st we (updN lo j w)) H := hP
      have hD : va_D (AW [q, a0, a1, a2, a3]) (wRow cI q a0 a1 a2 a3 n fo ki st we (updN lo j w)) := hD
      refine lv_iconst (v := nI 1) hx hb dX0_turned_25 (by decide) ?_
      exact xretMz hx hb hr hlk dX0_turned_26 hS (true) rfl () (by rw [c_13]; rfl) (fun t ht => by rw [ht]; rw [show trn fo lo j w = (updN lo j w) from by simp [trn, c_5, c_13]]; exact hP)
    ·
      replace c_13 := bI_n0.mp c_13
      refine lv_iconst (v := nI 0) hx hb dX0_turned_16 (by decide) ?_
      exact xretMz hx hb hr hlk dX0_turned_17 hS (false) rfl () (by rw [c_13]; rfl) (fun t ht => by rw [ht]; rw [show trn fo lo j w = lo from by simp [trn, c_5, c_13]]; exact hP)

set_option maxHeartbeats 4000000 in
set_option maxRecDepth 100000 in
theorem c_X0_blown (l : Launch) (D : va_G) (cI cS : ClassId) (q : Nat) (a0 : Nat) (a1 : Nat) (a2 : Nat) (a3 : Nat) (n : Nat) (fo : Nat) (ki : Nat → Nat) (st : Nat → Nat) (we : Nat → Nat) (lo : Nat → Nat) (w : Nat) (v : Nat) (hnd : nd [q, a0, a1, a2, a3]) (hn : n ≤ 8) (hfo : fo < 256) (hlo : ∀ j, lo j ≤ 3) (hwe : ∀ j, we j ≤ 9) (hw : w ≤ 3) (hv : v ≤ 10) : Met l yX0_blown wsX0_blown ({ frames := 1, cells := 0, slots := 0, locals := 21 }) (PR D cI cS [.ref q, .int (nI w), .int (nI v)] (wRow cI q a0 a1 a2 a3 n fo ki st we lo)) (va_Qi (fun r (u : Unit) => r = nI (sumN (blwC fo we lo w v) n)) (fun (u : Unit) t => va_P D vwCl (wRow cI q a0 a1 a2 a3 n fo ki st we (blwL n fo we lo w v)) t.heap) (AW [q, a0, a1, a2, a3])) 0 0 (AW [q, a0, a1, a2, a3]) := by
  refine startM (by decide) rfl (Nat.le_of_ble_eq_true rfl) hnd rfl ?_
  intro p e s m below meth c hx hb hr hts hown hlk hml hG hP hD hS ls hl
  have hl : lv_has ls 5 [(0, .ref q), (1, .int (nI w)), (2, .int (nI v))] := hl
  have f24 := hts (.fieldLink RX0 24 "ChairBallot$Row" "count" "I") (by decide +kernel)
  have f18 := hts (.fieldLink RX0 18 "ChairBallot$Row" "weight" "[I") (by decide +kernel)
  have f21 := hts (.fieldLink RX0 21 "ChairBallot$Row" "looks" "[I") (by decide +kernel)
  have yX0 : ∀ w ∈ u_ws RX0 TX0 6, w.before _ s = true := fun w h => hts w ((by decide +kernel : ∀ w ∈ wsX00, w ∈ wsX0_blown) w h)
  have hF : CallFix p m c cX0_blown 5 s _ wsX0_blown RX0 := ⟨hx, hb, hml, hown, hts⟩
  refine lv_iconst (v := nI 0) hx hb dX0_blown_0 (by decide) ?_
  refine lv_istore_n (lv' := [(3, .int (nI 0)), (0, .ref q), (1, .int (nI w)), (2, .int (nI v))]) hx hb dX0_blown_1 rfl hl (by decide) rfl (fun ls hl => ?_)
  refine lv_iconst (v := nI 0) hx hb dX0_blown_2 (by decide) ?_
  refine lv_istore (lv' := [(4, .int (nI 0)), (3, .int (nI 0)), (0, .ref q), (1, .int (nI w)), (2, .int (nI v))]) hx hb dX0_blown_3 hl (by decide) rfl (fun ls hl => ?_)
  have K5 : ∀ (fuel : Nat) (i : Nat) (x3 : Int32) (g : Nat → Nat), x3 = nI (sumN (blwC fo we lo w v) i) → g = blwL i fo we lo w v → (i ≤ n) → (n - i) < fuel → ∀ (H : Heap) (locs : List Loc), va_P D vwCl (wRow cI q a0 a1 a2 a3 n fo ki st we g) H → va_D (AW [q, a0, a1, a2, a3]) (wRow cI q a0 a1 a2 a3 n fo ki st we g) → va_S (AW [q, a0, a1, a2, a3]) s.heap H locs → ∀ ls : Array Slot, lv_has ls 5 [(4, .int (nI i)), (3, .int x3), (0, .ref q), (1, .int (nI w)), (2, .int (nI v))] → W p l e ({ frames := 1, cells := 0, slots := 0, locals := 21 }) s m (([.ref q, .int (nI w), .int (nI v)] : List Value).toArray) below meth c H locs 0 0 (MQ below (va_Qi (fun r (u : Unit) => r = nI (sumN (blwC fo we lo w v) n)) (fun (u : Unit) t => va_P D vwCl (wRow cI q a0 a1 a2 a3 n fo ki st we (blwL n fo we lo w v)) t.heap) (AW [q, a0, a1, a2, a3])) (([.ref q, .int (nI w), .int (nI v)] : List Value).toArray) s 0 0 (AW [q, a0, a1, a2, a3])) (F0 m 5 ls []) := by
    intro fuel
    induction fuel with
    | zero => intro i x3 g e_x3 e_g hi hmu; exact absurd hmu (Nat.not_lt_zero _)
    | succ fuel ih =>
      intro i x3 g e_x3 e_g hi hmu H locs hP hD hS ls hl
      subst e_x3
      subst e_g
      have hwi := hwe i
      have hli := hlo i
      refine lv_iload hx hb dX0_blown_5 (lv_at hl 0 rfl) ?_
      refine lv_aload_n hx hb dX0_blown_7 rfl (lv_at hl 2 rfl) ?_
      refine va_get (D := D) (ci := 0) (v := .int (nI n)) (C := RX0) (T := TX0) (N := 6) hx hb yX0 (fun _ h => h) hown hG.1 hP 0 rfl rfl 4 (by decide) f24 (fun _ h => h) rfl dX0_blown_8 ?_
      refine lv_icmp_ge (tgt := 62) hx hb dX0_blown_11 (by decide) (fun c_11 => ?_) (fun c_11 => ?_)
      ·
        replace c_11 := (nI_leI (a := n) (b := i) (by omega) (by omega)).mp c_11
        have hin : n = i := by omega
        subst hin
        refine lv_iload_n hx hb dX0_blown_62 rfl (lv_at hl 1 rfl) ?_
        exact xretM hx hb hr hlk dX0_blown_63 hS () (by rfl) (fun t ht => by rw [ht]; exact hP)
      ·
        replace c_11 := (not_congr (nI_leI (a := n) (b := i) (by omega) (by omega))).mp c_11
        refine lv_aload_n hx hb dX0_blown_14 rfl (lv_at hl 2 rfl) ?_
        refine lv_iload hx hb dX0_blown_15 (lv_at hl 0 rfl) ?_
        refine xrd (va_runV (As := [.int (nI i)]) (rest := []) hF (c_X0_isFolded l D cI cS q a0 a1 a2 a3 n fo ki st we (blwL i fo we lo w v) i (by first | assumption | omega) (by first | assumption | omega)) (cwV 1 hts gX0_blown_X0_isFolded rfl rfl rfl hV_X0_isFolded ⟨Nat.le_of_ble_eq_true rfl, Nat.le_of_ble_eq_true rfl⟩) (PR.preV hG hP (ci := 0) rfl rfl) rfl rfl hl.1 rfl (lv_room (Nat.le_of_ble_eq_true rfl)) dX0_blown_17 ⟨Nat.le_refl _, Nat.le_refl _⟩) ?_
        refine lv_if_ne (tgt := 56) hx hb dX0_blown_20 (by decide) (fun c_20 => ?_) (fun c_20 => ?_)
        ·
          replace c_20 := bI_n0.mp c_20
          refine lv_iinc (v := nI (i + 1)) (lv' := [(4, .int (nI (i + 1))), (3, .int (nI (sumN (blwC fo we lo w v) i))), (0, .ref q), (1, .int (nI w)), (2, .int (nI v))]) hx hb dX0_blown_56 hl (k := 0) rfl xinc1 (by decide) rfl (fun ls hl => ?_)
          refine lv_goto (tgt := 5) hx hb dX0_blown_59 (by decide) ?_
          exact ih (i + 1) (nI (sumN (blwC fo we lo w v) i)) (blwL i fo we lo w v) (by first | (simp [sumN, blwC, c_11, c_20]; done) | (simp [sumN, blwC, c_11, c_20]; congr 1; (repeat' split) <;> omega)) (by first | exact blwL_s c_20 c_31 | exact blwL_a c_20 | exact blwL_b c_31 | exact blwL_c c_42) (by omega) (by omega) _ _ hP hD hS ls (lv_sub hl [0, 1, 2, 3, 4] rfl)
        ·
          replace c_20 := bI_0.mp c_20
          refine lv_aload_n hx hb dX0_blown_23 rfl (lv_at hl 2 rfl) ?_
          refine va_get (D := D) (ci := 0) (v := .ref a2) (C := RX0) (T := TX0) (N := 6) hx hb yX0 (fun _ h => h) hown hG.1 hP 0 rfl rfl 2 (by decide) f18 (fun _ h => h) rfl dX0_blown_24 ?_
          refine lv_iload hx hb dX0_blown_27 (lv_at hl 0 rfl) ?_
          refine xaldN hx hb hG hP 3 rfl (i) rfl (by omega) (by decide) dX0_blown_29 ?_
          refine lv_iload_n hx hb dX0_blown_30 rfl (lv_at hl 4 rfl) ?_
          refine lv_icmp_ge (tgt := 56) hx hb dX0_blown_31 (by decide) (fun c_31 => ?_) (fun c_31 => ?_)
          ·
            replace c_31 := (nI_leI (a := v) (b := we i) (by omega) (by omega)).mp c_31
            refine lv_iinc (v := nI (i + 1)) (lv' := [(4, .int (nI (i + 1))), (3, .int (nI (sumN (blwC fo we lo w v) i))), (0, .ref q), (1, .int (nI w)), (2, .int (nI v))]) hx hb dX0_blown_56 hl (k := 0) rfl xinc1 (by decide) rfl (fun ls hl => ?_)
            refine lv_goto (tgt := 5) hx hb dX0_blown_59 (by decide) ?_
            exact ih (i + 1) (nI (sumN (blwC fo we lo w v) i)) (blwL i fo we lo w v) (by first | (simp [sumN, blwC, c_11, c_20, c_31]; done) | (simp [sumN, blwC, c_11, c_20, c_31]; congr 1; (repeat' split) <;> omega)) (by first | exact blwL_s c_20 c_31 | exact blwL_a c_20 | exact blwL_b c_31 | exact blwL_c c_42) (by omega) (by omega) _ _ hP hD hS ls (lv_sub hl [0, 1, 2, 3, 4] rfl)
          ·
            replace c_31 := (not_congr (nI_leI (a := v) (b := we i) (by omega) (by omega))).mp c_31
            refine lv_aload_n hx hb dX0_blown_34 rfl (lv_at hl 2 rfl) ?_
            refine va_get (D := D) (ci := 0) (v := .ref a3) (C := RX0) (T := TX0) (N := 6) hx hb yX0 (fun _ h => h) hown hG.1 hP 0 rfl rfl 3 (by decide) f21 (fun _ h => h) rfl dX0_blown_35 ?_
            refine lv_iload hx hb dX0_blown_38 (lv_at hl 0 rfl) ?_
            refine xaldN hx hb hG hP 4 rfl (i) rfl (by omega) (by decide) dX0_blown_40 ?_
            refine xtop (x' := nI (lo i)) (by simp [blwL]) ?_
            refine lv_iload_n hx hb dX0_blown_41 rfl (lv_at hl 3 rfl) ?_
            refine lv_icmp_eq (tgt := 56) hx hb dX0_blown_42 (by decide) (fun c_42 => ?_) (fun c_42 => ?_)
            ·
              replace c_42 := (nI_eq (a := lo i) (b := w) (by omega) (by omega)).mp c_42
              refine lv_iinc (v := nI (i + 1)) (lv' := [(4, .int (nI (i + 1))), (3, .int (nI (sumN (blwC fo we lo w v) i))), (0, .ref q), (1, .int (nI w)), (2, .int (nI v))]) hx hb dX0_blown_56 hl (k := 0) rfl xinc1 (by decide) rfl (fun ls hl => ?_)
              refine lv_goto (tgt := 5) hx hb dX0_blown_59 (by decide) ?_
              exact ih (i + 1) (nI (sumN (blwC fo we lo w v) i)) (blwL i fo we lo w v) (by first | (simp [sumN, blwC, c_11, c_20, c_31, c_42]; done) | (simp [sumN, blwC, c_11, c_20, c_31, c_42]; congr 1; (repeat' split) <;> omega)) (by first | exact blwL_s c_20 c_31 | exact blwL_a c_20 | exact blwL_b c_31 | exact blwL_c c_42) (by omega) (by omega) _ _ hP hD hS ls (lv_sub hl [0, 1, 2, 3, 4] rfl)
            ·
              replace c_42 := (not_congr (nI_eq (a := lo i) (b := w) (by omega) (by omega))).mp c_42
              refine lv_aload_n hx hb dX0_blown_45 rfl (lv_at hl 2 rfl) ?_
              refine va_get (D := D) (ci := 0) (v := .ref a3) (C := RX0) (T := TX0) (N := 6) hx hb yX0 (fun _ h => h) hown hG.1 hP 0 rfl rfl 3 (by decide) f21 (fun _ h => h) rfl dX0_blown_46 ?_
              refine lv_iload hx hb dX0_blown_49 (lv_at hl 0 rfl) ?_
              refine lv_iload_n hx hb dX0_blown_51 rfl (lv_at hl 3 rfl) ?_
              refine xastN hx hb hG hP hD hS 4 rfl (i) (w) rfl rfl (by omega) (by decide) dX0_blown_52 (fun H locs hP hD hS => ?_)
              have hP : va_P D vwCl (wRow cI q a0 a1 a2 a3 n fo ki st we (updN (blwL i fo we lo w v) i w)) H := hP
              have hD : va_D (AW [q, a0, a1, a2, a3]) (wRow cI q a0 a1 a2 a3 n fo ki st we (updN (blwL i fo we lo w v) i w)) := hD
              refine lv_iinc (v := nI (sumN (blwC fo we lo w v) i + 1)) (lv' := [(3, .int (nI (sumN (blwC fo we lo w v) i + 1))), (4, .int (nI i)), (0, .ref q), (1, .int (nI w)), (2, .int (nI v))]) hx hb dX0_blown_53 hl (k := 1) rfl xinc1 (by decide) rfl (fun ls hl => ?_)
              refine lv_iinc (v := nI (i + 1)) (lv' := [(4, .int (nI (i + 1))), (3, .int (nI (sumN (blwC fo we lo w v) i + 1))), (0, .ref q), (1, .int (nI w)), (2, .int (nI v))]) hx hb dX0_blown_56 hl (k := 1) rfl xinc1 (by decide) rfl (fun ls hl => ?_)
              refine lv_goto (tgt := 5) hx hb dX0_blown_59 (by decide) ?_
              exact ih (i + 1) (nI (sumN (blwC fo we lo w v) i + 1)) (updN (blwL i fo we lo w v) i w) (by first | (simp [sumN, blwC, c_11, c_20, c_31, c_42]; done) | (simp [sumN, blwC, c_11, c_20, c_31, c_42]; congr 1; (repeat' split) <;> omega)) (by first | exact blwL_s c_20 c_31 | exact blwL_a c_20 | exact blwL_b c_31 | exact blwL_c c_42) (by omega) (by omega) _ _ hP hD hS ls (lv_sub hl [0, 1, 2, 3, 4] rfl)
  exact K5 _ 0 (nI 0) lo (by first | rfl | exact (blwL_0 ..).symm | omega) (by first | rfl | exact (blwL_0 ..).symm | omega) (by first | rfl | exact (blwL_0 ..).symm | omega) (Nat.lt_succ_self _) _ _ hP hD hS ls (lv_sub hl [0, 1, 2, 3, 4] rfl)

set_option maxHeartbeats 4000000 in
set_option maxRecDepth 100000 in
theorem c_J6_bitCount (l : Launch) (D : va_G) (cI cS : ClassId) (a : Nat) (ha : a < 256) : Met l yJ6_bitCount_0f7a4 wsJ6_bitCount_0f7a4 ({ frames := 0, cells := 0, slots := 0, locals := 0 }) (PR D cI cS [.int (nI a)] []) (vp_Si (fun r => r = nI (popN a))) 0 0 (fun _ => False) := by
  refine startR (by decide) rfl (Nat.le_of_ble_eq_true rfl) ?_
  intro p e s m below meth c hx hb hr hts hown hlk hml hG hP ls hl
  have hl : lv_has ls 1 [(0, .int (nI a))] := hl
  have hF : CallFix p m c cJ6_bitCount_0f7a4 1 s _ wsJ6_bitCount_0f7a4 RJ6 := ⟨hx, hb, hml, hown, hts⟩
  refine lv_iload_n hx hb dJ6_bitCount_0f7a4_0 rfl (lv_at hl 0 rfl) ?_
  refine lv_iload_n hx hb dJ6_bitCount_0f7a4_1 rfl (lv_at hl 0 rfl) ?_
  refine lv_iconst (v := nI 1) hx hb dJ6_bitCount_0f7a4_2 (by decide) ?_
  refine lv_iushr (v := ((nI a).toUInt32 >>> ((nI 1).toUInt32 &&& Int32.toUInt32 31)).toInt32) hx hb dJ6_bitCount_0f7a4_3 rfl ?_
  refine lv_ldcw (v := 1431655765) hx hb hown (hts (.constant RJ6 265 (1431655765)) (by decide +kernel)) dJ6_bitCount_0f7a4_4 ?_
  refine lv_iand hx hb dJ6_bitCount_0f7a4_7 ?_
  refine lv_isub hx hb dJ6_bitCount_0f7a4_8 ?_
  refine xtop (x' := bc1 (nI a)) (by rfl) ?_
  refine lv_istore_n (lv' := [(0, .int (bc1 (nI a)))]) hx hb dJ6_bitCount_0f7a4_9 rfl hl (by decide) rfl (fun ls hl => ?_)
  refine lv_iload_n hx hb dJ6_bitCount_0f7a4_10 rfl (lv_at hl 0 rfl) ?_
  refine lv_ldcw (v := 858993459) hx hb hown (hts (.constant RJ6 266 (858993459)) (by decide +kernel)) dJ6_bitCount_0f7a4_11 ?_
  refine lv_iand hx hb dJ6_bitCount_0f7a4_14 ?_
  refine lv_iload_n hx hb dJ6_bitCount_0f7a4_15 rfl (lv_at hl 0 rfl) ?_
  refine lv_iconst (v := nI 2) hx hb dJ6_bitCount_0f7a4_16 (by decide) ?_
  refine lv_iushr (v := ((bc1 (nI a)).toUInt32 >>> ((nI 2).toUInt32 &&& Int32.toUInt32 31)).toInt32) hx hb dJ6_bitCount_0f7a4_17 rfl ?_
  refine lv_ldcw (v := 858993459) hx hb hown (hts (.constant RJ6 266 (858993459)) (by decide +kernel)) dJ6_bitCount_0f7a4_18 ?_
  refine lv_iand hx hb dJ6_bitCount_0f7a4_21 ?_
  refine lv_iadd hx hb dJ6_bitCount_0f7a4_22 ?_
  refine xtop (x' := bc2 (bc1 (nI a))) (by rfl) ?_
  refine lv_istore_n (lv' := [(0, .int (bc2 (bc1 (nI a))))]) hx hb dJ6_bitCount_0f7a4_23 rfl hl (by decide) rfl (fun ls hl => ?_)
  refine lv_iload_n hx hb dJ6_bitCount_0f7a4_24 rfl (lv_at hl 0 rfl) ?_
  refine lv_iload_n hx hb dJ6_bitCount_0f7a4_25 rfl (lv_at hl 0 rfl) ?_
  refine lv_iconst (v := nI 4) hx hb dJ6_bitCount_0f7a4_26 (by decide) ?_
  refine lv_iushr (v := ((bc2 (bc1 (nI a))).toUInt32 >>> ((nI 4).toUInt32 &&& Int32.toUInt32 31)).toInt32) hx hb dJ6_bitCount_0f7a4_27 rfl ?_
  refine lv_iadd hx hb dJ6_bitCount_0f7a4_28 ?_
  refine lv_ldcw (v := 252645135) hx hb hown (hts (.constant RJ6 267 (252645135)) (by decide +kernel)) dJ6_bitCount_0f7a4_29 ?_
  refine lv_iand hx hb dJ6_bitCount_0f7a4_32 ?_
  refine xtop (x' := bc3 (bc2 (bc1 (nI a)))) (by rfl) ?_
  refine lv_istore_n (lv' := [(0, .int (bc3 (bc2 (bc1 (nI a)))))]) hx hb dJ6_bitCount_0f7a4_33 rfl hl (by decide) rfl (fun ls hl => ?_)
  refine lv_iload_n hx hb dJ6_bitCount_0f7a4_34 rfl (lv_at hl 0 rfl) ?_
  refine lv_iload_n hx hb dJ6_bitCount_0f7a4_35 rfl (lv_at hl 0 rfl) ?_
  refine lv_bipush (v := nI 8) hx hb dJ6_bitCount_0f7a4_36 (by decide) ?_
  refine lv_iushr (v := ((bc3 (bc2 (bc1 (nI a)))).toUInt32 >>> ((nI 8).toUInt32 &&& Int32.toUInt32 31)).toInt32) hx hb dJ6_bitCount_0f7a4_38 rfl ?_
  refine lv_iadd hx hb dJ6_bitCount_0f7a4_39 ?_
  refine xtop (x' := bc4 (bc3 (bc2 (bc1 (nI a))))) (by rfl) ?_
  refine lv_istore_n (lv' := [(0, .int (bc4 (bc3 (bc2 (bc1 (nI a))))))]) hx hb dJ6_bitCount_0f7a4_40 rfl hl (by decide) rfl (fun ls hl => ?_)
  refine lv_iload_n hx hb dJ6_bitCount_0f7a4_41 rfl (lv_at hl 0 rfl) ?_
  refine lv_iload_n hx hb dJ6_bitCount_0f7a4_42 rfl (lv_at hl 0 rfl) ?_
  refine lv_bipush (v := nI 16) hx hb dJ6_bitCount_0f7a4_43 (by decide) ?_
  refine lv_iushr (v := ((bc4 (bc3 (bc2 (bc1 (nI a))))).toUInt32 >>> ((nI 16).toUInt32 &&& Int32.toUInt32 31)).toInt32) hx hb dJ6_bitCount_0f7a4_45 rfl ?_
  refine lv_iadd hx hb dJ6_bitCount_0f7a4_46 ?_
  refine xtop (x' := bc5 (bc4 (bc3 (bc2 (bc1 (nI a)))))) (by rfl) ?_
  refine lv_istore_n (lv' := [(0, .int (bc5 (bc4 (bc3 (bc2 (bc1 (nI a)))))))]) hx hb dJ6_bitCount_0f7a4_47 rfl hl (by decide) rfl (fun ls hl => ?_)
  refine lv_iload_n hx hb dJ6_bitCount_0f7a4_48 rfl (lv_at hl 0 rfl) ?_
  refine lv_bipush (v := nI 63) hx hb dJ6_bitCount_0f7a4_49 (by decide) ?_
  refine lv_iand hx hb dJ6_bitCount_0f7a4_51 ?_
  exact xretR hx hb hr hlk dJ6_bitCount_0f7a4_52 (by exact bc_pop a ha)

set_option maxHeartbeats 4000000 in
set_option maxRecDepth 100000 in
theorem c_X0_foldedByRain (l : Launch) (D : va_G) (cI cS : ClassId) (q : Nat) (a0 : Nat) (a1 : Nat) (a2 : Nat) (a3 : Nat) (n : Nat) (fo : Nat) (ki : Nat → Nat) (st : Nat → Nat) (we : Nat → Nat) (lo : Nat → Nat) (hnd : nd [q, a0, a1, a2, a3]) (hn : n ≤ 8) (hfo : fo < 256) : Met l yX0_foldedByRain wsX0_foldedByRain ({ frames := 1, cells := 0, slots := 0, locals := 20 }) (PR D cI cS [.ref q] (wRow cI q a0 a1 a2 a3 n fo ki st we lo)) (va_Qi (fun r (u : Unit) => r = nI n - nI (popN fo)) (fun (u : Unit) t => va_P D vwCl (wRow cI q a0 a1 a2 a3 n (2 ^ n - 1) ki st we lo) t.heap) (AW [q, a0, a1, a2, a3])) 0 0 (AW [q, a0, a1, a2, a3]) := by
  refine startM (by decide) rfl (Nat.le_of_ble_eq_true rfl) hnd rfl ?_
  intro p e s m below meth c hx hb hr hts hown hlk hml hG hP hD hS ls hl
  have hl : lv_has ls 2 [(0, .ref q)] := hl
  have f28 := hts (.fieldLink RX0 28 "ChairBallot$Row" "folded" "I") (by decide +kernel)
  have f24 := hts (.fieldLink RX0 24 "ChairBallot$Row" "count" "I") (by decide +kernel)
  have yX0 : ∀ w ∈ u_ws RX0 TX0 6, w.before _ s = true := fun w h => hts w ((by decide +kernel : ∀ w ∈ wsX00, w ∈ wsX0_foldedByRain) w h)
  have hF : CallFix p m c cX0_foldedByRain 2 s _ wsX0_foldedByRain RX0 := ⟨hx, hb, hml, hown, hts⟩
  refine lv_aload_n hx hb dX0_foldedByRain_0 rfl (lv_at hl 0 rfl) ?_
  refine va_get (D := D) (ci := 0) (v := .int (nI fo)) (C := RX0) (T := TX0) (N := 6) hx hb yX0 (fun _ h => h) hown hG.1 hP 0 rfl rfl 5 (by decide) f28 (fun _ h => h) rfl dX0_foldedByRain_1 ?_
  refine xrd (va_runS (As := [.int (nI fo)]) (rest := []) hF (c_J6_bitCount l D cI cS fo (by first | assumption | omega)) (va_cwS 1 hts gX0_foldedByRain_J6_bitCount_0f7a4 rfl rfl rfl hD_J6_bitCount_0f7a4 ⟨Nat.le_of_ble_eq_true rfl, Nat.le_of_ble_eq_true rfl⟩) (PR.pre hG (hP.sub (ws' := []) [] rfl)) rfl rfl hl.1 rfl (lv_room (Nat.le_of_ble_eq_true rfl)) dX0_foldedByRain_4 ⟨Nat.le_refl _, Nat.le_refl _⟩) ?_
  refine lv_istore_n (lv' := [(1, .int (nI (popN fo))), (0, .ref q)]) hx hb dX0_foldedByRain_7 rfl hl (by decide) rfl (fun ls hl => ?_)
  refine lv_aload_n hx hb dX0_foldedByRain_8 rfl (lv_at hl 1 rfl) ?_
  refine lv_iconst (v := nI 1) hx hb dX0_foldedByRain_9 (by decide) ?_
  refine lv_aload_n hx hb dX0_foldedByRain_10 rfl (lv_at hl 1 rfl) ?_
  refine va_get (D := D) (ci := 0) (v := .int (nI n)) (C := RX0) (T := TX0) (N := 6) hx hb yX0 (fun _ h => h) hown hG.1 hP 0 rfl rfl 4 (by decide) f24 (fun _ h => h) rfl dX0_foldedByRain_11 ?_
  refine lv_ishl hx hb dX0_foldedByRain_14 ?_
  refine xtop (x' := nI (2 ^ n)) (by exact shl1 n (by omega)) ?_
  refine lv_iconst (v := nI 1) hx hb dX0_foldedByRain_15 (by decide) ?_
  refine xsubN (x := 2 ^ n) (y := 1) hx hb (by exact Nat.one_le_two_pow) dX0_foldedByRain_16 ?_
  refine va_put (D := D) (ci := 0) (v := .int (nI (2 ^ n - 1))) (ty := .int) (C := RX0) (T := TX0) (N := 6) hx hb yX0 (fun _ h => h) tyX0 tyX0_ok nmX0 hown hG.1 hP hD hS 0 rfl rfl 5 (by decide) f28 (fun _ h => h) rfl (by decide +kernel) rfl rfl (Nat.le_of_ble_eq_true rfl) dX0_foldedByRain_17 (fun H locs hP hD hS => ?_)
  have hP : va_P D vwCl (wRow cI q a0 a1 a2 a3 n (2 ^ n - 1) ki st we lo) H := hP
  have hD : va_D (AW [q, a0, a1, a2, a3]) (wRow cI q a0 a1 a2 a3 n (2 ^ n - 1) ki st we lo) := hD
  refine lv_aload_n hx hb dX0_foldedByRain_20 rfl (lv_at hl 1 rfl) ?_
  refine va_get (D := D) (ci := 0) (v := .int (nI n)) (C := RX0) (T := TX0) (N := 6) hx hb yX0 (fun _ h => h) hown hG.1 hP 0 rfl rfl 4 (by decide) f24 (fun _ h => h) rfl dX0_foldedByRain_21 ?_
  refine lv_iload_n hx hb dX0_foldedByRain_24 rfl (lv_at hl 0 rfl) ?_
  refine lv_isub hx hb dX0_foldedByRain_25 ?_
  exact xretM hx hb hr hlk dX0_foldedByRain_26 hS () (by rfl) (fun t ht => by rw [ht]; exact hP)

set_option maxHeartbeats 4000000 in
set_option maxRecDepth 100000 in
theorem c_X0_opened (l : Launch) (D : va_G) (cI cS : ClassId) (q : Nat) (a0 : Nat) (a1 : Nat) (a2 : Nat) (a3 : Nat) (n : Nat) (fo : Nat) (ki : Nat → Nat) (st : Nat → Nat) (we : Nat → Nat) (lo : Nat → Nat) (j : Nat) (hnd : nd [q, a0, a1, a2, a3]) (hn : n ≤ 8) (hfo : fo < 256) (hj : j < n) : Met l yX0_opened wsX0_opened ({ frames := 1, cells := 0, slots := 0, locals := 21 }) (PR D cI cS [.ref q, .int (nI j)] (wRow cI q a0 a1 a2 a3 n fo ki st we lo)) (va_Qi (fun r (u : Unit) => r = bI (fo.testBit j)) (fun (u : Unit) t => va_P D vwCl (wRow cI q a0 a1 a2 a3 n (opn fo j) ki st we lo) t.heap) (AW [q, a0, a1, a2, a3])) 0 0 (AW [q, a0, a1, a2, a3]) := by
  refine startM (by decide) rfl (Nat.le_of_ble_eq_true rfl) hnd rfl ?_
  intro p e s m below meth c hx hb hr hts hown hlk hml hG hP hD hS ls hl
  have hl : lv_has ls 2 [(0, .ref q), (1, .int (nI j))] := hl
  have f28 := hts (.fieldLink RX0 28 "ChairBallot$Row" "folded" "I") (by decide +kernel)
  have yX0 : ∀ w ∈ u_ws RX0 TX0 6, w.before _ s = true := fun w h => hts w ((by decide +kernel : ∀ w ∈ wsX00, w ∈ wsX0_opened) w h)
  have hF : CallFix p m c cX0_opened 2 s _ wsX0_opened RX0 := ⟨hx, hb, hml, hown, hts⟩
  refine lv_aload_n hx hb dX0_opened_0 rfl (lv_at hl 0 rfl) ?_
  refine lv_iload_n hx hb dX0_opened_1 rfl (lv_at hl 1 rfl) ?_
  refine xrd (va_runV (As := [.int (nI j)]) (rest := []) hF (c_X0_hasN l D cI cS q a0 a1 a2 a3 n fo ki st we lo j (by first | assumption | omega) (by first | assumption | omega)) (cwV 1 hts gX0_opened_X0_has rfl rfl rfl hV_X0_has ⟨Nat.le_of_ble_eq_true rfl, Nat.le_of_ble_eq_true rfl⟩) (PR.preV hG hP (ci := 0) rfl rfl) rfl rfl hl.1 rfl (lv_room (Nat.le_of_ble_eq_true rfl)) dX0_opened_2 ⟨Nat.le_refl _, Nat.le_refl _⟩) ?_
  refine lv_if_eq (tgt := 16) hx hb dX0_opened_5 (by decide) (fun c_5 => ?_) (fun c_5 => ?_)
  ·
    replace c_5 := bI_0.mp c_5
    replace c_5 := of_decide_eq_false c_5
    omega
  ·
    replace c_5 := bI_n0.mp c_5
    replace c_5 := of_decide_eq_true c_5
    refine lv_aload_n hx hb dX0_opened_8 rfl (lv_at hl 0 rfl) ?_
    refine lv_iload_n hx hb dX0_opened_9 rfl (lv_at hl 1 rfl) ?_
    refine xrd (va_runV (As := [.int (nI j)]) (rest := []) hF (c_X0_isFolded l D cI cS q a0 a1 a2 a3 n fo ki st we lo j (by first | assumption | omega) (by first | assumption | omega)) (cwV 1 hts gX0_opened_X0_isFolded rfl rfl rfl hV_X0_isFolded ⟨Nat.le_of_ble_eq_true rfl, Nat.le_of_ble_eq_true rfl⟩) (PR.preV hG hP (ci := 0) rfl rfl) rfl rfl hl.1 rfl (lv_room (Nat.le_of_ble_eq_true rfl)) dX0_opened_10 ⟨Nat.le_refl _, Nat.le_refl _⟩) ?_
    refine lv_if_ne (tgt := 18) hx hb dX0_opened_13 (by decide) (fun c_13 => ?_) (fun c_13 => ?_)
    ·
      replace c_13 := bI_n0.mp c_13
      refine lv_aload_n hx hb dX0_opened_18 rfl (lv_at hl 0 rfl) ?_
      refine lv_dup hx hb dX0_opened_19 rfl ?_
      refine va_get (D := D) (ci := 0) (v := .int (nI fo)) (C := RX0) (T := TX0) (N := 6) hx hb yX0 (fun _ h => h) hown hG.1 hP 0 rfl rfl 5 (by decide) f28 (fun _ h => h) rfl dX0_opened_20 ?_
      refine lv_iconst (v := nI 1) hx hb dX0_opened_23 (by decide) ?_
      refine lv_iload_n hx hb dX0_opened_24 rfl (lv_at hl 1 rfl) ?_
      refine lv_ishl hx hb dX0_opened_25 ?_
      refine xtop (x' := nI (2 ^ j)) (by exact shl1 j (by omega)) ?_
      refine lv_iconst (v := (-1)) hx hb dX0_opened_26 (by decide) ?_
      refine lv_ixor hx hb dX0_opened_27 ?_
      refine lv_iand hx hb dX0_opened_28 ?_
      refine xtop (x' := nI (fo ^^^ 2 ^ j)) (by exact clr_bit fo hfo j (by omega) c_13) ?_
      refine va_put (D := D) (ci := 0) (v := .int (nI (fo ^^^ 2 ^ j))) (ty := .int) (C := RX0) (T := TX0) (N := 6) hx hb yX0 (fun _ h => h) tyX0 tyX0_ok nmX0 hown hG.1 hP hD hS 0 rfl rfl 5 (by decide) f28 (fun _ h => h) rfl (by decide +kernel) rfl rfl (Nat.le_of_ble_eq_true rfl) dX0_opened_29 (fun H locs hP hD hS => ?_)
      have hP : va_P D vwCl (wRow cI q a0 a1 a2 a3 n (fo ^^^ 2 ^ j) ki st we lo) H := hP
      have hD : va_D (AW [q, a0, a1, a2, a3]) (wRow cI q a0 a1 a2 a3 n (fo ^^^ 2 ^ j) ki st we lo) := hD
      refine lv_iconst (v := nI 1) hx hb dX0_opened_32 (by decide) ?_
      exact xretMz hx hb hr hlk dX0_opened_33 hS (true) rfl () (by rw [c_13]; rfl) (fun t ht => by rw [ht]; rw [show opn fo j = (fo ^^^ 2 ^ j) from by simp [opn, c_5, c_13]]; exact hP)
    ·
      replace c_13 := bI_0.mp c_13
      refine lv_iconst (v := nI 0) hx hb dX0_opened_16 (by decide) ?_
      exact xretMz hx hb hr hlk dX0_opened_17 hS (false) rfl () (by rw [c_13]; rfl) (fun t ht => by rw [ht]; rw [show opn fo j = fo from by simp [opn, c_5, c_13]]; exact hP)

set_option maxHeartbeats 4000000 in
set_option maxRecDepth 100000 in
theorem c_X0_acted (l : Launch) (D : va_G) (cI cS : ClassId) (q : Nat) (a0 : Nat) (a1 : Nat) (a2 : Nat) (a3 : Nat) (n : Nat) (fo : Nat) (ki : Nat → Nat) (st : Nat → Nat) (we : Nat → Nat) (lo : Nat → Nat) (a : Nat) (b : Nat) (hnd : nd [q, a0, a1, a2, a3]) (hn : n ≤ 8) (hfo : fo < 256) (hlo : ∀ j, lo j ≤ 3) (hwe : ∀ j, we j ≤ 9) (hb9 : b ≤ 9) (hab : actOk n a b) : Met l yX0_acted wsX0_acted ({ frames := 2, cells := 0, slots := 0, locals := 45 }) (PR D cI cS [.ref q, .int (nI a), .int (nI b)] (wRow cI q a0 a1 a2 a3 n fo ki st we lo)) (va_Qi (fun r (u : Unit) => r = bI (actB fo a b)) (fun (u : Unit) t => va_P D vwCl (wRow cI q a0 a1 a2 a3 n (actF n fo a b) ki st we (actL n fo we lo a b)) t.heap) (AW [q, a0, a1, a2, a3])) 0 0 (AW [q, a0, a1, a2, a3]) := by
  refine startM (by decide) rfl (Nat.le_of_ble_eq_true rfl) hnd rfl ?_
  intro p e s m below meth c hx hb hr hts hown hlk hml hG hP hD hS ls hl
  have hl : lv_has ls 3 [(0, .ref q), (1, .int (nI a)), (2, .int (nI b))] := hl
  have hF : CallFix p m c cX0_acted 3 s _ wsX0_acted RX0 := ⟨hx, hb, hml, hown, hts⟩
  have hab1 := hab.1
  have hab2 := hab.2
  refine lv_iload_n hx hb dX0_acted_0 rfl (lv_at hl 2 rfl) ?_
  refine lv_bipush (v := nI 9) hx hb dX0_acted_1 (by decide) ?_
  refine lv_icmp_ne (tgt := 12) hx hb dX0_acted_3 (by decide) (fun c_3 => ?_) (fun c_3 => ?_)
  ·
    replace c_3 := (not_congr (nI_eq (a := b) (b := 9) (by omega) (by omega))).mp c_3
    refine lv_iload_n hx hb dX0_acted_12 rfl (lv_at hl 2 rfl) ?_
    refine lv_bipush (v := nI 8) hx hb dX0_acted_13 (by decide) ?_
    refine lv_icmp_ne (tgt := 25) hx hb dX0_acted_15 (by decide) (fun c_15 => ?_) (fun c_15 => ?_)
    ·
      replace c_15 := (not_congr (nI_eq (a := b) (b := 8) (by omega) (by omega))).mp c_15
      refine lv_iload_n hx hb dX0_acted_25 rfl (lv_at hl 2 rfl) ?_
      refine lv_iconst (v := nI 4) hx hb dX0_acted_26 (by decide) ?_
      refine lv_icmp_lt (tgt := 41) hx hb dX0_acted_27 (by decide) (fun c_27 => ?_) (fun c_27 => ?_)
      ·
        replace c_27 := (nI_ltI (a := b) (b := 4) (by omega) (by omega)).mp c_27
        refine lv_aload_n hx hb dX0_acted_41 rfl (lv_at hl 0 rfl) ?_
        refine lv_iload_n hx hb dX0_acted_42 rfl (lv_at hl 1 rfl) ?_
        refine lv_iload_n hx hb dX0_acted_43 rfl (lv_at hl 2 rfl) ?_
        refine xmu (wc := (wRow cI q a0 a1 a2 a3 n fo ki st we lo)) (va_runV (As := [.int (nI a), .int (nI b)]) (rest := []) hF (c_X0_turned l D cI cS q a0 a1 a2 a3 n fo ki st we lo a b hnd (by first | assumption | omega) (by first | assumption | omega) (by first | assumption | omega)) (cwV 2 hts gX0_acted_X0_turned rfl rfl rfl hV_X0_turned ⟨Nat.le_of_ble_eq_true rfl, Nat.le_of_ble_eq_true rfl⟩) (PR.preV hG hP (ci := 0) rfl rfl) rfl rfl hl.1 rfl (lv_room (Nat.le_of_ble_eq_true rfl)) dX0_acted_44 ⟨Nat.le_refl _, Nat.le_refl _⟩) hP hD hS [0, 1, 2, 3, 4] rfl rfl (fun _ => rfl) (fun r_44 u_44 H locs q_44 hP hD hS => ?_)
        try dsimp only at q_44 hP hD
        have e_44 := q_44
        subst e_44
        have hP : va_P D vwCl (wRow cI q a0 a1 a2 a3 n fo ki st we (trn fo lo a b)) H := hP
        have hD : va_D (AW [q, a0, a1, a2, a3]) (wRow cI q a0 a1 a2 a3 n fo ki st we (trn fo lo a b)) := hD
        exact xretMz hx hb hr hlk dX0_acted_47 hS (!fo.testBit a) rfl () (by first | (simp [actB, c_3, c_15, c_27]; done) | (simp [actB, c_3, c_15, c_27, bI]; rfl)) (fun t ht => by rw [ht]; rw [show actF n fo a b = fo from by simp [actF, c_3, c_15, c_27]]; rw [show actL n fo we lo a b = (trn fo lo a b) from by simp [actL, c_3, c_15, c_27]]; exact hP)
      ·
        replace c_27 := (not_congr (nI_ltI (a := b) (b := 4) (by omega) (by omega))).mp c_27
        refine lv_aload_n hx hb dX0_acted_30 rfl (lv_at hl 0 rfl) ?_
        refine lv_iload_n hx hb dX0_acted_31 rfl (lv_at hl 2 rfl) ?_
        refine lv_iconst (v := nI 4) hx hb dX0_acted_32 (by decide) ?_
        refine xsubN (x := b) (y := 4) hx hb (by omega) dX0_acted_33 ?_
        refine lv_iload_n hx hb dX0_acted_34 rfl (lv_at hl 1 rfl) ?_
        refine xmu (wc := (wRow cI q a0 a1 a2 a3 n fo ki st we lo)) (va_runV (As := [.int (nI (b - 4)), .int (nI a)]) (rest := []) hF (c_X0_blown l D cI cS q a0 a1 a2 a3 n fo ki st we lo (b - 4) a hnd (by first | assumption | omega) (by first | assumption | omega) (by first | assumption | omega) (by first | assumption | omega) (by first | assumption | omega) (by first | assumption | omega)) (cwV 2 hts gX0_acted_X0_blown rfl rfl rfl hV_X0_blown ⟨Nat.le_of_ble_eq_true rfl, Nat.le_of_ble_eq_true rfl⟩) (PR.preV hG hP (ci := 0) rfl rfl) rfl rfl hl.1 rfl (lv_room (Nat.le_of_ble_eq_true rfl)) dX0_acted_35 ⟨Nat.le_refl _, Nat.le_refl _⟩) hP hD hS [0, 1, 2, 3, 4] rfl rfl (fun _ => rfl) (fun r_35 u_35 H locs q_35 hP hD hS => ?_)
        try dsimp only at q_35 hP hD
        have e_35 := q_35
        subst e_35
        have hP : va_P D vwCl (wRow cI q a0 a1 a2 a3 n fo ki st we (blwL n fo we lo (b - 4) a)) H := hP
        have hD : va_D (AW [q, a0, a1, a2, a3]) (wRow cI q a0 a1 a2 a3 n fo ki st we (blwL n fo we lo (b - 4) a)) := hD
        refine lv_pop hx hb dX0_acted_38 rfl ?_
        refine lv_iconst (v := nI 1) hx hb dX0_acted_39 (by decide) ?_
        exact xretMz hx hb hr hlk dX0_acted_40 hS (true) rfl () (by first | (simp [actB, c_3, c_15, c_27]; done) | (simp [actB, c_3, c_15, c_27, bI]; rfl)) (fun t ht => by rw [ht]; rw [show actF n fo a b = fo from by simp [actF, c_3, c_15, c_27]]; rw [show actL n fo we lo a b = (blwL n fo we lo (b - 4) a) from by simp [actL, c_3, c_15, c_27]]; exact hP)
    ·
      replace c_15 := (nI_eq (a := b) (b := 8) (by omega) (by omega)).mp c_15
      refine lv_aload_n hx hb dX0_acted_18 rfl (lv_at hl 0 rfl) ?_
      refine xmu (wc := (wRow cI q a0 a1 a2 a3 n fo ki st we lo)) (va_runV (As := []) (rest := []) hF (c_X0_foldedByRain l D cI cS q a0 a1 a2 a3 n fo ki st we lo hnd (by first | assumption | omega) (by first | assumption | omega)) (cwV 0 hts gX0_acted_X0_foldedByRain rfl rfl rfl hV_X0_foldedByRain ⟨Nat.le_of_ble_eq_true rfl, Nat.le_of_ble_eq_true rfl⟩) (PR.preV hG hP (ci := 0) rfl rfl) rfl rfl hl.1 rfl (lv_room (Nat.le_of_ble_eq_true rfl)) dX0_acted_19 ⟨Nat.le_refl _, Nat.le_refl _⟩) hP hD hS [0, 1, 2, 3, 4] rfl rfl (fun _ => rfl) (fun r_19 u_19 H locs q_19 hP hD hS => ?_)
      try dsimp only at q_19 hP hD
      have e_19 := q_19
      subst e_19
      have hP : va_P D vwCl (wRow cI q a0 a1 a2 a3 n (2 ^ n - 1) ki st we lo) H := hP
      have hD : va_D (AW [q, a0, a1, a2, a3]) (wRow cI q a0 a1 a2 a3 n (2 ^ n - 1) ki st we lo) := hD
      refine lv_pop hx hb dX0_acted_22 rfl ?_
      refine lv_iconst (v := nI 1) hx hb dX0_acted_23 (by decide) ?_
      exact xretMz hx hb hr hlk dX0_acted_24 hS (true) rfl () (by first | (simp [actB, c_3, c_15]; done) | (simp [actB, c_3, c_15, bI]; rfl)) (fun t ht => by rw [ht]; rw [show actF n fo a b = (2 ^ n - 1) from by simp [actF, c_3, c_15]]; rw [show actL n fo we lo a b = lo from by simp [actL, c_3, c_15]]; exact hP)
  ·
    replace c_3 := (nI_eq (a := b) (b := 9) (by omega) (by omega)).mp c_3
    refine lv_aload_n hx hb dX0_acted_6 rfl (lv_at hl 0 rfl) ?_
    refine lv_iload_n hx hb dX0_acted_7 rfl (lv_at hl 1 rfl) ?_
    refine xmu (wc := (wRow cI q a0 a1 a2 a3 n fo ki st we lo)) (va_runV (As := [.int (nI a)]) (rest := []) hF (c_X0_opened l D cI cS q a0 a1 a2 a3 n fo ki st we lo a hnd (by first | assumption | omega) (by first | assumption | omega) (by first | assumption | omega)) (cwV 1 hts gX0_acted_X0_opened rfl rfl rfl hV_X0_opened ⟨Nat.le_of_ble_eq_true rfl, Nat.le_of_ble_eq_true rfl⟩) (PR.preV hG hP (ci := 0) rfl rfl) rfl rfl hl.1 rfl (lv_room (Nat.le_of_ble_eq_true rfl)) dX0_acted_8 ⟨Nat.le_refl _, Nat.le_refl _⟩) hP hD hS [0, 1, 2, 3, 4] rfl rfl (fun _ => rfl) (fun r_8 u_8 H locs q_8 hP hD hS => ?_)
    try dsimp only at q_8 hP hD
    have e_8 := q_8
    subst e_8
    have hP : va_P D vwCl (wRow cI q a0 a1 a2 a3 n (opn fo a) ki st we lo) H := hP
    have hD : va_D (AW [q, a0, a1, a2, a3]) (wRow cI q a0 a1 a2 a3 n (opn fo a) ki st we lo) := hD
    exact xretMz hx hb hr hlk dX0_acted_11 hS (fo.testBit a) rfl () (by first | (simp [actB, c_3]; done) | (simp [actB, c_3, bI]; rfl)) (fun t ht => by rw [ht]; rw [show actF n fo a b = (opn fo a) from by simp [actF, c_3]]; rw [show actL n fo we lo a b = lo from by simp [actL, c_3]]; exact hP)

set_option maxHeartbeats 4000000 in
set_option maxRecDepth 100000 in
theorem c_X0_becomes (l : Launch) (D : va_G) (cI cS : ClassId) (q : Nat) (a0 : Nat) (a1 : Nat) (a2 : Nat) (a3 : Nat) (n : Nat) (fo : Nat) (ki : Nat → Nat) (st : Nat → Nat) (we : Nat → Nat) (lo : Nat → Nat) (r : Nat) (b0 : Nat) (b1 : Nat) (b2 : Nat) (b3 : Nat) (n2 : Nat) (go : Nat) (kj : Nat → Nat) (sj : Nat → Nat) (wj : Nat → Nat) (lj : Nat → Nat) (hnd : nd [q, a0, a1, a2, a3, r, b0, b1, b2, b3]) : Met l yX0_becomes wsX0_becomes ({ frames := 1, cells := 0, slots := 0, locals := 40 }) (PR D cI cS [.ref q, .ref r] (wRow2 cI q a0 a1 a2 a3 n fo ki st we lo r b0 b1 b2 b3 n2 go kj sj wj lj)) (va_Qv (fun (u : Unit) => True) (fun (u : Unit) t => va_P D vwCl (wRow2 cI q a0 a1 a2 a3 n2 go kj sj wj lj r b0 b1 b2 b3 n2 go kj sj wj lj) t.heap) (AW [q, a0, a1, a2, a3, r, b0, b1, b2, b3])) 0 0 (AW [q, a0, a1, a2, a3, r, b0, b1, b2, b3]) := by
  refine startM (by decide) rfl (Nat.le_of_ble_eq_true rfl) hnd rfl ?_
  intro p e s m below meth c hx hb hr hts hown hlk hml hG hP hD hS ls hl
  have hl : lv_has ls 2 [(0, .ref q), (1, .ref r)] := hl
  have f9 := hts (.fieldLink RX0 9 "ChairBallot$Row" "kind" "[I") (by decide +kernel)
  have f15 := hts (.fieldLink RX0 15 "ChairBallot$Row" "stripe" "[I") (by decide +kernel)
  have f18 := hts (.fieldLink RX0 18 "ChairBallot$Row" "weight" "[I") (by decide +kernel)
  have f21 := hts (.fieldLink RX0 21 "ChairBallot$Row" "looks" "[I") (by decide +kernel)
  have f24 := hts (.fieldLink RX0 24 "ChairBallot$Row" "count" "I") (by decide +kernel)
  have f28 := hts (.fieldLink RX0 28 "ChairBallot$Row" "folded" "I") (by decide +kernel)
  have yX0 : ∀ w ∈ u_ws RX0 TX0 6, w.before _ s = true := fun w h => hts w ((by decide +kernel : ∀ w ∈ wsX00, w ∈ wsX0_becomes) w h)
  have hF : CallFix p m c cX0_becomes 2 s _ wsX0_becomes RX0 := ⟨hx, hb, hml, hown, hts⟩
  refine lv_aload_n hx hb dX0_becomes_0 rfl (lv_at hl 1 rfl) ?_
  refine va_get (D := D) (ci := 0) (v := .ref b0) (C := RX0) (T := TX0) (N := 6) hx hb yX0 (fun _ h => h) hown hG.1 hP 5 rfl rfl 0 (by decide) f9 (fun _ h => h) rfl dX0_becomes_1 ?_
  refine lv_iconst (v := nI 0) hx hb dX0_becomes_4 (by decide) ?_
  refine lv_aload_n hx hb dX0_becomes_5 rfl (lv_at hl 0 rfl) ?_
  refine va_get (D := D) (ci := 0) (v := .ref a0) (C := RX0) (T := TX0) (N := 6) hx hb yX0 (fun _ h => h) hown hG.1 hP 0 rfl rfl 0 (by decide) f9 (fun _ h => h) rfl dX0_becomes_6 ?_
  refine lv_iconst (v := nI 0) hx hb dX0_becomes_9 (by decide) ?_
  refine lv_bipush (v := nI 8) hx hb dX0_becomes_10 (by decide) ?_
  refine xcopyA (N := 8) hx hb (by rw [hml, hl.1]) hown (hts (.methodLink RX0 31 arraycopyName) (by decide +kernel)) (hts (.native arraycopyName) (by decide +kernel)) (hts (.static arraycopyName) (by decide +kernel)) (hts (.initialized "java/lang/System") (by decide +kernel)) hG hP hD hS 6 1 rfl rfl (by decide) (Nat.le_of_ble_eq_true rfl) (Nat.le_of_ble_eq_true rfl) dX0_becomes_12 (fun H locs hP hD hS => ?_)
  have hP : va_P D vwCl (wRow2 cI q a0 a1 a2 a3 n fo kj st we lo r b0 b1 b2 b3 n2 go kj sj wj lj) H := hP
  have hD : va_D (AW [q, a0, a1, a2, a3, r, b0, b1, b2, b3]) (wRow2 cI q a0 a1 a2 a3 n fo kj st we lo r b0 b1 b2 b3 n2 go kj sj wj lj) := hD
  refine lv_aload_n hx hb dX0_becomes_15 rfl (lv_at hl 1 rfl) ?_
  refine va_get (D := D) (ci := 0) (v := .ref b1) (C := RX0) (T := TX0) (N := 6) hx hb yX0 (fun _ h => h) hown hG.1 hP 5 rfl rfl 1 (by decide) f15 (fun _ h => h) rfl dX0_becomes_16 ?_
  refine lv_iconst (v := nI 0) hx hb dX0_becomes_19 (by decide) ?_
  refine lv_aload_n hx hb dX0_becomes_20 rfl (lv_at hl 0 rfl) ?_
  refine va_get (D := D) (ci := 0) (v := .ref a1) (C := RX0) (T := TX0) (N := 6) hx hb yX0 (fun _ h => h) hown hG.1 hP 0 rfl rfl 1 (by decide) f15 (fun _ h => h) rfl dX0_becomes_21 ?_
  refine lv_iconst (v := nI 0) hx hb dX0_becomes_24 (by decide) ?_
  refine lv_bipush (v := nI 8) hx hb dX0_becomes_25 (by decide) ?_
  refine xcopyA (N := 8) hx hb (by rw [hml, hl.1]) hown (hts (.methodLink RX0 31 arraycopyName) (by decide +kernel)) (hts (.native arraycopyName) (by decide +kernel)) (hts (.static arraycopyName) (by decide +kernel)) (hts (.initialized "java/lang/System") (by decide +kernel)) hG hP hD hS 7 2 rfl rfl (by decide) (Nat.le_of_ble_eq_true rfl) (Nat.le_of_ble_eq_true rfl) dX0_becomes_27 (fun H locs hP hD hS => ?_)
  have hP : va_P D vwCl (wRow2 cI q a0 a1 a2 a3 n fo kj sj we lo r b0 b1 b2 b3 n2 go kj sj wj lj) H := hP
  have hD : va_D (AW [q, a0, a1, a2, a3, r, b0, b1, b2, b3]) (wRow2 cI q a0 a1 a2 a3 n fo kj sj we lo r b0 b1 b2 b3 n2 go kj sj wj lj) := hD
  refine lv_aload_n hx hb dX0_becomes_30 rfl (lv_at hl 1 rfl) ?_
  refine va_get (D := D) (ci := 0) (v := .ref b2) (C := RX0) (T := TX0) (N := 6) hx hb yX0 (fun _ h => h) hown hG.1 hP 5 rfl rfl 2 (by decide) f18 (fun _ h => h) rfl dX0_becomes_31 ?_
  refine lv_iconst (v := nI 0) hx hb dX0_becomes_34 (by decide) ?_
  refine lv_aload_n hx hb dX0_becomes_35 rfl (lv_at hl 0 rfl) ?_
  refine va_get (D := D) (ci := 0) (v := .ref a2) (C := RX0) (T := TX0) (N := 6) hx hb yX0 (fun _ h => h) hown hG.1 hP 0 rfl rfl 2 (by decide) f18 (fun _ h => h) rfl dX0_becomes_36 ?_
  refine lv_iconst (v := nI 0) hx hb dX0_becomes_39 (by decide) ?_
  refine lv_bipush (v := nI 8) hx hb dX0_becomes_40 (by decide) ?_
  refine xcopyA (N := 8) hx hb (by rw [hml, hl.1]) hown (hts (.methodLink RX0 31 arraycopyName) (by decide +kernel)) (hts (.native arraycopyName) (by decide +kernel)) (hts (.static arraycopyName) (by decide +kernel)) (hts (.initialized "java/lang/System") (by decide +kernel)) hG hP hD hS 8 3 rfl rfl (by decide) (Nat.le_of_ble_eq_true rfl) (Nat.le_of_ble_eq_true rfl) dX0_becomes_42 (fun H locs hP hD hS => ?_)
  have hP : va_P D vwCl (wRow2 cI q a0 a1 a2 a3 n fo kj sj wj lo r b0 b1 b2 b3 n2 go kj sj wj lj) H := hP
  have hD : va_D (AW [q, a0, a1, a2, a3, r, b0, b1, b2, b3]) (wRow2 cI q a0 a1 a2 a3 n fo kj sj wj lo r b0 b1 b2 b3 n2 go kj sj wj lj) := hD
  refine lv_aload_n hx hb dX0_becomes_45 rfl (lv_at hl 1 rfl) ?_
  refine va_get (D := D) (ci := 0) (v := .ref b3) (C := RX0) (T := TX0) (N := 6) hx hb yX0 (fun _ h => h) hown hG.1 hP 5 rfl rfl 3 (by decide) f21 (fun _ h => h) rfl dX0_becomes_46 ?_
  refine lv_iconst (v := nI 0) hx hb dX0_becomes_49 (by decide) ?_
  refine lv_aload_n hx hb dX0_becomes_50 rfl (lv_at hl 0 rfl) ?_
  refine va_get (D := D) (ci := 0) (v := .ref a3) (C := RX0) (T := TX0) (N := 6) hx hb yX0 (fun _ h => h) hown hG.1 hP 0 rfl rfl 3 (by decide) f21 (fun _ h => h) rfl dX0_becomes_51 ?_
  refine lv_iconst (v := nI 0) hx hb dX0_becomes_54 (by decide) ?_
  refine lv_bipush (v := nI 8) hx hb dX0_becomes_55 (by decide) ?_
  refine xcopyA (N := 8) hx hb (by rw [hml, hl.1]) hown (hts (.methodLink RX0 31 arraycopyName) (by decide +kernel)) (hts (.native arraycopyName) (by decide +kernel)) (hts (.static arraycopyName) (by decide +kernel)) (hts (.initialized "java/lang/System") (by decide +kernel)) hG hP hD hS 9 4 rfl rfl (by decide) (Nat.le_of_ble_eq_true rfl) (Nat.le_of_ble_eq_true rfl) dX0_becomes_57 (fun H locs hP hD hS => ?_)
  have hP : va_P D vwCl (wRow2 cI q a0 a1 a2 a3 n fo kj sj wj lj r b0 b1 b2 b3 n2 go kj sj wj lj) H := hP
  have hD : va_D (AW [q, a0, a1, a2, a3, r, b0, b1, b2, b3]) (wRow2 cI q a0 a1 a2 a3 n fo kj sj wj lj r b0 b1 b2 b3 n2 go kj sj wj lj) := hD
  refine lv_aload_n hx hb dX0_becomes_60 rfl (lv_at hl 0 rfl) ?_
  refine lv_aload_n hx hb dX0_becomes_61 rfl (lv_at hl 1 rfl) ?_
  refine va_get (D := D) (ci := 0) (v := .int (nI n2)) (C := RX0) (T := TX0) (N := 6) hx hb yX0 (fun _ h => h) hown hG.1 hP 5 rfl rfl 4 (by decide) f24 (fun _ h => h) rfl dX0_becomes_62 ?_
  refine va_put (D := D) (ci := 0) (v := .int (nI n2)) (ty := .int) (C := RX0) (T := TX0) (N := 6) hx hb yX0 (fun _ h => h) tyX0 tyX0_ok nmX0 hown hG.1 hP hD hS 0 rfl rfl 4 (by decide) f24 (fun _ h => h) rfl (by decide +kernel) rfl rfl (Nat.le_of_ble_eq_true rfl) dX0_becomes_65 (fun H locs hP hD hS => ?_)
  have hP : va_P D vwCl (wRow2 cI q a0 a1 a2 a3 n2 fo kj sj wj lj r b0 b1 b2 b3 n2 go kj sj wj lj) H := hP
  have hD : va_D (AW [q, a0, a1, a2, a3, r, b0, b1, b2, b3]) (wRow2 cI q a0 a1 a2 a3 n2 fo kj sj wj lj r b0 b1 b2 b3 n2 go kj sj wj lj) := hD
  refine lv_aload_n hx hb dX0_becomes_68 rfl (lv_at hl 0 rfl) ?_
  refine lv_aload_n hx hb dX0_becomes_69 rfl (lv_at hl 1 rfl) ?_
  refine va_get (D := D) (ci := 0) (v := .int (nI go)) (C := RX0) (T := TX0) (N := 6) hx hb yX0 (fun _ h => h) hown hG.1 hP 5 rfl rfl 5 (by decide) f28 (fun _ h => h) rfl dX0_becomes_70 ?_
  refine va_put (D := D) (ci := 0) (v := .int (nI go)) (ty := .int) (C := RX0) (T := TX0) (N := 6) hx hb yX0 (fun _ h => h) tyX0 tyX0_ok nmX0 hown hG.1 hP hD hS 0 rfl rfl 5 (by decide) f28 (fun _ h => h) rfl (by decide +kernel) rfl rfl (Nat.le_of_ble_eq_true rfl) dX0_becomes_73 (fun H locs hP hD hS => ?_)
  have hP : va_P D vwCl (wRow2 cI q a0 a1 a2 a3 n2 go kj sj wj lj r b0 b1 b2 b3 n2 go kj sj wj lj) H := hP
  have hD : va_D (AW [q, a0, a1, a2, a3, r, b0, b1, b2, b3]) (wRow2 cI q a0 a1 a2 a3 n2 go kj sj wj lj r b0 b1 b2 b3 n2 go kj sj wj lj) := hD
  exact xretMv hx hb hr hlk dX0_becomes_76 hS () (by trivial) (fun t ht => by rw [ht]; exact hP)
end
section
theorem hV_X1_cut : yX1_cut.cls = RX1 ∧ yX1_cut.cls ≠ "java/lang/invoke/MethodHandle" ∧ yX1_cut.cls ≠ "java/lang/invoke/VarHandle" ∧ (parseMethodDescriptor yX1_cut.desc).map (fun d => d.parameters.length) = some 1 := by decide +kernel
theorem hV_X1_holds : yX1_holds.cls = RX1 ∧ yX1_holds.cls ≠ "java/lang/invoke/MethodHandle" ∧ yX1_holds.cls ≠ "java/lang/invoke/VarHandle" ∧ (parseMethodDescriptor yX1_holds.desc).map (fun d => d.parameters.length) = some 2 := by decide +kernel
set_option maxHeartbeats 4000000 in
set_option maxRecDepth 100000 in
theorem c_X1_faultAs (l : Launch) (D : va_G) (cI cS : ClassId) (q : Nat) (a : Nat) (h : Bool) (la : Nat) (le : Nat) (f : Nat → Int32) (w : Nat) (hla : la ≤ 2) (hw : w ≤ 2) : Met l yX1_faultAs wsX1_faultAs ({ frames := 0, cells := 0, slots := 0, locals := 0 }) (PR D cI cS [.ref q, .int (nI w)] (wSheet cI q a h la le f)) (vp_Si (fun r => r = nI (fltN h la w))) 0 0 (fun _ => False) := by
  refine startR (by decide) rfl (Nat.le_of_ble_eq_true rfl) ?_
  intro p e s m below meth c hx hb hr hts hown hlk hml hG hP ls hl
  have hl : lv_has ls 2 [(0, .ref q), (1, .int (nI w))] := hl
  have f15 := hts (.fieldLink RX1 15 "ChairBallot$Sheet" "hasRow" "Z") (by decide +kernel)
  have f19 := hts (.fieldLink RX1 19 "ChairBallot$Sheet" "lane" "I") (by decide +kernel)
  have yX1 : ∀ w ∈ u_ws RX1 TX1 4, w.before _ s = true := fun w h => hts w ((by decide +kernel : ∀ w ∈ wsX10, w ∈ wsX1_faultAs) w h)
  have hF : CallFix p m c cX1_faultAs 2 s _ wsX1_faultAs RX1 := ⟨hx, hb, hml, hown, hts⟩
  refine lv_aload_n hx hb dX1_faultAs_0 rfl (lv_at hl 0 rfl) ?_
  refine va_get (D := D) (ci := 1) (v := .int (bI h)) (C := RX1) (T := TX1) (N := 4) hx hb yX1 (fun _ h => h) hown hG.1 hP 0 rfl rfl 1 (by decide) f15 (fun _ h => h) rfl dX1_faultAs_1 ?_
  refine lv_if_ne (tgt := 9) hx hb dX1_faultAs_4 (by decide) (fun c_4 => ?_) (fun c_4 => ?_)
  ·
    replace c_4 := bI_n0.mp c_4
    refine lv_aload_n hx hb dX1_faultAs_9 rfl (lv_at hl 0 rfl) ?_
    refine va_get (D := D) (ci := 1) (v := .int (nI la)) (C := RX1) (T := TX1) (N := 4) hx hb yX1 (fun _ h => h) hown hG.1 hP 0 rfl rfl 2 (by decide) f19 (fun _ h => h) rfl dX1_faultAs_10 ?_
    refine lv_iload_n hx hb dX1_faultAs_13 rfl (lv_at hl 1 rfl) ?_
    refine lv_icmp_ne (tgt := 21) hx hb dX1_faultAs_14 (by decide) (fun c_14 => ?_) (fun c_14 => ?_)
    ·
      replace c_14 := (not_congr (nI_eq (a := la) (b := w) (by omega) (by omega))).mp c_14
      refine lv_iconst (v := nI 2) hx hb dX1_faultAs_21 (by decide) ?_
      exact xretR hx hb hr hlk dX1_faultAs_22 (by simp [fltN, c_4, c_14])
    ·
      replace c_14 := (nI_eq (a := la) (b := w) (by omega) (by omega)).mp c_14
      refine lv_iconst (v := nI 0) hx hb dX1_faultAs_17 (by decide) ?_
      refine lv_goto (tgt := 22) hx hb dX1_faultAs_18 (by decide) ?_
      exact xretR hx hb hr hlk dX1_faultAs_22 (by simp [fltN, c_4, c_14])
  ·
    replace c_4 := bI_0.mp c_4
    refine lv_iconst (v := nI 1) hx hb dX1_faultAs_7 (by decide) ?_
    exact xretR hx hb hr hlk dX1_faultAs_8 (by simp [fltN, c_4])

set_option maxHeartbeats 4000000 in
set_option maxRecDepth 100000 in
theorem c_X1_holds (l : Launch) (D : va_G) (cI cS : ClassId) (q : Nat) (a : Nat) (h : Bool) (la : Nat) (le : Nat) (f : Nat → Int32) (i : Int32) (k : Int32) (hle : le ≤ 60) : Met l yX1_holds wsX1_holds ({ frames := 0, cells := 0, slots := 0, locals := 0 }) (PR D cI cS [.ref q, .int i, .int k] (wSheet cI q a h la le f)) (vp_Si (fun r => r = bI (hldB le i k))) 0 0 (fun _ => False) := by
  refine startR (by decide) rfl (Nat.le_of_ble_eq_true rfl) ?_
  intro p e s m below meth c hx hb hr hts hown hlk hml hG hP ls hl
  have hl : lv_has ls 3 [(0, .ref q), (1, .int i), (2, .int k)] := hl
  have f23 := hts (.fieldLink RX1 23 "ChairBallot$Sheet" "length" "I") (by decide +kernel)
  have yX1 : ∀ w ∈ u_ws RX1 TX1 4, w.before _ s = true := fun w h => hts w ((by decide +kernel : ∀ w ∈ wsX10, w ∈ wsX1_holds) w h)
  have hF : CallFix p m c cX1_holds 3 s _ wsX1_holds RX1 := ⟨hx, hb, hml, hown, hts⟩
  refine lv_iload_n hx hb dX1_holds_0 rfl (lv_at hl 1 rfl) ?_
  refine lv_if_lt (tgt := 30) hx hb dX1_holds_1 (by decide) (fun c_1 => ?_) (fun c_1 => ?_)
  ·
    refine lv_iconst (v := nI 0) hx hb dX1_holds_30 (by decide) ?_
    exact xretRz hx hb hr hlk dX1_holds_31 (false) rfl (by first | exact hldB_y hle c_1 c_9 c_13 c_23 | exact hldB_1 c_1 | exact hldB_2 hle c_9 | exact hldB_3 c_13 | exact hldB_4 hle c_1 c_9 c_23)
  ·
    refine lv_iload_n hx hb dX1_holds_4 rfl (lv_at hl 1 rfl) ?_
    refine lv_aload_n hx hb dX1_holds_5 rfl (lv_at hl 0 rfl) ?_
    refine va_get (D := D) (ci := 1) (v := .int (nI le)) (C := RX1) (T := TX1) (N := 4) hx hb yX1 (fun _ h => h) hown hG.1 hP 0 rfl rfl 3 (by decide) f23 (fun _ h => h) rfl dX1_holds_6 ?_
    refine lv_icmp_gt (tgt := 30) hx hb dX1_holds_9 (by decide) (fun c_9 => ?_) (fun c_9 => ?_)
    ·
      refine lv_iconst (v := nI 0) hx hb dX1_holds_30 (by decide) ?_
      exact xretRz hx hb hr hlk dX1_holds_31 (false) rfl (by first | exact hldB_y hle c_1 c_9 c_13 c_23 | exact hldB_1 c_1 | exact hldB_2 hle c_9 | exact hldB_3 c_13 | exact hldB_4 hle c_1 c_9 c_23)
    ·
      refine lv_iload_n hx hb dX1_holds_12 rfl (lv_at hl 2 rfl) ?_
      refine lv_if_lt (tgt := 30) hx hb dX1_holds_13 (by decide) (fun c_13 => ?_) (fun c_13 => ?_)
      ·
        refine lv_iconst (v := nI 0) hx hb dX1_holds_30 (by decide) ?_
        exact xretRz hx hb hr hlk dX1_holds_31 (false) rfl (by first | exact hldB_y hle c_1 c_9 c_13 c_23 | exact hldB_1 c_1 | exact hldB_2 hle c_9 | exact hldB_3 c_13 | exact hldB_4 hle c_1 c_9 c_23)
      ·
        refine lv_iload_n hx hb dX1_holds_16 rfl (lv_at hl 2 rfl) ?_
        refine lv_aload_n hx hb dX1_holds_17 rfl (lv_at hl 0 rfl) ?_
        refine va_get (D := D) (ci := 1) (v := .int (nI le)) (C := RX1) (T := TX1) (N := 4) hx hb yX1 (fun _ h => h) hown hG.1 hP 0 rfl rfl 3 (by decide) f23 (fun _ h => h) rfl dX1_holds_18 ?_
        refine lv_iload_n hx hb dX1_holds_21 rfl (lv_at hl 1 rfl) ?_
        refine lv_isub hx hb dX1_holds_22 ?_
        refine lv_icmp_gt (tgt := 30) hx hb dX1_holds_23 (by decide) (fun c_23 => ?_) (fun c_23 => ?_)
        ·
          refine lv_iconst (v := nI 0) hx hb dX1_holds_30 (by decide) ?_
          exact xretRz hx hb hr hlk dX1_holds_31 (false) rfl (by first | exact hldB_y hle c_1 c_9 c_13 c_23 | exact hldB_1 c_1 | exact hldB_2 hle c_9 | exact hldB_3 c_13 | exact hldB_4 hle c_1 c_9 c_23)
        ·
          refine lv_iconst (v := nI 1) hx hb dX1_holds_26 (by decide) ?_
          refine lv_goto (tgt := 31) hx hb dX1_holds_27 (by decide) ?_
          exact xretRz hx hb hr hlk dX1_holds_31 (true) rfl (by first | exact hldB_y hle c_1 c_9 c_13 c_23 | exact hldB_1 c_1 | exact hldB_2 hle c_9 | exact hldB_3 c_13 | exact hldB_4 hle c_1 c_9 c_23)

set_option maxHeartbeats 4000000 in
set_option maxRecDepth 100000 in
theorem c_X1_at (l : Launch) (D : va_G) (cI cS : ClassId) (q : Nat) (a : Nat) (h : Bool) (la : Nat) (le : Nat) (f : Nat → Int32) (i : Int32) (hle : le ≤ 60) : Met l yX1_at wsX1_at ({ frames := 1, cells := 0, slots := 0, locals := 22 }) (PR D cI cS [.ref q, .int i] (wSheet cI q a h la le f)) (vp_Si (fun r => r = atF le f i)) 0 0 (fun _ => False) := by
  refine startR (by decide) rfl (Nat.le_of_ble_eq_true rfl) ?_
  intro p e s m below meth c hx hb hr hts hown hlk hml hG hP ls hl
  have hl : lv_has ls 2 [(0, .ref q), (1, .int i)] := hl
  have f9 := hts (.fieldLink RX1 9 "ChairBallot$Sheet" "cells" "[I") (by decide +kernel)
  have yX1 : ∀ w ∈ u_ws RX1 TX1 4, w.before _ s = true := fun w h => hts w ((by decide +kernel : ∀ w ∈ wsX10, w ∈ wsX1_at) w h)
  have hF : CallFix p m c cX1_at 2 s _ wsX1_at RX1 := ⟨hx, hb, hml, hown, hts⟩
  refine lv_aload_n hx hb dX1_at_0 rfl (lv_at hl 0 rfl) ?_
  refine lv_iload_n hx hb dX1_at_1 rfl (lv_at hl 1 rfl) ?_
  refine lv_iconst (v := nI 1) hx hb dX1_at_2 (by decide) ?_
  refine xrd (va_runV (As := [.int i, .int (nI 1)]) (rest := []) hF (c_X1_holds l D cI cS q a h la le f i (nI 1) (by first | assumption | omega)) (cwV 2 hts gX1_at_X1_holds rfl rfl rfl hV_X1_holds ⟨Nat.le_of_ble_eq_true rfl, Nat.le_of_ble_eq_true rfl⟩) (PR.preV hG hP (ci := 1) rfl rfl) rfl rfl hl.1 rfl (lv_room (Nat.le_of_ble_eq_true rfl)) dX1_at_3 ⟨Nat.le_refl _, Nat.le_refl _⟩) ?_
  refine lv_if_eq (tgt := 18) hx hb dX1_at_6 (by decide) (fun c_6 => ?_) (fun c_6 => ?_)
  ·
    replace c_6 := bI_0.mp c_6
    refine lv_iconst (v := nI 0) hx hb dX1_at_18 (by decide) ?_
    exact xretR hx hb hr hlk dX1_at_19 (by first | exact (atF_y hj hle).symm | exact (atF_n c_6).symm)
  ·
    replace c_6 := bI_n0.mp c_6
    obtain ⟨j, hj, rfl⟩ := hldB_at c_6
    refine lv_aload_n hx hb dX1_at_9 rfl (lv_at hl 0 rfl) ?_
    refine va_get (D := D) (ci := 1) (v := .ref a) (C := RX1) (T := TX1) (N := 4) hx hb yX1 (fun _ h => h) hown hG.1 hP 0 rfl rfl 0 (by decide) f9 (fun _ h => h) rfl dX1_at_10 ?_
    refine lv_iload_n hx hb dX1_at_13 rfl (lv_at hl 1 rfl) ?_
    refine xald hx hb hG hP 1 rfl (j) rfl (by omega) (by decide) dX1_at_14 ?_
    refine lv_goto (tgt := 19) hx hb dX1_at_15 (by decide) ?_
    exact xretR hx hb hr hlk dX1_at_19 (by first | exact (atF_y hj hle).symm | exact (atF_n c_6).symm)

set_option maxHeartbeats 4000000 in
set_option maxRecDepth 100000 in
theorem c_X1_atN (l : Launch) (D : va_G) (cI cS : ClassId) (q : Nat) (a : Nat) (h : Bool) (la : Nat) (le : Nat) (f : Nat → Int32) (j : Nat) (hle : le ≤ 60) (hj : j < le) : Met l yX1_at wsX1_at ({ frames := 1, cells := 0, slots := 0, locals := 22 }) (PR D cI cS [.ref q, .int (nI j)] (wSheet cI q a h la le f)) (vp_Si (fun r => r = f j)) 0 0 (fun _ => False) := by
  have h1 := c_X1_at l D cI cS q a h la le f (nI j) hle
  rw [atF_y hj hle] at h1
  exact h1

set_option maxHeartbeats 4000000 in
set_option maxRecDepth 100000 in
theorem c_X1_cut (l : Launch) (D : va_G) (cI cS : ClassId) (q : Nat) (a : Nat) (h : Bool) (la : Nat) (le : Nat) (f : Nat → Int32) (v : Int32) (hla : la ≤ 2) : Met l yX1_cut wsX1_cut ({ frames := 0, cells := 0, slots := 0, locals := 0 }) (PR D cI cS [.ref q, .int v] (wSheet cI q a h la le f)) (vp_Si (fun r => r = cutF la v)) 0 0 (fun _ => False) := by
  refine startR (by decide) rfl (Nat.le_of_ble_eq_true rfl) ?_
  intro p e s m below meth c hx hb hr hts hown hlk hml hG hP ls hl
  have hl : lv_has ls 2 [(0, .ref q), (1, .int v)] := hl
  have f19 := hts (.fieldLink RX1 19 "ChairBallot$Sheet" "lane" "I") (by decide +kernel)
  have yX1 : ∀ w ∈ u_ws RX1 TX1 4, w.before _ s = true := fun w h => hts w ((by decide +kernel : ∀ w ∈ wsX10, w ∈ wsX1_cut) w h)
  have hF : CallFix p m c cX1_cut 2 s _ wsX1_cut RX1 := ⟨hx, hb, hml, hown, hts⟩
  refine lv_aload_n hx hb dX1_cut_0 rfl (lv_at hl 0 rfl) ?_
  refine va_get (D := D) (ci := 1) (v := .int (nI la)) (C := RX1) (T := TX1) (N := 4) hx hb yX1 (fun _ h => h) hown hG.1 hP 0 rfl rfl 2 (by decide) f19 (fun _ h => h) rfl dX1_cut_1 ?_
  by_cases c_4_0 : la = 0
  ·
    refine lv_lookup (off := 28) (tgt := 32) hx hb dX1_cut_4 (by decide) (by rw [c_4_0]; decide) (by decide) ?_
    refine lv_iload_n hx hb dX1_cut_32 rfl (lv_at hl 1 rfl) ?_
    refine lv_i2b (v := v.toInt8.toInt32) hx hb dX1_cut_33 rfl ?_
    exact xretR hx hb hr hlk dX1_cut_34 (by simp [cutF, c_4_0])
  by_cases c_4_1 : la = 1
  ·
    refine lv_lookup (off := 31) (tgt := 35) hx hb dX1_cut_4 (by decide) (by rw [c_4_1]; decide) (by decide) ?_
    refine lv_iload_n hx hb dX1_cut_35 rfl (lv_at hl 1 rfl) ?_
    refine lv_i2s (v := v.toInt16.toInt32) hx hb dX1_cut_36 rfl ?_
    exact xretR hx hb hr hlk dX1_cut_37 (by simp [cutF, c_4_1])
  refine lv_lookup (off := 34) (tgt := 38) hx hb dX1_cut_4 (by decide) (by rw [nI_toInt (by omega)]; simp only [Op.lookupswitch.offset_cons, Op.lookupswitch.offset_nil]; rw [if_neg (by omega)]; rw [if_neg (by omega)]) (by decide) ?_
  refine lv_iload_n hx hb dX1_cut_38 rfl (lv_at hl 1 rfl) ?_
  exact xretR hx hb hr hlk dX1_cut_39 (by simp [cutF, c_4_0, c_4_1])

set_option maxHeartbeats 4000000 in
set_option maxRecDepth 100000 in
theorem c_X1_becomesAt (l : Launch) (D : va_G) (cI cS : ClassId) (q : Nat) (a : Nat) (h : Bool) (la : Nat) (le : Nat) (f : Nat → Int32) (j : Nat) (v : Int32) (hnd : nd [q, a]) (hle : le ≤ 60) (hla : la ≤ 2) (hj : j < le) : Met l yX1_becomesAt wsX1_becomesAt ({ frames := 1, cells := 0, slots := 0, locals := 22 }) (PR D cI cS [.ref q, .int (nI j), .int v] (wSheet cI q a h la le f)) (va_Qv (fun (u : Unit) => True) (fun (u : Unit) t => va_P D vwCl (wSheet cI q a h la le (upd f j (cutF la v))) t.heap) (AW [q, a])) 0 0 (AW [q, a]) := by
  refine startM (by decide) rfl (Nat.le_of_ble_eq_true rfl) hnd rfl ?_
  intro p e s m below meth c hx hb hr hts hown hlk hml hG hP hD hS ls hl
  have hl : lv_has ls 3 [(0, .ref q), (1, .int (nI j)), (2, .int v)] := hl
  have f9 := hts (.fieldLink RX1 9 "ChairBallot$Sheet" "cells" "[I") (by decide +kernel)
  have yX1 : ∀ w ∈ u_ws RX1 TX1 4, w.before _ s = true := fun w h => hts w ((by decide +kernel : ∀ w ∈ wsX10, w ∈ wsX1_becomesAt) w h)
  have hF : CallFix p m c cX1_becomesAt 3 s _ wsX1_becomesAt RX1 := ⟨hx, hb, hml, hown, hts⟩
  refine lv_aload_n hx hb dX1_becomesAt_0 rfl (lv_at hl 0 rfl) ?_
  refine lv_iload_n hx hb dX1_becomesAt_1 rfl (lv_at hl 1 rfl) ?_
  refine lv_iconst (v := nI 1) hx hb dX1_becomesAt_2 (by decide) ?_
  refine xrd (va_runV (As := [.int (nI j), .int (nI 1)]) (rest := []) hF (c_X1_holds l D cI cS q a h la le f (nI j) (nI 1) (by first | assumption | omega)) (cwV 2 hts gX1_becomesAt_X1_holds rfl rfl rfl hV_X1_holds ⟨Nat.le_of_ble_eq_true rfl, Nat.le_of_ble_eq_true rfl⟩) (PR.preV hG hP (ci := 1) rfl rfl) rfl rfl hl.1 rfl (lv_room (Nat.le_of_ble_eq_true rfl)) dX1_becomesAt_3 ⟨Nat.le_refl _, Nat.le_refl _⟩) ?_
  refine lv_if_eq (tgt := 20) hx hb dX1_becomesAt_6 (by decide) (fun c_6 => ?_) (fun c_6 => ?_)
  ·
    replace c_6 := bI_0.mp c_6
    exact absurd (hldB_1j hj hle) (by rw [c_6]; decide)
  ·
    replace c_6 := bI_n0.mp c_6
    refine lv_aload_n hx hb dX1_becomesAt_9 rfl (lv_at hl 0 rfl) ?_
    refine va_get (D := D) (ci := 1) (v := .ref a) (C := RX1) (T := TX1) (N := 4) hx hb yX1 (fun _ h => h) hown hG.1 hP 0 rfl rfl 0 (by decide) f9 (fun _ h => h) rfl dX1_becomesAt_10 ?_
    refine lv_iload_n hx hb dX1_becomesAt_13 rfl (lv_at hl 1 rfl) ?_
    refine lv_aload_n hx hb dX1_becomesAt_14 rfl (lv_at hl 0 rfl) ?_
    refine lv_iload_n hx hb dX1_becomesAt_15 rfl (lv_at hl 2 rfl) ?_
    refine xrd (va_runV (As := [.int v]) (rest := [.int (nI j), .ref a]) hF (c_X1_cut l D cI cS q a h la le f v (by first | assumption | omega)) (cwV 1 hts gX1_becomesAt_X1_cut rfl rfl rfl hV_X1_cut ⟨Nat.le_of_ble_eq_true rfl, Nat.le_of_ble_eq_true rfl⟩) (PR.preV hG hP (ci := 1) rfl rfl) rfl rfl hl.1 rfl (lv_room (Nat.le_of_ble_eq_true rfl)) dX1_becomesAt_16 ⟨Nat.le_refl _, Nat.le_refl _⟩) ?_
    refine xast hx hb hG hP hD hS 1 rfl (j) rfl (by omega) (by decide) dX1_becomesAt_19 (fun H locs hP hD hS => ?_)
    have hP : va_P D vwCl (wSheet cI q a h la le (upd f j (cutF la v))) H := hP
    have hD : va_D (AW [q, a]) (wSheet cI q a h la le (upd f j (cutF la v))) := hD
    exact xretMv hx hb hr hlk dX1_becomesAt_20 hS () (by trivial) (fun t ht => by rw [ht]; exact hP)

set_option maxHeartbeats 4000000 in
set_option maxRecDepth 100000 in
theorem c_X1_getsRow (l : Launch) (D : va_G) (cI cS : ClassId) (q : Nat) (a : Nat) (h : Bool) (la : Nat) (le : Nat) (f : Nat → Int32) (w : Nat) (k : Nat) (hnd : nd [q, a]) (hw : w ≤ 2) (hk : k ≤ 60) : Met l yX1_getsRow wsX1_getsRow ({ frames := 1, cells := 0, slots := 0, locals := 21 }) (PR D cI cS [.ref q, .int (nI w), .int (nI k)] (wSheet cI q a h la le f)) (va_Qv (fun (u : Unit) => True) (fun (u : Unit) t => va_P D vwCl (wSheet cI q a true w k (clrF k f)) t.heap) (AW [q, a])) 0 0 (AW [q, a]) := by
  refine startM (by decide) rfl (Nat.le_of_ble_eq_true rfl) hnd rfl ?_
  intro p e s m below meth c hx hb hr hts hown hlk hml hG hP hD hS ls hl
  have hl : lv_has ls 4 [(0, .ref q), (1, .int (nI w)), (2, .int (nI k))] := hl
  have f15 := hts (.fieldLink RX1 15 "ChairBallot$Sheet" "hasRow" "Z") (by decide +kernel)
  have f19 := hts (.fieldLink RX1 19 "ChairBallot$Sheet" "lane" "I") (by decide +kernel)
  have f23 := hts (.fieldLink RX1 23 "ChairBallot$Sheet" "length" "I") (by decide +kernel)
  have f9 := hts (.fieldLink RX1 9 "ChairBallot$Sheet" "cells" "[I") (by decide +kernel)
  have yX1 : ∀ w ∈ u_ws RX1 TX1 4, w.before _ s = true := fun w h => hts w ((by decide +kernel : ∀ w ∈ wsX10, w ∈ wsX1_getsRow) w h)
  have hF : CallFix p m c cX1_getsRow 4 s _ wsX1_getsRow RX1 := ⟨hx, hb, hml, hown, hts⟩
  refine lv_aload_n hx hb dX1_getsRow_0 rfl (lv_at hl 0 rfl) ?_
  refine lv_iconst (v := nI 1) hx hb dX1_getsRow_1 (by decide) ?_
  refine xtop (x' := bI true) rfl ?_
  refine va_put (D := D) (ci := 1) (v := .int (bI true)) (ty := .boolean) (C := RX1) (T := TX1) (N := 4) hx hb yX1 (fun _ h => h) tyX1 tyX1_ok nmX1 hown hG.1 hP hD hS 0 rfl rfl 1 (by decide) f15 (fun _ h => h) rfl (by decide +kernel) bI_nar bI_fit (Nat.le_of_ble_eq_true rfl) dX1_getsRow_2 (fun H locs hP hD hS => ?_)
  have hP : va_P D vwCl (wSheet cI q a true la le f) H := hP
  have hD : va_D (AW [q, a]) (wSheet cI q a true la le f) := hD
  refine lv_aload_n hx hb dX1_getsRow_5 rfl (lv_at hl 0 rfl) ?_
  refine lv_iload_n hx hb dX1_getsRow_6 rfl (lv_at hl 1 rfl) ?_
  refine va_put (D := D) (ci := 1) (v := .int (nI w)) (ty := .int) (C := RX1) (T := TX1) (N := 4) hx hb yX1 (fun _ h => h) tyX1 tyX1_ok nmX1 hown hG.1 hP hD hS 0 rfl rfl 2 (by decide) f19 (fun _ h => h) rfl (by decide +kernel) rfl rfl (Nat.le_of_ble_eq_true rfl) dX1_getsRow_7 (fun H locs hP hD hS => ?_)
  have hP : va_P D vwCl (wSheet cI q a true w le f) H := hP
  have hD : va_D (AW [q, a]) (wSheet cI q a true w le f) := hD
  refine lv_aload_n hx hb dX1_getsRow_10 rfl (lv_at hl 0 rfl) ?_
  refine lv_iload_n hx hb dX1_getsRow_11 rfl (lv_at hl 2 rfl) ?_
  refine lv_bipush (v := nI 60) hx hb dX1_getsRow_12 (by decide) ?_
  refine va_mmin hx hb (by rw [hml, hl.1]) hown (hts (.methodLink RX1 26 Lib.Math.min.name) (by decide +kernel)) (hts (.static Lib.Math.min.name) (by decide +kernel)) (hts (.initialized "java/lang/Math") (by decide +kernel)) (hts (.code Lib.Math.min.name Lib.Math.min.code 2 (some .int)) (by decide +kernel)) (Nat.le_of_ble_eq_true rfl) (Nat.le_of_ble_eq_true rfl) (Nat.le_refl _) (Nat.le_refl _) dX1_getsRow_14 ?_
  refine xtop (x' := nI k) (by exact min60 hk) ?_
  refine va_put (D := D) (ci := 1) (v := .int (nI k)) (ty := .int) (C := RX1) (T := TX1) (N := 4) hx hb yX1 (fun _ h => h) tyX1 tyX1_ok nmX1 hown hG.1 hP hD hS 0 rfl rfl 3 (by decide) f23 (fun _ h => h) rfl (by decide +kernel) rfl rfl (Nat.le_of_ble_eq_true rfl) dX1_getsRow_17 (fun H locs hP hD hS => ?_)
  have hP : va_P D vwCl (wSheet cI q a true w k f) H := hP
  have hD : va_D (AW [q, a]) (wSheet cI q a true w k f) := hD
  refine lv_iconst (v := nI 0) hx hb dX1_getsRow_20 (by decide) ?_
  refine lv_istore_n (lv' := [(3, .int (nI 0)), (0, .ref q), (1, .int (nI w)), (2, .int (nI k))]) hx hb dX1_getsRow_21 rfl hl (by decide) rfl (fun ls hl => ?_)
  have K22 : ∀ (fuel : Nat) (i : Nat) (g : Nat → Int32), g = clrF i f → (i ≤ k) → (k - i) < fuel → ∀ (H : Heap) (locs : List Loc), va_P D vwCl (wSheet cI q a true w k g) H → va_D (AW [q, a]) (wSheet cI q a true w k g) → va_S (AW [q, a]) s.heap H locs → ∀ ls : Array Slot, lv_has ls 4 [(3, .int (nI i)), (0, .ref q), (1, .int (nI w)), (2, .int (nI k))] → W p l e ({ frames := 1, cells := 0, slots := 0, locals := 21 }) s m (([.ref q, .int (nI w), .int (nI k)] : List Value).toArray) below meth c H locs 0 0 (MQ below (va_Qv (fun (u : Unit) => True) (fun (u : Unit) t => va_P D vwCl (wSheet cI q a true w k (clrF k f)) t.heap) (AW [q, a])) (([.ref q, .int (nI w), .int (nI k)] : List Value).toArray) s 0 0 (AW [q, a])) (F0 m 22 ls []) := by
    intro fuel
    induction fuel with
    | zero => intro i g e_g hi hmu; exact absurd hmu (Nat.not_lt_zero _)
    | succ fuel ih =>
      intro i g e_g hi hmu H locs hP hD hS ls hl
      subst e_g
      refine lv_iload_n hx hb dX1_getsRow_22 rfl (lv_at hl 0 rfl) ?_
      refine lv_aload_n hx hb dX1_getsRow_23 rfl (lv_at hl 1 rfl) ?_
      refine va_get (D := D) (ci := 1) (v := .int (nI k)) (C := RX1) (T := TX1) (N := 4) hx hb yX1 (fun _ h => h) hown hG.1 hP 0 rfl rfl 3 (by decide) f23 (fun _ h => h) rfl dX1_getsRow_24 ?_
      refine lv_icmp_ge (tgt := 43) hx hb dX1_getsRow_27 (by decide) (fun c_27 => ?_) (fun c_27 => ?_)
      ·
        replace c_27 := (nI_leI (a := k) (b := i) (by omega) (by omega)).mp c_27
        have hin : k = i := by omega
        subst hin
        exact xretMv hx hb hr hlk dX1_getsRow_43 hS () (by trivial) (fun t ht => by rw [ht]; exact hP)
      ·
        replace c_27 := (not_congr (nI_leI (a := k) (b := i) (by omega) (by omega))).mp c_27
        refine lv_aload_n hx hb dX1_getsRow_30 rfl (lv_at hl 1 rfl) ?_
        refine va_get (D := D) (ci := 1) (v := .ref a) (C := RX1) (T := TX1) (N := 4) hx hb yX1 (fun _ h => h) hown hG.1 hP 0 rfl rfl 0 (by decide) f9 (fun _ h => h) rfl dX1_getsRow_31 ?_
        refine lv_iload_n hx hb dX1_getsRow_34 rfl (lv_at hl 0 rfl) ?_
        refine lv_iconst (v := nI 0) hx hb dX1_getsRow_35 (by decide) ?_
        refine xast hx hb hG hP hD hS 1 rfl (i) rfl (by omega) (by decide) dX1_getsRow_36 (fun H locs hP hD hS => ?_)
        have hP : va_P D vwCl (wSheet cI q a true w k (upd (clrF i f) i (nI 0))) H := hP
        have hD : va_D (AW [q, a]) (wSheet cI q a true w k (upd (clrF i f) i (nI 0))) := hD
        refine lv_iinc (v := nI (i + 1)) (lv' := [(3, .int (nI (i + 1))), (0, .ref q), (1, .int (nI w)), (2, .int (nI k))]) hx hb dX1_getsRow_37 hl (k := 0) rfl xinc1 (by decide) rfl (fun ls hl => ?_)
        refine lv_goto (tgt := 22) hx hb dX1_getsRow_40 (by decide) ?_
        exact ih (i + 1) (upd (clrF i f) i (nI 0)) (by exact clrF_s f i) (by omega) (by omega) _ _ hP hD hS ls (lv_sub hl [0, 1, 2, 3] rfl)
  exact K22 _ 0 f (by first | exact (clrF_0 f).symm | omega) (by first | exact (clrF_0 f).symm | omega) (Nat.lt_succ_self _) _ _ hP hD hS ls (lv_sub hl [0, 1, 2, 3] rfl)
end
