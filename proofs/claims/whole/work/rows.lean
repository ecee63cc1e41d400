section
-- ===== PART A: goes FIRST, ahead of the names: the tables' words, and 'selects' of the private methods out of them =====
/-- a private method of a class that the tables say can be made, by its rows of tables_1 -/
def lw_okq (q : MethodName × Nat) : Prop := (q.1.cls ≠ "java/lang/invoke/MethodHandle" ∧ q.1.cls ≠ "java/lang/invoke/VarHandle") ∧ Cond.instantiable q.1.cls q.2 ∈ tables_1 ∧ Cond.privateMethod q.1 ∈ tables_1 ∧ Cond.instanceMethod q.1 ∈ tables_1
theorem lw_p0 : lw_okq (⟨"GuardPacks$Hall", "clear", "(II)V"⟩, 9) := ⟨⟨by decide +kernel, by decide +kernel⟩, List.mem_of_getElem? (i := 19) (by decide +kernel), List.mem_of_getElem? (i := 110) (by decide +kernel), List.mem_of_getElem? (i := 111) (by decide +kernel)⟩
theorem lw_p1 : lw_okq (⟨"GuardPacks$Hall", "numberRuns", "()V"⟩, 9) := ⟨⟨by decide +kernel, by decide +kernel⟩, List.mem_of_getElem? (i := 19) (by decide +kernel), List.mem_of_getElem? (i := 114) (by decide +kernel), List.mem_of_getElem? (i := 115) (by decide +kernel)⟩
theorem lw_p2 : lw_okq (⟨"GuardPacks$Runs", "clear", "(I)V"⟩, 6) := ⟨⟨by decide +kernel, by decide +kernel⟩, List.mem_of_getElem? (i := 25) (by decide +kernel), List.mem_of_getElem? (i := 118) (by decide +kernel), List.mem_of_getElem? (i := 119) (by decide +kernel)⟩
theorem lw_p3 : lw_okq (⟨"GuardPacks$Hall", "numberCell", "(II)V"⟩, 9) := ⟨⟨by decide +kernel, by decide +kernel⟩, List.mem_of_getElem? (i := 19) (by decide +kernel), List.mem_of_getElem? (i := 122) (by decide +kernel), List.mem_of_getElem? (i := 123) (by decide +kernel)⟩
theorem lw_p4 : lw_okq (⟨"GuardPacks$Hall", "numberOf", "(II)I"⟩, 9) := ⟨⟨by decide +kernel, by decide +kernel⟩, List.mem_of_getElem? (i := 19) (by decide +kernel), List.mem_of_getElem? (i := 126) (by decide +kernel), List.mem_of_getElem? (i := 127) (by decide +kernel)⟩
theorem lw_p5 : lw_okq (⟨"GuardPacks$Runs", "takeShut", "(I)V"⟩, 6) := ⟨⟨by decide +kernel, by decide +kernel⟩, List.mem_of_getElem? (i := 25) (by decide +kernel), List.mem_of_getElem? (i := 130) (by decide +kernel), List.mem_of_getElem? (i := 131) (by decide +kernel)⟩
theorem lw_p6 : lw_okq (⟨"GuardPacks$Runs", "takeOpen", "(IZ)V"⟩, 6) := ⟨⟨by decide +kernel, by decide +kernel⟩, List.mem_of_getElem? (i := 25) (by decide +kernel), List.mem_of_getElem? (i := 134) (by decide +kernel), List.mem_of_getElem? (i := 135) (by decide +kernel)⟩
theorem lw_p7 : lw_okq (⟨"GuardPacks$Runs", "addGuards", "(II)V"⟩, 6) := ⟨⟨by decide +kernel, by decide +kernel⟩, List.mem_of_getElem? (i := 25) (by decide +kernel), List.mem_of_getElem? (i := 138) (by decide +kernel), List.mem_of_getElem? (i := 139) (by decide +kernel)⟩
theorem lw_p8 : lw_okq (⟨"GuardPacks$Box", "clear", "(II)V"⟩, 9) := ⟨⟨by decide +kernel, by decide +kernel⟩, List.mem_of_getElem? (i := 172) (by decide +kernel), List.mem_of_getElem? (i := 178) (by decide +kernel), List.mem_of_getElem? (i := 179) (by decide +kernel)⟩
theorem lw_p9 : lw_okq (⟨"GuardPacks$Hall", "holds", "(II)Z"⟩, 9) := ⟨⟨by decide +kernel, by decide +kernel⟩, List.mem_of_getElem? (i := 19) (by decide +kernel), List.mem_of_getElem? (i := 234) (by decide +kernel), List.mem_of_getElem? (i := 235) (by decide +kernel)⟩
theorem lw_p10 : lw_okq (⟨"GuardPacks$Hall", "changeWall", "(IZ)Z"⟩, 9) := ⟨⟨by decide +kernel, by decide +kernel⟩, List.mem_of_getElem? (i := 19) (by decide +kernel), List.mem_of_getElem? (i := 240) (by decide +kernel), List.mem_of_getElem? (i := 241) (by decide +kernel)⟩
theorem lw_p11 : lw_okq (⟨"GuardPacks$Hall", "changeGuard", "(IZ)I"⟩, 9) := ⟨⟨by decide +kernel, by decide +kernel⟩, List.mem_of_getElem? (i := 19) (by decide +kernel), List.mem_of_getElem? (i := 248) (by decide +kernel), List.mem_of_getElem? (i := 249) (by decide +kernel)⟩
theorem lw_p12 : lw_okq (⟨"GuardPacks$Hall", "kindOf", "(I)I"⟩, 9) := ⟨⟨by decide +kernel, by decide +kernel⟩, List.mem_of_getElem? (i := 19) (by decide +kernel), List.mem_of_getElem? (i := 260) (by decide +kernel), List.mem_of_getElem? (i := 261) (by decide +kernel)⟩
theorem lw_p13 : lw_okq (⟨"GuardPacks$Hall", "isSeen", "(I)Z"⟩, 9) := ⟨⟨by decide +kernel, by decide +kernel⟩, List.mem_of_getElem? (i := 19) (by decide +kernel), List.mem_of_getElem? (i := 264) (by decide +kernel), List.mem_of_getElem? (i := 265) (by decide +kernel)⟩
theorem lw_p14 : lw_okq (⟨"GuardPacks$Runs", "isWatched", "(I)Z"⟩, 6) := ⟨⟨by decide +kernel, by decide +kernel⟩, List.mem_of_getElem? (i := 25) (by decide +kernel), List.mem_of_getElem? (i := 268) (by decide +kernel), List.mem_of_getElem? (i := 269) (by decide +kernel)⟩
theorem lw_p15 : lw_okq (⟨"GuardPacks$Hall", "along", "(I)LGuardPacks$Runs;"⟩, 9) := ⟨⟨by decide +kernel, by decide +kernel⟩, List.mem_of_getElem? (i := 19) (by decide +kernel), List.mem_of_getElem? (i := 276) (by decide +kernel), List.mem_of_getElem? (i := 277) (by decide +kernel)⟩
def lw_privs_1 : List (MethodName × Nat) := [(⟨"GuardPacks$Hall", "clear", "(II)V"⟩, 9), (⟨"GuardPacks$Hall", "numberRuns", "()V"⟩, 9), (⟨"GuardPacks$Runs", "clear", "(I)V"⟩, 6), (⟨"GuardPacks$Hall", "numberCell", "(II)V"⟩, 9), (⟨"GuardPacks$Hall", "numberOf", "(II)I"⟩, 9), (⟨"GuardPacks$Runs", "takeShut", "(I)V"⟩, 6), (⟨"GuardPacks$Runs", "takeOpen", "(IZ)V"⟩, 6), (⟨"GuardPacks$Runs", "addGuards", "(II)V"⟩, 6), (⟨"GuardPacks$Box", "clear", "(II)V"⟩, 9), (⟨"GuardPacks$Hall", "holds", "(II)Z"⟩, 9), (⟨"GuardPacks$Hall", "changeWall", "(IZ)Z"⟩, 9), (⟨"GuardPacks$Hall", "changeGuard", "(IZ)I"⟩, 9), (⟨"GuardPacks$Hall", "kindOf", "(I)I"⟩, 9), (⟨"GuardPacks$Hall", "isSeen", "(I)Z"⟩, 9), (⟨"GuardPacks$Runs", "isWatched", "(I)Z"⟩, 6), (⟨"GuardPacks$Hall", "along", "(I)LGuardPacks$Runs;"⟩, 9)]
theorem lw_r1 : ∀ q ∈ lw_privs_1, lw_okq q := List.forall_mem_cons.mpr ⟨lw_p0, List.forall_mem_cons.mpr ⟨lw_p1, List.forall_mem_cons.mpr ⟨lw_p2, List.forall_mem_cons.mpr ⟨lw_p3, List.forall_mem_cons.mpr ⟨lw_p4, List.forall_mem_cons.mpr ⟨lw_p5, List.forall_mem_cons.mpr ⟨lw_p6, List.forall_mem_cons.mpr ⟨lw_p7, List.forall_mem_cons.mpr ⟨lw_p8, List.forall_mem_cons.mpr ⟨lw_p9, List.forall_mem_cons.mpr ⟨lw_p10, List.forall_mem_cons.mpr ⟨lw_p11, List.forall_mem_cons.mpr ⟨lw_p12, List.forall_mem_cons.mpr ⟨lw_p13, List.forall_mem_cons.mpr ⟨lw_p14, List.forall_mem_cons.mpr ⟨lw_p15, fun _ h => absurd h List.not_mem_nil⟩⟩⟩⟩⟩⟩⟩⟩⟩⟩⟩⟩⟩⟩⟩⟩
theorem lw_p16 : lw_okq (⟨"GuardPacks$Hall", "sightFrom", "(I)I"⟩, 9) := ⟨⟨by decide +kernel, by decide +kernel⟩, List.mem_of_getElem? (i := 19) (by decide +kernel), List.mem_of_getElem? (i := 288) (by decide +kernel), List.mem_of_getElem? (i := 289) (by decide +kernel)⟩
theorem lw_p17 : lw_okq (⟨"GuardPacks$Runs", "lengthAt", "(I)I"⟩, 6) := ⟨⟨by decide +kernel, by decide +kernel⟩, List.mem_of_getElem? (i := 25) (by decide +kernel), List.mem_of_getElem? (i := 292) (by decide +kernel), List.mem_of_getElem? (i := 293) (by decide +kernel)⟩
theorem lw_p18 : lw_okq (⟨"GuardPacks$Hall", "countSeen", "()I"⟩, 9) := ⟨⟨by decide +kernel, by decide +kernel⟩, List.mem_of_getElem? (i := 19) (by decide +kernel), List.mem_of_getElem? (i := 300) (by decide +kernel), List.mem_of_getElem? (i := 301) (by decide +kernel)⟩
theorem lw_p19 : lw_okq (⟨"GuardPacks$Hall", "findMissed", "(I)I"⟩, 9) := ⟨⟨by decide +kernel, by decide +kernel⟩, List.mem_of_getElem? (i := 19) (by decide +kernel), List.mem_of_getElem? (i := 308) (by decide +kernel), List.mem_of_getElem? (i := 309) (by decide +kernel)⟩
theorem lw_p20 : lw_okq (⟨"GuardPacks$Hall", "leastMore", "()I"⟩, 9) := ⟨⟨by decide +kernel, by decide +kernel⟩, List.mem_of_getElem? (i := 19) (by decide +kernel), List.mem_of_getElem? (i := 316) (by decide +kernel), List.mem_of_getElem? (i := 317) (by decide +kernel)⟩
theorem lw_p21 : lw_okq (⟨"GuardPacks$Watch", "leastGuards", "(LGuardPacks$Runs;LGuardPacks$Runs;)I"⟩, 5) := ⟨⟨by decide +kernel, by decide +kernel⟩, List.mem_of_getElem? (i := 87) (by decide +kernel), List.mem_of_getElem? (i := 320) (by decide +kernel), List.mem_of_getElem? (i := 321) (by decide +kernel)⟩
theorem lw_p22 : lw_okq (⟨"GuardPacks$Watch", "findUnseenFar", "(I)J"⟩, 5) := ⟨⟨by decide +kernel, by decide +kernel⟩, List.mem_of_getElem? (i := 87) (by decide +kernel), List.mem_of_getElem? (i := 324) (by decide +kernel), List.mem_of_getElem? (i := 325) (by decide +kernel)⟩
theorem lw_p23 : lw_okq (⟨"GuardPacks$Runs", "cellOf", "(II)I"⟩, 6) := ⟨⟨by decide +kernel, by decide +kernel⟩, List.mem_of_getElem? (i := 25) (by decide +kernel), List.mem_of_getElem? (i := 328) (by decide +kernel), List.mem_of_getElem? (i := 329) (by decide +kernel)⟩
theorem lw_p24 : lw_okq (⟨"GuardPacks$Watch", "choose", "(IJJ)V"⟩, 5) := ⟨⟨by decide +kernel, by decide +kernel⟩, List.mem_of_getElem? (i := 87) (by decide +kernel), List.mem_of_getElem? (i := 332) (by decide +kernel), List.mem_of_getElem? (i := 333) (by decide +kernel)⟩
theorem lw_p25 : lw_okq (⟨"GuardPacks$Pairing", "most", "(LGuardPacks$Runs;LGuardPacks$Runs;JJ)I"⟩, 6) := ⟨⟨by decide +kernel, by decide +kernel⟩, List.mem_of_getElem? (i := 62) (by decide +kernel), List.mem_of_getElem? (i := 342) (by decide +kernel), List.mem_of_getElem? (i := 343) (by decide +kernel)⟩
theorem lw_p26 : lw_okq (⟨"GuardPacks$Pairing", "findPair", "(IJ)Z"⟩, 6) := ⟨⟨by decide +kernel, by decide +kernel⟩, List.mem_of_getElem? (i := 62) (by decide +kernel), List.mem_of_getElem? (i := 346) (by decide +kernel), List.mem_of_getElem? (i := 347) (by decide +kernel)⟩
theorem lw_p27 : lw_okq (⟨"GuardPacks$Pairing", "pairBack", "(I)V"⟩, 6) := ⟨⟨by decide +kernel, by decide +kernel⟩, List.mem_of_getElem? (i := 62) (by decide +kernel), List.mem_of_getElem? (i := 352) (by decide +kernel), List.mem_of_getElem? (i := 353) (by decide +kernel)⟩
theorem lw_p28 : lw_okq (⟨"GuardPacks$Hall", "mostPeaceful", "()I"⟩, 9) := ⟨⟨by decide +kernel, by decide +kernel⟩, List.mem_of_getElem? (i := 19) (by decide +kernel), List.mem_of_getElem? (i := 363) (by decide +kernel), List.mem_of_getElem? (i := 364) (by decide +kernel)⟩
theorem lw_p29 : lw_okq (⟨"GuardPacks$Box", "append", "(I)I"⟩, 9) := ⟨⟨by decide +kernel, by decide +kernel⟩, List.mem_of_getElem? (i := 172) (by decide +kernel), List.mem_of_getElem? (i := 378) (by decide +kernel), List.mem_of_getElem? (i := 379) (by decide +kernel)⟩
theorem lw_p30 : lw_okq (⟨"GuardPacks$Box", "removeLast", "()I"⟩, 9) := ⟨⟨by decide +kernel, by decide +kernel⟩, List.mem_of_getElem? (i := 172) (by decide +kernel), List.mem_of_getElem? (i := 386) (by decide +kernel), List.mem_of_getElem? (i := 387) (by decide +kernel)⟩
theorem lw_p31 : lw_okq (⟨"GuardPacks$Box", "fill", "(I)I"⟩, 9) := ⟨⟨by decide +kernel, by decide +kernel⟩, List.mem_of_getElem? (i := 172) (by decide +kernel), List.mem_of_getElem? (i := 395) (by decide +kernel), List.mem_of_getElem? (i := 396) (by decide +kernel)⟩
def lw_privs_2 : List (MethodName × Nat) := [(⟨"GuardPacks$Hall", "sightFrom", "(I)I"⟩, 9), (⟨"GuardPacks$Runs", "lengthAt", "(I)I"⟩, 6), (⟨"GuardPacks$Hall", "countSeen", "()I"⟩, 9), (⟨"GuardPacks$Hall", "findMissed", "(I)I"⟩, 9), (⟨"GuardPacks$Hall", "leastMore", "()I"⟩, 9), (⟨"GuardPacks$Watch", "leastGuards", "(LGuardPacks$Runs;LGuardPacks$Runs;)I"⟩, 5), (⟨"GuardPacks$Watch", "findUnseenFar", "(I)J"⟩, 5), (⟨"GuardPacks$Runs", "cellOf", "(II)I"⟩, 6), (⟨"GuardPacks$Watch", "choose", "(IJJ)V"⟩, 5), (⟨"GuardPacks$Pairing", "most", "(LGuardPacks$Runs;LGuardPacks$Runs;JJ)I"⟩, 6), (⟨"GuardPacks$Pairing", "findPair", "(IJ)Z"⟩, 6), (⟨"GuardPacks$Pairing", "pairBack", "(I)V"⟩, 6), (⟨"GuardPacks$Hall", "mostPeaceful", "()I"⟩, 9), (⟨"GuardPacks$Box", "append", "(I)I"⟩, 9), (⟨"GuardPacks$Box", "removeLast", "()I"⟩, 9), (⟨"GuardPacks$Box", "fill", "(I)I"⟩, 9)]
theorem lw_r2 : ∀ q ∈ lw_privs_2, lw_okq q := List.forall_mem_cons.mpr ⟨lw_p16, List.forall_mem_cons.mpr ⟨lw_p17, List.forall_mem_cons.mpr ⟨lw_p18, List.forall_mem_cons.mpr ⟨lw_p19, List.forall_mem_cons.mpr ⟨lw_p20, List.forall_mem_cons.mpr ⟨lw_p21, List.forall_mem_cons.mpr ⟨lw_p22, List.forall_mem_cons.mpr ⟨lw_p23, List.forall_mem_cons.mpr ⟨lw_p24, List.forall_mem_cons.mpr ⟨lw_p25, List.forall_mem_cons.mpr ⟨lw_p26, List.forall_mem_cons.mpr ⟨lw_p27, List.forall_mem_cons.mpr ⟨lw_p28, List.forall_mem_cons.mpr ⟨lw_p29, List.forall_mem_cons.mpr ⟨lw_p30, List.forall_mem_cons.mpr ⟨lw_p31, fun _ h => absurd h List.not_mem_nil⟩⟩⟩⟩⟩⟩⟩⟩⟩⟩⟩⟩⟩⟩⟩⟩
theorem lw_p32 : lw_okq (⟨"GuardPacks$Box", "layAll", "(I)I"⟩, 9) := ⟨⟨by decide +kernel, by decide +kernel⟩, List.mem_of_getElem? (i := 172) (by decide +kernel), List.mem_of_getElem? (i := 399) (by decide +kernel), List.mem_of_getElem? (i := 400) (by decide +kernel)⟩
theorem lw_p33 : lw_okq (⟨"GuardPacks$Box", "emptyBox", "()V"⟩, 9) := ⟨⟨by decide +kernel, by decide +kernel⟩, List.mem_of_getElem? (i := 172) (by decide +kernel), List.mem_of_getElem? (i := 403) (by decide +kernel), List.mem_of_getElem? (i := 404) (by decide +kernel)⟩
theorem lw_p34 : lw_okq (⟨"GuardPacks$Box", "startOver", "(I)V"⟩, 9) := ⟨⟨by decide +kernel, by decide +kernel⟩, List.mem_of_getElem? (i := 172) (by decide +kernel), List.mem_of_getElem? (i := 407) (by decide +kernel), List.mem_of_getElem? (i := 408) (by decide +kernel)⟩
theorem lw_p35 : lw_okq (⟨"GuardPacks$Box", "hasPlace", "(I)Z"⟩, 9) := ⟨⟨by decide +kernel, by decide +kernel⟩, List.mem_of_getElem? (i := 172) (by decide +kernel), List.mem_of_getElem? (i := 412) (by decide +kernel), List.mem_of_getElem? (i := 413) (by decide +kernel)⟩
theorem lw_p36 : lw_okq (⟨"GuardPacks$Box", "layOrLift", "(I)V"⟩, 9) := ⟨⟨by decide +kernel, by decide +kernel⟩, List.mem_of_getElem? (i := 172) (by decide +kernel), List.mem_of_getElem? (i := 416) (by decide +kernel), List.mem_of_getElem? (i := 417) (by decide +kernel)⟩
theorem lw_p37 : lw_okq (⟨"GuardPacks$Box", "breadthOf", "(I)I"⟩, 9) := ⟨⟨by decide +kernel, by decide +kernel⟩, List.mem_of_getElem? (i := 172) (by decide +kernel), List.mem_of_getElem? (i := 420) (by decide +kernel), List.mem_of_getElem? (i := 421) (by decide +kernel)⟩
theorem lw_p38 : lw_okq (⟨"GuardPacks$Box", "goOn", "(I)V"⟩, 9) := ⟨⟨by decide +kernel, by decide +kernel⟩, List.mem_of_getElem? (i := 172) (by decide +kernel), List.mem_of_getElem? (i := 425) (by decide +kernel), List.mem_of_getElem? (i := 426) (by decide +kernel)⟩
theorem lw_p39 : lw_okq (⟨"GuardPacks$Box", "tryPlace", "(I)Z"⟩, 9) := ⟨⟨by decide +kernel, by decide +kernel⟩, List.mem_of_getElem? (i := 172) (by decide +kernel), List.mem_of_getElem? (i := 429) (by decide +kernel), List.mem_of_getElem? (i := 430) (by decide +kernel)⟩
theorem lw_p40 : lw_okq (⟨"GuardPacks$Box", "isFree", "(I)Z"⟩, 9) := ⟨⟨by decide +kernel, by decide +kernel⟩, List.mem_of_getElem? (i := 172) (by decide +kernel), List.mem_of_getElem? (i := 433) (by decide +kernel), List.mem_of_getElem? (i := 434) (by decide +kernel)⟩
theorem lw_p41 : lw_okq (⟨"GuardPacks$Box", "countLeft", "()I"⟩, 9) := ⟨⟨by decide +kernel, by decide +kernel⟩, List.mem_of_getElem? (i := 172) (by decide +kernel), List.mem_of_getElem? (i := 449) (by decide +kernel), List.mem_of_getElem? (i := 450) (by decide +kernel)⟩
theorem lw_p42 : lw_okq (⟨"GuardPacksModel", "isCell", "(II)Z"⟩, 22) := ⟨⟨by decide +kernel, by decide +kernel⟩, List.mem_of_getElem? (i := 453) (by decide +kernel), List.mem_of_getElem? (i := 537) (by decide +kernel), List.mem_of_getElem? (i := 538) (by decide +kernel)⟩
theorem lw_p43 : lw_okq (⟨"GuardPacksModel", "part", "()V"⟩, 22) := ⟨⟨by decide +kernel, by decide +kernel⟩, List.mem_of_getElem? (i := 453) (by decide +kernel), List.mem_of_getElem? (i := 553) (by decide +kernel), List.mem_of_getElem? (i := 554) (by decide +kernel)⟩
theorem lw_p44 : lw_okq (⟨"GuardPacksModel", "partCell", "(III)V"⟩, 22) := ⟨⟨by decide +kernel, by decide +kernel⟩, List.mem_of_getElem? (i := 453) (by decide +kernel), List.mem_of_getElem? (i := 557) (by decide +kernel), List.mem_of_getElem? (i := 558) (by decide +kernel)⟩
theorem lw_p45 : lw_okq (⟨"GuardPacksModel", "isOpen", "(II)Z"⟩, 22) := ⟨⟨by decide +kernel, by decide +kernel⟩, List.mem_of_getElem? (i := 453) (by decide +kernel), List.mem_of_getElem? (i := 561) (by decide +kernel), List.mem_of_getElem? (i := 562) (by decide +kernel)⟩
theorem lw_p46 : lw_okq (⟨"GuardPacksModel", "isSeen", "(I)Z"⟩, 22) := ⟨⟨by decide +kernel, by decide +kernel⟩, List.mem_of_getElem? (i := 453) (by decide +kernel), List.mem_of_getElem? (i := 565) (by decide +kernel), List.mem_of_getElem? (i := 566) (by decide +kernel)⟩
theorem lw_p47 : lw_okq (⟨"GuardPacksModel", "isTouched", "(II)Z"⟩, 22) := ⟨⟨by decide +kernel, by decide +kernel⟩, List.mem_of_getElem? (i := 453) (by decide +kernel), List.mem_of_getElem? (i := 569) (by decide +kernel), List.mem_of_getElem? (i := 570) (by decide +kernel)⟩
def lw_privs_3 : List (MethodName × Nat) := [(⟨"GuardPacks$Box", "layAll", "(I)I"⟩, 9), (⟨"GuardPacks$Box", "emptyBox", "()V"⟩, 9), (⟨"GuardPacks$Box", "startOver", "(I)V"⟩, 9), (⟨"GuardPacks$Box", "hasPlace", "(I)Z"⟩, 9), (⟨"GuardPacks$Box", "layOrLift", "(I)V"⟩, 9), (⟨"GuardPacks$Box", "breadthOf", "(I)I"⟩, 9), (⟨"GuardPacks$Box", "goOn", "(I)V"⟩, 9), (⟨"GuardPacks$Box", "tryPlace", "(I)Z"⟩, 9), (⟨"GuardPacks$Box", "isFree", "(I)Z"⟩, 9), (⟨"GuardPacks$Box", "countLeft", "()I"⟩, 9), (⟨"GuardPacksModel", "isCell", "(II)Z"⟩, 22), (⟨"GuardPacksModel", "part", "()V"⟩, 22), (⟨"GuardPacksModel", "partCell", "(III)V"⟩, 22), (⟨"GuardPacksModel", "isOpen", "(II)Z"⟩, 22), (⟨"GuardPacksModel", "isSeen", "(I)Z"⟩, 22), (⟨"GuardPacksModel", "isTouched", "(II)Z"⟩, 22)]
theorem lw_r3 : ∀ q ∈ lw_privs_3, lw_okq q := List.forall_mem_cons.mpr ⟨lw_p32, List.forall_mem_cons.mpr ⟨lw_p33, List.forall_mem_cons.mpr ⟨lw_p34, List.forall_mem_cons.mpr ⟨lw_p35, List.forall_mem_cons.mpr ⟨lw_p36, List.forall_mem_cons.mpr ⟨lw_p37, List.forall_mem_cons.mpr ⟨lw_p38, List.forall_mem_cons.mpr ⟨lw_p39, List.forall_mem_cons.mpr ⟨lw_p40, List.forall_mem_cons.mpr ⟨lw_p41, List.forall_mem_cons.mpr ⟨lw_p42, List.forall_mem_cons.mpr ⟨lw_p43, List.forall_mem_cons.mpr ⟨lw_p44, List.forall_mem_cons.mpr ⟨lw_p45, List.forall_mem_cons.mpr ⟨lw_p46, List.forall_mem_cons.mpr ⟨lw_p47, fun _ h => absurd h List.not_mem_nil⟩⟩⟩⟩⟩⟩⟩⟩⟩⟩⟩⟩⟩⟩⟩⟩
theorem lw_p48 : lw_okq (⟨"GuardPacksModel", "cross", "(I)V"⟩, 22) := ⟨⟨by decide +kernel, by decide +kernel⟩, List.mem_of_getElem? (i := 453) (by decide +kernel), List.mem_of_getElem? (i := 597) (by decide +kernel), List.mem_of_getElem? (i := 598) (by decide +kernel)⟩
theorem lw_p49 : lw_okq (⟨"GuardPacksModel", "touched", "(I)J"⟩, 22) := ⟨⟨by decide +kernel, by decide +kernel⟩, List.mem_of_getElem? (i := 453) (by decide +kernel), List.mem_of_getElem? (i := 601) (by decide +kernel), List.mem_of_getElem? (i := 602) (by decide +kernel)⟩
theorem lw_p50 : lw_okq (⟨"GuardPacksModel", "count", "(J)I"⟩, 22) := ⟨⟨by decide +kernel, by decide +kernel⟩, List.mem_of_getElem? (i := 453) (by decide +kernel), List.mem_of_getElem? (i := 606) (by decide +kernel), List.mem_of_getElem? (i := 607) (by decide +kernel)⟩
theorem lw_p51 : lw_okq (⟨"GuardPacksModel", "most", "(IJ)I"⟩, 22) := ⟨⟨by decide +kernel, by decide +kernel⟩, List.mem_of_getElem? (i := 453) (by decide +kernel), List.mem_of_getElem? (i := 611) (by decide +kernel), List.mem_of_getElem? (i := 612) (by decide +kernel)⟩
theorem lw_p52 : lw_okq (⟨"GuardPacksModel", "finds", "(I)Z"⟩, 22) := ⟨⟨by decide +kernel, by decide +kernel⟩, List.mem_of_getElem? (i := 453) (by decide +kernel), List.mem_of_getElem? (i := 619) (by decide +kernel), List.mem_of_getElem? (i := 620) (by decide +kernel)⟩
theorem lw_p53 : lw_okq (⟨"GuardPacksModel", "doCross", "(II)Z"⟩, 22) := ⟨⟨by decide +kernel, by decide +kernel⟩, List.mem_of_getElem? (i := 453) (by decide +kernel), List.mem_of_getElem? (i := 623) (by decide +kernel), List.mem_of_getElem? (i := 624) (by decide +kernel)⟩
theorem lw_p54 : lw_okq (⟨"GuardPacksModel", "turn", "(II)V"⟩, 22) := ⟨⟨by decide +kernel, by decide +kernel⟩, List.mem_of_getElem? (i := 453) (by decide +kernel), List.mem_of_getElem? (i := 627) (by decide +kernel), List.mem_of_getElem? (i := 628) (by decide +kernel)⟩
theorem lw_p55 : lw_okq (⟨"GuardPacksModel", "goesOn", "(I)Z"⟩, 22) := ⟨⟨by decide +kernel, by decide +kernel⟩, List.mem_of_getElem? (i := 453) (by decide +kernel), List.mem_of_getElem? (i := 648) (by decide +kernel), List.mem_of_getElem? (i := 649) (by decide +kernel)⟩
theorem lw_p56 : lw_okq (⟨"GuardPacksModel", "lies", "(I)Z"⟩, 22) := ⟨⟨by decide +kernel, by decide +kernel⟩, List.mem_of_getElem? (i := 453) (by decide +kernel), List.mem_of_getElem? (i := 652) (by decide +kernel), List.mem_of_getElem? (i := 653) (by decide +kernel)⟩
theorem lw_p57 : lw_okq (⟨"GuardPacksModel", "isApart", "(II)Z"⟩, 22) := ⟨⟨by decide +kernel, by decide +kernel⟩, List.mem_of_getElem? (i := 453) (by decide +kernel), List.mem_of_getElem? (i := 656) (by decide +kernel), List.mem_of_getElem? (i := 657) (by decide +kernel)⟩
def lw_privs_4 : List (MethodName × Nat) := [(⟨"GuardPacksModel", "cross", "(I)V"⟩, 22), (⟨"GuardPacksModel", "touched", "(I)J"⟩, 22), (⟨"GuardPacksModel", "count", "(J)I"⟩, 22), (⟨"GuardPacksModel", "most", "(IJ)I"⟩, 22), (⟨"GuardPacksModel", "finds", "(I)Z"⟩, 22), (⟨"GuardPacksModel", "doCross", "(II)Z"⟩, 22), (⟨"GuardPacksModel", "turn", "(II)V"⟩, 22), (⟨"GuardPacksModel", "goesOn", "(I)Z"⟩, 22), (⟨"GuardPacksModel", "lies", "(I)Z"⟩, 22), (⟨"GuardPacksModel", "isApart", "(II)Z"⟩, 22)]
theorem lw_r4 : ∀ q ∈ lw_privs_4, lw_okq q := List.forall_mem_cons.mpr ⟨lw_p48, List.forall_mem_cons.mpr ⟨lw_p49, List.forall_mem_cons.mpr ⟨lw_p50, List.forall_mem_cons.mpr ⟨lw_p51, List.forall_mem_cons.mpr ⟨lw_p52, List.forall_mem_cons.mpr ⟨lw_p53, List.forall_mem_cons.mpr ⟨lw_p54, List.forall_mem_cons.mpr ⟨lw_p55, List.forall_mem_cons.mpr ⟨lw_p56, List.forall_mem_cons.mpr ⟨lw_p57, fun _ h => absurd h List.not_mem_nil⟩⟩⟩⟩⟩⟩⟩⟩⟩⟩
def lw_privs : List (MethodName × Nat) := lw_privs_1 ++ (lw_privs_2 ++ (lw_privs_3 ++ (lw_privs_4)))
def lw_tbl : List Cond := k2_sels lw_privs ++ tables_1
theorem lw_privs_ok : ∀ q ∈ lw_privs, lw_okq q := by
  show ∀ q ∈ lw_privs_1 ++ (lw_privs_2 ++ (lw_privs_3 ++ (lw_privs_4))), lw_okq q
  exact List.forall_mem_append.mpr ⟨lw_r1, List.forall_mem_append.mpr ⟨lw_r2, List.forall_mem_append.mpr ⟨lw_r3, lw_r4⟩⟩⟩
end
section
def RX0 : String := "GuardPacks$Box"
def TX0 : u_T := fun k => match k with
  | 0 => ("GuardPacks$Box", "width", "I", false)
  | 1 => ("GuardPacks$Box", "height", "I", false)
  | 2 => ("GuardPacks$Box", "count", "I", false)
  | 3 => ("GuardPacks$Box", "placesTried", "I", false)
  | 4 => ("GuardPacks$Box", "packed", "Z", false)
  | 5 => ("GuardPacks$Box", "side", "[I", true)
  | 6 => ("GuardPacks$Box", "atX", "[I", true)
  | 7 => ("GuardPacks$Box", "atY", "[I", true)
  | _ => ("GuardPacks$Box", "taken", "[I", true)
def tyX0 : Nat → FieldType := fun k => match k with
  | 0 => .int
  | 1 => .int
  | 2 => .int
  | 3 => .int
  | 4 => .boolean
  | 5 => .array .int
  | 6 => .array .int
  | 7 => .array .int
  | _ => .array .int
theorem nmX0 : ∀ a, a < 9 → ∀ b, b < 9 → a ≠ b → (TX0 a).2.1 ≠ (TX0 b).2.1 := by decide +kernel
theorem tyX0_ok : ∀ k, k < 9 → parseFieldDescriptor (TX0 k).2.2.1 = some (tyX0 k) := by decide +kernel
abbrev cX0_init : ByteArray := prog_2_method_1_code
def yX0_init : MethodName := ⟨RX0, "<init>", "()V"⟩
abbrev cX0_clear : ByteArray := prog_2_method_2_code
def yX0_clear : MethodName := ⟨RX0, "clear", "(II)V"⟩
abbrev cX0_append : ByteArray := prog_2_method_3_code
def yX0_append : MethodName := ⟨RX0, "append", "(I)I"⟩
abbrev cX0_removeLast : ByteArray := prog_2_method_4_code
def yX0_removeLast : MethodName := ⟨RX0, "removeLast", "()I"⟩
abbrev cX0_countLeft : ByteArray := prog_2_method_5_code
def yX0_countLeft : MethodName := ⟨RX0, "countLeft", "()I"⟩
abbrev cX0_fill : ByteArray := prog_2_method_6_code
def yX0_fill : MethodName := ⟨RX0, "fill", "(I)I"⟩
abbrev cX0_layAll : ByteArray := prog_2_method_7_code
def yX0_layAll : MethodName := ⟨RX0, "layAll", "(I)I"⟩
abbrev cX0_emptyBox : ByteArray := prog_2_method_8_code
def yX0_emptyBox : MethodName := ⟨RX0, "emptyBox", "()V"⟩
abbrev cX0_startOver : ByteArray := prog_2_method_9_code
def yX0_startOver : MethodName := ⟨RX0, "startOver", "(I)V"⟩
abbrev cX0_hasPlace : ByteArray := prog_2_method_10_code
def yX0_hasPlace : MethodName := ⟨RX0, "hasPlace", "(I)Z"⟩
abbrev cX0_goOn : ByteArray := prog_2_method_11_code
def yX0_goOn : MethodName := ⟨RX0, "goOn", "(I)V"⟩
abbrev cX0_tryPlace : ByteArray := prog_2_method_12_code
def yX0_tryPlace : MethodName := ⟨RX0, "tryPlace", "(I)Z"⟩
abbrev cX0_breadthOf : ByteArray := prog_2_method_13_code
def yX0_breadthOf : MethodName := ⟨RX0, "breadthOf", "(I)I"⟩
abbrev cX0_isFree : ByteArray := prog_2_method_14_code
def yX0_isFree : MethodName := ⟨RX0, "isFree", "(I)Z"⟩
abbrev cX0_layOrLift : ByteArray := prog_2_method_15_code
def yX0_layOrLift : MethodName := ⟨RX0, "layOrLift", "(I)V"⟩
def RX1 : String := "GuardPacks$Hall"
def TX1 : u_T := fun k => match k with
  | 0 => ("GuardPacks$Hall", "width", "I", false)
  | 1 => ("GuardPacks$Hall", "height", "I", false)
  | 2 => ("GuardPacks$Hall", "guardCount", "I", false)
  | 3 => ("GuardPacks$Hall", "open", "[Z", true)
  | 4 => ("GuardPacks$Hall", "guarded", "[Z", true)
  | 5 => ("GuardPacks$Hall", "rows", "LGuardPacks$Runs;", true)
  | 6 => ("GuardPacks$Hall", "columns", "LGuardPacks$Runs;", true)
  | 7 => ("GuardPacks$Hall", "pairing", "LGuardPacks$Pairing;", true)
  | _ => ("GuardPacks$Hall", "watch", "LGuardPacks$Watch;", true)
def tyX1 : Nat → FieldType := fun k => match k with
  | 0 => .int
  | 1 => .int
  | 2 => .int
  | 3 => .array .boolean
  | 4 => .array .boolean
  | 5 => .object "GuardPacks$Runs"
  | 6 => .object "GuardPacks$Runs"
  | 7 => .object "GuardPacks$Pairing"
  | _ => .object "GuardPacks$Watch"
theorem nmX1 : ∀ a, a < 9 → ∀ b, b < 9 → a ≠ b → (TX1 a).2.1 ≠ (TX1 b).2.1 := by decide +kernel
theorem tyX1_ok : ∀ k, k < 9 → parseFieldDescriptor (TX1 k).2.2.1 = some (tyX1 k) := by decide +kernel
abbrev cX1_init : ByteArray := prog_3_method_1_code
def yX1_init : MethodName := ⟨RX1, "<init>", "()V"⟩
abbrev cX1_clear : ByteArray := prog_3_method_2_code
def yX1_clear : MethodName := ⟨RX1, "clear", "(II)V"⟩
abbrev cX1_holds : ByteArray := prog_3_method_3_code
def yX1_holds : MethodName := ⟨RX1, "holds", "(II)Z"⟩
abbrev cX1_numberOf : ByteArray := prog_3_method_4_code
def yX1_numberOf : MethodName := ⟨RX1, "numberOf", "(II)I"⟩
abbrev cX1_along : ByteArray := prog_3_method_5_code
def yX1_along : MethodName := ⟨RX1, "along", "(I)LGuardPacks$Runs;"⟩
abbrev cX1_numberRuns : ByteArray := prog_3_method_6_code
def yX1_numberRuns : MethodName := ⟨RX1, "numberRuns", "()V"⟩
abbrev cX1_numberCell : ByteArray := prog_3_method_7_code
def yX1_numberCell : MethodName := ⟨RX1, "numberCell", "(II)V"⟩
abbrev cX1_changeWall : ByteArray := prog_3_method_8_code
def yX1_changeWall : MethodName := ⟨RX1, "changeWall", "(IZ)Z"⟩
abbrev cX1_changeGuard : ByteArray := prog_3_method_9_code
def yX1_changeGuard : MethodName := ⟨RX1, "changeGuard", "(IZ)I"⟩
abbrev cX1_isSeen : ByteArray := prog_3_method_10_code
def yX1_isSeen : MethodName := ⟨RX1, "isSeen", "(I)Z"⟩
abbrev cX1_kindOf : ByteArray := prog_3_method_11_code
def yX1_kindOf : MethodName := ⟨RX1, "kindOf", "(I)I"⟩
abbrev cX1_sightFrom : ByteArray := prog_3_method_12_code
def yX1_sightFrom : MethodName := ⟨RX1, "sightFrom", "(I)I"⟩
abbrev cX1_countSeen : ByteArray := prog_3_method_13_code
def yX1_countSeen : MethodName := ⟨RX1, "countSeen", "()I"⟩
abbrev cX1_findMissed : ByteArray := prog_3_method_14_code
def yX1_findMissed : MethodName := ⟨RX1, "findMissed", "(I)I"⟩
abbrev cX1_leastMore : ByteArray := prog_3_method_15_code
def yX1_leastMore : MethodName := ⟨RX1, "leastMore", "()I"⟩
abbrev cX1_mostPeaceful : ByteArray := prog_3_method_16_code
def yX1_mostPeaceful : MethodName := ⟨RX1, "mostPeaceful", "()I"⟩
def RX2 : String := "GuardPacks$Pairing"
def TX2 : u_T := fun k => match k with
  | 0 => ("GuardPacks$Pairing", "near", "LGuardPacks$Runs;", false)
  | 1 => ("GuardPacks$Pairing", "far", "LGuardPacks$Runs;", false)
  | 2 => ("GuardPacks$Pairing", "farOf", "[I", true)
  | 3 => ("GuardPacks$Pairing", "nearOf", "[I", true)
  | 4 => ("GuardPacks$Pairing", "reachedFrom", "[I", true)
  | _ => ("GuardPacks$Pairing", "waiting", "[I", true)
def tyX2 : Nat → FieldType := fun k => match k with
  | 0 => .object "GuardPacks$Runs"
  | 1 => .object "GuardPacks$Runs"
  | 2 => .array .int
  | 3 => .array .int
  | 4 => .array .int
  | _ => .array .int
theorem nmX2 : ∀ a, a < 6 → ∀ b, b < 6 → a ≠ b → (TX2 a).2.1 ≠ (TX2 b).2.1 := by decide +kernel
theorem tyX2_ok : ∀ k, k < 6 → parseFieldDescriptor (TX2 k).2.2.1 = some (tyX2 k) := by decide +kernel
abbrev cX2_init : ByteArray := prog_4_method_1_code
def yX2_init : MethodName := ⟨RX2, "<init>", "()V"⟩
abbrev cX2_most : ByteArray := prog_4_method_2_code
def yX2_most : MethodName := ⟨RX2, "most", "(LGuardPacks$Runs;LGuardPacks$Runs;JJ)I"⟩
abbrev cX2_findPair : ByteArray := prog_4_method_3_code
def yX2_findPair : MethodName := ⟨RX2, "findPair", "(IJ)Z"⟩
abbrev cX2_pairBack : ByteArray := prog_4_method_4_code
def yX2_pairBack : MethodName := ⟨RX2, "pairBack", "(I)V"⟩
def RX3 : String := "GuardPacks$Runs"
def TX3 : u_T := fun k => match k with
  | 0 => ("GuardPacks$Runs", "count", "I", false)
  | 1 => ("GuardPacks$Runs", "stride", "I", false)
  | 2 => ("GuardPacks$Runs", "of", "[I", true)
  | 3 => ("GuardPacks$Runs", "least", "[I", true)
  | 4 => ("GuardPacks$Runs", "length", "[I", true)
  | _ => ("GuardPacks$Runs", "guards", "[I", true)
def tyX3 : Nat → FieldType := fun k => match k with
  | 0 => .int
  | 1 => .int
  | 2 => .array .int
  | 3 => .array .int
  | 4 => .array .int
  | _ => .array .int
theorem nmX3 : ∀ a, a < 6 → ∀ b, b < 6 → a ≠ b → (TX3 a).2.1 ≠ (TX3 b).2.1 := by decide +kernel
theorem tyX3_ok : ∀ k, k < 6 → parseFieldDescriptor (TX3 k).2.2.1 = some (tyX3 k) := by decide +kernel
abbrev cX3_init : ByteArray := prog_5_method_1_code
def yX3_init : MethodName := ⟨RX3, "<init>", "()V"⟩
abbrev cX3_clear : ByteArray := prog_5_method_2_code
def yX3_clear : MethodName := ⟨RX3, "clear", "(I)V"⟩
abbrev cX3_takeShut : ByteArray := prog_5_method_3_code
def yX3_takeShut : MethodName := ⟨RX3, "takeShut", "(I)V"⟩
abbrev cX3_takeOpen : ByteArray := prog_5_method_4_code
def yX3_takeOpen : MethodName := ⟨RX3, "takeOpen", "(IZ)V"⟩
abbrev cX3_addGuards : ByteArray := prog_5_method_5_code
def yX3_addGuards : MethodName := ⟨RX3, "addGuards", "(II)V"⟩
abbrev cX3_isWatched : ByteArray := prog_5_method_6_code
def yX3_isWatched : MethodName := ⟨RX3, "isWatched", "(I)Z"⟩
abbrev cX3_lengthAt : ByteArray := prog_5_method_7_code
def yX3_lengthAt : MethodName := ⟨RX3, "lengthAt", "(I)I"⟩
abbrev cX3_cellOf : ByteArray := prog_5_method_8_code
def yX3_cellOf : MethodName := ⟨RX3, "cellOf", "(II)I"⟩
def RX4 : String := "GuardPacks$Watch"
def TX4 : u_T := fun k => match k with
  | 0 => ("GuardPacks$Watch", "near", "LGuardPacks$Runs;", false)
  | 1 => ("GuardPacks$Watch", "far", "LGuardPacks$Runs;", false)
  | 2 => ("GuardPacks$Watch", "best", "I", false)
  | 3 => ("GuardPacks$Watch", "unseenFar", "[J", true)
  | _ => ("GuardPacks$Watch", "pairing", "LGuardPacks$Pairing;", true)
def tyX4 : Nat → FieldType := fun k => match k with
  | 0 => .object "GuardPacks$Runs"
  | 1 => .object "GuardPacks$Runs"
  | 2 => .int
  | 3 => .array .long
  | _ => .object "GuardPacks$Pairing"
theorem nmX4 : ∀ a, a < 5 → ∀ b, b < 5 → a ≠ b → (TX4 a).2.1 ≠ (TX4 b).2.1 := by decide +kernel
theorem tyX4_ok : ∀ k, k < 5 → parseFieldDescriptor (TX4 k).2.2.1 = some (tyX4 k) := by decide +kernel
abbrev cX4_init : ByteArray := prog_6_method_1_code
def yX4_init : MethodName := ⟨RX4, "<init>", "(LGuardPacks$Pairing;)V"⟩
abbrev cX4_leastGuards : ByteArray := prog_6_method_2_code
def yX4_leastGuards : MethodName := ⟨RX4, "leastGuards", "(LGuardPacks$Runs;LGuardPacks$Runs;)I"⟩
abbrev cX4_findUnseenFar : ByteArray := prog_6_method_3_code
def yX4_findUnseenFar : MethodName := ⟨RX4, "findUnseenFar", "(I)J"⟩
abbrev cX4_choose : ByteArray := prog_6_method_4_code
def yX4_choose : MethodName := ⟨RX4, "choose", "(IJJ)V"⟩
def RX5 : String := "GuardPacks"
def TX5 : u_T := fun k => match k with
  | 0 => ("GuardPacks", "myHall", "LGuardPacks$Hall;", true)
  | _ => ("GuardPacks", "myBox", "LGuardPacks$Box;", true)
def tyX5 : Nat → FieldType := fun k => match k with
  | 0 => .object "GuardPacks$Hall"
  | _ => .object "GuardPacks$Box"
theorem nmX5 : ∀ a, a < 2 → ∀ b, b < 2 → a ≠ b → (TX5 a).2.1 ≠ (TX5 b).2.1 := by decide +kernel
theorem tyX5_ok : ∀ k, k < 2 → parseFieldDescriptor (TX5 k).2.2.1 = some (tyX5 k) := by decide +kernel
abbrev cX5_init : ByteArray := prog_1_method_1_code
def yX5_init : MethodName := ⟨RX5, "<init>", "()V"⟩
abbrev cX5_hall : ByteArray := prog_1_method_2_code
def yX5_hall : MethodName := ⟨RX5, "hall", "(II)I"⟩
abbrev cX5_wall : ByteArray := prog_1_method_3_code
def yX5_wall : MethodName := ⟨RX5, "wall", "(IIZ)I"⟩
abbrev cX5_guard : ByteArray := prog_1_method_4_code
def yX5_guard : MethodName := ⟨RX5, "guard", "(II)I"⟩
abbrev cX5_leave : ByteArray := prog_1_method_5_code
def yX5_leave : MethodName := ⟨RX5, "leave", "(II)I"⟩
abbrev cX5_cell : ByteArray := prog_1_method_6_code
def yX5_cell : MethodName := ⟨RX5, "cell", "(II)I"⟩
abbrev cX5_runs : ByteArray := prog_1_method_7_code
def yX5_runs : MethodName := ⟨RX5, "runs", "(I)I"⟩
abbrev cX5_run : ByteArray := prog_1_method_8_code
def yX5_run : MethodName := ⟨RX5, "run", "(III)I"⟩
abbrev cX5_sees : ByteArray := prog_1_method_9_code
def yX5_sees : MethodName := ⟨RX5, "sees", "(II)I"⟩
abbrev cX5_seen : ByteArray := prog_1_method_10_code
def yX5_seen : MethodName := ⟨RX5, "seen", "()I"⟩
abbrev cX5_missed : ByteArray := prog_1_method_11_code
def yX5_missed : MethodName := ⟨RX5, "missed", "(I)I"⟩
abbrev cX5_more : ByteArray := prog_1_method_12_code
def yX5_more : MethodName := ⟨RX5, "more", "()I"⟩
abbrev cX5_peace : ByteArray := prog_1_method_13_code
def yX5_peace : MethodName := ⟨RX5, "peace", "()I"⟩
abbrev cX5_box : ByteArray := prog_1_method_14_code
def yX5_box : MethodName := ⟨RX5, "box", "(II)I"⟩
abbrev cX5_square : ByteArray := prog_1_method_15_code
def yX5_square : MethodName := ⟨RX5, "square", "(I)I"⟩
abbrev cX5_drop : ByteArray := prog_1_method_16_code
def yX5_drop : MethodName := ⟨RX5, "drop", "()I"⟩
abbrev cX5_pack : ByteArray := prog_1_method_17_code
def yX5_pack : MethodName := ⟨RX5, "pack", "(I)I"⟩
abbrev cX5_tried : ByteArray := prog_1_method_18_code
def yX5_tried : MethodName := ⟨RX5, "tried", "()I"⟩
abbrev cX5_place : ByteArray := prog_1_method_19_code
def yX5_place : MethodName := ⟨RX5, "place", "(II)I"⟩
abbrev cX5_left : ByteArray := prog_1_method_20_code
def yX5_left : MethodName := ⟨RX5, "left", "()I"⟩
abbrev cX5_isWithin : ByteArray := prog_1_method_21_code
def yX5_isWithin : MethodName := ⟨RX5, "isWithin", "(III)Z"⟩
def RX6 : String := "GuardPacksModel"
def TX6 : u_T := fun k => match k with
  | 0 => ("GuardPacksModel", "wide", "I", false)
  | 1 => ("GuardPacksModel", "high", "I", false)
  | 2 => ("GuardPacksModel", "shut", "[Z", true)
  | 3 => ("GuardPacksModel", "guards", "[Z", true)
  | 4 => ("GuardPacksModel", "guardMany", "I", false)
  | 5 => ("GuardPacksModel", "runOf", "[I", true)
  | 6 => ("GuardPacksModel", "runMany", "[I", true)
  | 7 => ("GuardPacksModel", "runSize", "[I", true)
  | 8 => ("GuardPacksModel", "isParted", "Z", false)
  | 9 => ("GuardPacksModel", "boxA", "I", false)
  | 10 => ("GuardPacksModel", "boxB", "I", false)
  | 11 => ("GuardPacksModel", "squares", "I", false)
  | 12 => ("GuardPacksModel", "sides", "[I", true)
  | 13 => ("GuardPacksModel", "atX", "[I", true)
  | 14 => ("GuardPacksModel", "atY", "[I", true)
  | 15 => ("GuardPacksModel", "isPacked", "Z", false)
  | 16 => ("GuardPacksModel", "tried", "I", false)
  | 17 => ("GuardPacksModel", "bits", "[I", true)
  | 18 => ("GuardPacksModel", "crossed", "[J", true)
  | 19 => ("GuardPacksModel", "partner", "[I", true)
  | 20 => ("GuardPacksModel", "cameFrom", "[I", true)
  | _ => ("GuardPacksModel", "waiting", "[I", true)
def tyX6 : Nat → FieldType := fun k => match k with
  | 0 => .int
  | 1 => .int
  | 2 => .array .boolean
  | 3 => .array .boolean
  | 4 => .int
  | 5 => .array .int
  | 6 => .array .int
  | 7 => .array .int
  | 8 => .boolean
  | 9 => .int
  | 10 => .int
  | 11 => .int
  | 12 => .array .int
  | 13 => .array .int
  | 14 => .array .int
  | 15 => .boolean
  | 16 => .int
  | 17 => .array .int
  | 18 => .array .long
  | 19 => .array .int
  | 20 => .array .int
  | _ => .array .int
theorem nmX6 : ∀ a, a < 22 → ∀ b, b < 22 → a ≠ b → (TX6 a).2.1 ≠ (TX6 b).2.1 := by decide +kernel
theorem tyX6_ok : ∀ k, k < 22 → parseFieldDescriptor (TX6 k).2.2.1 = some (tyX6 k) := by decide +kernel
abbrev cX6_init : ByteArray := prog_8_method_1_code
def yX6_init : MethodName := ⟨RX6, "<init>", "()V"⟩
abbrev cX6_within : ByteArray := prog_8_method_3_code
def yX6_within : MethodName := ⟨RX6, "within", "(III)Z"⟩
abbrev cX6_hall : ByteArray := prog_8_method_4_code
def yX6_hall : MethodName := ⟨RX6, "hall", "(II)I"⟩
abbrev cX6_isCell : ByteArray := prog_8_method_5_code
def yX6_isCell : MethodName := ⟨RX6, "isCell", "(II)Z"⟩
abbrev cX6_wall : ByteArray := prog_8_method_6_code
def yX6_wall : MethodName := ⟨RX6, "wall", "(IIZ)I"⟩
abbrev cX6_guard : ByteArray := prog_8_method_7_code
def yX6_guard : MethodName := ⟨RX6, "guard", "(II)I"⟩
abbrev cX6_leave : ByteArray := prog_8_method_8_code
def yX6_leave : MethodName := ⟨RX6, "leave", "(II)I"⟩
abbrev cX6_isOpen : ByteArray := prog_8_method_9_code
def yX6_isOpen : MethodName := ⟨RX6, "isOpen", "(II)Z"⟩
abbrev cX6_part : ByteArray := prog_8_method_10_code
def yX6_part : MethodName := ⟨RX6, "part", "()V"⟩
abbrev cX6_partCell : ByteArray := prog_8_method_11_code
def yX6_partCell : MethodName := ⟨RX6, "partCell", "(III)V"⟩
abbrev cX6_isTouched : ByteArray := prog_8_method_12_code
def yX6_isTouched : MethodName := ⟨RX6, "isTouched", "(II)Z"⟩
abbrev cX6_isSeen : ByteArray := prog_8_method_13_code
def yX6_isSeen : MethodName := ⟨RX6, "isSeen", "(I)Z"⟩
abbrev cX6_cell : ByteArray := prog_8_method_14_code
def yX6_cell : MethodName := ⟨RX6, "cell", "(II)I"⟩
abbrev cX6_runs : ByteArray := prog_8_method_15_code
def yX6_runs : MethodName := ⟨RX6, "runs", "(I)I"⟩
abbrev cX6_run : ByteArray := prog_8_method_16_code
def yX6_run : MethodName := ⟨RX6, "run", "(III)I"⟩
abbrev cX6_sees : ByteArray := prog_8_method_17_code
def yX6_sees : MethodName := ⟨RX6, "sees", "(II)I"⟩
abbrev cX6_seen : ByteArray := prog_8_method_18_code
def yX6_seen : MethodName := ⟨RX6, "seen", "()I"⟩
abbrev cX6_missed : ByteArray := prog_8_method_19_code
def yX6_missed : MethodName := ⟨RX6, "missed", "(I)I"⟩
abbrev cX6_count : ByteArray := prog_8_method_20_code
def yX6_count : MethodName := ⟨RX6, "count", "(J)I"⟩
abbrev cX6_cross : ByteArray := prog_8_method_21_code
def yX6_cross : MethodName := ⟨RX6, "cross", "(I)V"⟩
abbrev cX6_touched : ByteArray := prog_8_method_22_code
def yX6_touched : MethodName := ⟨RX6, "touched", "(I)J"⟩
abbrev cX6_more : ByteArray := prog_8_method_23_code
def yX6_more : MethodName := ⟨RX6, "more", "()I"⟩
abbrev cX6_most : ByteArray := prog_8_method_24_code
def yX6_most : MethodName := ⟨RX6, "most", "(IJ)I"⟩
abbrev cX6_peace : ByteArray := prog_8_method_25_code
def yX6_peace : MethodName := ⟨RX6, "peace", "()I"⟩
abbrev cX6_doCross : ByteArray := prog_8_method_26_code
def yX6_doCross : MethodName := ⟨RX6, "doCross", "(II)Z"⟩
abbrev cX6_finds : ByteArray := prog_8_method_27_code
def yX6_finds : MethodName := ⟨RX6, "finds", "(I)Z"⟩
abbrev cX6_turn : ByteArray := prog_8_method_28_code
def yX6_turn : MethodName := ⟨RX6, "turn", "(II)V"⟩
abbrev cX6_box : ByteArray := prog_8_method_29_code
def yX6_box : MethodName := ⟨RX6, "box", "(II)I"⟩
abbrev cX6_square : ByteArray := prog_8_method_30_code
def yX6_square : MethodName := ⟨RX6, "square", "(I)I"⟩
abbrev cX6_drop : ByteArray := prog_8_method_31_code
def yX6_drop : MethodName := ⟨RX6, "drop", "()I"⟩
abbrev cX6_isApart : ByteArray := prog_8_method_32_code
def yX6_isApart : MethodName := ⟨RX6, "isApart", "(II)Z"⟩
abbrev cX6_lies : ByteArray := prog_8_method_33_code
def yX6_lies : MethodName := ⟨RX6, "lies", "(I)Z"⟩
abbrev cX6_goesOn : ByteArray := prog_8_method_34_code
def yX6_goesOn : MethodName := ⟨RX6, "goesOn", "(I)Z"⟩
abbrev cX6_pack : ByteArray := prog_8_method_35_code
def yX6_pack : MethodName := ⟨RX6, "pack", "(I)I"⟩
abbrev cX6_tried : ByteArray := prog_8_method_36_code
def yX6_tried : MethodName := ⟨RX6, "tried", "()I"⟩
abbrev cX6_place : ByteArray := prog_8_method_37_code
def yX6_place : MethodName := ⟨RX6, "place", "(II)I"⟩
abbrev cX6_left : ByteArray := prog_8_method_38_code
def yX6_left : MethodName := ⟨RX6, "left", "()I"⟩
def RJ13 : String := "java/lang/Long"
def TJ13 : u_T := fun k => match k with
  | _ => ("", "", "", false)
def tyJ13 : Nat → FieldType := fun k => match k with
  | _ => .int
theorem nmJ13 : ∀ a, a < 0 → ∀ b, b < 0 → a ≠ b → (TJ13 a).2.1 ≠ (TJ13 b).2.1 := by decide +kernel
theorem tyJ13_ok : ∀ k, k < 0 → parseFieldDescriptor (TJ13 k).2.2.1 = some (tyJ13 k) := by decide +kernel
abbrev cJ13_bitCount_95d88 : ByteArray := prog_9_method_50_code
def yJ13_bitCount_95d88 : MethodName := ⟨RJ13, "bitCount", "(J)I"⟩
def RJ9 : String := "java/lang/Math"
def TJ9 : u_T := fun k => match k with
  | _ => ("", "", "", false)
def tyJ9 : Nat → FieldType := fun k => match k with
  | _ => .int
theorem nmJ9 : ∀ a, a < 0 → ∀ b, b < 0 → a ≠ b → (TJ9 a).2.1 ≠ (TJ9 b).2.1 := by decide +kernel
theorem tyJ9_ok : ∀ k, k < 0 → parseFieldDescriptor (TJ9 k).2.2.1 = some (tyJ9 k) := by decide +kernel
abbrev cJ9_min_7cf53 : ByteArray := prog_10_method_69_code
def yJ9_min_7cf53 : MethodName := ⟨RJ9, "min", "(II)I"⟩
def RL : String := "GuardPacksLaw"
abbrev cL_law : ByteArray := code
def yL_law : MethodName := ⟨RL, "law", "([I)Z"⟩
abbrev pm_cl : List vw_C := [(RX0, TX0, 9), (RX1, TX1, 9), (RX2, TX2, 6), (RX3, TX3, 6), (RX4, TX4, 5), (RX5, TX5, 2), (RX6, TX6, 22)]
/-- what lies in a new object -/
def pm_df (c : Nat) : List Value := match c with
  | 0 => [.int 0, .int 0, .int 0, .int 0, .int 0, .null, .null, .null, .null]
  | 1 => [.int 0, .int 0, .int 0, .null, .null, .null, .null, .null, .null]
  | 2 => [.null, .null, .null, .null, .null, .null]
  | 3 => [.int 0, .int 0, .null, .null, .null, .null]
  | 4 => [.null, .null, .int 0, .null, .null]
  | 5 => [.null, .null]
  | _ => [.int 0, .int 0, .null, .null, .int 0, .null, .null, .null, .int 0, .int 0, .int 0, .int 0, .null, .null, .null, .int 0, .int 0, .null, .null, .null, .null, .null]
abbrev pm_I : Type := Nat × Nat × Nat × Value × List Nat
abbrev mX0_init : Nat := 0
def cd_X0_init : List pm_I := [(1, 0, 2, .null, []), (28, 0, 0, .null, []), (1, 0, 2, .null, []), (0, 0, 0, .int 8, []), (24, 0, 8, .null, []), (19, 0, 5, .null, [2]), (1, 0, 2, .null, []), (0, 0, 0, .int 8, []), (24, 0, 8, .null, []), (19, 0, 6, .null, [2]), (1, 0, 2, .null, []), (0, 0, 0, .int 8, []), (24, 0, 8, .null, []), (19, 0, 7, .null, [2]), (1, 0, 2, .null, []), (0, 0, 0, .int 12, []), (24, 0, 12, .null, []), (19, 0, 8, .null, [2]), (1, 0, 2, .null, []), (0, 0, 0, .int 1, []), (0, 0, 0, .int 1, []), (25, 1, 3, .null, [0]), (26, 0, 0, .null, [])]
abbrev mX0_clear : Nat := 1
def cd_X0_clear : List pm_I := [(1, 0, 2, .null, []), (1, 1, 0, .null, []), (19, 0, 0, .null, [0]), (1, 0, 2, .null, []), (1, 2, 0, .null, []), (19, 0, 1, .null, [0]), (1, 0, 2, .null, []), (0, 0, 0, .int 0, []), (19, 0, 2, .null, [0]), (1, 0, 2, .null, []), (0, 0, 0, .int 0, []), (19, 0, 4, .null, [3]), (26, 0, 0, .null, [])]
abbrev mX0_append : Nat := 2
def cd_X0_append : List pm_I := [(1, 0, 2, .null, []), (0, 0, 0, .int 0, []), (19, 0, 4, .null, [3]), (1, 0, 2, .null, []), (18, 0, 5, .null, []), (1, 0, 2, .null, []), (18, 0, 2, .null, []), (1, 1, 0, .null, []), (21, 0, 0, .null, []), (1, 0, 2, .null, []), (11, 0, 0, .null, []), (18, 0, 2, .null, []), (12, 0, 0, .null, []), (0, 0, 0, .int 1, []), (4, 0, 0, .null, []), (19, 0, 2, .null, [0]), (26, 1, 0, .null, [])]
abbrev mX0_removeLast : Nat := 3
def cd_X0_removeLast : List pm_I := [(1, 0, 2, .null, []), (0, 0, 0, .int 0, []), (19, 0, 4, .null, [3]), (1, 0, 2, .null, []), (11, 0, 0, .null, []), (18, 0, 2, .null, []), (0, 0, 0, .int 1, []), (4, 0, 1, .null, []), (12, 0, 0, .null, []), (19, 0, 2, .null, [0]), (26, 1, 0, .null, [])]
abbrev mX0_countLeft : Nat := 4
def cd_X0_countLeft : List pm_I := [(1, 0, 2, .null, []), (18, 0, 0, .null, []), (1, 0, 2, .null, []), (18, 0, 1, .null, []), (4, 0, 2, .null, []), (2, 1, 0, .null, []), (0, 0, 0, .int 0, []), (2, 2, 0, .null, []), (1, 2, 0, .null, []), (1, 0, 2, .null, []), (18, 0, 2, .null, []), (16, 26, 3, .null, []), (1, 1, 0, .null, []), (1, 0, 2, .null, []), (18, 0, 5, .null, []), (1, 2, 0, .null, []), (20, 0, 0, .null, []), (1, 0, 2, .null, []), (18, 0, 5, .null, []), (1, 2, 0, .null, []), (20, 0, 0, .null, []), (4, 0, 2, .null, []), (4, 0, 1, .null, []), (2, 1, 0, .null, []), (3, 2, 0, .int 1, []), (17, 8, 0, .null, []), (1, 1, 0, .null, []), (26, 1, 0, .null, [])]
abbrev mX0_fill : Nat := 5
def cd_X0_fill : List pm_I := [(1, 0, 2, .null, []), (0, 0, 0, .int 0, []), (19, 0, 3, .null, [0]), (1, 0, 2, .null, []), (1, 1, 0, .null, []), (25, 6, 2, .null, [0]), (2, 2, 0, .null, []), (1, 0, 2, .null, []), (1, 2, 0, .null, []), (0, 0, 0, .int 1, []), (16, 13, 1, .null, []), (0, 0, 0, .int 1, []), (17, 14, 0, .null, []), (0, 0, 0, .int 0, []), (19, 0, 4, .null, [3]), (1, 2, 0, .null, []), (26, 1, 0, .null, [])]
abbrev mX0_layAll : Nat := 6
def cd_X0_layAll : List pm_I := [(1, 0, 2, .null, []), (25, 7, 1, .null, [0]), (0, 0, 0, .int 0, []), (2, 2, 0, .null, []), (0, 0, 0, .int 0, []), (2, 3, 0, .null, []), (1, 3, 0, .null, []), (0, 0, 0, .int 200002, []), (16, 48, 3, .null, []), (1, 2, 0, .null, []), (1, 0, 2, .null, []), (18, 0, 2, .null, []), (16, 15, 2, .null, []), (0, 0, 0, .int 1, []), (26, 1, 0, .null, []), (1, 0, 2, .null, []), (1, 2, 0, .null, []), (25, 9, 2, .null, [0]), (15, 31, 1, .null, []), (1, 2, 0, .null, []), (15, 23, 1, .null, []), (0, 0, 0, .int 0, []), (26, 1, 0, .null, []), (3, 2, 0, .int (-1), []), (1, 0, 2, .null, []), (1, 2, 0, .null, []), (25, 14, 2, .null, [0]), (1, 0, 2, .null, []), (1, 2, 0, .null, []), (25, 10, 2, .null, [0]), (17, 46, 0, .null, []), (1, 0, 2, .null, []), (18, 0, 3, .null, []), (1, 1, 0, .null, []), (16, 37, 2, .null, []), (0, 0, 0, .int 2, []), (26, 1, 0, .null, []), (1, 0, 2, .null, []), (1, 2, 0, .null, []), (25, 11, 2, .null, [0]), (15, 43, 0, .null, []), (3, 2, 0, .int 1, []), (17, 46, 0, .null, []), (1, 0, 2, .null, []), (1, 2, 0, .null, []), (25, 10, 2, .null, [0]), (3, 3, 0, .int 1, []), (17, 6, 0, .null, []), (0, 0, 0, .int 2, []), (26, 1, 0, .null, [])]
abbrev mX0_emptyBox : Nat := 7
def cd_X0_emptyBox : List pm_I := [(0, 0, 0, .int 0, []), (2, 1, 0, .null, []), (1, 1, 0, .null, []), (0, 0, 0, .int 12, []), (16, 12, 3, .null, []), (1, 0, 2, .null, []), (18, 0, 8, .null, []), (1, 1, 0, .null, []), (0, 0, 0, .int 0, []), (21, 0, 0, .null, []), (3, 1, 0, .int 1, []), (17, 2, 0, .null, []), (1, 0, 2, .null, []), (0, 0, 0, .int 0, []), (25, 8, 2, .null, [0]), (26, 0, 0, .null, [])]
abbrev mX0_startOver : Nat := 8
def cd_X0_startOver : List pm_I := [(1, 1, 0, .null, []), (0, 0, 0, .int 8, []), (16, 13, 3, .null, []), (1, 0, 2, .null, []), (18, 0, 6, .null, []), (1, 1, 0, .null, []), (0, 0, 0, .int 0, []), (21, 0, 0, .null, []), (1, 0, 2, .null, []), (18, 0, 7, .null, []), (1, 1, 0, .null, []), (0, 0, 0, .int 0, []), (21, 0, 0, .null, []), (26, 0, 0, .null, [])]
abbrev mX0_hasPlace : Nat := 9
def cd_X0_hasPlace : List pm_I := [(1, 0, 2, .null, []), (18, 0, 6, .null, []), (1, 1, 0, .null, []), (20, 0, 0, .null, []), (1, 0, 2, .null, []), (18, 0, 5, .null, []), (1, 1, 0, .null, []), (20, 0, 0, .null, []), (4, 0, 0, .null, []), (1, 0, 2, .null, []), (18, 0, 0, .null, []), (16, 26, 4, .null, []), (1, 0, 2, .null, []), (18, 0, 7, .null, []), (1, 1, 0, .null, []), (20, 0, 0, .null, []), (1, 0, 2, .null, []), (18, 0, 5, .null, []), (1, 1, 0, .null, []), (20, 0, 0, .null, []), (4, 0, 0, .null, []), (1, 0, 2, .null, []), (18, 0, 1, .null, []), (16, 26, 4, .null, []), (0, 0, 0, .int 1, []), (17, 27, 0, .null, []), (0, 0, 0, .int 0, []), (26, 2, 0, .null, [])]
abbrev mX0_goOn : Nat := 10
def cd_X0_goOn : List pm_I := [(1, 0, 2, .null, []), (18, 0, 6, .null, []), (1, 1, 0, .null, []), (13, 0, 0, .null, []), (20, 0, 0, .null, []), (0, 0, 0, .int 1, []), (4, 0, 0, .null, []), (21, 0, 0, .null, []), (1, 0, 2, .null, []), (18, 0, 6, .null, []), (1, 1, 0, .null, []), (20, 0, 0, .null, []), (1, 0, 2, .null, []), (18, 0, 5, .null, []), (1, 1, 0, .null, []), (20, 0, 0, .null, []), (4, 0, 0, .null, []), (1, 0, 2, .null, []), (18, 0, 0, .null, []), (16, 33, 5, .null, []), (1, 0, 2, .null, []), (18, 0, 6, .null, []), (1, 1, 0, .null, []), (0, 0, 0, .int 0, []), (21, 0, 0, .null, []), (1, 0, 2, .null, []), (18, 0, 7, .null, []), (1, 1, 0, .null, []), (13, 0, 0, .null, []), (20, 0, 0, .null, []), (0, 0, 0, .int 1, []), (4, 0, 0, .null, []), (21, 0, 0, .null, []), (26, 0, 0, .null, [])]
abbrev mX0_tryPlace : Nat := 11
def cd_X0_tryPlace : List pm_I := [(1, 0, 2, .null, []), (11, 0, 0, .null, []), (18, 0, 3, .null, []), (0, 0, 0, .int 1, []), (4, 0, 0, .null, []), (19, 0, 3, .null, [0]), (1, 0, 2, .null, []), (1, 1, 0, .null, []), (25, 13, 2, .null, [0]), (15, 12, 1, .null, []), (0, 0, 0, .int 0, []), (26, 2, 0, .null, []), (1, 0, 2, .null, []), (1, 1, 0, .null, []), (25, 14, 2, .null, [0]), (1, 0, 2, .null, []), (1, 1, 0, .null, []), (0, 0, 0, .int 1, []), (4, 0, 0, .null, []), (25, 8, 2, .null, [0]), (0, 0, 0, .int 1, []), (26, 2, 0, .null, [])]
abbrev mX0_breadthOf : Nat := 12
def cd_X0_breadthOf : List pm_I := [(0, 0, 0, .int 1, []), (1, 0, 2, .null, []), (18, 0, 5, .null, []), (1, 1, 0, .null, []), (20, 0, 0, .null, []), (4, 0, 6, .null, []), (0, 0, 0, .int 1, []), (4, 0, 1, .null, []), (1, 0, 2, .null, []), (18, 0, 6, .null, []), (1, 1, 0, .null, []), (20, 0, 0, .null, []), (4, 0, 6, .null, []), (26, 1, 0, .null, [])]
abbrev mX0_isFree : Nat := 13
def cd_X0_isFree : List pm_I := [(1, 0, 2, .null, []), (1, 1, 0, .null, []), (25, 12, 2, .null, [0]), (2, 2, 0, .null, []), (1, 0, 2, .null, []), (18, 0, 7, .null, []), (1, 1, 0, .null, []), (20, 0, 0, .null, []), (1, 0, 2, .null, []), (18, 0, 5, .null, []), (1, 1, 0, .null, []), (20, 0, 0, .null, []), (4, 0, 0, .null, []), (0, 0, 0, .int 12, []), (30, 0, 0, .null, []), (2, 3, 0, .null, []), (1, 0, 2, .null, []), (18, 0, 7, .null, []), (1, 1, 0, .null, []), (20, 0, 0, .null, []), (2, 4, 0, .null, []), (1, 4, 0, .null, []), (1, 3, 0, .null, []), (16, 35, 3, .null, []), (1, 0, 2, .null, []), (18, 0, 8, .null, []), (1, 4, 0, .null, []), (20, 0, 0, .null, []), (1, 2, 0, .null, []), (4, 0, 3, .null, []), (15, 33, 0, .null, []), (0, 0, 0, .int 0, []), (26, 2, 0, .null, []), (3, 4, 0, .int 1, []), (17, 21, 0, .null, []), (0, 0, 0, .int 1, []), (26, 2, 0, .null, [])]
abbrev mX0_layOrLift : Nat := 14
def cd_X0_layOrLift : List pm_I := [(1, 0, 2, .null, []), (1, 1, 0, .null, []), (25, 12, 2, .null, [0]), (2, 2, 0, .null, []), (1, 0, 2, .null, []), (18, 0, 7, .null, []), (1, 1, 0, .null, []), (20, 0, 0, .null, []), (1, 0, 2, .null, []), (18, 0, 5, .null, []), (1, 1, 0, .null, []), (20, 0, 0, .null, []), (4, 0, 0, .null, []), (0, 0, 0, .int 12, []), (30, 0, 0, .null, []), (2, 3, 0, .null, []), (1, 0, 2, .null, []), (18, 0, 7, .null, []), (1, 1, 0, .null, []), (20, 0, 0, .null, []), (2, 4, 0, .null, []), (1, 4, 0, .null, []), (1, 3, 0, .null, []), (16, 34, 3, .null, []), (1, 0, 2, .null, []), (18, 0, 8, .null, []), (1, 4, 0, .null, []), (13, 0, 0, .null, []), (20, 0, 0, .null, []), (1, 2, 0, .null, []), (4, 0, 5, .null, []), (21, 0, 0, .null, []), (3, 4, 0, .int 1, []), (17, 21, 0, .null, []), (26, 0, 0, .null, [])]
abbrev mX1_init : Nat := 15
def cd_X1_init : List pm_I := [(1, 0, 2, .null, []), (28, 0, 0, .null, []), (1, 0, 2, .null, []), (0, 0, 0, .int 64, []), (24, 1, 64, .null, []), (19, 1, 3, .null, [2]), (1, 0, 2, .null, []), (0, 0, 0, .int 64, []), (24, 1, 64, .null, []), (19, 1, 4, .null, [2]), (1, 0, 2, .null, []), (23, 3, 0, .null, []), (11, 0, 0, .null, []), (25, 35, 1, .null, [3]), (19, 1, 5, .null, [2]), (1, 0, 2, .null, []), (23, 3, 0, .null, []), (11, 0, 0, .null, []), (25, 35, 1, .null, [3]), (19, 1, 6, .null, [2]), (1, 0, 2, .null, []), (23, 2, 0, .null, []), (11, 0, 0, .null, []), (25, 31, 1, .null, [2]), (19, 1, 7, .null, [2]), (1, 0, 2, .null, []), (23, 4, 0, .null, []), (11, 0, 0, .null, []), (1, 0, 2, .null, []), (18, 1, 7, .null, []), (25, 43, 2, .null, [4]), (19, 1, 8, .null, [2]), (1, 0, 2, .null, []), (0, 0, 0, .int 1, []), (0, 0, 0, .int 1, []), (25, 16, 3, .null, [1]), (26, 0, 0, .null, [])]
abbrev mX1_clear : Nat := 16
def cd_X1_clear : List pm_I := [(1, 0, 2, .null, []), (1, 1, 0, .null, []), (19, 1, 0, .null, [0]), (1, 0, 2, .null, []), (1, 2, 0, .null, []), (19, 1, 1, .null, [0]), (1, 0, 2, .null, []), (0, 0, 0, .int 0, []), (19, 1, 2, .null, [0]), (0, 0, 0, .int 0, []), (2, 3, 0, .null, []), (1, 3, 0, .null, []), (0, 0, 0, .int 64, []), (16, 26, 3, .null, []), (1, 0, 2, .null, []), (18, 1, 3, .null, []), (1, 3, 0, .null, []), (0, 0, 0, .int 1, []), (21, 0, 1, .null, []), (1, 0, 2, .null, []), (18, 1, 4, .null, []), (1, 3, 0, .null, []), (0, 0, 0, .int 0, []), (21, 0, 1, .null, []), (3, 3, 0, .int 1, []), (17, 11, 0, .null, []), (1, 0, 2, .null, []), (25, 20, 1, .null, [1]), (26, 0, 0, .null, [])]
abbrev mX1_holds : Nat := 17
def cd_X1_holds : List pm_I := [(1, 1, 0, .null, []), (0, 0, 0, .int 0, []), (1, 0, 2, .null, []), (18, 1, 0, .null, []), (0, 0, 0, .int 1, []), (4, 0, 1, .null, []), (25, 67, 3, .null, []), (15, 18, 0, .null, []), (1, 2, 0, .null, []), (0, 0, 0, .int 0, []), (1, 0, 2, .null, []), (18, 1, 1, .null, []), (0, 0, 0, .int 1, []), (4, 0, 1, .null, []), (25, 67, 3, .null, []), (15, 18, 0, .null, []), (0, 0, 0, .int 1, []), (17, 19, 0, .null, []), (0, 0, 0, .int 0, []), (26, 2, 0, .null, [])]
abbrev mX1_numberOf : Nat := 18
def cd_X1_numberOf : List pm_I := [(1, 2, 0, .null, []), (1, 0, 2, .null, []), (18, 1, 0, .null, []), (4, 0, 2, .null, []), (1, 1, 0, .null, []), (4, 0, 0, .null, []), (26, 1, 0, .null, [])]
abbrev mX1_along : Nat := 19
def cd_X1_along : List pm_I := [(1, 1, 0, .null, []), (15, 5, 1, .null, []), (1, 0, 2, .null, []), (18, 1, 5, .null, []), (17, 7, 0, .null, []), (1, 0, 2, .null, []), (18, 1, 6, .null, []), (26, 4, 0, .null, [])]
abbrev mX1_numberRuns : Nat := 20
def cd_X1_numberRuns : List pm_I := [(1, 0, 2, .null, []), (18, 1, 5, .null, []), (0, 0, 0, .int 1, []), (25, 36, 2, .null, [3]), (1, 0, 2, .null, []), (18, 1, 6, .null, []), (1, 0, 2, .null, []), (18, 1, 0, .null, []), (25, 36, 2, .null, [3]), (0, 0, 0, .int 0, []), (2, 1, 0, .null, []), (1, 1, 0, .null, []), (1, 0, 2, .null, []), (18, 1, 1, .null, []), (16, 29, 3, .null, []), (0, 0, 0, .int 0, []), (2, 2, 0, .null, []), (1, 2, 0, .null, []), (1, 0, 2, .null, []), (18, 1, 0, .null, []), (16, 27, 3, .null, []), (1, 0, 2, .null, []), (1, 2, 0, .null, []), (1, 1, 0, .null, []), (25, 21, 3, .null, [1]), (3, 2, 0, .int 1, []), (17, 17, 0, .null, []), (3, 1, 0, .int 1, []), (17, 11, 0, .null, []), (26, 0, 0, .null, [])]
abbrev mX1_numberCell : Nat := 21
def cd_X1_numberCell : List pm_I := [(1, 0, 2, .null, []), (1, 1, 0, .null, []), (1, 2, 0, .null, []), (25, 18, 3, .null, [1]), (2, 3, 0, .null, []), (1, 0, 2, .null, []), (18, 1, 3, .null, []), (1, 3, 0, .null, []), (20, 0, 1, .null, []), (15, 19, 1, .null, []), (1, 0, 2, .null, []), (18, 1, 5, .null, []), (1, 3, 0, .null, []), (25, 37, 2, .null, [3]), (1, 0, 2, .null, []), (18, 1, 6, .null, []), (1, 3, 0, .null, []), (25, 37, 2, .null, [3]), (26, 0, 0, .null, []), (1, 0, 2, .null, []), (18, 1, 5, .null, []), (1, 3, 0, .null, []), (1, 1, 0, .null, []), (15, 26, 1, .null, []), (0, 0, 0, .int 1, []), (17, 27, 0, .null, []), (0, 0, 0, .int 0, []), (25, 38, 3, .null, [3]), (1, 0, 2, .null, []), (18, 1, 6, .null, []), (1, 3, 0, .null, []), (1, 2, 0, .null, []), (15, 35, 1, .null, []), (0, 0, 0, .int 1, []), (17, 36, 0, .null, []), (0, 0, 0, .int 0, []), (25, 38, 3, .null, [3]), (1, 0, 2, .null, []), (18, 1, 4, .null, []), (1, 3, 0, .null, []), (20, 0, 1, .null, []), (15, 52, 0, .null, []), (1, 0, 2, .null, []), (18, 1, 5, .null, []), (1, 3, 0, .null, []), (0, 0, 0, .int 1, []), (25, 39, 3, .null, [3]), (1, 0, 2, .null, []), (18, 1, 6, .null, []), (1, 3, 0, .null, []), (0, 0, 0, .int 1, []), (25, 39, 3, .null, [3]), (26, 0, 0, .null, [])]
abbrev mX1_changeWall : Nat := 22
def cd_X1_changeWall : List pm_I := [(1, 0, 2, .null, []), (18, 1, 3, .null, []), (1, 1, 0, .null, []), (20, 0, 1, .null, []), (1, 2, 0, .null, []), (16, 8, 1, .null, []), (0, 0, 0, .int 0, []), (26, 2, 0, .null, []), (1, 0, 2, .null, []), (18, 1, 3, .null, []), (1, 1, 0, .null, []), (1, 2, 0, .null, []), (21, 0, 1, .null, []), (1, 0, 2, .null, []), (25, 20, 1, .null, [1]), (0, 0, 0, .int 1, []), (26, 2, 0, .null, [])]
abbrev mX1_changeGuard : Nat := 23
def cd_X1_changeGuard : List pm_I := [(1, 2, 0, .null, []), (15, 4, 0, .null, []), (0, 0, 0, .int 1, []), (17, 5, 0, .null, []), (0, 0, 0, .int (-1), []), (2, 3, 0, .null, []), (1, 0, 2, .null, []), (18, 1, 4, .null, []), (1, 1, 0, .null, []), (1, 2, 0, .null, []), (21, 0, 1, .null, []), (1, 0, 2, .null, []), (18, 1, 5, .null, []), (1, 1, 0, .null, []), (1, 3, 0, .null, []), (25, 39, 3, .null, [3]), (1, 0, 2, .null, []), (18, 1, 6, .null, []), (1, 1, 0, .null, []), (1, 3, 0, .null, []), (25, 39, 3, .null, [3]), (1, 0, 2, .null, []), (11, 0, 0, .null, []), (18, 1, 2, .null, []), (1, 3, 0, .null, []), (4, 0, 0, .null, []), (19, 1, 2, .null, [0]), (1, 0, 2, .null, []), (18, 1, 2, .null, []), (26, 1, 0, .null, [])]
abbrev mX1_isSeen : Nat := 24
def cd_X1_isSeen : List pm_I := [(1, 0, 2, .null, []), (18, 1, 5, .null, []), (1, 1, 0, .null, []), (25, 40, 2, .null, [3]), (15, 10, 1, .null, []), (1, 0, 2, .null, []), (18, 1, 6, .null, []), (1, 1, 0, .null, []), (25, 40, 2, .null, [3]), (15, 12, 0, .null, []), (0, 0, 0, .int 1, []), (17, 13, 0, .null, []), (0, 0, 0, .int 0, []), (26, 2, 0, .null, [])]
abbrev mX1_kindOf : Nat := 25
def cd_X1_kindOf : List pm_I := [(1, 0, 2, .null, []), (18, 1, 3, .null, []), (1, 1, 0, .null, []), (20, 0, 1, .null, []), (15, 7, 1, .null, []), (0, 0, 0, .int 0, []), (26, 1, 0, .null, []), (1, 0, 2, .null, []), (18, 1, 4, .null, []), (1, 1, 0, .null, []), (20, 0, 1, .null, []), (15, 14, 0, .null, []), (0, 0, 0, .int 3, []), (26, 1, 0, .null, []), (1, 0, 2, .null, []), (1, 1, 0, .null, []), (25, 24, 2, .null, [1]), (15, 20, 0, .null, []), (0, 0, 0, .int 2, []), (17, 21, 0, .null, []), (0, 0, 0, .int 1, []), (26, 1, 0, .null, [])]
abbrev mX1_sightFrom : Nat := 26
def cd_X1_sightFrom : List pm_I := [(1, 0, 2, .null, []), (18, 1, 3, .null, []), (1, 1, 0, .null, []), (20, 0, 1, .null, []), (15, 17, 0, .null, []), (1, 0, 2, .null, []), (18, 1, 5, .null, []), (1, 1, 0, .null, []), (25, 41, 2, .null, [3]), (1, 0, 2, .null, []), (18, 1, 6, .null, []), (1, 1, 0, .null, []), (25, 41, 2, .null, [3]), (4, 0, 0, .null, []), (0, 0, 0, .int 1, []), (4, 0, 1, .null, []), (17, 18, 0, .null, []), (0, 0, 0, .int 0, []), (26, 1, 0, .null, [])]
abbrev mX1_countSeen : Nat := 27
def cd_X1_countSeen : List pm_I := [(0, 0, 0, .int 0, []), (2, 1, 0, .null, []), (0, 0, 0, .int 0, []), (2, 2, 0, .null, []), (1, 2, 0, .null, []), (1, 0, 2, .null, []), (18, 1, 0, .null, []), (1, 0, 2, .null, []), (18, 1, 1, .null, []), (4, 0, 2, .null, []), (16, 18, 3, .null, []), (1, 0, 2, .null, []), (1, 2, 0, .null, []), (25, 24, 2, .null, [1]), (15, 16, 0, .null, []), (3, 1, 0, .int 1, []), (3, 2, 0, .int 1, []), (17, 4, 0, .null, []), (1, 1, 0, .null, []), (26, 1, 0, .null, [])]
abbrev mX1_findMissed : Nat := 28
def cd_X1_findMissed : List pm_I := [(0, 0, 0, .int 0, []), (2, 2, 0, .null, []), (0, 0, 0, .int 0, []), (2, 3, 0, .null, []), (1, 3, 0, .null, []), (1, 0, 2, .null, []), (18, 1, 0, .null, []), (1, 0, 2, .null, []), (18, 1, 1, .null, []), (4, 0, 2, .null, []), (16, 28, 3, .null, []), (1, 0, 2, .null, []), (18, 1, 3, .null, []), (1, 3, 0, .null, []), (20, 0, 1, .null, []), (15, 26, 0, .null, []), (1, 0, 2, .null, []), (1, 3, 0, .null, []), (25, 24, 2, .null, [1]), (15, 26, 1, .null, []), (1, 2, 0, .null, []), (1, 1, 0, .null, []), (16, 25, 1, .null, []), (1, 3, 0, .null, []), (26, 1, 0, .null, []), (3, 2, 0, .int 1, []), (3, 3, 0, .int 1, []), (17, 4, 0, .null, []), (0, 0, 0, .int (-1), []), (26, 1, 0, .null, [])]
abbrev mX1_leastMore : Nat := 29
def cd_X1_leastMore : List pm_I := [(1, 0, 2, .null, []), (18, 1, 5, .null, []), (18, 3, 0, .null, []), (1, 0, 2, .null, []), (18, 1, 6, .null, []), (18, 3, 0, .null, []), (16, 9, 4, .null, []), (0, 0, 0, .int 1, []), (17, 10, 0, .null, []), (0, 0, 0, .int 0, []), (2, 1, 0, .null, []), (1, 1, 0, .null, []), (15, 16, 0, .null, []), (1, 0, 2, .null, []), (18, 1, 5, .null, []), (17, 18, 0, .null, []), (1, 0, 2, .null, []), (18, 1, 6, .null, []), (2, 2, 2, .null, []), (1, 1, 0, .null, []), (15, 24, 0, .null, []), (1, 0, 2, .null, []), (18, 1, 6, .null, []), (17, 26, 0, .null, []), (1, 0, 2, .null, []), (18, 1, 5, .null, []), (2, 3, 2, .null, []), (1, 2, 2, .null, []), (18, 3, 0, .null, []), (0, 0, 0, .int 12, []), (16, 33, 5, .null, []), (0, 0, 0, .int (-5), []), (17, 38, 0, .null, []), (1, 0, 2, .null, []), (18, 1, 8, .null, []), (1, 2, 2, .null, []), (1, 3, 2, .null, []), (25, 44, 3, .null, [4]), (26, 1, 0, .null, [])]
abbrev mX1_mostPeaceful : Nat := 30
def cd_X1_mostPeaceful : List pm_I := [(1, 0, 2, .null, []), (18, 1, 7, .null, []), (1, 0, 2, .null, []), (18, 1, 5, .null, []), (1, 0, 2, .null, []), (18, 1, 6, .null, []), (0, 0, 0, .long (-1), []), (0, 0, 0, .long (-1), []), (25, 32, 5, .null, [2]), (26, 1, 0, .null, [])]
abbrev mX2_init : Nat := 31
def cd_X2_init : List pm_I := [(1, 0, 2, .null, []), (28, 0, 0, .null, []), (1, 0, 2, .null, []), (0, 0, 0, .int 64, []), (24, 0, 64, .null, []), (19, 2, 2, .null, [2]), (1, 0, 2, .null, []), (0, 0, 0, .int 64, []), (24, 0, 64, .null, []), (19, 2, 3, .null, [2]), (1, 0, 2, .null, []), (0, 0, 0, .int 64, []), (24, 0, 64, .null, []), (19, 2, 4, .null, [2]), (1, 0, 2, .null, []), (0, 0, 0, .int 64, []), (24, 0, 64, .null, []), (19, 2, 5, .null, [2]), (26, 0, 0, .null, [])]
abbrev mX2_most : Nat := 32
def cd_X2_most : List pm_I := [(1, 0, 2, .null, []), (1, 1, 2, .null, []), (19, 2, 0, .null, [2]), (1, 0, 2, .null, []), (1, 2, 2, .null, []), (19, 2, 1, .null, [2]), (0, 0, 0, .int 0, []), (2, 7, 0, .null, []), (1, 7, 0, .null, []), (0, 0, 0, .int 64, []), (16, 23, 3, .null, []), (1, 0, 2, .null, []), (18, 2, 2, .null, []), (1, 7, 0, .null, []), (0, 0, 0, .int (-1), []), (21, 0, 0, .null, []), (1, 0, 2, .null, []), (18, 2, 3, .null, []), (1, 7, 0, .null, []), (0, 0, 0, .int (-1), []), (21, 0, 0, .null, []), (3, 7, 0, .int 1, []), (17, 8, 0, .null, []), (0, 0, 0, .int 0, []), (2, 7, 0, .null, []), (0, 0, 0, .int 0, []), (2, 8, 0, .null, []), (1, 8, 0, .null, []), (1, 0, 2, .null, []), (18, 2, 0, .null, []), (18, 3, 0, .null, []), (16, 48, 3, .null, []), (1, 3, 1, .null, []), (1, 8, 0, .null, []), (7, 0, 2, .null, []), (0, 0, 0, .long 1, []), (6, 0, 3, .null, []), (0, 0, 0, .long 0, []), (10, 0, 0, .null, []), (15, 46, 0, .null, []), (1, 0, 2, .null, []), (1, 8, 0, .null, []), (1, 5, 1, .null, []), (25, 33, 3, .null, [2]), (15, 46, 0, .null, []), (3, 7, 0, .int 1, []), (3, 8, 0, .int 1, []), (17, 27, 0, .null, []), (1, 7, 0, .null, []), (26, 1, 0, .null, [])]
abbrev mX2_findPair : Nat := 33
def cd_X2_findPair : List pm_I := [(1, 2, 1, .null, []), (2, 4, 1, .null, []), (0, 0, 0, .int 1, []), (2, 6, 0, .null, []), (1, 0, 2, .null, []), (18, 2, 5, .null, []), (0, 0, 0, .int 0, []), (1, 1, 0, .null, []), (21, 0, 0, .null, []), (0, 0, 0, .int 0, []), (2, 7, 0, .null, []), (1, 7, 0, .null, []), (1, 6, 0, .null, []), (16, 90, 3, .null, []), (1, 0, 2, .null, []), (18, 2, 5, .null, []), (1, 7, 0, .null, []), (20, 0, 0, .null, []), (2, 8, 0, .null, []), (0, 0, 0, .int 0, []), (2, 9, 0, .null, []), (1, 9, 0, .null, []), (1, 0, 2, .null, []), (18, 2, 0, .null, []), (18, 3, 4, .null, []), (1, 8, 0, .null, []), (20, 0, 0, .null, []), (16, 88, 3, .null, []), (1, 0, 2, .null, []), (18, 2, 1, .null, []), (18, 3, 2, .null, []), (1, 0, 2, .null, []), (18, 2, 0, .null, []), (1, 8, 0, .null, []), (1, 9, 0, .null, []), (25, 42, 3, .null, [3]), (20, 0, 0, .null, []), (2, 10, 0, .null, []), (1, 10, 0, .null, []), (0, 0, 0, .int (-1), []), (16, 86, 0, .null, []), (1, 4, 1, .null, []), (1, 10, 0, .null, []), (7, 0, 2, .null, []), (0, 0, 0, .long 1, []), (6, 0, 3, .null, []), (0, 0, 0, .long 0, []), (10, 0, 0, .null, []), (15, 50, 1, .null, []), (17, 86, 0, .null, []), (1, 4, 1, .null, []), (0, 0, 0, .long 1, []), (1, 10, 0, .null, []), (7, 0, 0, .null, []), (0, 0, 0, .long (-1), []), (6, 0, 5, .null, []), (6, 0, 3, .null, []), (2, 4, 1, .null, []), (1, 0, 2, .null, []), (18, 2, 4, .null, []), (1, 10, 0, .null, []), (1, 8, 0, .null, []), (21, 0, 0, .null, []), (1, 0, 2, .null, []), (18, 2, 3, .null, []), (1, 10, 0, .null, []), (20, 0, 0, .null, []), (0, 0, 0, .int (-1), []), (16, 74, 1, .null, []), (1, 0, 2, .null, []), (1, 10, 0, .null, []), (25, 34, 2, .null, [2]), (0, 0, 0, .int 1, []), (26, 2, 0, .null, []), (1, 6, 0, .null, []), (0, 0, 0, .int 64, []), (16, 86, 3, .null, []), (1, 0, 2, .null, []), (18, 2, 5, .null, []), (1, 6, 0, .null, []), (3, 6, 0, .int 1, []), (1, 0, 2, .null, []), (18, 2, 3, .null, []), (1, 10, 0, .null, []), (20, 0, 0, .null, []), (21, 0, 0, .null, []), (3, 9, 0, .int 1, []), (17, 21, 0, .null, []), (3, 7, 0, .int 1, []), (17, 11, 0, .null, []), (0, 0, 0, .int 0, []), (26, 2, 0, .null, [])]
abbrev mX2_pairBack : Nat := 34
def cd_X2_pairBack : List pm_I := [(1, 1, 0, .null, []), (2, 2, 0, .null, []), (0, 0, 0, .int 0, []), (2, 3, 0, .null, []), (1, 3, 0, .null, []), (0, 0, 0, .int 64, []), (16, 34, 3, .null, []), (1, 2, 0, .null, []), (0, 0, 0, .int (-1), []), (16, 34, 0, .null, []), (1, 0, 2, .null, []), (18, 2, 4, .null, []), (1, 2, 0, .null, []), (20, 0, 0, .null, []), (2, 4, 0, .null, []), (1, 0, 2, .null, []), (18, 2, 2, .null, []), (1, 4, 0, .null, []), (20, 0, 0, .null, []), (2, 5, 0, .null, []), (1, 0, 2, .null, []), (18, 2, 2, .null, []), (1, 4, 0, .null, []), (1, 2, 0, .null, []), (21, 0, 0, .null, []), (1, 0, 2, .null, []), (18, 2, 3, .null, []), (1, 2, 0, .null, []), (1, 4, 0, .null, []), (21, 0, 0, .null, []), (1, 5, 0, .null, []), (2, 2, 0, .null, []), (3, 3, 0, .int 1, []), (17, 4, 0, .null, []), (26, 0, 0, .null, [])]
abbrev mX3_init : Nat := 35
def cd_X3_init : List pm_I := [(1, 0, 2, .null, []), (28, 0, 0, .null, []), (1, 0, 2, .null, []), (0, 0, 0, .int 64, []), (24, 0, 64, .null, []), (19, 3, 2, .null, [2]), (1, 0, 2, .null, []), (0, 0, 0, .int 64, []), (24, 0, 64, .null, []), (19, 3, 3, .null, [2]), (1, 0, 2, .null, []), (0, 0, 0, .int 64, []), (24, 0, 64, .null, []), (19, 3, 4, .null, [2]), (1, 0, 2, .null, []), (0, 0, 0, .int 64, []), (24, 0, 64, .null, []), (19, 3, 5, .null, [2]), (26, 0, 0, .null, [])]
abbrev mX3_clear : Nat := 36
def cd_X3_clear : List pm_I := [(1, 0, 2, .null, []), (0, 0, 0, .int 0, []), (19, 3, 0, .null, [0]), (1, 0, 2, .null, []), (1, 1, 0, .null, []), (19, 3, 1, .null, [0]), (26, 0, 0, .null, [])]
abbrev mX3_takeShut : Nat := 37
def cd_X3_takeShut : List pm_I := [(1, 0, 2, .null, []), (18, 3, 2, .null, []), (1, 1, 0, .null, []), (0, 0, 0, .int (-1), []), (21, 0, 0, .null, []), (26, 0, 0, .null, [])]
abbrev mX3_takeOpen : Nat := 38
def cd_X3_takeOpen : List pm_I := [(1, 2, 0, .null, []), (15, 4, 0, .null, []), (0, 0, 0, .int (-1), []), (17, 11, 0, .null, []), (1, 0, 2, .null, []), (18, 3, 2, .null, []), (1, 1, 0, .null, []), (1, 0, 2, .null, []), (18, 3, 1, .null, []), (4, 0, 1, .null, []), (20, 0, 0, .null, []), (2, 3, 0, .null, []), (1, 3, 0, .null, []), (0, 0, 0, .int (-1), []), (16, 38, 1, .null, []), (1, 0, 2, .null, []), (11, 0, 0, .null, []), (18, 3, 0, .null, []), (12, 0, 0, .null, []), (0, 0, 0, .int 1, []), (4, 0, 0, .null, []), (19, 3, 0, .null, [0]), (2, 3, 0, .null, []), (1, 0, 2, .null, []), (18, 3, 3, .null, []), (1, 3, 0, .null, []), (1, 1, 0, .null, []), (21, 0, 0, .null, []), (1, 0, 2, .null, []), (18, 3, 4, .null, []), (1, 3, 0, .null, []), (0, 0, 0, .int 0, []), (21, 0, 0, .null, []), (1, 0, 2, .null, []), (18, 3, 5, .null, []), (1, 3, 0, .null, []), (0, 0, 0, .int 0, []), (21, 0, 0, .null, []), (1, 0, 2, .null, []), (18, 3, 2, .null, []), (1, 1, 0, .null, []), (1, 3, 0, .null, []), (21, 0, 0, .null, []), (1, 0, 2, .null, []), (18, 3, 4, .null, []), (1, 3, 0, .null, []), (13, 0, 0, .null, []), (20, 0, 0, .null, []), (0, 0, 0, .int 1, []), (4, 0, 0, .null, []), (21, 0, 0, .null, []), (26, 0, 0, .null, [])]
abbrev mX3_addGuards : Nat := 39
def cd_X3_addGuards : List pm_I := [(1, 0, 2, .null, []), (18, 3, 2, .null, []), (1, 1, 0, .null, []), (20, 0, 0, .null, []), (2, 3, 0, .null, []), (1, 3, 0, .null, []), (0, 0, 0, .int (-1), []), (16, 16, 0, .null, []), (1, 0, 2, .null, []), (18, 3, 5, .null, []), (1, 3, 0, .null, []), (13, 0, 0, .null, []), (20, 0, 0, .null, []), (1, 2, 0, .null, []), (4, 0, 0, .null, []), (21, 0, 0, .null, []), (26, 0, 0, .null, [])]
abbrev mX3_isWatched : Nat := 40
def cd_X3_isWatched : List pm_I := [(1, 0, 2, .null, []), (18, 3, 2, .null, []), (1, 1, 0, .null, []), (20, 0, 0, .null, []), (2, 2, 0, .null, []), (1, 2, 0, .null, []), (0, 0, 0, .int (-1), []), (16, 15, 0, .null, []), (1, 0, 2, .null, []), (18, 3, 5, .null, []), (1, 2, 0, .null, []), (20, 0, 0, .null, []), (15, 15, 5, .null, []), (0, 0, 0, .int 1, []), (17, 16, 0, .null, []), (0, 0, 0, .int 0, []), (26, 2, 0, .null, [])]
abbrev mX3_lengthAt : Nat := 41
def cd_X3_lengthAt : List pm_I := [(1, 0, 2, .null, []), (18, 3, 2, .null, []), (1, 1, 0, .null, []), (20, 0, 0, .null, []), (2, 2, 0, .null, []), (1, 2, 0, .null, []), (0, 0, 0, .int (-1), []), (16, 10, 1, .null, []), (0, 0, 0, .int 0, []), (17, 14, 0, .null, []), (1, 0, 2, .null, []), (18, 3, 4, .null, []), (1, 2, 0, .null, []), (20, 0, 0, .null, []), (26, 1, 0, .null, [])]
abbrev mX3_cellOf : Nat := 42
def cd_X3_cellOf : List pm_I := [(1, 0, 2, .null, []), (18, 3, 3, .null, []), (1, 1, 0, .null, []), (20, 0, 0, .null, []), (1, 2, 0, .null, []), (1, 0, 2, .null, []), (18, 3, 1, .null, []), (4, 0, 2, .null, []), (4, 0, 0, .null, []), (26, 1, 0, .null, [])]
abbrev mX4_init : Nat := 43
def cd_X4_init : List pm_I := [(1, 0, 2, .null, []), (28, 0, 0, .null, []), (1, 0, 2, .null, []), (0, 0, 0, .int 12, []), (24, 2, 12, .null, []), (19, 4, 3, .null, [2]), (1, 0, 2, .null, []), (1, 1, 2, .null, []), (19, 4, 4, .null, [2]), (26, 0, 0, .null, [])]
abbrev mX4_leastGuards : Nat := 44
def cd_X4_leastGuards : List pm_I := [(1, 0, 2, .null, []), (1, 1, 2, .null, []), (19, 4, 0, .null, [2]), (1, 0, 2, .null, []), (1, 2, 2, .null, []), (19, 4, 1, .null, [2]), (1, 0, 2, .null, []), (0, 0, 0, .int 0, []), (19, 4, 2, .null, [0]), (0, 0, 0, .int 0, []), (2, 3, 0, .null, []), (1, 3, 0, .null, []), (1, 0, 2, .null, []), (18, 4, 0, .null, []), (18, 3, 0, .null, []), (16, 41, 3, .null, []), (1, 3, 0, .null, []), (0, 0, 0, .int 12, []), (16, 41, 3, .null, []), (1, 0, 2, .null, []), (18, 4, 3, .null, []), (1, 3, 0, .null, []), (1, 0, 2, .null, []), (1, 3, 0, .null, []), (25, 45, 2, .null, [4]), (21, 0, 2, .null, []), (1, 0, 2, .null, []), (18, 4, 3, .null, []), (1, 3, 0, .null, []), (20, 0, 2, .null, []), (0, 0, 0, .long 0, []), (10, 0, 0, .null, []), (15, 39, 0, .null, []), (1, 0, 2, .null, []), (11, 0, 0, .null, []), (18, 4, 2, .null, []), (0, 0, 0, .int 1, []), (4, 0, 0, .null, []), (19, 4, 2, .null, [0]), (3, 3, 0, .int 1, []), (17, 11, 0, .null, []), (1, 0, 2, .null, []), (0, 0, 0, .int 0, []), (0, 0, 0, .long 0, []), (0, 0, 0, .long 0, []), (25, 46, 4, .null, [4]), (1, 0, 2, .null, []), (18, 4, 2, .null, []), (26, 1, 0, .null, [])]
abbrev mX4_findUnseenFar : Nat := 45
def cd_X4_findUnseenFar : List pm_I := [(0, 0, 0, .long 0, []), (2, 2, 1, .null, []), (1, 0, 2, .null, []), (18, 4, 0, .null, []), (18, 3, 5, .null, []), (1, 1, 0, .null, []), (20, 0, 0, .null, []), (15, 10, 5, .null, []), (1, 2, 1, .null, []), (26, 3, 0, .null, []), (0, 0, 0, .int 0, []), (2, 4, 0, .null, []), (1, 4, 0, .null, []), (1, 0, 2, .null, []), (18, 4, 0, .null, []), (18, 3, 4, .null, []), (1, 1, 0, .null, []), (20, 0, 0, .null, []), (16, 46, 3, .null, []), (1, 0, 2, .null, []), (18, 4, 1, .null, []), (18, 3, 2, .null, []), (1, 0, 2, .null, []), (18, 4, 0, .null, []), (1, 1, 0, .null, []), (1, 4, 0, .null, []), (25, 42, 3, .null, [3]), (20, 0, 0, .null, []), (2, 5, 0, .null, []), (1, 5, 0, .null, []), (0, 0, 0, .int (-1), []), (16, 44, 0, .null, []), (1, 0, 2, .null, []), (18, 4, 1, .null, []), (18, 3, 5, .null, []), (1, 5, 0, .null, []), (20, 0, 0, .null, []), (15, 44, 1, .null, []), (1, 2, 1, .null, []), (0, 0, 0, .long 1, []), (1, 5, 0, .null, []), (7, 0, 0, .null, []), (6, 0, 4, .null, []), (2, 2, 1, .null, []), (3, 4, 0, .int 1, []), (17, 12, 0, .null, []), (1, 2, 1, .null, []), (26, 3, 0, .null, [])]
abbrev mX4_choose : Nat := 46
def cd_X4_choose : List pm_I := [(1, 2, 1, .null, []), (25, 105, 1, .null, []), (2, 6, 0, .null, []), (1, 4, 1, .null, []), (25, 105, 1, .null, []), (2, 7, 0, .null, []), (1, 6, 0, .null, []), (1, 0, 2, .null, []), (18, 4, 2, .null, []), (16, 14, 3, .null, []), (1, 7, 0, .null, []), (1, 0, 2, .null, []), (18, 4, 2, .null, []), (16, 15, 2, .null, []), (26, 0, 0, .null, []), (1, 1, 0, .null, []), (1, 0, 2, .null, []), (18, 4, 0, .null, []), (18, 3, 0, .null, []), (16, 23, 3, .null, []), (1, 1, 0, .null, []), (0, 0, 0, .int 12, []), (16, 44, 2, .null, []), (1, 6, 0, .null, []), (1, 7, 0, .null, []), (4, 0, 0, .null, []), (1, 0, 2, .null, []), (18, 4, 4, .null, []), (1, 0, 2, .null, []), (18, 4, 0, .null, []), (1, 0, 2, .null, []), (18, 4, 1, .null, []), (1, 2, 1, .null, []), (1, 4, 1, .null, []), (25, 32, 5, .null, [2]), (4, 0, 1, .null, []), (2, 8, 0, .null, []), (1, 0, 2, .null, []), (1, 0, 2, .null, []), (18, 4, 2, .null, []), (1, 8, 0, .null, []), (30, 0, 0, .null, []), (19, 4, 2, .null, [0]), (26, 0, 0, .null, []), (1, 4, 1, .null, []), (1, 0, 2, .null, []), (18, 4, 3, .null, []), (1, 1, 0, .null, []), (20, 0, 2, .null, []), (6, 0, 4, .null, []), (2, 8, 1, .null, []), (1, 0, 2, .null, []), (1, 1, 0, .null, []), (0, 0, 0, .int 1, []), (4, 0, 0, .null, []), (1, 2, 1, .null, []), (1, 8, 1, .null, []), (25, 46, 4, .null, [4]), (1, 8, 1, .null, []), (1, 4, 1, .null, []), (10, 0, 0, .null, []), (15, 73, 0, .null, []), (1, 0, 2, .null, []), (1, 1, 0, .null, []), (0, 0, 0, .int 1, []), (4, 0, 0, .null, []), (1, 2, 1, .null, []), (0, 0, 0, .long 1, []), (1, 1, 0, .null, []), (7, 0, 0, .null, []), (6, 0, 4, .null, []), (1, 4, 1, .null, []), (25, 46, 4, .null, [4]), (26, 0, 0, .null, [])]
abbrev mX5_init : Nat := 47
def cd_X5_init : List pm_I := [(1, 0, 2, .null, []), (28, 0, 0, .null, []), (1, 0, 2, .null, []), (23, 1, 0, .null, []), (11, 0, 0, .null, []), (25, 15, 1, .null, [1]), (19, 5, 0, .null, [2]), (1, 0, 2, .null, []), (23, 0, 0, .null, []), (11, 0, 0, .null, []), (25, 0, 1, .null, [0]), (19, 5, 1, .null, [2]), (26, 0, 0, .null, [])]
abbrev mX5_hall : Nat := 48
def cd_X5_hall : List pm_I := [(1, 1, 0, .null, []), (0, 0, 0, .int 1, []), (0, 0, 0, .int 8, []), (25, 67, 3, .null, []), (15, 10, 0, .null, []), (1, 2, 0, .null, []), (0, 0, 0, .int 1, []), (0, 0, 0, .int 8, []), (25, 67, 3, .null, []), (15, 12, 1, .null, []), (0, 0, 0, .int (-2), []), (26, 1, 0, .null, []), (1, 0, 2, .null, []), (18, 5, 0, .null, []), (1, 1, 0, .null, []), (1, 2, 0, .null, []), (25, 16, 3, .null, [1]), (1, 1, 0, .null, []), (1, 2, 0, .null, []), (4, 0, 2, .null, []), (26, 1, 0, .null, [])]
abbrev mX5_wall : Nat := 49
def cd_X5_wall : List pm_I := [(1, 0, 2, .null, []), (18, 5, 0, .null, []), (1, 1, 0, .null, []), (1, 2, 0, .null, []), (25, 17, 3, .null, [1]), (15, 8, 1, .null, []), (0, 0, 0, .int (-2), []), (26, 1, 0, .null, []), (1, 0, 2, .null, []), (18, 5, 0, .null, []), (1, 1, 0, .null, []), (1, 2, 0, .null, []), (25, 18, 3, .null, [1]), (2, 4, 0, .null, []), (1, 0, 2, .null, []), (18, 5, 0, .null, []), (18, 1, 4, .null, []), (1, 4, 0, .null, []), (20, 0, 1, .null, []), (15, 22, 0, .null, []), (0, 0, 0, .int (-3), []), (26, 1, 0, .null, []), (1, 0, 2, .null, []), (18, 5, 0, .null, []), (1, 4, 0, .null, []), (1, 3, 0, .null, []), (25, 22, 3, .null, [1]), (15, 30, 0, .null, []), (0, 0, 0, .int 1, []), (17, 31, 0, .null, []), (0, 0, 0, .int 0, []), (26, 1, 0, .null, [])]
abbrev mX5_guard : Nat := 50
def cd_X5_guard : List pm_I := [(1, 0, 2, .null, []), (18, 5, 0, .null, []), (1, 1, 0, .null, []), (1, 2, 0, .null, []), (25, 17, 3, .null, [1]), (15, 8, 1, .null, []), (0, 0, 0, .int (-2), []), (26, 1, 0, .null, []), (1, 0, 2, .null, []), (18, 5, 0, .null, []), (1, 1, 0, .null, []), (1, 2, 0, .null, []), (25, 18, 3, .null, [1]), (2, 3, 0, .null, []), (1, 0, 2, .null, []), (18, 5, 0, .null, []), (18, 1, 3, .null, []), (1, 3, 0, .null, []), (20, 0, 1, .null, []), (15, 26, 0, .null, []), (1, 0, 2, .null, []), (18, 5, 0, .null, []), (18, 1, 4, .null, []), (1, 3, 0, .null, []), (20, 0, 1, .null, []), (15, 28, 0, .null, []), (0, 0, 0, .int (-3), []), (26, 1, 0, .null, []), (1, 0, 2, .null, []), (18, 5, 0, .null, []), (1, 3, 0, .null, []), (0, 0, 0, .int 1, []), (25, 23, 3, .null, [1]), (26, 1, 0, .null, [])]
abbrev mX5_leave : Nat := 51
def cd_X5_leave : List pm_I := [(1, 0, 2, .null, []), (18, 5, 0, .null, []), (1, 1, 0, .null, []), (1, 2, 0, .null, []), (25, 17, 3, .null, [1]), (15, 8, 1, .null, []), (0, 0, 0, .int (-2), []), (26, 1, 0, .null, []), (1, 0, 2, .null, []), (18, 5, 0, .null, []), (1, 1, 0, .null, []), (1, 2, 0, .null, []), (25, 18, 3, .null, [1]), (2, 3, 0, .null, []), (1, 0, 2, .null, []), (18, 5, 0, .null, []), (18, 1, 4, .null, []), (1, 3, 0, .null, []), (20, 0, 1, .null, []), (15, 22, 1, .null, []), (0, 0, 0, .int (-3), []), (26, 1, 0, .null, []), (1, 0, 2, .null, []), (18, 5, 0, .null, []), (1, 3, 0, .null, []), (0, 0, 0, .int 0, []), (25, 23, 3, .null, [1]), (26, 1, 0, .null, [])]
abbrev mX5_cell : Nat := 52
def cd_X5_cell : List pm_I := [(1, 0, 2, .null, []), (18, 5, 0, .null, []), (1, 1, 0, .null, []), (1, 2, 0, .null, []), (25, 17, 3, .null, [1]), (15, 8, 1, .null, []), (0, 0, 0, .int (-2), []), (26, 1, 0, .null, []), (1, 0, 2, .null, []), (18, 5, 0, .null, []), (1, 0, 2, .null, []), (18, 5, 0, .null, []), (1, 1, 0, .null, []), (1, 2, 0, .null, []), (25, 18, 3, .null, [1]), (25, 25, 2, .null, [1]), (26, 1, 0, .null, [])]
abbrev mX5_runs : Nat := 53
def cd_X5_runs : List pm_I := [(1, 1, 0, .null, []), (0, 0, 0, .int 0, []), (0, 0, 0, .int 1, []), (25, 67, 3, .null, []), (15, 7, 1, .null, []), (0, 0, 0, .int (-2), []), (26, 1, 0, .null, []), (1, 0, 2, .null, []), (18, 5, 0, .null, []), (1, 1, 0, .null, []), (25, 19, 2, .null, [1]), (18, 3, 0, .null, []), (26, 1, 0, .null, [])]
abbrev mX5_run : Nat := 54
def cd_X5_run : List pm_I := [(1, 0, 2, .null, []), (18, 5, 0, .null, []), (1, 1, 0, .null, []), (1, 2, 0, .null, []), (25, 17, 3, .null, [1]), (15, 11, 0, .null, []), (1, 3, 0, .null, []), (0, 0, 0, .int 0, []), (0, 0, 0, .int 1, []), (25, 67, 3, .null, []), (15, 13, 1, .null, []), (0, 0, 0, .int (-2), []), (26, 1, 0, .null, []), (1, 0, 2, .null, []), (18, 5, 0, .null, []), (1, 3, 0, .null, []), (25, 19, 2, .null, [1]), (18, 3, 2, .null, []), (1, 0, 2, .null, []), (18, 5, 0, .null, []), (1, 1, 0, .null, []), (1, 2, 0, .null, []), (25, 18, 3, .null, [1]), (20, 0, 0, .null, []), (26, 1, 0, .null, [])]
abbrev mX5_sees : Nat := 55
def cd_X5_sees : List pm_I := [(1, 0, 2, .null, []), (18, 5, 0, .null, []), (1, 1, 0, .null, []), (1, 2, 0, .null, []), (25, 17, 3, .null, [1]), (15, 8, 1, .null, []), (0, 0, 0, .int (-2), []), (26, 1, 0, .null, []), (1, 0, 2, .null, []), (18, 5, 0, .null, []), (1, 0, 2, .null, []), (18, 5, 0, .null, []), (1, 1, 0, .null, []), (1, 2, 0, .null, []), (25, 18, 3, .null, [1]), (25, 26, 2, .null, [1]), (26, 1, 0, .null, [])]
abbrev mX5_seen : Nat := 56
def cd_X5_seen : List pm_I := [(1, 0, 2, .null, []), (18, 5, 0, .null, []), (25, 27, 1, .null, [1]), (26, 1, 0, .null, [])]
abbrev mX5_missed : Nat := 57
def cd_X5_missed : List pm_I := [(1, 0, 2, .null, []), (18, 5, 0, .null, []), (1, 1, 0, .null, []), (25, 28, 2, .null, [1]), (26, 1, 0, .null, [])]
abbrev mX5_more : Nat := 58
def cd_X5_more : List pm_I := [(1, 0, 2, .null, []), (18, 5, 0, .null, []), (25, 29, 1, .null, [1]), (26, 1, 0, .null, [])]
abbrev mX5_peace : Nat := 59
def cd_X5_peace : List pm_I := [(1, 0, 2, .null, []), (18, 5, 0, .null, []), (25, 30, 1, .null, [1]), (26, 1, 0, .null, [])]
abbrev mX5_box : Nat := 60
def cd_X5_box : List pm_I := [(1, 1, 0, .null, []), (0, 0, 0, .int 1, []), (0, 0, 0, .int 12, []), (25, 67, 3, .null, []), (15, 10, 0, .null, []), (1, 2, 0, .null, []), (0, 0, 0, .int 1, []), (0, 0, 0, .int 12, []), (25, 67, 3, .null, []), (15, 12, 1, .null, []), (0, 0, 0, .int (-2), []), (26, 1, 0, .null, []), (1, 0, 2, .null, []), (18, 5, 1, .null, []), (1, 1, 0, .null, []), (1, 2, 0, .null, []), (25, 1, 3, .null, [0]), (1, 1, 0, .null, []), (1, 2, 0, .null, []), (4, 0, 2, .null, []), (26, 1, 0, .null, [])]
abbrev mX5_square : Nat := 61
def cd_X5_square : List pm_I := [(1, 1, 0, .null, []), (0, 0, 0, .int 1, []), (0, 0, 0, .int 12, []), (25, 67, 3, .null, []), (15, 7, 1, .null, []), (0, 0, 0, .int (-2), []), (26, 1, 0, .null, []), (1, 0, 2, .null, []), (18, 5, 1, .null, []), (18, 0, 2, .null, []), (0, 0, 0, .int 8, []), (16, 14, 2, .null, []), (0, 0, 0, .int (-4), []), (26, 1, 0, .null, []), (1, 0, 2, .null, []), (18, 5, 1, .null, []), (1, 1, 0, .null, []), (25, 2, 2, .null, [0]), (26, 1, 0, .null, [])]
abbrev mX5_drop : Nat := 62
def cd_X5_drop : List pm_I := [(1, 0, 2, .null, []), (18, 5, 1, .null, []), (18, 0, 2, .null, []), (15, 6, 4, .null, []), (0, 0, 0, .int (-3), []), (26, 1, 0, .null, []), (1, 0, 2, .null, []), (18, 5, 1, .null, []), (25, 3, 1, .null, [0]), (26, 1, 0, .null, [])]
abbrev mX5_pack : Nat := 63
def cd_X5_pack : List pm_I := [(1, 1, 0, .null, []), (0, 0, 0, .int 0, []), (0, 0, 0, .int 100000, []), (25, 67, 3, .null, []), (15, 7, 1, .null, []), (0, 0, 0, .int (-2), []), (26, 1, 0, .null, []), (1, 0, 2, .null, []), (18, 5, 1, .null, []), (1, 1, 0, .null, []), (25, 5, 2, .null, [0]), (26, 1, 0, .null, [])]
abbrev mX5_tried : Nat := 64
def cd_X5_tried : List pm_I := [(1, 0, 2, .null, []), (18, 5, 1, .null, []), (18, 0, 3, .null, []), (26, 1, 0, .null, [])]
abbrev mX5_place : Nat := 65
def cd_X5_place : List pm_I := [(1, 2, 0, .null, []), (0, 0, 0, .int 0, []), (0, 0, 0, .int 1, []), (25, 67, 3, .null, []), (15, 7, 1, .null, []), (0, 0, 0, .int (-2), []), (26, 1, 0, .null, []), (1, 0, 2, .null, []), (18, 5, 1, .null, []), (18, 0, 4, .null, []), (15, 20, 0, .null, []), (1, 1, 0, .null, []), (0, 0, 0, .int 0, []), (1, 0, 2, .null, []), (18, 5, 1, .null, []), (18, 0, 2, .null, []), (0, 0, 0, .int 1, []), (4, 0, 1, .null, []), (25, 67, 3, .null, []), (15, 22, 1, .null, []), (0, 0, 0, .int (-1), []), (26, 1, 0, .null, []), (1, 2, 0, .null, []), (15, 30, 1, .null, []), (1, 0, 2, .null, []), (18, 5, 1, .null, []), (18, 0, 6, .null, []), (1, 1, 0, .null, []), (20, 0, 0, .null, []), (17, 35, 0, .null, []), (1, 0, 2, .null, []), (18, 5, 1, .null, []), (18, 0, 7, .null, []), (1, 1, 0, .null, []), (20, 0, 0, .null, []), (26, 1, 0, .null, [])]
abbrev mX5_left : Nat := 66
def cd_X5_left : List pm_I := [(1, 0, 2, .null, []), (18, 5, 1, .null, []), (25, 4, 1, .null, [0]), (26, 1, 0, .null, [])]
abbrev mX5_isWithin : Nat := 67
def cd_X5_isWithin : List pm_I := [(1, 0, 0, .null, []), (1, 1, 0, .null, []), (16, 8, 2, .null, []), (1, 0, 0, .null, []), (1, 2, 0, .null, []), (16, 8, 4, .null, []), (0, 0, 0, .int 1, []), (17, 9, 0, .null, []), (0, 0, 0, .int 0, []), (26, 2, 0, .null, [])]
abbrev mX6_init : Nat := 68
def cd_X6_init : List pm_I := [(1, 0, 2, .null, []), (28, 0, 0, .null, []), (1, 0, 2, .null, []), (0, 0, 0, .int 1, []), (19, 6, 0, .null, [0]), (1, 0, 2, .null, []), (0, 0, 0, .int 1, []), (19, 6, 1, .null, [0]), (1, 0, 2, .null, []), (0, 0, 0, .int 64, []), (24, 1, 64, .null, []), (19, 6, 2, .null, [2]), (1, 0, 2, .null, []), (0, 0, 0, .int 64, []), (24, 1, 64, .null, []), (19, 6, 3, .null, [2]), (1, 0, 2, .null, []), (0, 0, 0, .int 128, []), (24, 0, 128, .null, []), (19, 6, 5, .null, [2]), (1, 0, 2, .null, []), (0, 0, 0, .int 2, []), (24, 0, 2, .null, []), (19, 6, 6, .null, [2]), (1, 0, 2, .null, []), (0, 0, 0, .int 64, []), (24, 0, 64, .null, []), (19, 6, 7, .null, [2]), (1, 0, 2, .null, []), (0, 0, 0, .int 1, []), (19, 6, 9, .null, [0]), (1, 0, 2, .null, []), (0, 0, 0, .int 1, []), (19, 6, 10, .null, [0]), (1, 0, 2, .null, []), (0, 0, 0, .int 8, []), (24, 0, 8, .null, []), (19, 6, 12, .null, [2]), (1, 0, 2, .null, []), (0, 0, 0, .int 8, []), (24, 0, 8, .null, []), (19, 6, 13, .null, [2]), (1, 0, 2, .null, []), (0, 0, 0, .int 8, []), (24, 0, 8, .null, []), (19, 6, 14, .null, [2]), (1, 0, 2, .null, []), (0, 0, 0, .int 256, []), (24, 0, 256, .null, []), (19, 6, 17, .null, [2]), (1, 0, 2, .null, []), (0, 0, 0, .int 4096, []), (24, 2, 4096, .null, []), (19, 6, 18, .null, [2]), (1, 0, 2, .null, []), (0, 0, 0, .int 32, []), (24, 0, 32, .null, []), (19, 6, 19, .null, [2]), (1, 0, 2, .null, []), (0, 0, 0, .int 32, []), (24, 0, 32, .null, []), (19, 6, 20, .null, [2]), (1, 0, 2, .null, []), (0, 0, 0, .int 32, []), (24, 0, 32, .null, []), (19, 6, 21, .null, [2]), (0, 0, 0, .int 1, []), (2, 1, 0, .null, []), (1, 1, 0, .null, []), (0, 0, 0, .int 256, []), (16, 87, 3, .null, []), (1, 0, 2, .null, []), (18, 6, 17, .null, []), (1, 1, 0, .null, []), (1, 0, 2, .null, []), (18, 6, 17, .null, []), (1, 1, 0, .null, []), (0, 0, 0, .int 2, []), (31, 0, 0, .null, []), (20, 0, 0, .null, []), (1, 1, 0, .null, []), (0, 0, 0, .int 2, []), (32, 0, 0, .null, []), (4, 0, 0, .null, []), (21, 0, 0, .null, []), (3, 1, 0, .int 1, []), (17, 68, 0, .null, []), (26, 0, 0, .null, [])]
abbrev mX6_within : Nat := 69
def cd_X6_within : List pm_I := [(1, 0, 0, .null, []), (1, 1, 0, .null, []), (16, 8, 2, .null, []), (1, 0, 0, .null, []), (1, 2, 0, .null, []), (16, 8, 4, .null, []), (0, 0, 0, .int 1, []), (17, 9, 0, .null, []), (0, 0, 0, .int 0, []), (26, 2, 0, .null, [])]
abbrev mX6_hall : Nat := 70
def cd_X6_hall : List pm_I := [(1, 1, 0, .null, []), (0, 0, 0, .int 1, []), (0, 0, 0, .int 8, []), (25, 69, 3, .null, []), (15, 10, 0, .null, []), (1, 2, 0, .null, []), (0, 0, 0, .int 1, []), (0, 0, 0, .int 8, []), (25, 69, 3, .null, []), (15, 12, 1, .null, []), (0, 0, 0, .int (-2), []), (26, 1, 0, .null, []), (1, 0, 2, .null, []), (1, 1, 0, .null, []), (19, 6, 0, .null, [0]), (1, 0, 2, .null, []), (1, 2, 0, .null, []), (19, 6, 1, .null, [0]), (1, 0, 2, .null, []), (0, 0, 0, .int 0, []), (19, 6, 4, .null, [0]), (0, 0, 0, .int 0, []), (2, 3, 0, .null, []), (1, 3, 0, .null, []), (0, 0, 0, .int 64, []), (16, 38, 3, .null, []), (1, 0, 2, .null, []), (18, 6, 2, .null, []), (1, 3, 0, .null, []), (0, 0, 0, .int 0, []), (21, 0, 1, .null, []), (1, 0, 2, .null, []), (18, 6, 3, .null, []), (1, 3, 0, .null, []), (0, 0, 0, .int 0, []), (21, 0, 1, .null, []), (3, 3, 0, .int 1, []), (17, 23, 0, .null, []), (1, 0, 2, .null, []), (0, 0, 0, .int 0, []), (19, 6, 8, .null, [3]), (1, 1, 0, .null, []), (1, 2, 0, .null, []), (4, 0, 2, .null, []), (26, 1, 0, .null, [])]
abbrev mX6_isCell : Nat := 71
def cd_X6_isCell : List pm_I := [(1, 1, 0, .null, []), (0, 0, 0, .int 0, []), (1, 0, 2, .null, []), (18, 6, 0, .null, []), (0, 0, 0, .int 1, []), (4, 0, 1, .null, []), (25, 69, 3, .null, []), (15, 18, 0, .null, []), (1, 2, 0, .null, []), (0, 0, 0, .int 0, []), (1, 0, 2, .null, []), (18, 6, 1, .null, []), (0, 0, 0, .int 1, []), (4, 0, 1, .null, []), (25, 69, 3, .null, []), (15, 18, 0, .null, []), (0, 0, 0, .int 1, []), (17, 19, 0, .null, []), (0, 0, 0, .int 0, []), (26, 2, 0, .null, [])]
abbrev mX6_wall : Nat := 72
def cd_X6_wall : List pm_I := [(1, 0, 2, .null, []), (1, 1, 0, .null, []), (1, 2, 0, .null, []), (25, 71, 3, .null, [6]), (15, 7, 1, .null, []), (0, 0, 0, .int (-2), []), (26, 1, 0, .null, []), (1, 2, 0, .null, []), (1, 0, 2, .null, []), (18, 6, 0, .null, []), (4, 0, 2, .null, []), (1, 1, 0, .null, []), (4, 0, 0, .null, []), (2, 4, 0, .null, []), (1, 0, 2, .null, []), (18, 6, 3, .null, []), (1, 4, 0, .null, []), (20, 0, 1, .null, []), (15, 21, 0, .null, []), (0, 0, 0, .int (-3), []), (26, 1, 0, .null, []), (1, 0, 2, .null, []), (18, 6, 2, .null, []), (1, 4, 0, .null, []), (20, 0, 1, .null, []), (1, 3, 0, .null, []), (16, 29, 1, .null, []), (0, 0, 0, .int 1, []), (17, 30, 0, .null, []), (0, 0, 0, .int 0, []), (2, 5, 0, .null, []), (1, 0, 2, .null, []), (18, 6, 2, .null, []), (1, 4, 0, .null, []), (1, 3, 0, .null, []), (15, 38, 1, .null, []), (0, 0, 0, .int 1, []), (17, 39, 0, .null, []), (0, 0, 0, .int 0, []), (21, 0, 1, .null, []), (1, 0, 2, .null, []), (0, 0, 0, .int 0, []), (19, 6, 8, .null, [3]), (1, 5, 0, .null, []), (26, 1, 0, .null, [])]
abbrev mX6_guard : Nat := 73
def cd_X6_guard : List pm_I := [(1, 0, 2, .null, []), (1, 1, 0, .null, []), (1, 2, 0, .null, []), (25, 71, 3, .null, [6]), (15, 7, 1, .null, []), (0, 0, 0, .int (-2), []), (26, 1, 0, .null, []), (1, 2, 0, .null, []), (1, 0, 2, .null, []), (18, 6, 0, .null, []), (4, 0, 2, .null, []), (1, 1, 0, .null, []), (4, 0, 0, .null, []), (2, 3, 0, .null, []), (1, 0, 2, .null, []), (18, 6, 2, .null, []), (1, 3, 0, .null, []), (20, 0, 1, .null, []), (15, 24, 1, .null, []), (1, 0, 2, .null, []), (18, 6, 3, .null, []), (1, 3, 0, .null, []), (20, 0, 1, .null, []), (15, 26, 0, .null, []), (0, 0, 0, .int (-3), []), (26, 1, 0, .null, []), (1, 0, 2, .null, []), (18, 6, 3, .null, []), (1, 3, 0, .null, []), (0, 0, 0, .int 1, []), (21, 0, 1, .null, []), (1, 0, 2, .null, []), (11, 0, 0, .null, []), (18, 6, 4, .null, []), (0, 0, 0, .int 1, []), (4, 0, 0, .null, []), (19, 6, 4, .null, [0]), (1, 0, 2, .null, []), (18, 6, 4, .null, []), (26, 1, 0, .null, [])]
abbrev mX6_leave : Nat := 74
def cd_X6_leave : List pm_I := [(1, 0, 2, .null, []), (1, 1, 0, .null, []), (1, 2, 0, .null, []), (25, 71, 3, .null, [6]), (15, 7, 1, .null, []), (0, 0, 0, .int (-2), []), (26, 1, 0, .null, []), (1, 2, 0, .null, []), (1, 0, 2, .null, []), (18, 6, 0, .null, []), (4, 0, 2, .null, []), (1, 1, 0, .null, []), (4, 0, 0, .null, []), (2, 3, 0, .null, []), (1, 0, 2, .null, []), (18, 6, 3, .null, []), (1, 3, 0, .null, []), (20, 0, 1, .null, []), (15, 21, 1, .null, []), (0, 0, 0, .int (-3), []), (26, 1, 0, .null, []), (1, 0, 2, .null, []), (18, 6, 3, .null, []), (1, 3, 0, .null, []), (0, 0, 0, .int 0, []), (21, 0, 1, .null, []), (1, 0, 2, .null, []), (11, 0, 0, .null, []), (18, 6, 4, .null, []), (0, 0, 0, .int 1, []), (4, 0, 1, .null, []), (19, 6, 4, .null, [0]), (1, 0, 2, .null, []), (18, 6, 4, .null, []), (26, 1, 0, .null, [])]
abbrev mX6_isOpen : Nat := 75
def cd_X6_isOpen : List pm_I := [(1, 0, 2, .null, []), (1, 1, 0, .null, []), (1, 2, 0, .null, []), (25, 71, 3, .null, [6]), (15, 17, 0, .null, []), (1, 0, 2, .null, []), (18, 6, 2, .null, []), (1, 2, 0, .null, []), (1, 0, 2, .null, []), (18, 6, 0, .null, []), (4, 0, 2, .null, []), (1, 1, 0, .null, []), (4, 0, 0, .null, []), (20, 0, 1, .null, []), (15, 17, 1, .null, []), (0, 0, 0, .int 1, []), (17, 18, 0, .null, []), (0, 0, 0, .int 0, []), (26, 2, 0, .null, [])]
abbrev mX6_part : Nat := 76
def cd_X6_part : List pm_I := [(1, 0, 2, .null, []), (18, 6, 8, .null, []), (15, 4, 0, .null, []), (26, 0, 0, .null, []), (1, 0, 2, .null, []), (0, 0, 0, .int 1, []), (19, 6, 8, .null, [3]), (1, 0, 2, .null, []), (18, 6, 6, .null, []), (0, 0, 0, .int 0, []), (0, 0, 0, .int 0, []), (21, 0, 0, .null, []), (1, 0, 2, .null, []), (18, 6, 6, .null, []), (0, 0, 0, .int 1, []), (0, 0, 0, .int 0, []), (21, 0, 0, .null, []), (0, 0, 0, .int 0, []), (2, 1, 0, .null, []), (1, 1, 0, .null, []), (0, 0, 0, .int 64, []), (16, 29, 3, .null, []), (1, 0, 2, .null, []), (18, 6, 7, .null, []), (1, 1, 0, .null, []), (0, 0, 0, .int 0, []), (21, 0, 0, .null, []), (3, 1, 0, .int 1, []), (17, 19, 0, .null, []), (0, 0, 0, .int 0, []), (2, 1, 0, .null, []), (1, 1, 0, .null, []), (1, 0, 2, .null, []), (18, 6, 1, .null, []), (16, 57, 3, .null, []), (0, 0, 0, .int 0, []), (2, 2, 0, .null, []), (1, 2, 0, .null, []), (1, 0, 2, .null, []), (18, 6, 0, .null, []), (16, 55, 3, .null, []), (0, 0, 0, .int 0, []), (2, 3, 0, .null, []), (1, 3, 0, .null, []), (0, 0, 0, .int 2, []), (16, 53, 3, .null, []), (1, 0, 2, .null, []), (1, 2, 0, .null, []), (1, 1, 0, .null, []), (1, 3, 0, .null, []), (25, 77, 4, .null, [6]), (3, 3, 0, .int 1, []), (17, 43, 0, .null, []), (3, 2, 0, .int 1, []), (17, 37, 0, .null, []), (3, 1, 0, .int 1, []), (17, 31, 0, .null, []), (26, 0, 0, .null, [])]
abbrev mX6_partCell : Nat := 77
def cd_X6_partCell : List pm_I := [(1, 2, 0, .null, []), (1, 0, 2, .null, []), (18, 6, 0, .null, []), (4, 0, 2, .null, []), (1, 1, 0, .null, []), (4, 0, 0, .null, []), (2, 4, 0, .null, []), (0, 0, 0, .int (-1), []), (2, 5, 0, .null, []), (1, 0, 2, .null, []), (18, 6, 2, .null, []), (1, 4, 0, .null, []), (20, 0, 1, .null, []), (15, 76, 1, .null, []), (1, 3, 0, .null, []), (15, 23, 1, .null, []), (1, 0, 2, .null, []), (1, 1, 0, .null, []), (0, 0, 0, .int 1, []), (4, 0, 1, .null, []), (1, 2, 0, .null, []), (25, 75, 3, .null, [6]), (17, 29, 0, .null, []), (1, 0, 2, .null, []), (1, 1, 0, .null, []), (1, 2, 0, .null, []), (0, 0, 0, .int 1, []), (4, 0, 1, .null, []), (25, 75, 3, .null, [6]), (2, 6, 0, .null, []), (1, 6, 0, .null, []), (15, 51, 0, .null, []), (1, 0, 2, .null, []), (18, 6, 5, .null, []), (0, 0, 0, .int 64, []), (1, 3, 0, .null, []), (4, 0, 2, .null, []), (1, 3, 0, .null, []), (15, 43, 1, .null, []), (1, 4, 0, .null, []), (0, 0, 0, .int 1, []), (4, 0, 1, .null, []), (17, 47, 0, .null, []), (1, 4, 0, .null, []), (1, 0, 2, .null, []), (18, 6, 0, .null, []), (4, 0, 1, .null, []), (4, 0, 0, .null, []), (20, 0, 0, .null, []), (2, 5, 0, .null, []), (17, 64, 0, .null, []), (1, 0, 2, .null, []), (18, 6, 6, .null, []), (1, 3, 0, .null, []), (20, 0, 0, .null, []), (2, 5, 0, .null, []), (1, 0, 2, .null, []), (18, 6, 6, .null, []), (1, 3, 0, .null, []), (13, 0, 0, .null, []), (20, 0, 0, .null, []), (0, 0, 0, .int 1, []), (4, 0, 0, .null, []), (21, 0, 0, .null, []), (1, 0, 2, .null, []), (18, 6, 7, .null, []), (0, 0, 0, .int 32, []), (1, 3, 0, .null, []), (4, 0, 2, .null, []), (1, 5, 0, .null, []), (4, 0, 0, .null, []), (13, 0, 0, .null, []), (20, 0, 0, .null, []), (0, 0, 0, .int 1, []), (4, 0, 0, .null, []), (21, 0, 0, .null, []), (1, 0, 2, .null, []), (18, 6, 5, .null, []), (0, 0, 0, .int 64, []), (1, 3, 0, .null, []), (4, 0, 2, .null, []), (1, 4, 0, .null, []), (4, 0, 0, .null, []), (1, 5, 0, .null, []), (21, 0, 0, .null, []), (26, 0, 0, .null, [])]
abbrev mX6_isTouched : Nat := 78
def cd_X6_isTouched : List pm_I := [(0, 0, 0, .int 0, []), (2, 3, 0, .null, []), (0, 0, 0, .int 0, []), (2, 4, 0, .null, []), (1, 4, 0, .null, []), (1, 0, 2, .null, []), (18, 6, 0, .null, []), (1, 0, 2, .null, []), (18, 6, 1, .null, []), (4, 0, 2, .null, []), (16, 34, 3, .null, []), (1, 3, 0, .null, []), (15, 28, 1, .null, []), (1, 0, 2, .null, []), (18, 6, 3, .null, []), (1, 4, 0, .null, []), (20, 0, 1, .null, []), (15, 30, 0, .null, []), (1, 0, 2, .null, []), (18, 6, 5, .null, []), (0, 0, 0, .int 64, []), (1, 1, 0, .null, []), (4, 0, 2, .null, []), (1, 4, 0, .null, []), (4, 0, 0, .null, []), (20, 0, 0, .null, []), (1, 2, 0, .null, []), (16, 30, 1, .null, []), (0, 0, 0, .int 1, []), (17, 31, 0, .null, []), (0, 0, 0, .int 0, []), (2, 3, 0, .null, []), (3, 4, 0, .int 1, []), (17, 4, 0, .null, []), (1, 3, 0, .null, []), (26, 2, 0, .null, [])]
abbrev mX6_isSeen : Nat := 79
def cd_X6_isSeen : List pm_I := [(1, 0, 2, .null, []), (18, 6, 2, .null, []), (1, 1, 0, .null, []), (20, 0, 1, .null, []), (15, 25, 1, .null, []), (1, 0, 2, .null, []), (0, 0, 0, .int 0, []), (1, 0, 2, .null, []), (18, 6, 5, .null, []), (1, 1, 0, .null, []), (20, 0, 0, .null, []), (25, 78, 3, .null, [6]), (15, 23, 1, .null, []), (1, 0, 2, .null, []), (0, 0, 0, .int 1, []), (1, 0, 2, .null, []), (18, 6, 5, .null, []), (0, 0, 0, .int 64, []), (1, 1, 0, .null, []), (4, 0, 0, .null, []), (20, 0, 0, .null, []), (25, 78, 3, .null, [6]), (15, 25, 0, .null, []), (0, 0, 0, .int 1, []), (17, 26, 0, .null, []), (0, 0, 0, .int 0, []), (26, 2, 0, .null, [])]
abbrev mX6_cell : Nat := 80
def cd_X6_cell : List pm_I := [(1, 0, 2, .null, []), (1, 1, 0, .null, []), (1, 2, 0, .null, []), (25, 71, 3, .null, [6]), (15, 7, 1, .null, []), (0, 0, 0, .int (-2), []), (26, 1, 0, .null, []), (1, 0, 2, .null, []), (25, 76, 1, .null, [6]), (1, 2, 0, .null, []), (1, 0, 2, .null, []), (18, 6, 0, .null, []), (4, 0, 2, .null, []), (1, 1, 0, .null, []), (4, 0, 0, .null, []), (2, 3, 0, .null, []), (1, 0, 2, .null, []), (18, 6, 2, .null, []), (1, 3, 0, .null, []), (20, 0, 1, .null, []), (15, 23, 0, .null, []), (0, 0, 0, .int 0, []), (26, 1, 0, .null, []), (1, 0, 2, .null, []), (18, 6, 3, .null, []), (1, 3, 0, .null, []), (20, 0, 1, .null, []), (15, 30, 0, .null, []), (0, 0, 0, .int 3, []), (17, 37, 0, .null, []), (1, 0, 2, .null, []), (1, 3, 0, .null, []), (25, 79, 2, .null, [6]), (15, 36, 0, .null, []), (0, 0, 0, .int 2, []), (17, 37, 0, .null, []), (0, 0, 0, .int 1, []), (26, 1, 0, .null, [])]
abbrev mX6_runs : Nat := 81
def cd_X6_runs : List pm_I := [(1, 1, 0, .null, []), (0, 0, 0, .int 0, []), (0, 0, 0, .int 1, []), (25, 69, 3, .null, []), (15, 7, 1, .null, []), (0, 0, 0, .int (-2), []), (26, 1, 0, .null, []), (1, 0, 2, .null, []), (25, 76, 1, .null, [6]), (1, 0, 2, .null, []), (18, 6, 6, .null, []), (1, 1, 0, .null, []), (20, 0, 0, .null, []), (26, 1, 0, .null, [])]
abbrev mX6_run : Nat := 82
def cd_X6_run : List pm_I := [(1, 0, 2, .null, []), (1, 1, 0, .null, []), (1, 2, 0, .null, []), (25, 71, 3, .null, [6]), (15, 10, 0, .null, []), (1, 3, 0, .null, []), (0, 0, 0, .int 0, []), (0, 0, 0, .int 1, []), (25, 69, 3, .null, []), (15, 12, 1, .null, []), (0, 0, 0, .int (-2), []), (26, 1, 0, .null, []), (1, 0, 2, .null, []), (25, 76, 1, .null, [6]), (1, 0, 2, .null, []), (18, 6, 5, .null, []), (0, 0, 0, .int 64, []), (1, 3, 0, .null, []), (4, 0, 2, .null, []), (1, 2, 0, .null, []), (1, 0, 2, .null, []), (18, 6, 0, .null, []), (4, 0, 2, .null, []), (4, 0, 0, .null, []), (1, 1, 0, .null, []), (4, 0, 0, .null, []), (20, 0, 0, .null, []), (26, 1, 0, .null, [])]
abbrev mX6_sees : Nat := 83
def cd_X6_sees : List pm_I := [(1, 0, 2, .null, []), (1, 1, 0, .null, []), (1, 2, 0, .null, []), (25, 71, 3, .null, [6]), (15, 7, 1, .null, []), (0, 0, 0, .int (-2), []), (26, 1, 0, .null, []), (1, 0, 2, .null, []), (25, 76, 1, .null, [6]), (1, 2, 0, .null, []), (1, 0, 2, .null, []), (18, 6, 0, .null, []), (4, 0, 2, .null, []), (1, 1, 0, .null, []), (4, 0, 0, .null, []), (2, 3, 0, .null, []), (1, 0, 2, .null, []), (18, 6, 2, .null, []), (1, 3, 0, .null, []), (20, 0, 1, .null, []), (15, 23, 0, .null, []), (0, 0, 0, .int 0, []), (17, 44, 0, .null, []), (1, 0, 2, .null, []), (18, 6, 7, .null, []), (1, 0, 2, .null, []), (18, 6, 5, .null, []), (1, 3, 0, .null, []), (20, 0, 0, .null, []), (20, 0, 0, .null, []), (1, 0, 2, .null, []), (18, 6, 7, .null, []), (0, 0, 0, .int 32, []), (1, 0, 2, .null, []), (18, 6, 5, .null, []), (0, 0, 0, .int 64, []), (1, 3, 0, .null, []), (4, 0, 0, .null, []), (20, 0, 0, .null, []), (4, 0, 0, .null, []), (20, 0, 0, .null, []), (4, 0, 0, .null, []), (0, 0, 0, .int 1, []), (4, 0, 1, .null, []), (26, 1, 0, .null, [])]
abbrev mX6_seen : Nat := 84
def cd_X6_seen : List pm_I := [(1, 0, 2, .null, []), (25, 76, 1, .null, [6]), (0, 0, 0, .int 0, []), (2, 1, 0, .null, []), (0, 0, 0, .int 0, []), (2, 2, 0, .null, []), (1, 2, 0, .null, []), (1, 0, 2, .null, []), (18, 6, 0, .null, []), (1, 0, 2, .null, []), (18, 6, 1, .null, []), (4, 0, 2, .null, []), (16, 25, 3, .null, []), (1, 1, 0, .null, []), (1, 0, 2, .null, []), (1, 2, 0, .null, []), (25, 79, 2, .null, [6]), (15, 20, 0, .null, []), (0, 0, 0, .int 1, []), (17, 21, 0, .null, []), (0, 0, 0, .int 0, []), (4, 0, 0, .null, []), (2, 1, 0, .null, []), (3, 2, 0, .int 1, []), (17, 6, 0, .null, []), (1, 1, 0, .null, []), (26, 1, 0, .null, [])]
abbrev mX6_missed : Nat := 85
def cd_X6_missed : List pm_I := [(1, 0, 2, .null, []), (25, 76, 1, .null, [6]), (0, 0, 0, .int 0, []), (2, 2, 0, .null, []), (0, 0, 0, .int 0, []), (2, 3, 0, .null, []), (1, 3, 0, .null, []), (1, 0, 2, .null, []), (18, 6, 0, .null, []), (1, 0, 2, .null, []), (18, 6, 1, .null, []), (4, 0, 2, .null, []), (16, 30, 3, .null, []), (1, 0, 2, .null, []), (18, 6, 2, .null, []), (1, 3, 0, .null, []), (20, 0, 1, .null, []), (15, 28, 1, .null, []), (1, 0, 2, .null, []), (1, 3, 0, .null, []), (25, 79, 2, .null, [6]), (15, 28, 1, .null, []), (1, 2, 0, .null, []), (1, 1, 0, .null, []), (16, 27, 1, .null, []), (1, 3, 0, .null, []), (26, 1, 0, .null, []), (3, 2, 0, .int 1, []), (3, 3, 0, .int 1, []), (17, 6, 0, .null, []), (0, 0, 0, .int (-1), []), (26, 1, 0, .null, [])]
abbrev mX6_count : Nat := 86
def cd_X6_count : List pm_I := [(0, 0, 0, .int 0, []), (2, 3, 0, .null, []), (1, 1, 1, .null, []), (2, 4, 1, .null, []), (1, 4, 1, .null, []), (0, 0, 0, .long 0, []), (10, 0, 0, .null, []), (15, 23, 0, .null, []), (1, 3, 0, .null, []), (1, 0, 2, .null, []), (18, 6, 17, .null, []), (1, 4, 1, .null, []), (0, 0, 0, .long 255, []), (6, 0, 3, .null, []), (9, 0, 0, .null, []), (20, 0, 0, .null, []), (4, 0, 0, .null, []), (2, 3, 0, .null, []), (1, 4, 1, .null, []), (0, 0, 0, .int 8, []), (7, 0, 2, .null, []), (2, 4, 1, .null, []), (17, 4, 0, .null, []), (1, 3, 0, .null, []), (26, 1, 0, .null, [])]
abbrev mX6_cross : Nat := 87
def cd_X6_cross : List pm_I := [(1, 0, 2, .null, []), (18, 6, 18, .null, []), (0, 0, 0, .int 0, []), (0, 0, 0, .long 0, []), (21, 0, 2, .null, []), (0, 0, 0, .int 0, []), (2, 2, 0, .null, []), (1, 2, 0, .null, []), (1, 0, 2, .null, []), (18, 6, 6, .null, []), (1, 1, 0, .null, []), (20, 0, 0, .null, []), (16, 76, 3, .null, []), (0, 0, 0, .long 0, []), (2, 3, 1, .null, []), (0, 0, 0, .int 0, []), (2, 5, 0, .null, []), (1, 5, 0, .null, []), (1, 0, 2, .null, []), (18, 6, 0, .null, []), (1, 0, 2, .null, []), (18, 6, 1, .null, []), (4, 0, 2, .null, []), (16, 51, 3, .null, []), (1, 0, 2, .null, []), (18, 6, 5, .null, []), (0, 0, 0, .int 64, []), (1, 1, 0, .null, []), (4, 0, 2, .null, []), (1, 5, 0, .null, []), (4, 0, 0, .null, []), (20, 0, 0, .null, []), (1, 2, 0, .null, []), (16, 49, 1, .null, []), (1, 3, 1, .null, []), (0, 0, 0, .long 1, []), (1, 0, 2, .null, []), (18, 6, 5, .null, []), (0, 0, 0, .int 64, []), (0, 0, 0, .int 1, []), (1, 1, 0, .null, []), (4, 0, 1, .null, []), (4, 0, 2, .null, []), (1, 5, 0, .null, []), (4, 0, 0, .null, []), (20, 0, 0, .null, []), (7, 0, 0, .null, []), (6, 0, 4, .null, []), (2, 3, 1, .null, []), (3, 5, 0, .int 1, []), (17, 17, 0, .null, []), (0, 0, 0, .int 0, []), (2, 5, 0, .null, []), (1, 5, 0, .null, []), (0, 0, 0, .int 1, []), (1, 2, 0, .null, []), (4, 0, 6, .null, []), (16, 74, 3, .null, []), (1, 0, 2, .null, []), (18, 6, 18, .null, []), (1, 5, 0, .null, []), (0, 0, 0, .int 1, []), (1, 2, 0, .null, []), (4, 0, 6, .null, []), (4, 0, 4, .null, []), (1, 0, 2, .null, []), (18, 6, 18, .null, []), (1, 5, 0, .null, []), (20, 0, 2, .null, []), (1, 3, 1, .null, []), (6, 0, 4, .null, []), (21, 0, 2, .null, []), (3, 5, 0, .int 1, []), (17, 53, 0, .null, []), (3, 2, 0, .int 1, []), (17, 7, 0, .null, []), (26, 0, 0, .null, [])]
abbrev mX6_touched : Nat := 88
def cd_X6_touched : List pm_I := [(0, 0, 0, .long 0, []), (2, 2, 1, .null, []), (0, 0, 0, .int 0, []), (2, 4, 0, .null, []), (1, 4, 0, .null, []), (1, 0, 2, .null, []), (18, 6, 0, .null, []), (1, 0, 2, .null, []), (18, 6, 1, .null, []), (4, 0, 2, .null, []), (16, 31, 3, .null, []), (1, 0, 2, .null, []), (18, 6, 3, .null, []), (1, 4, 0, .null, []), (20, 0, 1, .null, []), (15, 29, 0, .null, []), (1, 2, 1, .null, []), (0, 0, 0, .long 1, []), (1, 0, 2, .null, []), (18, 6, 5, .null, []), (0, 0, 0, .int 64, []), (1, 1, 0, .null, []), (4, 0, 2, .null, []), (1, 4, 0, .null, []), (4, 0, 0, .null, []), (20, 0, 0, .null, []), (7, 0, 0, .null, []), (6, 0, 4, .null, []), (2, 2, 1, .null, []), (3, 4, 0, .int 1, []), (17, 4, 0, .null, []), (1, 2, 1, .null, []), (26, 3, 0, .null, [])]
abbrev mX6_more : Nat := 89
def cd_X6_more : List pm_I := [(1, 0, 2, .null, []), (25, 76, 1, .null, [6]), (1, 0, 2, .null, []), (18, 6, 6, .null, []), (0, 0, 0, .int 0, []), (20, 0, 0, .null, []), (0, 0, 0, .int 12, []), (16, 10, 4, .null, []), (0, 0, 0, .int 0, []), (17, 11, 0, .null, []), (0, 0, 0, .int 1, []), (2, 1, 0, .null, []), (1, 0, 2, .null, []), (18, 6, 6, .null, []), (1, 1, 0, .null, []), (20, 0, 0, .null, []), (0, 0, 0, .int 12, []), (16, 20, 5, .null, []), (0, 0, 0, .int (-5), []), (26, 1, 0, .null, []), (1, 0, 2, .null, []), (1, 1, 0, .null, []), (25, 87, 2, .null, [6]), (0, 0, 0, .int 1, []), (1, 0, 2, .null, []), (18, 6, 6, .null, []), (1, 1, 0, .null, []), (20, 0, 0, .null, []), (4, 0, 6, .null, []), (0, 0, 0, .int 1, []), (4, 0, 1, .null, []), (2, 2, 0, .null, []), (1, 0, 2, .null, []), (1, 1, 0, .null, []), (25, 88, 2, .null, [6]), (9, 0, 0, .null, []), (2, 3, 0, .null, []), (1, 0, 2, .null, []), (0, 0, 0, .int 1, []), (1, 1, 0, .null, []), (4, 0, 1, .null, []), (25, 88, 2, .null, [6]), (2, 4, 1, .null, []), (0, 0, 0, .int (-1), []), (2, 6, 0, .null, []), (0, 0, 0, .int 0, []), (2, 7, 0, .null, []), (1, 7, 0, .null, []), (1, 2, 0, .null, []), (16, 104, 4, .null, []), (1, 7, 0, .null, []), (1, 3, 0, .null, []), (4, 0, 3, .null, []), (1, 3, 0, .null, []), (16, 102, 1, .null, []), (1, 0, 2, .null, []), (18, 6, 18, .null, []), (1, 2, 0, .null, []), (1, 7, 0, .null, []), (0, 0, 0, .int (-1), []), (4, 0, 5, .null, []), (4, 0, 3, .null, []), (20, 0, 2, .null, []), (1, 4, 1, .null, []), (0, 0, 0, .long (-1), []), (6, 0, 5, .null, []), (6, 0, 3, .null, []), (2, 8, 1, .null, []), (1, 8, 1, .null, []), (1, 0, 2, .null, []), (18, 6, 18, .null, []), (1, 7, 0, .null, []), (20, 0, 2, .null, []), (0, 0, 0, .long (-1), []), (6, 0, 5, .null, []), (6, 0, 3, .null, []), (0, 0, 0, .long 0, []), (10, 0, 0, .null, []), (15, 102, 1, .null, []), (1, 0, 2, .null, []), (1, 8, 1, .null, []), (25, 86, 2, .null, [6]), (1, 0, 2, .null, []), (1, 7, 0, .null, []), (1, 3, 0, .null, []), (0, 0, 0, .int (-1), []), (4, 0, 5, .null, []), (4, 0, 3, .null, []), (1, 8, 1, .null, []), (25, 90, 3, .null, [6]), (4, 0, 0, .null, []), (2, 10, 0, .null, []), (1, 6, 0, .null, []), (0, 0, 0, .int (-1), []), (16, 98, 0, .null, []), (1, 10, 0, .null, []), (1, 6, 0, .null, []), (16, 100, 3, .null, []), (1, 10, 0, .null, []), (17, 101, 0, .null, []), (1, 6, 0, .null, []), (2, 6, 0, .null, []), (3, 7, 0, .int 1, []), (17, 47, 0, .null, []), (1, 6, 0, .null, []), (26, 1, 0, .null, [])]
abbrev mX6_most : Nat := 90
def cd_X6_most : List pm_I := [(0, 0, 0, .int 0, []), (2, 4, 0, .null, []), (1, 1, 0, .null, []), (2, 5, 0, .null, []), (1, 5, 0, .null, []), (15, 34, 5, .null, []), (1, 0, 2, .null, []), (1, 5, 0, .null, []), (8, 0, 0, .null, []), (25, 86, 2, .null, [6]), (1, 0, 2, .null, []), (1, 0, 2, .null, []), (18, 6, 18, .null, []), (1, 5, 0, .null, []), (20, 0, 2, .null, []), (1, 2, 1, .null, []), (6, 0, 3, .null, []), (25, 86, 2, .null, [6]), (4, 0, 1, .null, []), (2, 6, 0, .null, []), (1, 6, 0, .null, []), (1, 4, 0, .null, []), (16, 25, 5, .null, []), (1, 6, 0, .null, []), (17, 26, 0, .null, []), (1, 4, 0, .null, []), (2, 4, 0, .null, []), (1, 5, 0, .null, []), (0, 0, 0, .int 1, []), (4, 0, 1, .null, []), (1, 1, 0, .null, []), (4, 0, 3, .null, []), (2, 5, 0, .null, []), (17, 4, 0, .null, []), (1, 4, 0, .null, []), (26, 1, 0, .null, [])]
abbrev mX6_peace : Nat := 91
def cd_X6_peace : List pm_I := [(1, 0, 2, .null, []), (25, 76, 1, .null, [6]), (0, 0, 0, .int 0, []), (2, 1, 0, .null, []), (1, 1, 0, .null, []), (0, 0, 0, .int 32, []), (16, 14, 3, .null, []), (1, 0, 2, .null, []), (18, 6, 19, .null, []), (1, 1, 0, .null, []), (0, 0, 0, .int (-1), []), (21, 0, 0, .null, []), (3, 1, 0, .int 1, []), (17, 4, 0, .null, []), (0, 0, 0, .int 0, []), (2, 1, 0, .null, []), (0, 0, 0, .int 0, []), (2, 2, 0, .null, []), (1, 2, 0, .null, []), (1, 0, 2, .null, []), (18, 6, 6, .null, []), (0, 0, 0, .int 0, []), (20, 0, 0, .null, []), (16, 36, 3, .null, []), (1, 1, 0, .null, []), (1, 0, 2, .null, []), (1, 2, 0, .null, []), (25, 93, 2, .null, [6]), (15, 31, 0, .null, []), (0, 0, 0, .int 1, []), (17, 32, 0, .null, []), (0, 0, 0, .int 0, []), (4, 0, 0, .null, []), (2, 1, 0, .null, []), (3, 2, 0, .int 1, []), (17, 18, 0, .null, []), (1, 1, 0, .null, []), (26, 1, 0, .null, [])]
abbrev mX6_doCross : Nat := 92
def cd_X6_doCross : List pm_I := [(0, 0, 0, .int 0, []), (2, 3, 0, .null, []), (0, 0, 0, .int 0, []), (2, 4, 0, .null, []), (1, 4, 0, .null, []), (1, 0, 2, .null, []), (18, 6, 0, .null, []), (1, 0, 2, .null, []), (18, 6, 1, .null, []), (4, 0, 2, .null, []), (16, 33, 3, .null, []), (1, 3, 0, .null, []), (15, 27, 1, .null, []), (1, 0, 2, .null, []), (18, 6, 5, .null, []), (1, 4, 0, .null, []), (20, 0, 0, .null, []), (1, 1, 0, .null, []), (16, 29, 1, .null, []), (1, 0, 2, .null, []), (18, 6, 5, .null, []), (0, 0, 0, .int 64, []), (1, 4, 0, .null, []), (4, 0, 0, .null, []), (20, 0, 0, .null, []), (1, 2, 0, .null, []), (16, 29, 1, .null, []), (0, 0, 0, .int 1, []), (17, 30, 0, .null, []), (0, 0, 0, .int 0, []), (2, 3, 0, .null, []), (3, 4, 0, .int 1, []), (17, 4, 0, .null, []), (1, 3, 0, .null, []), (26, 2, 0, .null, [])]
abbrev mX6_finds : Nat := 93
def cd_X6_finds : List pm_I := [(0, 0, 0, .int 0, []), (2, 2, 0, .null, []), (1, 2, 0, .null, []), (0, 0, 0, .int 32, []), (16, 12, 3, .null, []), (1, 0, 2, .null, []), (18, 6, 20, .null, []), (1, 2, 0, .null, []), (0, 0, 0, .int (-1), []), (21, 0, 0, .null, []), (3, 2, 0, .int 1, []), (17, 2, 0, .null, []), (0, 0, 0, .int 1, []), (2, 2, 0, .null, []), (1, 0, 2, .null, []), (18, 6, 21, .null, []), (0, 0, 0, .int 0, []), (1, 1, 0, .null, []), (21, 0, 0, .null, []), (0, 0, 0, .int 0, []), (2, 3, 0, .null, []), (1, 3, 0, .null, []), (1, 2, 0, .null, []), (16, 78, 3, .null, []), (1, 0, 2, .null, []), (18, 6, 21, .null, []), (1, 3, 0, .null, []), (20, 0, 0, .null, []), (2, 4, 0, .null, []), (0, 0, 0, .int 0, []), (2, 5, 0, .null, []), (1, 5, 0, .null, []), (1, 0, 2, .null, []), (18, 6, 6, .null, []), (0, 0, 0, .int 1, []), (20, 0, 0, .null, []), (16, 76, 3, .null, []), (1, 0, 2, .null, []), (18, 6, 20, .null, []), (1, 5, 0, .null, []), (20, 0, 0, .null, []), (0, 0, 0, .int (-1), []), (16, 74, 1, .null, []), (1, 0, 2, .null, []), (1, 4, 0, .null, []), (1, 5, 0, .null, []), (25, 92, 3, .null, [6]), (15, 74, 0, .null, []), (1, 0, 2, .null, []), (18, 6, 20, .null, []), (1, 5, 0, .null, []), (1, 4, 0, .null, []), (21, 0, 0, .null, []), (1, 0, 2, .null, []), (18, 6, 19, .null, []), (1, 5, 0, .null, []), (20, 0, 0, .null, []), (0, 0, 0, .int (-1), []), (16, 65, 1, .null, []), (1, 0, 2, .null, []), (1, 5, 0, .null, []), (1, 1, 0, .null, []), (25, 94, 3, .null, [6]), (0, 0, 0, .int 1, []), (26, 2, 0, .null, []), (1, 0, 2, .null, []), (18, 6, 21, .null, []), (1, 2, 0, .null, []), (1, 0, 2, .null, []), (18, 6, 19, .null, []), (1, 5, 0, .null, []), (20, 0, 0, .null, []), (21, 0, 0, .null, []), (3, 2, 0, .int 1, []), (3, 5, 0, .int 1, []), (17, 31, 0, .null, []), (3, 3, 0, .int 1, []), (17, 21, 0, .null, []), (0, 0, 0, .int 0, []), (26, 2, 0, .null, [])]
abbrev mX6_turn : Nat := 94
def cd_X6_turn : List pm_I := [(1, 1, 0, .null, []), (2, 3, 0, .null, []), (0, 0, 0, .int 1, []), (2, 4, 0, .null, []), (1, 4, 0, .null, []), (15, 48, 0, .null, []), (1, 0, 2, .null, []), (18, 6, 20, .null, []), (1, 3, 0, .null, []), (20, 0, 0, .null, []), (2, 5, 0, .null, []), (0, 0, 0, .int (-1), []), (2, 6, 0, .null, []), (0, 0, 0, .int 0, []), (2, 7, 0, .null, []), (1, 7, 0, .null, []), (1, 0, 2, .null, []), (18, 6, 6, .null, []), (0, 0, 0, .int 1, []), (20, 0, 0, .null, []), (16, 33, 3, .null, []), (1, 0, 2, .null, []), (18, 6, 19, .null, []), (1, 7, 0, .null, []), (20, 0, 0, .null, []), (1, 5, 0, .null, []), (16, 29, 1, .null, []), (1, 7, 0, .null, []), (17, 30, 0, .null, []), (1, 6, 0, .null, []), (2, 6, 0, .null, []), (3, 7, 0, .int 1, []), (17, 15, 0, .null, []), (1, 0, 2, .null, []), (18, 6, 19, .null, []), (1, 3, 0, .null, []), (1, 5, 0, .null, []), (21, 0, 0, .null, []), (1, 5, 0, .null, []), (1, 2, 0, .null, []), (16, 43, 0, .null, []), (0, 0, 0, .int 1, []), (17, 44, 0, .null, []), (0, 0, 0, .int 0, []), (2, 4, 0, .null, []), (1, 6, 0, .null, []), (2, 3, 0, .null, []), (17, 4, 0, .null, []), (26, 0, 0, .null, [])]
abbrev mX6_box : Nat := 95
def cd_X6_box : List pm_I := [(1, 1, 0, .null, []), (0, 0, 0, .int 1, []), (0, 0, 0, .int 12, []), (25, 69, 3, .null, []), (15, 10, 0, .null, []), (1, 2, 0, .null, []), (0, 0, 0, .int 1, []), (0, 0, 0, .int 12, []), (25, 69, 3, .null, []), (15, 12, 1, .null, []), (0, 0, 0, .int (-2), []), (26, 1, 0, .null, []), (1, 0, 2, .null, []), (1, 1, 0, .null, []), (19, 6, 9, .null, [0]), (1, 0, 2, .null, []), (1, 2, 0, .null, []), (19, 6, 10, .null, [0]), (1, 0, 2, .null, []), (0, 0, 0, .int 0, []), (19, 6, 11, .null, [0]), (1, 0, 2, .null, []), (0, 0, 0, .int 0, []), (19, 6, 15, .null, [3]), (1, 1, 0, .null, []), (1, 2, 0, .null, []), (4, 0, 2, .null, []), (26, 1, 0, .null, [])]
abbrev mX6_square : Nat := 96
def cd_X6_square : List pm_I := [(1, 1, 0, .null, []), (0, 0, 0, .int 1, []), (0, 0, 0, .int 12, []), (25, 69, 3, .null, []), (15, 7, 1, .null, []), (0, 0, 0, .int (-2), []), (26, 1, 0, .null, []), (1, 0, 2, .null, []), (18, 6, 11, .null, []), (0, 0, 0, .int 8, []), (16, 13, 1, .null, []), (0, 0, 0, .int (-4), []), (26, 1, 0, .null, []), (1, 0, 2, .null, []), (18, 6, 12, .null, []), (1, 0, 2, .null, []), (18, 6, 11, .null, []), (1, 1, 0, .null, []), (21, 0, 0, .null, []), (1, 0, 2, .null, []), (11, 0, 0, .null, []), (18, 6, 11, .null, []), (0, 0, 0, .int 1, []), (4, 0, 0, .null, []), (19, 6, 11, .null, [0]), (1, 0, 2, .null, []), (0, 0, 0, .int 0, []), (19, 6, 15, .null, [3]), (1, 0, 2, .null, []), (18, 6, 11, .null, []), (0, 0, 0, .int 1, []), (4, 0, 1, .null, []), (26, 1, 0, .null, [])]
abbrev mX6_drop : Nat := 97
def cd_X6_drop : List pm_I := [(1, 0, 2, .null, []), (18, 6, 11, .null, []), (15, 5, 1, .null, []), (0, 0, 0, .int (-3), []), (26, 1, 0, .null, []), (1, 0, 2, .null, []), (11, 0, 0, .null, []), (18, 6, 11, .null, []), (0, 0, 0, .int 1, []), (4, 0, 1, .null, []), (19, 6, 11, .null, [0]), (1, 0, 2, .null, []), (0, 0, 0, .int 0, []), (19, 6, 15, .null, [3]), (1, 0, 2, .null, []), (18, 6, 11, .null, []), (26, 1, 0, .null, [])]
abbrev mX6_isApart : Nat := 98
def cd_X6_isApart : List pm_I := [(1, 0, 2, .null, []), (18, 6, 13, .null, []), (1, 1, 0, .null, []), (20, 0, 0, .null, []), (1, 0, 2, .null, []), (18, 6, 13, .null, []), (1, 2, 0, .null, []), (20, 0, 0, .null, []), (1, 0, 2, .null, []), (18, 6, 12, .null, []), (1, 2, 0, .null, []), (20, 0, 0, .null, []), (4, 0, 0, .null, []), (16, 56, 3, .null, []), (1, 0, 2, .null, []), (18, 6, 13, .null, []), (1, 2, 0, .null, []), (20, 0, 0, .null, []), (1, 0, 2, .null, []), (18, 6, 13, .null, []), (1, 1, 0, .null, []), (20, 0, 0, .null, []), (1, 0, 2, .null, []), (18, 6, 12, .null, []), (1, 1, 0, .null, []), (20, 0, 0, .null, []), (4, 0, 0, .null, []), (16, 56, 3, .null, []), (1, 0, 2, .null, []), (18, 6, 14, .null, []), (1, 1, 0, .null, []), (20, 0, 0, .null, []), (1, 0, 2, .null, []), (18, 6, 14, .null, []), (1, 2, 0, .null, []), (20, 0, 0, .null, []), (1, 0, 2, .null, []), (18, 6, 12, .null, []), (1, 2, 0, .null, []), (20, 0, 0, .null, []), (4, 0, 0, .null, []), (16, 56, 3, .null, []), (1, 0, 2, .null, []), (18, 6, 14, .null, []), (1, 2, 0, .null, []), (20, 0, 0, .null, []), (1, 0, 2, .null, []), (18, 6, 14, .null, []), (1, 1, 0, .null, []), (20, 0, 0, .null, []), (1, 0, 2, .null, []), (18, 6, 12, .null, []), (1, 1, 0, .null, []), (20, 0, 0, .null, []), (4, 0, 0, .null, []), (16, 58, 2, .null, []), (0, 0, 0, .int 1, []), (17, 59, 0, .null, []), (0, 0, 0, .int 0, []), (26, 2, 0, .null, [])]
abbrev mX6_lies : Nat := 99
def cd_X6_lies : List pm_I := [(0, 0, 0, .int 1, []), (2, 2, 0, .null, []), (0, 0, 0, .int 0, []), (2, 3, 0, .null, []), (1, 3, 0, .null, []), (1, 1, 0, .null, []), (16, 20, 3, .null, []), (1, 2, 0, .null, []), (15, 16, 0, .null, []), (1, 0, 2, .null, []), (1, 1, 0, .null, []), (1, 3, 0, .null, []), (25, 98, 3, .null, [6]), (15, 16, 0, .null, []), (0, 0, 0, .int 1, []), (17, 17, 0, .null, []), (0, 0, 0, .int 0, []), (2, 2, 0, .null, []), (3, 3, 0, .int 1, []), (17, 4, 0, .null, []), (1, 2, 0, .null, []), (26, 2, 0, .null, [])]
abbrev mX6_goesOn : Nat := 100
def cd_X6_goesOn : List pm_I := [(1, 0, 2, .null, []), (18, 6, 9, .null, []), (1, 0, 2, .null, []), (18, 6, 12, .null, []), (1, 1, 0, .null, []), (20, 0, 0, .null, []), (4, 0, 1, .null, []), (2, 2, 0, .null, []), (1, 0, 2, .null, []), (18, 6, 10, .null, []), (1, 0, 2, .null, []), (18, 6, 12, .null, []), (1, 1, 0, .null, []), (20, 0, 0, .null, []), (4, 0, 1, .null, []), (2, 3, 0, .null, []), (1, 0, 2, .null, []), (18, 6, 13, .null, []), (1, 1, 0, .null, []), (13, 0, 0, .null, []), (20, 0, 0, .null, []), (0, 0, 0, .int 1, []), (4, 0, 0, .null, []), (21, 0, 0, .null, []), (1, 0, 2, .null, []), (18, 6, 13, .null, []), (1, 1, 0, .null, []), (20, 0, 0, .null, []), (1, 2, 0, .null, []), (16, 43, 5, .null, []), (1, 0, 2, .null, []), (18, 6, 13, .null, []), (1, 1, 0, .null, []), (0, 0, 0, .int 0, []), (21, 0, 0, .null, []), (1, 0, 2, .null, []), (18, 6, 14, .null, []), (1, 1, 0, .null, []), (13, 0, 0, .null, []), (20, 0, 0, .null, []), (0, 0, 0, .int 1, []), (4, 0, 0, .null, []), (21, 0, 0, .null, []), (1, 2, 0, .null, []), (15, 53, 2, .null, []), (1, 0, 2, .null, []), (18, 6, 14, .null, []), (1, 1, 0, .null, []), (20, 0, 0, .null, []), (1, 3, 0, .null, []), (16, 53, 4, .null, []), (0, 0, 0, .int 1, []), (17, 54, 0, .null, []), (0, 0, 0, .int 0, []), (26, 2, 0, .null, [])]
abbrev mX6_pack : Nat := 101
def cd_X6_pack : List pm_I := [(1, 1, 0, .null, []), (0, 0, 0, .int 0, []), (0, 0, 0, .int 100000, []), (25, 69, 3, .null, []), (15, 7, 1, .null, []), (0, 0, 0, .int (-2), []), (26, 1, 0, .null, []), (1, 0, 2, .null, []), (0, 0, 0, .int 0, []), (19, 6, 15, .null, [3]), (1, 0, 2, .null, []), (0, 0, 0, .int 0, []), (19, 6, 16, .null, [0]), (0, 0, 0, .int 0, []), (2, 2, 0, .null, []), (1, 0, 2, .null, []), (18, 6, 11, .null, []), (15, 28, 5, .null, []), (1, 0, 2, .null, []), (18, 6, 13, .null, []), (0, 0, 0, .int 0, []), (0, 0, 0, .int (-1), []), (21, 0, 0, .null, []), (1, 0, 2, .null, []), (18, 6, 14, .null, []), (0, 0, 0, .int 0, []), (0, 0, 0, .int 0, []), (21, 0, 0, .null, []), (1, 2, 0, .null, []), (15, 72, 2, .null, []), (1, 2, 0, .null, []), (1, 0, 2, .null, []), (18, 6, 11, .null, []), (16, 72, 3, .null, []), (1, 0, 2, .null, []), (1, 2, 0, .null, []), (25, 100, 2, .null, [6]), (15, 40, 1, .null, []), (3, 2, 0, .int (-1), []), (17, 28, 0, .null, []), (1, 0, 2, .null, []), (18, 6, 16, .null, []), (1, 1, 0, .null, []), (16, 46, 1, .null, []), (0, 0, 0, .int 2, []), (26, 1, 0, .null, []), (1, 0, 2, .null, []), (11, 0, 0, .null, []), (18, 6, 16, .null, []), (0, 0, 0, .int 1, []), (4, 0, 0, .null, []), (19, 6, 16, .null, [0]), (1, 0, 2, .null, []), (1, 2, 0, .null, []), (25, 99, 2, .null, [6]), (15, 28, 0, .null, []), (3, 2, 0, .int 1, []), (1, 2, 0, .null, []), (1, 0, 2, .null, []), (18, 6, 11, .null, []), (16, 28, 3, .null, []), (1, 0, 2, .null, []), (18, 6, 13, .null, []), (1, 2, 0, .null, []), (0, 0, 0, .int (-1), []), (21, 0, 0, .null, []), (1, 0, 2, .null, []), (18, 6, 14, .null, []), (1, 2, 0, .null, []), (0, 0, 0, .int 0, []), (21, 0, 0, .null, []), (17, 28, 0, .null, []), (1, 0, 2, .null, []), (1, 2, 0, .null, []), (15, 77, 2, .null, []), (0, 0, 0, .int 1, []), (17, 78, 0, .null, []), (0, 0, 0, .int 0, []), (19, 6, 15, .null, [3]), (1, 0, 2, .null, []), (18, 6, 15, .null, []), (15, 84, 0, .null, []), (0, 0, 0, .int 1, []), (17, 85, 0, .null, []), (0, 0, 0, .int 0, []), (26, 1, 0, .null, [])]
abbrev mX6_tried : Nat := 102
def cd_X6_tried : List pm_I := [(1, 0, 2, .null, []), (18, 6, 16, .null, []), (26, 1, 0, .null, [])]
abbrev mX6_place : Nat := 103
def cd_X6_place : List pm_I := [(1, 2, 0, .null, []), (0, 0, 0, .int 0, []), (0, 0, 0, .int 1, []), (25, 69, 3, .null, []), (15, 7, 1, .null, []), (0, 0, 0, .int (-2), []), (26, 1, 0, .null, []), (1, 0, 2, .null, []), (18, 6, 15, .null, []), (15, 18, 0, .null, []), (1, 1, 0, .null, []), (0, 0, 0, .int 0, []), (1, 0, 2, .null, []), (18, 6, 11, .null, []), (0, 0, 0, .int 1, []), (4, 0, 1, .null, []), (25, 69, 3, .null, []), (15, 20, 1, .null, []), (0, 0, 0, .int (-1), []), (26, 1, 0, .null, []), (1, 2, 0, .null, []), (15, 27, 1, .null, []), (1, 0, 2, .null, []), (18, 6, 13, .null, []), (1, 1, 0, .null, []), (20, 0, 0, .null, []), (17, 31, 0, .null, []), (1, 0, 2, .null, []), (18, 6, 14, .null, []), (1, 1, 0, .null, []), (20, 0, 0, .null, []), (26, 1, 0, .null, [])]
abbrev mX6_left : Nat := 104
def cd_X6_left : List pm_I := [(1, 0, 2, .null, []), (18, 6, 9, .null, []), (1, 0, 2, .null, []), (18, 6, 10, .null, []), (4, 0, 2, .null, []), (2, 1, 0, .null, []), (0, 0, 0, .int 0, []), (2, 2, 0, .null, []), (1, 2, 0, .null, []), (1, 0, 2, .null, []), (18, 6, 11, .null, []), (16, 26, 3, .null, []), (1, 1, 0, .null, []), (1, 0, 2, .null, []), (18, 6, 12, .null, []), (1, 2, 0, .null, []), (20, 0, 0, .null, []), (1, 0, 2, .null, []), (18, 6, 12, .null, []), (1, 2, 0, .null, []), (20, 0, 0, .null, []), (4, 0, 2, .null, []), (4, 0, 1, .null, []), (2, 1, 0, .null, []), (3, 2, 0, .int 1, []), (17, 8, 0, .null, []), (1, 1, 0, .null, []), (26, 1, 0, .null, [])]
abbrev mJ13_bitCount_95d88 : Nat := 105
def cd_J13_bitCount_95d88 : List pm_I := [(1, 0, 1, .null, []), (1, 0, 1, .null, []), (0, 0, 0, .int 1, []), (7, 0, 2, .null, []), (0, 0, 0, .long 6148914691236517205, []), (6, 0, 3, .null, []), (6, 0, 1, .null, []), (2, 0, 1, .null, []), (1, 0, 1, .null, []), (0, 0, 0, .long 3689348814741910323, []), (6, 0, 3, .null, []), (1, 0, 1, .null, []), (0, 0, 0, .int 2, []), (7, 0, 2, .null, []), (0, 0, 0, .long 3689348814741910323, []), (6, 0, 3, .null, []), (6, 0, 0, .null, []), (2, 0, 1, .null, []), (1, 0, 1, .null, []), (1, 0, 1, .null, []), (0, 0, 0, .int 4, []), (7, 0, 2, .null, []), (6, 0, 0, .null, []), (0, 0, 0, .long 1085102592571150095, []), (6, 0, 3, .null, []), (2, 0, 1, .null, []), (1, 0, 1, .null, []), (1, 0, 1, .null, []), (0, 0, 0, .int 8, []), (7, 0, 2, .null, []), (6, 0, 0, .null, []), (2, 0, 1, .null, []), (1, 0, 1, .null, []), (1, 0, 1, .null, []), (0, 0, 0, .int 16, []), (7, 0, 2, .null, []), (6, 0, 0, .null, []), (2, 0, 1, .null, []), (1, 0, 1, .null, []), (1, 0, 1, .null, []), (0, 0, 0, .int 32, []), (7, 0, 2, .null, []), (6, 0, 0, .null, []), (2, 0, 1, .null, []), (1, 0, 1, .null, []), (9, 0, 0, .null, []), (0, 0, 0, .int 127, []), (4, 0, 3, .null, []), (26, 1, 0, .null, [])]
abbrev mL_law : Nat := 106
def cd_L_law : List pm_I := [(23, 5, 0, .null, []), (11, 0, 0, .null, []), (25, 47, 1, .null, [5]), (2, 1, 2, .null, []), (23, 6, 0, .null, []), (11, 0, 0, .null, []), (25, 68, 1, .null, [6]), (2, 2, 2, .null, []), (0, 0, 0, .int 0, []), (2, 3, 0, .null, []), (1, 3, 0, .null, []), (1, 0, 2, .null, []), (22, 0, 0, .null, []), (0, 0, 0, .int 4, []), (4, 0, 1, .null, []), (16, 405, 4, .null, []), (1, 0, 2, .null, []), (1, 3, 0, .null, []), (20, 0, 0, .null, []), (0, 0, 0, .int 31, []), (4, 0, 3, .null, []), (29, 403, 0, .null, [22, 49, 94, 121, 148, 175, 192, 229, 256, 263, 280, 287, 294, 321, 338, 345, 362, 369, 396]), (1, 1, 2, .null, []), (1, 0, 2, .null, []), (1, 3, 0, .null, []), (0, 0, 0, .int 1, []), (4, 0, 0, .null, []), (20, 0, 0, .null, []), (1, 0, 2, .null, []), (1, 3, 0, .null, []), (0, 0, 0, .int 2, []), (4, 0, 0, .null, []), (20, 0, 0, .null, []), (25, 48, 3, .null, [5]), (1, 2, 2, .null, []), (1, 0, 2, .null, []), (1, 3, 0, .null, []), (0, 0, 0, .int 1, []), (4, 0, 0, .null, []), (20, 0, 0, .null, []), (1, 0, 2, .null, []), (1, 3, 0, .null, []), (0, 0, 0, .int 2, []), (4, 0, 0, .null, []), (20, 0, 0, .null, []), (25, 70, 3, .null, [6]), (16, 403, 0, .null, []), (0, 0, 0, .int 0, []), (26, 2, 0, .null, []), (1, 1, 2, .null, []), (1, 0, 2, .null, []), (1, 3, 0, .null, []), (0, 0, 0, .int 1, []), (4, 0, 0, .null, []), (20, 0, 0, .null, []), (1, 0, 2, .null, []), (1, 3, 0, .null, []), (0, 0, 0, .int 2, []), (4, 0, 0, .null, []), (20, 0, 0, .null, []), (1, 0, 2, .null, []), (1, 3, 0, .null, []), (0, 0, 0, .int 3, []), (4, 0, 0, .null, []), (20, 0, 0, .null, []), (15, 68, 0, .null, []), (0, 0, 0, .int 1, []), (17, 69, 0, .null, []), (0, 0, 0, .int 0, []), (25, 49, 4, .null, [5]), (1, 2, 2, .null, []), (1, 0, 2, .null, []), (1, 3, 0, .null, []), (0, 0, 0, .int 1, []), (4, 0, 0, .null, []), (20, 0, 0, .null, []), (1, 0, 2, .null, []), (1, 3, 0, .null, []), (0, 0, 0, .int 2, []), (4, 0, 0, .null, []), (20, 0, 0, .null, []), (1, 0, 2, .null, []), (1, 3, 0, .null, []), (0, 0, 0, .int 3, []), (4, 0, 0, .null, []), (20, 0, 0, .null, []), (15, 89, 0, .null, []), (0, 0, 0, .int 1, []), (17, 90, 0, .null, []), (0, 0, 0, .int 0, []), (25, 72, 4, .null, [6]), (16, 403, 0, .null, []), (0, 0, 0, .int 0, []), (26, 2, 0, .null, []), (1, 1, 2, .null, []), (1, 0, 2, .null, []), (1, 3, 0, .null, []), (0, 0, 0, .int 1, []), (4, 0, 0, .null, []), (20, 0, 0, .null, []), (1, 0, 2, .null, []), (1, 3, 0, .null, []), (0, 0, 0, .int 2, []), (4, 0, 0, .null, []), (20, 0, 0, .null, []), (25, 50, 3, .null, [5]), (1, 2, 2, .null, []), (1, 0, 2, .null, []), (1, 3, 0, .null, []), (0, 0, 0, .int 1, []), (4, 0, 0, .null, []), (20, 0, 0, .null, []), (1, 0, 2, .null, []), (1, 3, 0, .null, []), (0, 0, 0, .int 2, []), (4, 0, 0, .null, []), (20, 0, 0, .null, []), (25, 73, 3, .null, [6]), (16, 403, 0, .null, []), (0, 0, 0, .int 0, []), (26, 2, 0, .null, []), (1, 1, 2, .null, []), (1, 0, 2, .null, []), (1, 3, 0, .null, []), (0, 0, 0, .int 1, []), (4, 0, 0, .null, []), (20, 0, 0, .null, []), (1, 0, 2, .null, []), (1, 3, 0, .null, []), (0, 0, 0, .int 2, []), (4, 0, 0, .null, []), (20, 0, 0, .null, []), (25, 51, 3, .null, [5]), (1, 2, 2, .null, []), (1, 0, 2, .null, []), (1, 3, 0, .null, []), (0, 0, 0, .int 1, []), (4, 0, 0, .null, []), (20, 0, 0, .null, []), (1, 0, 2, .null, []), (1, 3, 0, .null, []), (0, 0, 0, .int 2, []), (4, 0, 0, .null, []), (20, 0, 0, .null, []), (25, 74, 3, .null, [6]), (16, 403, 0, .null, []), (0, 0, 0, .int 0, []), (26, 2, 0, .null, []), (1, 1, 2, .null, []), (1, 0, 2, .null, []), (1, 3, 0, .null, []), (0, 0, 0, .int 1, []), (4, 0, 0, .null, []), (20, 0, 0, .null, []), (1, 0, 2, .null, []), (1, 3, 0, .null, []), (0, 0, 0, .int 2, []), (4, 0, 0, .null, []), (20, 0, 0, .null, []), (25, 52, 3, .null, [5]), (1, 2, 2, .null, []), (1, 0, 2, .null, []), (1, 3, 0, .null, []), (0, 0, 0, .int 1, []), (4, 0, 0, .null, []), (20, 0, 0, .null, []), (1, 0, 2, .null, []), (1, 3, 0, .null, []), (0, 0, 0, .int 2, []), (4, 0, 0, .null, []), (20, 0, 0, .null, []), (25, 80, 3, .null, [6]), (16, 403, 0, .null, []), (0, 0, 0, .int 0, []), (26, 2, 0, .null, []), (1, 1, 2, .null, []), (1, 0, 2, .null, []), (1, 3, 0, .null, []), (0, 0, 0, .int 1, []), (4, 0, 0, .null, []), (20, 0, 0, .null, []), (25, 53, 2, .null, [5]), (1, 2, 2, .null, []), (1, 0, 2, .null, []), (1, 3, 0, .null, []), (0, 0, 0, .int 1, []), (4, 0, 0, .null, []), (20, 0, 0, .null, []), (25, 81, 2, .null, [6]), (16, 403, 0, .null, []), (0, 0, 0, .int 0, []), (26, 2, 0, .null, []), (1, 1, 2, .null, []), (1, 0, 2, .null, []), (1, 3, 0, .null, []), (0, 0, 0, .int 1, []), (4, 0, 0, .null, []), (20, 0, 0, .null, []), (1, 0, 2, .null, []), (1, 3, 0, .null, []), (0, 0, 0, .int 2, []), (4, 0, 0, .null, []), (20, 0, 0, .null, []), (1, 0, 2, .null, []), (1, 3, 0, .null, []), (0, 0, 0, .int 3, []), (4, 0, 0, .null, []), (20, 0, 0, .null, []), (25, 54, 4, .null, [5]), (1, 2, 2, .null, []), (1, 0, 2, .null, []), (1, 3, 0, .null, []), (0, 0, 0, .int 1, []), (4, 0, 0, .null, []), (20, 0, 0, .null, []), (1, 0, 2, .null, []), (1, 3, 0, .null, []), (0, 0, 0, .int 2, []), (4, 0, 0, .null, []), (20, 0, 0, .null, []), (1, 0, 2, .null, []), (1, 3, 0, .null, []), (0, 0, 0, .int 3, []), (4, 0, 0, .null, []), (20, 0, 0, .null, []), (25, 82, 4, .null, [6]), (16, 403, 0, .null, []), (0, 0, 0, .int 0, []), (26, 2, 0, .null, []), (1, 1, 2, .null, []), (1, 0, 2, .null, []), (1, 3, 0, .null, []), (0, 0, 0, .int 1, []), (4, 0, 0, .null, []), (20, 0, 0, .null, []), (1, 0, 2, .null, []), (1, 3, 0, .null, []), (0, 0, 0, .int 2, []), (4, 0, 0, .null, []), (20, 0, 0, .null, []), (25, 55, 3, .null, [5]), (1, 2, 2, .null, []), (1, 0, 2, .null, []), (1, 3, 0, .null, []), (0, 0, 0, .int 1, []), (4, 0, 0, .null, []), (20, 0, 0, .null, []), (1, 0, 2, .null, []), (1, 3, 0, .null, []), (0, 0, 0, .int 2, []), (4, 0, 0, .null, []), (20, 0, 0, .null, []), (25, 83, 3, .null, [6]), (16, 403, 0, .null, []), (0, 0, 0, .int 0, []), (26, 2, 0, .null, []), (1, 1, 2, .null, []), (25, 56, 1, .null, [5]), (1, 2, 2, .null, []), (25, 84, 1, .null, [6]), (16, 403, 0, .null, []), (0, 0, 0, .int 0, []), (26, 2, 0, .null, []), (1, 1, 2, .null, []), (1, 0, 2, .null, []), (1, 3, 0, .null, []), (0, 0, 0, .int 1, []), (4, 0, 0, .null, []), (20, 0, 0, .null, []), (25, 57, 2, .null, [5]), (1, 2, 2, .null, []), (1, 0, 2, .null, []), (1, 3, 0, .null, []), (0, 0, 0, .int 1, []), (4, 0, 0, .null, []), (20, 0, 0, .null, []), (25, 85, 2, .null, [6]), (16, 403, 0, .null, []), (0, 0, 0, .int 0, []), (26, 2, 0, .null, []), (1, 1, 2, .null, []), (25, 58, 1, .null, [5]), (1, 2, 2, .null, []), (25, 89, 1, .null, [6]), (16, 403, 0, .null, []), (0, 0, 0, .int 0, []), (26, 2, 0, .null, []), (1, 1, 2, .null, []), (25, 59, 1, .null, [5]), (1, 2, 2, .null, []), (25, 91, 1, .null, [6]), (16, 403, 0, .null, []), (0, 0, 0, .int 0, []), (26, 2, 0, .null, []), (1, 1, 2, .null, []), (1, 0, 2, .null, []), (1, 3, 0, .null, []), (0, 0, 0, .int 1, []), (4, 0, 0, .null, []), (20, 0, 0, .null, []), (1, 0, 2, .null, []), (1, 3, 0, .null, []), (0, 0, 0, .int 2, []), (4, 0, 0, .null, []), (20, 0, 0, .null, []), (25, 60, 3, .null, [5]), (1, 2, 2, .null, []), (1, 0, 2, .null, []), (1, 3, 0, .null, []), (0, 0, 0, .int 1, []), (4, 0, 0, .null, []), (20, 0, 0, .null, []), (1, 0, 2, .null, []), (1, 3, 0, .null, []), (0, 0, 0, .int 2, []), (4, 0, 0, .null, []), (20, 0, 0, .null, []), (25, 95, 3, .null, [6]), (16, 403, 0, .null, []), (0, 0, 0, .int 0, []), (26, 2, 0, .null, []), (1, 1, 2, .null, []), (1, 0, 2, .null, []), (1, 3, 0, .null, []), (0, 0, 0, .int 1, []), (4, 0, 0, .null, []), (20, 0, 0, .null, []), (25, 61, 2, .null, [5]), (1, 2, 2, .null, []), (1, 0, 2, .null, []), (1, 3, 0, .null, []), (0, 0, 0, .int 1, []), (4, 0, 0, .null, []), (20, 0, 0, .null, []), (25, 96, 2, .null, [6]), (16, 403, 0, .null, []), (0, 0, 0, .int 0, []), (26, 2, 0, .null, []), (1, 1, 2, .null, []), (25, 62, 1, .null, [5]), (1, 2, 2, .null, []), (25, 97, 1, .null, [6]), (16, 403, 0, .null, []), (0, 0, 0, .int 0, []), (26, 2, 0, .null, []), (1, 1, 2, .null, []), (1, 0, 2, .null, []), (1, 3, 0, .null, []), (0, 0, 0, .int 1, []), (4, 0, 0, .null, []), (20, 0, 0, .null, []), (25, 63, 2, .null, [5]), (1, 2, 2, .null, []), (1, 0, 2, .null, []), (1, 3, 0, .null, []), (0, 0, 0, .int 1, []), (4, 0, 0, .null, []), (20, 0, 0, .null, []), (25, 101, 2, .null, [6]), (16, 403, 0, .null, []), (0, 0, 0, .int 0, []), (26, 2, 0, .null, []), (1, 1, 2, .null, []), (25, 64, 1, .null, [5]), (1, 2, 2, .null, []), (25, 102, 1, .null, [6]), (16, 403, 0, .null, []), (0, 0, 0, .int 0, []), (26, 2, 0, .null, []), (1, 1, 2, .null, []), (1, 0, 2, .null, []), (1, 3, 0, .null, []), (0, 0, 0, .int 1, []), (4, 0, 0, .null, []), (20, 0, 0, .null, []), (1, 0, 2, .null, []), (1, 3, 0, .null, []), (0, 0, 0, .int 2, []), (4, 0, 0, .null, []), (20, 0, 0, .null, []), (25, 65, 3, .null, [5]), (1, 2, 2, .null, []), (1, 0, 2, .null, []), (1, 3, 0, .null, []), (0, 0, 0, .int 1, []), (4, 0, 0, .null, []), (20, 0, 0, .null, []), (1, 0, 2, .null, []), (1, 3, 0, .null, []), (0, 0, 0, .int 2, []), (4, 0, 0, .null, []), (20, 0, 0, .null, []), (25, 103, 3, .null, [6]), (16, 403, 0, .null, []), (0, 0, 0, .int 0, []), (26, 2, 0, .null, []), (1, 1, 2, .null, []), (25, 66, 1, .null, [5]), (1, 2, 2, .null, []), (25, 104, 1, .null, [6]), (16, 403, 0, .null, []), (0, 0, 0, .int 0, []), (26, 2, 0, .null, []), (3, 3, 0, .int 4, []), (17, 10, 0, .null, []), (0, 0, 0, .int 1, []), (26, 2, 0, .null, [])]
def pm_cd (mi : Nat) : List pm_I := match mi with
  | 0 => cd_X0_init
  | 1 => cd_X0_clear
  | 2 => cd_X0_append
  | 3 => cd_X0_removeLast
  | 4 => cd_X0_countLeft
  | 5 => cd_X0_fill
  | 6 => cd_X0_layAll
  | 7 => cd_X0_emptyBox
  | 8 => cd_X0_startOver
  | 9 => cd_X0_hasPlace
  | 10 => cd_X0_goOn
  | 11 => cd_X0_tryPlace
  | 12 => cd_X0_breadthOf
  | 13 => cd_X0_isFree
  | 14 => cd_X0_layOrLift
  | 15 => cd_X1_init
  | 16 => cd_X1_clear
  | 17 => cd_X1_holds
  | 18 => cd_X1_numberOf
  | 19 => cd_X1_along
  | 20 => cd_X1_numberRuns
  | 21 => cd_X1_numberCell
  | 22 => cd_X1_changeWall
  | 23 => cd_X1_changeGuard
  | 24 => cd_X1_isSeen
  | 25 => cd_X1_kindOf
  | 26 => cd_X1_sightFrom
  | 27 => cd_X1_countSeen
  | 28 => cd_X1_findMissed
  | 29 => cd_X1_leastMore
  | 30 => cd_X1_mostPeaceful
  | 31 => cd_X2_init
  | 32 => cd_X2_most
  | 33 => cd_X2_findPair
  | 34 => cd_X2_pairBack
  | 35 => cd_X3_init
  | 36 => cd_X3_clear
  | 37 => cd_X3_takeShut
  | 38 => cd_X3_takeOpen
  | 39 => cd_X3_addGuards
  | 40 => cd_X3_isWatched
  | 41 => cd_X3_lengthAt
  | 42 => cd_X3_cellOf
  | 43 => cd_X4_init
  | 44 => cd_X4_leastGuards
  | 45 => cd_X4_findUnseenFar
  | 46 => cd_X4_choose
  | 47 => cd_X5_init
  | 48 => cd_X5_hall
  | 49 => cd_X5_wall
  | 50 => cd_X5_guard
  | 51 => cd_X5_leave
  | 52 => cd_X5_cell
  | 53 => cd_X5_runs
  | 54 => cd_X5_run
  | 55 => cd_X5_sees
  | 56 => cd_X5_seen
  | 57 => cd_X5_missed
  | 58 => cd_X5_more
  | 59 => cd_X5_peace
  | 60 => cd_X5_box
  | 61 => cd_X5_square
  | 62 => cd_X5_drop
  | 63 => cd_X5_pack
  | 64 => cd_X5_tried
  | 65 => cd_X5_place
  | 66 => cd_X5_left
  | 67 => cd_X5_isWithin
  | 68 => cd_X6_init
  | 69 => cd_X6_within
  | 70 => cd_X6_hall
  | 71 => cd_X6_isCell
  | 72 => cd_X6_wall
  | 73 => cd_X6_guard
  | 74 => cd_X6_leave
  | 75 => cd_X6_isOpen
  | 76 => cd_X6_part
  | 77 => cd_X6_partCell
  | 78 => cd_X6_isTouched
  | 79 => cd_X6_isSeen
  | 80 => cd_X6_cell
  | 81 => cd_X6_runs
  | 82 => cd_X6_run
  | 83 => cd_X6_sees
  | 84 => cd_X6_seen
  | 85 => cd_X6_missed
  | 86 => cd_X6_count
  | 87 => cd_X6_cross
  | 88 => cd_X6_touched
  | 89 => cd_X6_more
  | 90 => cd_X6_most
  | 91 => cd_X6_peace
  | 92 => cd_X6_doCross
  | 93 => cd_X6_finds
  | 94 => cd_X6_turn
  | 95 => cd_X6_box
  | 96 => cd_X6_square
  | 97 => cd_X6_drop
  | 98 => cd_X6_isApart
  | 99 => cd_X6_lies
  | 100 => cd_X6_goesOn
  | 101 => cd_X6_pack
  | 102 => cd_X6_tried
  | 103 => cd_X6_place
  | 104 => cd_X6_left
  | 105 => cd_J13_bitCount_95d88
  | _ => cd_L_law
def pm_pcs (mi : Nat) : List Nat := match mi with
  | 0 => [0, 1, 4, 5, 7, 9, 12, 13, 15, 17, 20, 21, 23, 25, 28, 29, 31, 33, 36, 37, 38, 39, 42, 43]
  | 1 => [0, 1, 2, 5, 6, 7, 10, 11, 12, 15, 16, 17, 20, 21]
  | 2 => [0, 1, 2, 5, 6, 9, 10, 13, 14, 15, 16, 17, 20, 21, 22, 23, 26, 27]
  | 3 => [0, 1, 2, 5, 6, 7, 10, 11, 12, 13, 16, 17]
  | 4 => [0, 1, 4, 5, 8, 9, 10, 11, 12, 13, 14, 17, 20, 21, 22, 25, 26, 27, 28, 31, 32, 33, 34, 35, 36, 39, 42, 43, 44]
  | 5 => [0, 1, 2, 5, 6, 7, 10, 11, 12, 13, 14, 17, 18, 21, 22, 25, 26, 27]
  | 6 => [0, 1, 4, 5, 6, 7, 8, 9, 11, 14, 15, 16, 19, 22, 23, 24, 25, 26, 29, 32, 33, 36, 37, 38, 41, 42, 43, 46, 47, 48, 51, 54, 55, 58, 59, 62, 63, 64, 65, 66, 69, 72, 75, 78, 79, 80, 83, 86, 89, 90, 91]
  | 7 => [0, 1, 2, 3, 5, 8, 9, 12, 13, 14, 15, 18, 21, 22, 23, 26, 27]
  | 8 => [0, 1, 3, 6, 7, 10, 11, 12, 13, 14, 17, 18, 19, 20, 21]
  | 9 => [0, 1, 4, 5, 6, 7, 10, 11, 12, 13, 14, 17, 20, 21, 24, 25, 26, 27, 30, 31, 32, 33, 34, 37, 40, 41, 44, 45, 46]
  | 10 => [0, 1, 4, 5, 6, 7, 8, 9, 10, 11, 14, 15, 16, 17, 20, 21, 22, 23, 24, 27, 30, 31, 34, 35, 36, 37, 38, 41, 42, 43, 44, 45, 46, 47, 48]
  | 11 => [0, 1, 2, 5, 6, 7, 10, 11, 12, 15, 18, 19, 20, 21, 22, 25, 26, 27, 28, 29, 32, 33, 34]
  | 12 => [0, 1, 2, 5, 6, 7, 8, 9, 10, 11, 14, 15, 16, 17, 18]
  | 13 => [0, 1, 2, 5, 6, 7, 10, 11, 12, 13, 16, 17, 18, 19, 21, 24, 25, 26, 29, 30, 31, 33, 35, 36, 39, 40, 43, 45, 46, 47, 48, 51, 52, 53, 56, 59, 60, 61]
  | 14 => [0, 1, 2, 5, 6, 7, 10, 11, 12, 13, 16, 17, 18, 19, 21, 24, 25, 26, 29, 30, 31, 33, 35, 36, 39, 40, 43, 45, 46, 47, 48, 49, 50, 53, 56, 57]
  | 15 => [0, 1, 4, 5, 7, 9, 12, 13, 15, 17, 20, 21, 24, 25, 28, 31, 32, 35, 36, 39, 42, 43, 46, 47, 50, 53, 54, 57, 58, 59, 62, 65, 68, 69, 70, 71, 74, 75]
  | 16 => [0, 1, 2, 5, 6, 7, 10, 11, 12, 15, 16, 17, 18, 20, 23, 24, 27, 28, 29, 30, 31, 34, 35, 36, 37, 40, 43, 44, 47, 48]
  | 17 => [0, 1, 2, 3, 6, 7, 8, 11, 14, 15, 16, 17, 20, 21, 22, 25, 28, 29, 32, 33, 34]
  | 18 => [0, 1, 2, 5, 6, 7, 8, 9]
  | 19 => [0, 1, 4, 5, 8, 11, 12, 15, 16]
  | 20 => [0, 1, 4, 5, 8, 9, 12, 13, 16, 19, 20, 21, 22, 23, 26, 29, 30, 31, 32, 33, 36, 39, 40, 41, 42, 45, 48, 51, 54, 57, 58]
  | 21 => [0, 1, 2, 3, 6, 7, 8, 11, 12, 13, 16, 17, 20, 21, 24, 25, 28, 29, 32, 33, 34, 37, 38, 39, 42, 43, 46, 47, 50, 51, 54, 55, 56, 59, 60, 63, 64, 67, 68, 71, 72, 73, 76, 77, 80, 81, 82, 85, 86, 89, 90, 91, 94, 95]
  | 22 => [0, 1, 4, 5, 6, 7, 10, 11, 12, 13, 16, 17, 18, 19, 20, 23, 24, 25]
  | 23 => [0, 1, 4, 5, 8, 9, 10, 11, 14, 15, 16, 17, 18, 21, 22, 23, 26, 27, 30, 31, 32, 35, 36, 37, 40, 41, 42, 45, 46, 49, 50]
  | 24 => [0, 1, 4, 5, 8, 11, 12, 15, 16, 19, 22, 23, 26, 27, 28]
  | 25 => [0, 1, 4, 5, 6, 9, 10, 11, 12, 15, 16, 17, 20, 21, 22, 23, 24, 27, 30, 31, 34, 35, 36]
  | 26 => [0, 1, 4, 5, 6, 9, 10, 13, 14, 17, 18, 21, 22, 25, 26, 27, 28, 31, 32, 33]
  | 27 => [0, 1, 2, 3, 4, 5, 6, 9, 10, 13, 14, 17, 18, 19, 22, 25, 28, 31, 34, 35, 36]
  | 28 => [0, 1, 2, 3, 4, 5, 6, 9, 10, 13, 14, 17, 18, 21, 22, 23, 26, 27, 28, 31, 34, 35, 36, 39, 40, 41, 44, 47, 50, 51, 52]
  | 29 => [0, 1, 4, 7, 8, 11, 14, 17, 18, 21, 22, 23, 24, 27, 28, 31, 34, 35, 38, 39, 40, 43, 44, 47, 50, 51, 54, 55, 56, 59, 61, 64, 66, 69, 70, 73, 74, 75, 78, 79]
  | 30 => [0, 1, 4, 5, 8, 9, 12, 15, 18, 21, 22]
  | 31 => [0, 1, 4, 5, 7, 9, 12, 13, 15, 17, 20, 21, 23, 25, 28, 29, 31, 33, 36, 37]
  | 32 => [0, 1, 2, 5, 6, 7, 10, 11, 13, 15, 17, 20, 21, 24, 26, 27, 28, 29, 32, 34, 35, 36, 39, 42, 43, 45, 46, 48, 50, 51, 54, 57, 60, 61, 63, 64, 65, 66, 67, 68, 71, 72, 74, 76, 79, 82, 85, 88, 91, 93, 94]
  | 33 => [0, 1, 3, 4, 6, 7, 10, 11, 12, 13, 14, 16, 18, 20, 23, 24, 27, 29, 30, 32, 33, 35, 37, 38, 41, 44, 46, 47, 50, 51, 54, 57, 58, 61, 63, 65, 68, 69, 71, 73, 74, 77, 79, 81, 82, 83, 84, 85, 86, 89, 92, 94, 95, 97, 98, 101, 102, 103, 105, 106, 109, 111, 113, 114, 115, 118, 120, 121, 122, 125, 126, 128, 131, 132, 133, 135, 137, 140, 141, 144, 146, 149, 150, 153, 155, 156, 157, 160, 163, 166, 169, 170, 171]
  | 34 => [0, 1, 2, 3, 4, 5, 7, 10, 11, 12, 15, 16, 19, 20, 21, 23, 24, 27, 29, 30, 32, 33, 36, 38, 39, 40, 41, 44, 45, 47, 48, 50, 51, 54, 57, 58]
  | 35 => [0, 1, 4, 5, 7, 9, 12, 13, 15, 17, 20, 21, 23, 25, 28, 29, 31, 33, 36, 37]
  | 36 => [0, 1, 2, 5, 6, 7, 10, 11]
  | 37 => [0, 1, 4, 5, 6, 7, 8]
  | 38 => [0, 1, 4, 5, 8, 9, 12, 13, 14, 17, 18, 19, 20, 21, 22, 25, 26, 27, 30, 31, 32, 33, 36, 37, 38, 41, 42, 43, 44, 45, 48, 49, 50, 51, 52, 55, 56, 57, 58, 59, 62, 63, 64, 65, 66, 69, 70, 71, 72, 73, 74, 75, 76]
  | 39 => [0, 1, 4, 5, 6, 7, 8, 9, 12, 13, 16, 17, 18, 19, 20, 21, 22, 23]
  | 40 => [0, 1, 4, 5, 6, 7, 8, 9, 12, 13, 16, 17, 18, 21, 22, 25, 26, 27]
  | 41 => [0, 1, 4, 5, 6, 7, 8, 9, 12, 13, 16, 17, 20, 21, 22, 23]
  | 42 => [0, 1, 4, 5, 6, 7, 8, 11, 12, 13, 14]
  | 43 => [0, 1, 4, 5, 7, 9, 12, 13, 14, 17, 18]
  | 44 => [0, 1, 2, 5, 6, 7, 10, 11, 12, 15, 16, 17, 18, 19, 22, 25, 28, 29, 31, 34, 35, 38, 39, 40, 41, 44, 45, 46, 49, 50, 51, 52, 53, 56, 57, 58, 61, 62, 63, 66, 69, 72, 73, 74, 75, 76, 79, 80, 83, 84]
  | 45 => [0, 1, 2, 3, 6, 9, 10, 11, 14, 15, 16, 17, 19, 21, 22, 25, 28, 29, 30, 33, 34, 37, 40, 41, 44, 45, 47, 50, 51, 53, 55, 56, 59, 60, 63, 66, 68, 69, 72, 73, 74, 76, 77, 78, 79, 82, 85, 86, 87]
  | 46 => [0, 1, 4, 6, 8, 11, 13, 15, 16, 19, 22, 24, 25, 28, 31, 32, 33, 34, 37, 40, 43, 44, 46, 49, 51, 53, 54, 55, 58, 59, 62, 63, 66, 67, 69, 72, 73, 75, 76, 77, 80, 82, 85, 88, 89, 91, 92, 95, 96, 97, 98, 100, 101, 102, 103, 104, 105, 107, 110, 112, 114, 115, 118, 119, 120, 121, 122, 123, 124, 125, 126, 127, 129, 132, 133]
  | 47 => [0, 1, 4, 5, 8, 9, 12, 15, 16, 19, 20, 23, 26, 27]
  | 48 => [0, 1, 2, 4, 7, 10, 11, 12, 14, 17, 20, 22, 23, 24, 27, 28, 29, 32, 33, 34, 35, 36]
  | 49 => [0, 1, 4, 5, 6, 9, 12, 14, 15, 16, 19, 20, 21, 24, 26, 27, 30, 33, 35, 36, 39, 41, 42, 43, 46, 48, 49, 52, 55, 56, 59, 60, 61]
  | 50 => [0, 1, 4, 5, 6, 9, 12, 14, 15, 16, 19, 20, 21, 24, 25, 26, 29, 32, 33, 34, 37, 38, 41, 44, 45, 46, 49, 51, 52, 53, 56, 57, 58, 61, 62]
  | 51 => [0, 1, 4, 5, 6, 9, 12, 14, 15, 16, 19, 20, 21, 24, 25, 26, 29, 32, 33, 34, 37, 39, 40, 41, 44, 45, 46, 49, 50]
  | 52 => [0, 1, 4, 5, 6, 9, 12, 14, 15, 16, 19, 20, 23, 24, 25, 28, 31, 32]
  | 53 => [0, 1, 2, 3, 6, 9, 11, 12, 13, 16, 17, 20, 23, 24]
  | 54 => [0, 1, 4, 5, 6, 9, 12, 13, 14, 15, 18, 21, 23, 24, 25, 28, 29, 32, 35, 36, 39, 40, 41, 44, 45, 46]
  | 55 => [0, 1, 4, 5, 6, 9, 12, 14, 15, 16, 19, 20, 23, 24, 25, 28, 31, 32]
  | 56 => [0, 1, 4, 7, 8]
  | 57 => [0, 1, 4, 5, 8, 9]
  | 58 => [0, 1, 4, 7, 8]
  | 59 => [0, 1, 4, 7, 8]
  | 60 => [0, 1, 2, 4, 7, 10, 11, 12, 14, 17, 20, 22, 23, 24, 27, 28, 29, 32, 33, 34, 35, 36]
  | 61 => [0, 1, 2, 4, 7, 10, 12, 13, 14, 17, 20, 22, 25, 27, 28, 29, 32, 33, 36, 37]
  | 62 => [0, 1, 4, 7, 10, 12, 13, 14, 17, 20, 21]
  | 63 => [0, 1, 2, 4, 7, 10, 12, 13, 14, 17, 18, 21, 22]
  | 64 => [0, 1, 4, 7, 8]
  | 65 => [0, 1, 2, 3, 6, 9, 11, 12, 13, 16, 19, 22, 23, 24, 25, 28, 31, 32, 33, 36, 39, 40, 41, 42, 45, 46, 49, 52, 53, 54, 57, 58, 61, 64, 65, 66, 67]
  | 66 => [0, 1, 4, 7, 8]
  | 67 => [0, 1, 2, 5, 6, 7, 10, 11, 14, 15, 16]
  | 68 => [0, 1, 4, 5, 6, 9, 10, 11, 14, 15, 17, 19, 22, 23, 25, 27, 30, 31, 34, 36, 39, 40, 41, 43, 46, 47, 49, 51, 54, 55, 56, 59, 60, 61, 64, 65, 67, 69, 72, 73, 75, 77, 80, 81, 83, 85, 88, 89, 92, 94, 97, 98, 101, 103, 106, 107, 109, 111, 114, 115, 117, 119, 122, 123, 125, 127, 130, 131, 132, 133, 136, 139, 140, 143, 144, 145, 148, 149, 150, 151, 152, 153, 154, 155, 156, 157, 160, 163, 164]
  | 69 => [0, 1, 2, 5, 6, 7, 10, 11, 14, 15, 16]
  | 70 => [0, 1, 2, 4, 7, 10, 11, 12, 14, 17, 20, 22, 23, 24, 25, 28, 29, 30, 33, 34, 35, 38, 39, 40, 41, 43, 46, 47, 50, 51, 52, 53, 54, 57, 58, 59, 60, 63, 66, 67, 68, 71, 72, 73, 74, 75]
  | 71 => [0, 1, 2, 3, 6, 7, 8, 11, 14, 15, 16, 17, 20, 21, 22, 25, 28, 29, 32, 33, 34]
  | 72 => [0, 1, 2, 3, 6, 9, 11, 12, 13, 14, 17, 18, 19, 20, 22, 23, 26, 28, 29, 32, 34, 35, 36, 39, 41, 42, 43, 46, 47, 50, 51, 53, 54, 57, 59, 60, 63, 64, 67, 68, 69, 70, 71, 74, 76, 77]
  | 73 => [0, 1, 2, 3, 6, 9, 11, 12, 13, 14, 17, 18, 19, 20, 21, 22, 25, 26, 27, 30, 31, 34, 35, 36, 39, 41, 42, 43, 46, 47, 48, 49, 50, 51, 54, 55, 56, 59, 60, 63, 64]
  | 74 => [0, 1, 2, 3, 6, 9, 11, 12, 13, 14, 17, 18, 19, 20, 21, 22, 25, 26, 27, 30, 32, 33, 34, 37, 38, 39, 40, 41, 42, 45, 46, 47, 50, 51, 54, 55]
  | 75 => [0, 1, 2, 3, 6, 9, 10, 13, 14, 15, 18, 19, 20, 21, 22, 25, 26, 29, 30, 31]
  | 76 => [0, 1, 4, 7, 8, 9, 10, 13, 14, 17, 18, 19, 20, 21, 24, 25, 26, 27, 28, 29, 30, 32, 35, 36, 39, 40, 41, 42, 45, 48, 49, 50, 51, 52, 55, 58, 59, 60, 61, 62, 65, 68, 69, 70, 71, 72, 75, 76, 77, 78, 79, 82, 85, 88, 91, 94, 97, 100, 101]
  | 77 => [0, 1, 2, 5, 6, 7, 8, 10, 11, 13, 14, 17, 19, 20, 23, 24, 27, 28, 29, 30, 31, 32, 35, 38, 39, 40, 41, 42, 43, 46, 48, 50, 53, 54, 57, 59, 60, 61, 62, 65, 67, 68, 69, 72, 74, 75, 78, 79, 80, 81, 83, 86, 87, 90, 91, 92, 94, 95, 98, 99, 100, 101, 102, 103, 104, 105, 108, 110, 111, 112, 114, 115, 116, 117, 118, 119, 120, 121, 124, 126, 127, 128, 130, 131, 133, 134, 135]
  | 78 => [0, 1, 2, 3, 5, 7, 8, 11, 12, 15, 16, 19, 20, 23, 24, 27, 29, 30, 33, 34, 37, 39, 40, 41, 43, 44, 45, 46, 49, 50, 53, 54, 55, 58, 61, 62, 63]
  | 79 => [0, 1, 4, 5, 6, 9, 10, 11, 12, 15, 16, 17, 20, 23, 24, 25, 26, 29, 31, 32, 33, 34, 37, 40, 41, 44, 45, 46]
  | 80 => [0, 1, 2, 3, 6, 9, 11, 12, 13, 16, 17, 18, 21, 22, 23, 24, 25, 26, 29, 30, 31, 34, 35, 36, 37, 40, 41, 42, 45, 46, 49, 50, 51, 54, 57, 58, 61, 62, 63]
  | 81 => [0, 1, 2, 3, 6, 9, 11, 12, 13, 16, 17, 20, 21, 22, 23]
  | 82 => [0, 1, 2, 3, 6, 9, 10, 11, 12, 15, 18, 20, 21, 22, 25, 26, 29, 31, 32, 33, 34, 35, 38, 39, 40, 41, 42, 43, 44]
  | 83 => [0, 1, 2, 3, 6, 9, 11, 12, 13, 16, 17, 18, 21, 22, 23, 24, 25, 26, 29, 30, 31, 34, 35, 38, 39, 42, 43, 46, 47, 48, 49, 50, 53, 55, 56, 59, 61, 62, 63, 64, 65, 66, 67, 68, 69, 70]
  | 84 => [0, 1, 4, 5, 6, 7, 8, 9, 10, 13, 14, 17, 18, 21, 22, 23, 24, 27, 30, 31, 34, 35, 36, 37, 40, 43, 44, 45]
  | 85 => [0, 1, 4, 5, 6, 7, 8, 9, 10, 13, 14, 17, 18, 21, 22, 25, 26, 27, 30, 31, 32, 35, 38, 39, 40, 43, 44, 45, 48, 51, 54, 55, 56]
  | 86 => [0, 1, 2, 3, 5, 7, 8, 9, 12, 13, 14, 17, 19, 22, 23, 24, 25, 26, 27, 29, 31, 32, 34, 37, 38, 39]
  | 87 => [0, 1, 4, 5, 6, 7, 8, 9, 10, 11, 14, 15, 16, 19, 20, 21, 22, 24, 26, 27, 30, 31, 34, 35, 38, 39, 42, 44, 45, 46, 48, 49, 50, 51, 54, 55, 56, 57, 60, 62, 63, 64, 65, 66, 68, 69, 70, 71, 72, 73, 76, 79, 80, 82, 84, 85, 86, 87, 90, 91, 94, 96, 97, 98, 99, 100, 101, 104, 106, 107, 108, 109, 110, 113, 116, 119, 122, 123]
  | 88 => [0, 1, 2, 3, 5, 7, 8, 11, 12, 15, 16, 19, 20, 23, 25, 26, 29, 30, 31, 32, 35, 37, 38, 39, 41, 42, 43, 44, 45, 46, 49, 52, 53, 54]
  | 89 => [0, 1, 4, 5, 8, 9, 10, 12, 15, 16, 19, 20, 21, 22, 25, 26, 27, 29, 32, 34, 35, 36, 37, 40, 41, 42, 45, 46, 47, 48, 49, 50, 51, 52, 53, 56, 57, 58, 59, 60, 61, 62, 65, 67, 68, 70, 71, 73, 75, 76, 79, 81, 82, 83, 84, 87, 88, 91, 92, 94, 95, 96, 97, 98, 100, 103, 104, 105, 107, 109, 110, 113, 115, 116, 119, 120, 121, 122, 123, 126, 127, 129, 132, 133, 135, 136, 137, 138, 139, 141, 144, 145, 147, 149, 150, 153, 155, 157, 160, 162, 165, 167, 169, 172, 175, 177, 178]
  | 90 => [0, 1, 3, 4, 6, 8, 11, 12, 14, 15, 18, 19, 20, 23, 25, 26, 27, 28, 31, 32, 34, 36, 38, 41, 43, 46, 48, 50, 52, 53, 54, 55, 56, 58, 61, 63, 64]
  | 91 => [0, 1, 4, 5, 6, 7, 9, 12, 13, 16, 17, 18, 19, 22, 25, 26, 27, 28, 29, 30, 31, 34, 35, 36, 39, 40, 41, 42, 45, 48, 49, 52, 53, 54, 55, 58, 61, 62, 63]
  | 92 => [0, 1, 2, 3, 5, 7, 8, 11, 12, 15, 16, 19, 20, 23, 24, 27, 29, 30, 31, 34, 35, 38, 40, 42, 43, 44, 45, 48, 49, 52, 53, 54, 57, 60, 61, 62]
  | 93 => [0, 1, 2, 3, 5, 8, 9, 12, 13, 14, 15, 18, 21, 22, 23, 24, 27, 28, 29, 30, 31, 32, 33, 34, 37, 38, 41, 42, 43, 45, 46, 48, 50, 51, 54, 55, 56, 59, 60, 63, 65, 66, 67, 70, 71, 73, 75, 78, 81, 82, 85, 87, 89, 90, 91, 94, 96, 97, 98, 101, 102, 104, 105, 108, 109, 110, 111, 114, 115, 116, 119, 121, 122, 123, 126, 129, 132, 135, 138, 139, 140]
  | 94 => [0, 1, 2, 3, 5, 7, 10, 11, 14, 15, 16, 18, 19, 21, 22, 24, 26, 27, 30, 31, 32, 35, 36, 39, 41, 42, 44, 47, 49, 52, 54, 56, 59, 62, 63, 66, 67, 69, 70, 72, 73, 76, 77, 80, 81, 83, 85, 86, 89, 90]
  | 95 => [0, 1, 2, 4, 7, 10, 11, 12, 14, 17, 20, 22, 23, 24, 25, 28, 29, 30, 33, 34, 35, 38, 39, 40, 43, 44, 45, 46, 47]
  | 96 => [0, 1, 2, 4, 7, 10, 12, 13, 14, 17, 19, 22, 24, 25, 26, 29, 30, 33, 34, 35, 36, 37, 40, 41, 42, 45, 46, 47, 50, 51, 54, 55, 56, 57]
  | 97 => [0, 1, 4, 7, 9, 10, 11, 12, 15, 16, 17, 20, 21, 22, 25, 26, 29, 30]
  | 98 => [0, 1, 4, 5, 6, 7, 10, 11, 12, 13, 16, 17, 18, 19, 22, 23, 26, 27, 28, 29, 32, 33, 34, 35, 38, 39, 40, 41, 44, 45, 48, 49, 50, 51, 54, 55, 56, 57, 60, 61, 62, 63, 66, 67, 70, 71, 72, 73, 76, 77, 78, 79, 82, 83, 84, 85, 88, 89, 92, 93, 94]
  | 99 => [0, 1, 2, 3, 4, 5, 6, 9, 10, 13, 14, 15, 16, 19, 22, 23, 26, 27, 28, 31, 34, 35, 36]
  | 100 => [0, 1, 4, 5, 8, 9, 10, 11, 12, 13, 16, 17, 20, 21, 22, 23, 24, 25, 28, 29, 30, 31, 32, 33, 34, 35, 38, 39, 40, 41, 44, 45, 48, 49, 50, 51, 52, 55, 56, 57, 58, 59, 60, 61, 62, 65, 66, 69, 70, 71, 72, 75, 76, 79, 80, 81]
  | 101 => [0, 1, 2, 4, 7, 10, 12, 13, 14, 15, 18, 19, 20, 23, 24, 25, 26, 29, 32, 33, 36, 37, 38, 39, 40, 43, 44, 45, 46, 47, 50, 51, 52, 55, 58, 59, 60, 63, 66, 69, 72, 73, 76, 77, 80, 81, 82, 83, 84, 87, 88, 89, 92, 93, 94, 97, 100, 103, 104, 105, 108, 111, 112, 115, 116, 117, 118, 119, 122, 123, 124, 125, 128, 129, 130, 133, 134, 137, 138, 141, 142, 145, 148, 149, 152, 153, 154]
  | 102 => [0, 1, 4, 5]
  | 103 => [0, 1, 2, 3, 6, 9, 11, 12, 13, 16, 19, 20, 21, 22, 25, 26, 27, 30, 33, 34, 35, 36, 39, 40, 43, 44, 45, 48, 49, 52, 53, 54, 55]
  | 104 => [0, 1, 4, 5, 8, 9, 10, 11, 12, 13, 14, 17, 20, 21, 22, 25, 26, 27, 28, 31, 32, 33, 34, 35, 36, 39, 42, 43, 44]
  | 105 => [0, 1, 2, 3, 4, 7, 8, 9, 10, 11, 14, 15, 16, 17, 18, 21, 22, 23, 24, 25, 26, 27, 28, 29, 32, 33, 34, 35, 36, 38, 39, 40, 41, 42, 43, 45, 46, 47, 48, 49, 50, 52, 53, 54, 55, 56, 57, 59, 60, 61]
  | _ => [0, 3, 4, 7, 8, 11, 12, 15, 16, 17, 18, 19, 20, 21, 22, 23, 26, 27, 28, 29, 31, 32, 124, 125, 126, 127, 128, 129, 130, 131, 132, 133, 134, 135, 138, 139, 140, 141, 142, 143, 144, 145, 146, 147, 148, 149, 152, 155, 156, 157, 158, 159, 160, 161, 162, 163, 164, 165, 166, 167, 168, 169, 170, 171, 172, 173, 176, 177, 180, 181, 184, 185, 186, 187, 188, 189, 190, 191, 192, 193, 194, 195, 196, 197, 198, 199, 200, 203, 204, 207, 208, 211, 214, 215, 216, 217, 218, 219, 220, 221, 222, 223, 224, 225, 226, 227, 230, 231, 232, 233, 234, 235, 236, 237, 238, 239, 240, 241, 244, 247, 248, 249, 250, 251, 252, 253, 254, 255, 256, 257, 258, 259, 260, 263, 264, 265, 266, 267, 268, 269, 270, 271, 272, 273, 274, 277, 280, 281, 282, 283, 284, 285, 286, 287, 288, 289, 290, 291, 292, 293, 296, 297, 298, 299, 300, 301, 302, 303, 304, 305, 306, 307, 310, 313, 314, 315, 316, 317, 318, 319, 320, 321, 324, 325, 326, 327, 328, 329, 330, 333, 336, 337, 338, 339, 340, 341, 342, 343, 344, 345, 346, 347, 348, 349, 350, 351, 352, 353, 354, 357, 358, 359, 360, 361, 362, 363, 364, 365, 366, 367, 368, 369, 370, 371, 372, 373, 376, 379, 380, 381, 382, 383, 384, 385, 386, 387, 388, 389, 390, 391, 392, 395, 396, 397, 398, 399, 400, 401, 402, 403, 404, 405, 406, 409, 412, 413, 414, 415, 418, 419, 422, 425, 426, 427, 428, 429, 430, 431, 432, 433, 436, 437, 438, 439, 440, 441, 442, 445, 448, 449, 450, 451, 454, 455, 458, 461, 462, 463, 464, 467, 468, 471, 474, 475, 476, 477, 478, 479, 480, 481, 482, 483, 484, 485, 486, 487, 490, 491, 492, 493, 494, 495, 496, 497, 498, 499, 500, 501, 504, 507, 508, 509, 510, 511, 512, 513, 514, 515, 518, 519, 520, 521, 522, 523, 524, 527, 530, 531, 532, 533, 536, 537, 540, 543, 544, 545, 546, 547, 548, 549, 550, 551, 554, 555, 556, 557, 558, 559, 560, 563, 566, 567, 568, 569, 572, 573, 576, 579, 580, 581, 582, 583, 584, 585, 586, 587, 588, 589, 590, 591, 592, 595, 596, 597, 598, 599, 600, 601, 602, 603, 604, 605, 606, 609, 612, 613, 614, 615, 618, 619, 622, 625, 626, 627, 630, 633, 634, 635]
def pm_y (mi : Nat) : MethodName := match mi with
  | 0 => yX0_init
  | 1 => yX0_clear
  | 2 => yX0_append
  | 3 => yX0_removeLast
  | 4 => yX0_countLeft
  | 5 => yX0_fill
  | 6 => yX0_layAll
  | 7 => yX0_emptyBox
  | 8 => yX0_startOver
  | 9 => yX0_hasPlace
  | 10 => yX0_goOn
  | 11 => yX0_tryPlace
  | 12 => yX0_breadthOf
  | 13 => yX0_isFree
  | 14 => yX0_layOrLift
  | 15 => yX1_init
  | 16 => yX1_clear
  | 17 => yX1_holds
  | 18 => yX1_numberOf
  | 19 => yX1_along
  | 20 => yX1_numberRuns
  | 21 => yX1_numberCell
  | 22 => yX1_changeWall
  | 23 => yX1_changeGuard
  | 24 => yX1_isSeen
  | 25 => yX1_kindOf
  | 26 => yX1_sightFrom
  | 27 => yX1_countSeen
  | 28 => yX1_findMissed
  | 29 => yX1_leastMore
  | 30 => yX1_mostPeaceful
  | 31 => yX2_init
  | 32 => yX2_most
  | 33 => yX2_findPair
  | 34 => yX2_pairBack
  | 35 => yX3_init
  | 36 => yX3_clear
  | 37 => yX3_takeShut
  | 38 => yX3_takeOpen
  | 39 => yX3_addGuards
  | 40 => yX3_isWatched
  | 41 => yX3_lengthAt
  | 42 => yX3_cellOf
  | 43 => yX4_init
  | 44 => yX4_leastGuards
  | 45 => yX4_findUnseenFar
  | 46 => yX4_choose
  | 47 => yX5_init
  | 48 => yX5_hall
  | 49 => yX5_wall
  | 50 => yX5_guard
  | 51 => yX5_leave
  | 52 => yX5_cell
  | 53 => yX5_runs
  | 54 => yX5_run
  | 55 => yX5_sees
  | 56 => yX5_seen
  | 57 => yX5_missed
  | 58 => yX5_more
  | 59 => yX5_peace
  | 60 => yX5_box
  | 61 => yX5_square
  | 62 => yX5_drop
  | 63 => yX5_pack
  | 64 => yX5_tried
  | 65 => yX5_place
  | 66 => yX5_left
  | 67 => yX5_isWithin
  | 68 => yX6_init
  | 69 => yX6_within
  | 70 => yX6_hall
  | 71 => yX6_isCell
  | 72 => yX6_wall
  | 73 => yX6_guard
  | 74 => yX6_leave
  | 75 => yX6_isOpen
  | 76 => yX6_part
  | 77 => yX6_partCell
  | 78 => yX6_isTouched
  | 79 => yX6_isSeen
  | 80 => yX6_cell
  | 81 => yX6_runs
  | 82 => yX6_run
  | 83 => yX6_sees
  | 84 => yX6_seen
  | 85 => yX6_missed
  | 86 => yX6_count
  | 87 => yX6_cross
  | 88 => yX6_touched
  | 89 => yX6_more
  | 90 => yX6_most
  | 91 => yX6_peace
  | 92 => yX6_doCross
  | 93 => yX6_finds
  | 94 => yX6_turn
  | 95 => yX6_box
  | 96 => yX6_square
  | 97 => yX6_drop
  | 98 => yX6_isApart
  | 99 => yX6_lies
  | 100 => yX6_goesOn
  | 101 => yX6_pack
  | 102 => yX6_tried
  | 103 => yX6_place
  | 104 => yX6_left
  | 105 => yJ13_bitCount_95d88
  | _ => x
def pm_b (mi : Nat) : ByteArray := match mi with
  | 0 => cX0_init
  | 1 => cX0_clear
  | 2 => cX0_append
  | 3 => cX0_removeLast
  | 4 => cX0_countLeft
  | 5 => cX0_fill
  | 6 => cX0_layAll
  | 7 => cX0_emptyBox
  | 8 => cX0_startOver
  | 9 => cX0_hasPlace
  | 10 => cX0_goOn
  | 11 => cX0_tryPlace
  | 12 => cX0_breadthOf
  | 13 => cX0_isFree
  | 14 => cX0_layOrLift
  | 15 => cX1_init
  | 16 => cX1_clear
  | 17 => cX1_holds
  | 18 => cX1_numberOf
  | 19 => cX1_along
  | 20 => cX1_numberRuns
  | 21 => cX1_numberCell
  | 22 => cX1_changeWall
  | 23 => cX1_changeGuard
  | 24 => cX1_isSeen
  | 25 => cX1_kindOf
  | 26 => cX1_sightFrom
  | 27 => cX1_countSeen
  | 28 => cX1_findMissed
  | 29 => cX1_leastMore
  | 30 => cX1_mostPeaceful
  | 31 => cX2_init
  | 32 => cX2_most
  | 33 => cX2_findPair
  | 34 => cX2_pairBack
  | 35 => cX3_init
  | 36 => cX3_clear
  | 37 => cX3_takeShut
  | 38 => cX3_takeOpen
  | 39 => cX3_addGuards
  | 40 => cX3_isWatched
  | 41 => cX3_lengthAt
  | 42 => cX3_cellOf
  | 43 => cX4_init
  | 44 => cX4_leastGuards
  | 45 => cX4_findUnseenFar
  | 46 => cX4_choose
  | 47 => cX5_init
  | 48 => cX5_hall
  | 49 => cX5_wall
  | 50 => cX5_guard
  | 51 => cX5_leave
  | 52 => cX5_cell
  | 53 => cX5_runs
  | 54 => cX5_run
  | 55 => cX5_sees
  | 56 => cX5_seen
  | 57 => cX5_missed
  | 58 => cX5_more
  | 59 => cX5_peace
  | 60 => cX5_box
  | 61 => cX5_square
  | 62 => cX5_drop
  | 63 => cX5_pack
  | 64 => cX5_tried
  | 65 => cX5_place
  | 66 => cX5_left
  | 67 => cX5_isWithin
  | 68 => cX6_init
  | 69 => cX6_within
  | 70 => cX6_hall
  | 71 => cX6_isCell
  | 72 => cX6_wall
  | 73 => cX6_guard
  | 74 => cX6_leave
  | 75 => cX6_isOpen
  | 76 => cX6_part
  | 77 => cX6_partCell
  | 78 => cX6_isTouched
  | 79 => cX6_isSeen
  | 80 => cX6_cell
  | 81 => cX6_runs
  | 82 => cX6_run
  | 83 => cX6_sees
  | 84 => cX6_seen
  | 85 => cX6_missed
  | 86 => cX6_count
  | 87 => cX6_cross
  | 88 => cX6_touched
  | 89 => cX6_more
  | 90 => cX6_most
  | 91 => cX6_peace
  | 92 => cX6_doCross
  | 93 => cX6_finds
  | 94 => cX6_turn
  | 95 => cX6_box
  | 96 => cX6_square
  | 97 => cX6_drop
  | 98 => cX6_isApart
  | 99 => cX6_lies
  | 100 => cX6_goesOn
  | 101 => cX6_pack
  | 102 => cX6_tried
  | 103 => cX6_place
  | 104 => cX6_left
  | 105 => cJ13_bitCount_95d88
  | _ => cL_law
def pm_nl (mi : Nat) : Nat := match mi with
  | 0 => 1
  | 1 => 3
  | 2 => 2
  | 3 => 1
  | 4 => 3
  | 5 => 3
  | 6 => 4
  | 7 => 2
  | 8 => 2
  | 9 => 2
  | 10 => 2
  | 11 => 2
  | 12 => 2
  | 13 => 5
  | 14 => 5
  | 15 => 1
  | 16 => 4
  | 17 => 3
  | 18 => 3
  | 19 => 2
  | 20 => 3
  | 21 => 4
  | 22 => 3
  | 23 => 4
  | 24 => 2
  | 25 => 2
  | 26 => 2
  | 27 => 3
  | 28 => 4
  | 29 => 4
  | 30 => 1
  | 31 => 1
  | 32 => 9
  | 33 => 11
  | 34 => 6
  | 35 => 1
  | 36 => 2
  | 37 => 2
  | 38 => 4
  | 39 => 4
  | 40 => 3
  | 41 => 3
  | 42 => 3
  | 43 => 2
  | 44 => 4
  | 45 => 6
  | 46 => 10
  | 47 => 1
  | 48 => 3
  | 49 => 5
  | 50 => 4
  | 51 => 4
  | 52 => 3
  | 53 => 2
  | 54 => 4
  | 55 => 3
  | 56 => 1
  | 57 => 2
  | 58 => 1
  | 59 => 1
  | 60 => 3
  | 61 => 2
  | 62 => 1
  | 63 => 2
  | 64 => 1
  | 65 => 3
  | 66 => 1
  | 67 => 3
  | 68 => 2
  | 69 => 3
  | 70 => 4
  | 71 => 3
  | 72 => 6
  | 73 => 4
  | 74 => 4
  | 75 => 3
  | 76 => 4
  | 77 => 7
  | 78 => 5
  | 79 => 2
  | 80 => 4
  | 81 => 2
  | 82 => 4
  | 83 => 4
  | 84 => 3
  | 85 => 4
  | 86 => 6
  | 87 => 6
  | 88 => 5
  | 89 => 11
  | 90 => 7
  | 91 => 3
  | 92 => 5
  | 93 => 6
  | 94 => 8
  | 95 => 3
  | 96 => 2
  | 97 => 1
  | 98 => 3
  | 99 => 4
  | 100 => 4
  | 101 => 3
  | 102 => 1
  | 103 => 3
  | 104 => 3
  | 105 => 2
  | _ => 4
def pm_r (mi : Nat) : Option FieldType := match mi with
  | 0 => none
  | 1 => none
  | 2 => some .int
  | 3 => some .int
  | 4 => some .int
  | 5 => some .int
  | 6 => some .int
  | 7 => none
  | 8 => none
  | 9 => some .boolean
  | 10 => none
  | 11 => some .boolean
  | 12 => some .int
  | 13 => some .boolean
  | 14 => none
  | 15 => none
  | 16 => none
  | 17 => some .boolean
  | 18 => some .int
  | 19 => some (.object "GuardPacks$Runs")
  | 20 => none
  | 21 => none
  | 22 => some .boolean
  | 23 => some .int
  | 24 => some .boolean
  | 25 => some .int
  | 26 => some .int
  | 27 => some .int
  | 28 => some .int
  | 29 => some .int
  | 30 => some .int
  | 31 => none
  | 32 => some .int
  | 33 => some .boolean
  | 34 => none
  | 35 => none
  | 36 => none
  | 37 => none
  | 38 => none
  | 39 => none
  | 40 => some .boolean
  | 41 => some .int
  | 42 => some .int
  | 43 => none
  | 44 => some .int
  | 45 => some .long
  | 46 => none
  | 47 => none
  | 48 => some .int
  | 49 => some .int
  | 50 => some .int
  | 51 => some .int
  | 52 => some .int
  | 53 => some .int
  | 54 => some .int
  | 55 => some .int
  | 56 => some .int
  | 57 => some .int
  | 58 => some .int
  | 59 => some .int
  | 60 => some .int
  | 61 => some .int
  | 62 => some .int
  | 63 => some .int
  | 64 => some .int
  | 65 => some .int
  | 66 => some .int
  | 67 => some .boolean
  | 68 => none
  | 69 => some .boolean
  | 70 => some .int
  | 71 => some .boolean
  | 72 => some .int
  | 73 => some .int
  | 74 => some .int
  | 75 => some .boolean
  | 76 => none
  | 77 => none
  | 78 => some .boolean
  | 79 => some .boolean
  | 80 => some .int
  | 81 => some .int
  | 82 => some .int
  | 83 => some .int
  | 84 => some .int
  | 85 => some .int
  | 86 => some .int
  | 87 => none
  | 88 => some .long
  | 89 => some .int
  | 90 => some .int
  | 91 => some .int
  | 92 => some .boolean
  | 93 => some .boolean
  | 94 => none
  | 95 => some .int
  | 96 => some .int
  | 97 => some .int
  | 98 => some .boolean
  | 99 => some .boolean
  | 100 => some .boolean
  | 101 => some .int
  | 102 => some .int
  | 103 => some .int
  | 104 => some .int
  | 105 => some .int
  | _ => some .boolean
def pm_pc (mi k : Nat) : Nat := (pm_pcs mi).getD k 0
/-- words of a nest: they go with a method's start, not with its words -/
def pm_isN : Jvm.Cond → Bool
  | .fieldLinkNest .. => true
  | .methodLinkNest .. => true
  | _ => false
def pm_use (w : Jvm.Cond) : Bool := goodWord w || pm_isN w
/-- the tables' words that are used -/
def pm_tbl : List Jvm.Cond := lw_tbl.filter pm_use
theorem pm_tb {w : Jvm.Cond} (i : Nat) (h : tables_1[i]? = some w ∧ pm_use w = true) : w ∈ pm_tbl := List.mem_filter.mpr ⟨List.mem_append_right _ (List.mem_of_getElem? h.1), h.2⟩
theorem pm_tp {w : Jvm.Cond} (i : Nat) (h : (k2_sels lw_privs)[i]? = some w ∧ pm_use w = true) : w ∈ pm_tbl := List.mem_filter.mpr ⟨List.mem_append_left _ (List.mem_of_getElem? h.1), h.2⟩
theorem pm_cw0 : ∀ w ∈ u_ws RX0 TX0 9, w ∈ pm_tbl := by decide +kernel
theorem pm_dfX0 : ∀ j, j < 9 → defaultValue (tyX0 j) = vp_V (pm_df 0) j := by decide +kernel
theorem pm_cw1 : ∀ w ∈ u_ws RX1 TX1 9, w ∈ pm_tbl := by decide +kernel
theorem pm_dfX1 : ∀ j, j < 9 → defaultValue (tyX1 j) = vp_V (pm_df 1) j := by decide +kernel
theorem pm_cw2 : ∀ w ∈ u_ws RX2 TX2 6, w ∈ pm_tbl := by decide +kernel
theorem pm_dfX2 : ∀ j, j < 6 → defaultValue (tyX2 j) = vp_V (pm_df 2) j := by decide +kernel
theorem pm_cw3 : ∀ w ∈ u_ws RX3 TX3 6, w ∈ pm_tbl := by decide +kernel
theorem pm_dfX3 : ∀ j, j < 6 → defaultValue (tyX3 j) = vp_V (pm_df 3) j := by decide +kernel
theorem pm_cw4 : ∀ w ∈ u_ws RX4 TX4 5, w ∈ pm_tbl := by decide +kernel
theorem pm_dfX4 : ∀ j, j < 5 → defaultValue (tyX4 j) = vp_V (pm_df 4) j := by decide +kernel
theorem pm_cw5 : ∀ w ∈ u_ws RX5 TX5 2, w ∈ pm_tbl := by decide +kernel
theorem pm_dfX5 : ∀ j, j < 2 → defaultValue (tyX5 j) = vp_V (pm_df 5) j := by decide +kernel
theorem pm_cw6 : ∀ w ∈ u_ws RX6 TX6 22, w ∈ pm_tbl := by decide +kernel
theorem pm_dfX6 : ∀ j, j < 22 → defaultValue (tyX6 j) = vp_V (pm_df 6) j := by decide +kernel
end
section
/-! A PURE MACHINE: a few opcodes over a list of cells; the class's, the reference's and the law's code stands in tables (pm_cd); part 04 proves that what it does, the JVM does. -/
abbrev pm_E : Type := (Nat × vp_A) ⊕ (Nat × List Value)
abbrev pm_H : Type := List pm_E
abbrev pm_L : Type := List (Option Value)
abbrev pm_S : Type := Nat × pm_L × List Value × pm_H
abbrev pm_C : Type := Nat → List Value → pm_H → Option Value → pm_H → Prop
def pm_get (h : pm_H) (r : Nat) : Option pm_E := match r with
  | 0 => none
  | k + 1 => h[k]?
def pm_set (h : pm_H) (r : Nat) (x : pm_E) : pm_H := match r with
  | 0 => h
  | k + 1 => h.set k x
def pm_kd (b : Nat) (w : Value) : Bool := match b, w with
  | 0, .int _ => true
  | 1, .long _ => true
  | 2, .ref _ => true
  | 2, .null => true
  | _, _ => false
def pm_clr (ls : pm_L) (i : Nat) : pm_L := match i with
  | 0 => ls
  | j + 1 => match ls[j]? with
    | some (some w) => match Nat.beq w.category 2 with
      | true => ls.set j none
      | false => ls
    | _ => ls
def pm_sto (ls : pm_L) (i : Nat) (w : Value) : pm_L := match Nat.beq w.category 2 with
  | true => ((pm_clr ls i).set (i + 1) none).set i (some w)
  | false => (pm_clr ls i).set i (some w)
def pm_ib (b : Nat) (x y : Int32) : Int32 := match b with
  | 0 => x + y
  | 1 => x - y
  | 2 => x * y
  | 3 => x &&& y
  | 4 => x ||| y
  | 5 => x ^^^ y
  | 6 => x <<< (y &&& 31)
  | 7 => x >>> (y &&& 31)
  | _ => (x.toUInt32 >>> (y.toUInt32 &&& Int32.toUInt32 31)).toInt32
def pm_lb (b : Nat) (x y : Int64) : Int64 := match b with
  | 0 => x + y
  | 1 => x - y
  | 2 => x * y
  | 3 => x &&& y
  | 4 => x ||| y
  | _ => x ^^^ y
def pm_ls (b : Nat) (x : Int64) (y : Int32) : Int64 := match b with
  | 0 => x <<< (y.toInt64 &&& 63)
  | 1 => x >>> (y.toInt64 &&& 63)
  | _ => (x.toUInt64 >>> (y.toInt64.toUInt64 &&& Int64.toUInt64 63)).toInt64
def pm_br (b : Nat) (x y : Int32) (A B : Prop) : Prop := match b with
  | 0 => (x = y → A) ∧ (¬ x = y → B)
  | 1 => (¬ x = y → A) ∧ (x = y → B)
  | 2 => (x < y → A) ∧ (¬ x < y → B)
  | 3 => (y ≤ x → A) ∧ (¬ y ≤ x → B)
  | 4 => (y < x → A) ∧ (¬ y < x → B)
  | _ => (x ≤ y → A) ∧ (¬ x ≤ y → B)
/-- a class's receiver check -/
def pm_rcv (tl : List Nat) (st : List Value) (na : Nat) (h : pm_H) : Bool := match tl with
  | [] => true
  | ci :: _ => match st[na - 1]? with
    | some (.ref o) => match pm_get h o with
      | some (.inr (cj, _)) => Nat.beq ci cj
      | _ => false
    | _ => false
def pm_cat (st : List Value) : Nat := (st.map fun v => v.category).sum
def pm_rk (a : Nat) (st : List Value) (F : Option Value → Prop) : Prop := match a with
  | 0 => match st with
    | [] => F none
    | _ => False
  | 1 => match st with
    | [.int x] => F (some (.int x))
    | _ => False
  | 2 => match st with
    | [.int x] => (x = 0 ∨ x = 1) ∧ F (some (.int x))
    | _ => False
  | 3 => match st with
    | [.long x] => F (some (.long x))
    | _ => False
  | 4 => match st with
    | [.ref o] => F (some (.ref o))
    | [.null] => F (some .null)
    | _ => False
  | _ => False
/-- a store in a field: kind 3 is boolean -/
def pm_fk (b : Nat) (w : Value) (A : Prop) : Prop := match b with
  | 3 => match w with
    | .int x => (x = 0 ∨ x = 1) ∧ A
    | _ => False
  | _ => match pm_kd b w with
    | true => A
    | false => False
/-- a load from an array -/
def pm_al (sc : Nat × (Nat → Int32)) (b : Nat) (h : pm_H) (o : Nat) (i : Int32) (K : Value → Prop) : Prop := match o with
  | 0 => match b with
    | 0 => vp_in i sc.1 ∧ K (.int (sc.2 i.toNatClampNeg))
    | _ => False
  | o' + 1 => match h[o']? with
    | some (.inl (kk, n, .inl f)) => match Nat.beq kk b && Nat.ble b 1 with
      | true => vp_in i n ∧ K (.int (f i.toNatClampNeg))
      | false => False
    | some (.inl (kk, n, .inr (.inl f))) => match Nat.beq kk b && Nat.beq b 2 with
      | true => vp_in i n ∧ K (.long (f i.toNatClampNeg))
      | false => False
    | _ => False
/-- a store in an array -/
def pm_as (b : Nat) (h : pm_H) (o : Nat) (i : Int32) (w : Value) (K : pm_H → Prop) : Prop := match o with
  | 0 => False
  | o' + 1 => match h[o']? with
    | some (.inl (kk, n, .inl f)) => match w with
      | .int x => match Nat.beq kk b with
        | true => match b with
          | 0 => vp_in i n ∧ K (h.set o' (.inl (kk, n, .inl (upd f i.toNatClampNeg x))))
          | 1 => vp_in i n ∧ (x = 0 ∨ x = 1) ∧ K (h.set o' (.inl (kk, n, .inl (upd f i.toNatClampNeg x))))
          | _ => False
        | false => False
      | _ => False
    | some (.inl (kk, n, .inr (.inl f))) => match w with
      | .long x => match Nat.beq kk b && Nat.beq b 2 with
        | true => vp_in i n ∧ K (h.set o' (.inl (kk, n, .inr (.inl (vp_updL f i.toNatClampNeg x)))))
        | false => False
      | _ => False
    | _ => False
def pm_len (sc : Nat × (Nat → Int32)) (_ : pm_H) (o : Nat) : Option Nat := match o with
  | 0 => some sc.1
  | _ => none
def pm_zero (k n : Nat) : pm_E := match k with
  | 2 => .inl (2, n, .inr (.inl (fun _ => 0)))
  | k => .inl (k, n, .inl (fun _ => 0))
def pm_fl (av : List Value) : pm_L := match av with
  | [] => []
  | v :: r => match Nat.beq v.category 2 with
    | true => some v :: none :: pm_fl r
    | false => some v :: pm_fl r
/-- one instruction: K takes the state behind it, F what is returned -/
def pm_sk (sc : Nat × (Nat → Int32)) (Cl : pm_C) (e : pm_I) (s : pm_S) (K : pm_S → Prop) (F : Option Value → pm_H → Prop) : Prop :=
  match e with
  | (op, a, b, v, tl) => match s with
    | (k, ls, st, h) => match op with
      | 0 => K (k + 1, ls, v :: st, h)
      | 1 => match ls[a]? with
        | some (some w) => match pm_kd b w with
          | true => K (k + 1, ls, w :: st, h)
          | false => False
        | _ => False
      | 2 => match st with
        | w :: r => match pm_kd b w && Nat.blt (a + b % 2) ls.length with
          | true => K (k + 1, pm_sto ls a w, r, h)
          | false => False
        | _ => False
      | 3 => match ls[a]? with
        | some (some (.int x)) => match v with
          | .int c => K (k + 1, pm_sto ls a (.int (x + c)), st, h)
          | _ => False
        | _ => False
      | 4 => match st with
        | .int y :: .int x :: r => K (k + 1, ls, .int (pm_ib b x y) :: r, h)
        | _ => False
      | 6 => match st with
        | .long y :: .long x :: r => K (k + 1, ls, .long (pm_lb b x y) :: r, h)
        | _ => False
      | 7 => match st with
        | .int y :: .long x :: r => K (k + 1, ls, .long (pm_ls b x y) :: r, h)
        | _ => False
      | 8 => match st with
        | .int x :: r => K (k + 1, ls, .long x.toInt64 :: r, h)
        | _ => False
      | 9 => match st with
        | .long x :: r => K (k + 1, ls, .int x.toInt32 :: r, h)
        | _ => False
      | 10 => match st with
        | .long y :: .long x :: r => K (k + 1, ls, .int (lg_cmp x y) :: r, h)
        | _ => False
      | 11 => match st with
        | w :: r => match Nat.beq w.category 1 with
          | true => K (k + 1, ls, w :: w :: r, h)
          | false => False
        | _ => False
      | 12 => match st with
        | w :: z :: r => match Nat.beq w.category 1 && Nat.beq z.category 1 with
          | true => K (k + 1, ls, w :: z :: w :: r, h)
          | false => False
        | _ => False
      | 13 => match st with
        | w :: z :: r => match Nat.beq w.category 1 && Nat.beq z.category 1 with
          | true => K (k + 1, ls, w :: z :: w :: z :: r, h)
          | false => False
        | _ => False
      | 15 => match st with
        | .int x :: r => pm_br b x 0 (K (a, ls, r, h)) (K (k + 1, ls, r, h))
        | _ => False
      | 16 => match st with
        | .int y :: .int x :: r => pm_br b x y (K (a, ls, r, h)) (K (k + 1, ls, r, h))
        | _ => False
      | 17 => K (a, ls, st, h)
      | 18 => match st with
        | .ref o :: r => match pm_get h o with
          | some (.inr (ci, fs)) => match Nat.beq ci a with
            | true => match fs[b]? with
              | some w => K (k + 1, ls, w :: r, h)
              | none => False
            | false => False
          | _ => False
        | _ => False
      | 19 => match st with
        | w :: .ref o :: r => match pm_get h o with
          | some (.inr (ci, fs)) => match Nat.beq ci a && Nat.blt b fs.length with
            | true => pm_fk (tl.headD 9) w (K (k + 1, ls, r, pm_set h o (.inr (ci, fs.set b w))))
            | false => False
          | _ => False
        | _ => False
      | 20 => match st with
        | .int i :: .ref o :: r => pm_al sc b h o i (fun w => K (k + 1, ls, w :: r, h))
        | _ => False
      | 21 => match st with
        | w :: .int i :: .ref o :: r => pm_as b h o i w (fun h' => K (k + 1, ls, r, h'))
        | _ => False
      | 22 => match st with
        | .ref o :: r => match pm_len sc h o with
          | some n => K (k + 1, ls, .int (Int32.ofNat n) :: r, h)
          | none => False
        | _ => False
      | 23 => K (k + 1, ls, .ref (h.length + 1) :: st, h ++ [.inr (a, pm_df a)])
      | 24 => match st with
        | .int n :: r => match decide (n = Int32.ofNat b) && Nat.ble b 100000 with
          | true => K (k + 1, ls, .ref (h.length + 1) :: r, h ++ [pm_zero a b])
          | false => False
        | _ => False
      | 25 => match Nat.ble b st.length && pm_rcv tl st b h && Nat.ble (pm_cat (st.drop b)) 8 && Nat.ble (pm_fl (st.take b).reverse).length (pm_nl a) with
        | true => ∃ (rv : Option Value) (h2 : pm_H), Cl a (st.take b).reverse h rv h2 ∧ K (k + 1, ls, rv.toList ++ st.drop b, h2)
        | false => False
      | 26 => pm_rk a st (fun w => F w h)
      | 28 => match st with
        | .ref _ :: r => match Nat.ble (pm_cat r) 8 with
          | true => K (k + 1, ls, r, h)
          | false => False
        | _ => False
      | 29 => match st with
        | .int x :: r => match Nat.ble tl.length 1000 with
          | true => (∀ j : Nat, j < tl.length → x = Int32.ofNat j → K (tl.getD j 0, ls, r, h)) ∧ ((x.toInt < 0 ∨ (tl.length : Int) ≤ x.toInt) → K (a, ls, r, h))
          | false => False
        | _ => False
      | 30 => match st with
        | .int y :: .int x :: r => match Nat.ble (pm_cat r) 8 with
          | true => K (k + 1, ls, .int (if y < x then y else x) :: r, h)
          | false => False
        | _ => False
      | 31 => match st with
        | .int y :: .int x :: r => (¬ y = 0) ∧ K (k + 1, ls, .int (x / y) :: r, h)
        | _ => False
      | 32 => match st with
        | .int y :: .int x :: r => (¬ y = 0) ∧ K (k + 1, ls, .int (x - x / y * y) :: r, h)
        | _ => False
      | _ => False
def pm_ent (av : List Value) (n : Nat) : pm_L := pm_fl av ++ List.replicate (n - (pm_fl av).length) none
def pm_st (sc : Nat × (Nat → Int32)) (Cl : pm_C) (cd : List pm_I) (s : pm_S) (K : pm_S → Prop) (F : Option Value → pm_H → Prop) : Prop := match cd[s.1]? with
  | some e => pm_sk sc Cl e s K F
  | none => False
def pm_ev (sc : Nat × (Nat → Int32)) (Cl : pm_C) (cd : List pm_I) : Nat → pm_S → Option Value → pm_H → Prop
  | 0, _, _, _ => False
  | n + 1, s, r, h' => pm_st sc Cl cd s (fun s' => pm_ev sc Cl cd n s' r h') (fun w hh => w = r ∧ hh = h')
def pm_D (sc : Nat × (Nat → Int32)) : Nat → pm_C
  | 0 => fun _ _ _ _ _ => False
  | d + 1 => fun mi av h r h' => ∃ n, pm_ev sc (pm_D sc d) (pm_cd mi) n (0, pm_ent av (pm_nl mi), [], h) r h'
/-- how many fields and elements -/
def pm_sz1 (x : pm_E) : Nat := match x with
  | .inl a => a.2.1
  | .inr o => o.2.length
def pm_sz (h : pm_H) : Nat := (h.map pm_sz1).sum
/-! WHAT AN ENTRY OF THE TABLES SAYS OF THE CLASS FILE: the bytes at its place are that instruction; what it links is among the tables' words -/
def pm_cnd (b : Nat) : ClassFile.Cond := match b with
  | 0 => .eq
  | 1 => .ne
  | 2 => .lt
  | 3 => .ge
  | 4 => .gt
  | _ => .le
def pm_ibi (b : Nat) : Instr := match b with
  | 0 => .iadd
  | 1 => .isub
  | 2 => .imul
  | 3 => .iand
  | 4 => .ior
  | 5 => .ixor
  | 6 => .ishl
  | 7 => .ishr
  | _ => .iushr
def pm_lbi (b : Nat) : Instr := match b with
  | 0 => .ladd
  | 1 => .lsub
  | 2 => .lmul
  | 3 => .land
  | 4 => .lor
  | _ => .lxor
def pm_lsi (b : Nat) : Instr := match b with
  | 0 => .lshl
  | 1 => .lshr
  | _ => .lushr
def pm_ali (b : Nat) : Instr := match b with
  | 0 => .iaload
  | 1 => .baload
  | _ => .laload
def pm_asi (b : Nat) : Instr := match b with
  | 0 => .iastore
  | 1 => .bastore
  | _ => .lastore
def pm_aty (a : Nat) : ArrayType := match a with
  | 0 => .int
  | 1 => .boolean
  | _ => .long
def pm_fty (kd : Nat) (ty : FieldType) : Bool := match kd, ty with
  | 0, .int => true
  | 1, .long => true
  | 3, .boolean => true
  | 2, .object _ => true
  | 2, .array _ => true
  | _, _ => false
def pm_ok (mi k : Nat) (e : pm_I) : Prop :=
  match e with
  | (op, a, b, v, tl) => match op with
    | 0 => (∃ n : Int, decode (pm_b mi) (pm_pc mi k) = .ok (.iconst n, 1) ∧ v = .int (Int32.ofInt n) ∧ pm_pc mi (k + 1) = pm_pc mi k + 1) ∨ (∃ n : Int, decode (pm_b mi) (pm_pc mi k) = .ok (.bipush n, 2) ∧ v = .int (Int8.ofInt n).toInt32 ∧ pm_pc mi (k + 1) = pm_pc mi k + 2) ∨ (∃ n : Int, decode (pm_b mi) (pm_pc mi k) = .ok (.sipush n, 3) ∧ v = .int (Int16.ofInt n).toInt32 ∧ pm_pc mi (k + 1) = pm_pc mi k + 3) ∨ (∃ n : Fin 2, decode (pm_b mi) (pm_pc mi k) = .ok (.lconst n, 1) ∧ v = .long (Int64.ofNat (n : Nat)) ∧ pm_pc mi (k + 1) = pm_pc mi k + 1) ∨ (∃ (i : Nat) (c : Int32), decode (pm_b mi) (pm_pc mi k) = .ok (.ldc i, 2) ∧ Jvm.Cond.constant (pm_y mi).cls i c ∈ pm_tbl ∧ v = .int c ∧ pm_pc mi (k + 1) = pm_pc mi k + 2) ∨ (∃ (i : Nat) (c : Int64), decode (pm_b mi) (pm_pc mi k) = .ok (.ldc2_w i, 3) ∧ Jvm.Cond.constantLong (pm_y mi).cls i c ∈ pm_tbl ∧ v = .long c ∧ pm_pc mi (k + 1) = pm_pc mi k + 3)
    | 1 => match b with
      | 0 => (∃ n : Fin 4, decode (pm_b mi) (pm_pc mi k) = .ok (.iload_n n, 1) ∧ (n : Nat) = a ∧ pm_pc mi (k + 1) = pm_pc mi k + 1) ∨ (decode (pm_b mi) (pm_pc mi k) = .ok (.iload a, 2) ∧ pm_pc mi (k + 1) = pm_pc mi k + 2)
      | 1 => (∃ n : Fin 4, decode (pm_b mi) (pm_pc mi k) = .ok (.lload_n n, 1) ∧ (n : Nat) = a ∧ pm_pc mi (k + 1) = pm_pc mi k + 1) ∨ (decode (pm_b mi) (pm_pc mi k) = .ok (.lload a, 2) ∧ pm_pc mi (k + 1) = pm_pc mi k + 2)
      | 2 => (∃ n : Fin 4, decode (pm_b mi) (pm_pc mi k) = .ok (.aload_n n, 1) ∧ (n : Nat) = a ∧ pm_pc mi (k + 1) = pm_pc mi k + 1) ∨ (decode (pm_b mi) (pm_pc mi k) = .ok (.aload a, 2) ∧ pm_pc mi (k + 1) = pm_pc mi k + 2)
      | _ => False
    | 2 => match b with
      | 0 => (∃ n : Fin 4, decode (pm_b mi) (pm_pc mi k) = .ok (.istore_n n, 1) ∧ (n : Nat) = a ∧ pm_pc mi (k + 1) = pm_pc mi k + 1) ∨ (decode (pm_b mi) (pm_pc mi k) = .ok (.istore a, 2) ∧ pm_pc mi (k + 1) = pm_pc mi k + 2)
      | 1 => (∃ n : Fin 4, decode (pm_b mi) (pm_pc mi k) = .ok (.lstore_n n, 1) ∧ (n : Nat) = a ∧ pm_pc mi (k + 1) = pm_pc mi k + 1) ∨ (decode (pm_b mi) (pm_pc mi k) = .ok (.lstore a, 2) ∧ pm_pc mi (k + 1) = pm_pc mi k + 2)
      | 2 => (∃ n : Fin 4, decode (pm_b mi) (pm_pc mi k) = .ok (.astore_n n, 1) ∧ (n : Nat) = a ∧ pm_pc mi (k + 1) = pm_pc mi k + 1) ∨ (decode (pm_b mi) (pm_pc mi k) = .ok (.astore a, 2) ∧ pm_pc mi (k + 1) = pm_pc mi k + 2)
      | _ => False
    | 3 => ∃ n : Int, decode (pm_b mi) (pm_pc mi k) = .ok (.iinc a n, 3) ∧ v = .int (Int32.ofInt n) ∧ pm_pc mi (k + 1) = pm_pc mi k + 3
    | 4 => decode (pm_b mi) (pm_pc mi k) = .ok (pm_ibi b, 1) ∧ pm_pc mi (k + 1) = pm_pc mi k + 1
    | 6 => decode (pm_b mi) (pm_pc mi k) = .ok (pm_lbi b, 1) ∧ pm_pc mi (k + 1) = pm_pc mi k + 1
    | 7 => decode (pm_b mi) (pm_pc mi k) = .ok (pm_lsi b, 1) ∧ pm_pc mi (k + 1) = pm_pc mi k + 1
    | 8 => decode (pm_b mi) (pm_pc mi k) = .ok (.i2l, 1) ∧ pm_pc mi (k + 1) = pm_pc mi k + 1
    | 9 => decode (pm_b mi) (pm_pc mi k) = .ok (.l2i, 1) ∧ pm_pc mi (k + 1) = pm_pc mi k + 1
    | 10 => decode (pm_b mi) (pm_pc mi k) = .ok (.lcmp, 1) ∧ pm_pc mi (k + 1) = pm_pc mi k + 1
    | 11 => decode (pm_b mi) (pm_pc mi k) = .ok (.dup, 1) ∧ pm_pc mi (k + 1) = pm_pc mi k + 1
    | 12 => decode (pm_b mi) (pm_pc mi k) = .ok (.dup_x1, 1) ∧ pm_pc mi (k + 1) = pm_pc mi k + 1
    | 13 => decode (pm_b mi) (pm_pc mi k) = .ok (.dup2, 1) ∧ pm_pc mi (k + 1) = pm_pc mi k + 1
    | 15 => ∃ off : Int, decode (pm_b mi) (pm_pc mi k) = .ok (.ifCond (pm_cnd b) off, 3) ∧ (pm_pc mi k : Int) + off = (pm_pc mi a : Int) ∧ pm_pc mi (k + 1) = pm_pc mi k + 3
    | 16 => ∃ off : Int, decode (pm_b mi) (pm_pc mi k) = .ok (.if_icmp (pm_cnd b) off, 3) ∧ (pm_pc mi k : Int) + off = (pm_pc mi a : Int) ∧ pm_pc mi (k + 1) = pm_pc mi k + 3
    | 17 => ∃ off : Int, decode (pm_b mi) (pm_pc mi k) = .ok (.goto off, 3) ∧ (pm_pc mi k : Int) + off = (pm_pc mi a : Int)
    | 18 => ∃ (i : Nat) (C : String) (T : u_T) (N : Nat), decode (pm_b mi) (pm_pc mi k) = .ok (.getfield i, 3) ∧ pm_pc mi (k + 1) = pm_pc mi k + 3 ∧ pm_cl[a]? = some (C, T, N) ∧ b < N ∧ (∀ w ∈ u_ws C T N, w ∈ pm_tbl) ∧ (Jvm.Cond.fieldLink (pm_y mi).cls i (T b).1 (T b).2.1 (T b).2.2.1 ∈ pm_tbl ∨ ∃ host : String, Jvm.Cond.fieldLinkNest (pm_y mi).cls i (T b).1 (T b).2.1 (T b).2.2.1 host ∈ pm_tbl)
    | 19 => ∃ (i : Nat) (C : String) (T : u_T) (N : Nat) (ty : Nat → FieldType), decode (pm_b mi) (pm_pc mi k) = .ok (.putfield i, 3) ∧ pm_pc mi (k + 1) = pm_pc mi k + 3 ∧ pm_cl[a]? = some (C, T, N) ∧ b < N ∧ (∀ w ∈ u_ws C T N, w ∈ pm_tbl) ∧ (∀ k, k < N → parseFieldDescriptor (T k).2.2.1 = some (ty k)) ∧ (∀ a, a < N → ∀ b, b < N → a ≠ b → (T a).2.1 ≠ (T b).2.1) ∧ pm_fty (tl.headD 9) (ty b) = true ∧ (((T b).2.2.2 = false ∧ (Jvm.Cond.fieldLink (pm_y mi).cls i (T b).1 (T b).2.1 (T b).2.2.1 ∈ pm_tbl ∨ ∃ host : String, Jvm.Cond.fieldLinkNest (pm_y mi).cls i (T b).1 (T b).2.1 (T b).2.2.1 host ∈ pm_tbl)) ∨ ((T b).2.2.2 = true ∧ (pm_y mi).name = "<init>" ∧ (T b).1 = (pm_y mi).cls ∧ Jvm.Cond.fieldLink (pm_y mi).cls i (T b).1 (T b).2.1 (T b).2.2.1 ∈ pm_tbl))
    | 20 => decode (pm_b mi) (pm_pc mi k) = .ok (pm_ali b, 1) ∧ pm_pc mi (k + 1) = pm_pc mi k + 1
    | 21 => decode (pm_b mi) (pm_pc mi k) = .ok (pm_asi b, 1) ∧ pm_pc mi (k + 1) = pm_pc mi k + 1
    | 22 => decode (pm_b mi) (pm_pc mi k) = .ok (.arraylength, 1) ∧ pm_pc mi (k + 1) = pm_pc mi k + 1
    | 23 => ∃ (i : Nat) (C : String) (T : u_T) (N : Nat) (ty : Nat → FieldType), decode (pm_b mi) (pm_pc mi k) = .ok (.new i, 3) ∧ pm_pc mi (k + 1) = pm_pc mi k + 3 ∧ pm_cl[a]? = some (C, T, N) ∧ (∀ w ∈ u_ws C T N, w ∈ pm_tbl) ∧ (∀ k, k < N → parseFieldDescriptor (T k).2.2.1 = some (ty k)) ∧ (∀ j, j < N → defaultValue (ty j) = vp_V (pm_df a) j) ∧ (pm_df a).length = N ∧ Jvm.Cond.classLink (pm_y mi).cls i C ∈ pm_tbl ∧ Jvm.Cond.instantiable C N ∈ pm_tbl ∧ Jvm.Cond.initialized C ∈ pm_tbl
    | 24 => a < 3 ∧ decode (pm_b mi) (pm_pc mi k) = .ok (.newarray (pm_aty a), 2) ∧ pm_pc mi (k + 1) = pm_pc mi k + 2 ∧ Jvm.Cond.arrayClass (newarray.typeOf (pm_aty a)) ∈ pm_tbl
    | 25 => ∃ i : Nat, a < 106 ∧ pm_pc mi (k + 1) = pm_pc mi k + 3 ∧ (Jvm.Cond.methodLink (pm_y mi).cls i (pm_y a) ∈ pm_tbl ∨ ∃ host : String, Jvm.Cond.methodLinkNest (pm_y mi).cls i (pm_y a) host ∈ pm_tbl) ∧
      ((decode (pm_b mi) (pm_pc mi k) = .ok (.invokevirtual i, 3) ∧ ∃ (ci : Nat) (T : u_T) (N : Nat), tl = [ci] ∧ pm_cl[ci]? = some ((pm_y a).cls, T, N) ∧ 1 ≤ b ∧ (parseMethodDescriptor (pm_y a).desc).map (fun d => d.parameters.length) = some (b - 1) ∧ Jvm.Cond.instanceMethod (pm_y a) ∈ pm_tbl ∧ Jvm.Cond.selects (pm_y a).cls (pm_y a) (pm_y a) ∈ pm_tbl)
      ∨ (decode (pm_b mi) (pm_pc mi k) = .ok (.invokespecial i, 3) ∧ ∃ ci : Nat, tl = [ci] ∧ (pm_y a).name = "<init>" ∧ pm_r a = none ∧ 1 ≤ b ∧ (parseMethodDescriptor (pm_y a).desc).map (fun d => d.parameters.length) = some (b - 1) ∧ Jvm.Cond.instanceMethod (pm_y a) ∈ pm_tbl)
      ∨ (decode (pm_b mi) (pm_pc mi k) = .ok (.invokestatic i, 3) ∧ tl = [] ∧ (parseMethodDescriptor (pm_y a).desc).map (fun d => d.parameters.length) = some b ∧ Jvm.Cond.static (pm_y a) ∈ pm_tbl))
    | 26 => match a with
      | 0 => decode (pm_b mi) (pm_pc mi k) = .ok (.return_, 1) ∧ pm_r mi = none
      | 1 => decode (pm_b mi) (pm_pc mi k) = .ok (.ireturn, 1) ∧ pm_r mi = some .int
      | 2 => decode (pm_b mi) (pm_pc mi k) = .ok (.ireturn, 1) ∧ pm_r mi = some .boolean
      | 3 => decode (pm_b mi) (pm_pc mi k) = .ok (.lreturn, 1) ∧ pm_r mi = some .long
      | 4 => decode (pm_b mi) (pm_pc mi k) = .ok (.areturn, 1) ∧ ∃ C : String, pm_r mi = some (.object C)
      | _ => False
    | 28 => ∃ i : Nat, decode (pm_b mi) (pm_pc mi k) = .ok (.invokespecial i, 3) ∧ pm_pc mi (k + 1) = pm_pc mi k + 3 ∧ Jvm.Cond.methodLink (pm_y mi).cls i Lib.objectInit ∈ pm_tbl ∧ Jvm.Cond.instanceMethod Lib.objectInit ∈ pm_tbl ∧ Jvm.Cond.code Lib.objectInit ⟨#[0xb1]⟩ 1 none ∈ pm_tbl
    | 29 => ∃ (df hi : Int) (offs : Array Int) (len : Nat), decode (pm_b mi) (pm_pc mi k) = .ok (.tableswitch df 0 hi offs, len) ∧ (pm_pc mi k : Int) + df = (pm_pc mi a : Int) ∧ hi + 1 = (tl.length : Int) ∧ ∀ j : Nat, j < tl.length → (offs[j]?).map (fun o => (pm_pc mi k : Int) + o) = some ((pm_pc mi (tl.getD j 0) : Nat) : Int)
    | 30 => ∃ i : Nat, decode (pm_b mi) (pm_pc mi k) = .ok (.invokestatic i, 3) ∧ pm_pc mi (k + 1) = pm_pc mi k + 3 ∧ Jvm.Cond.methodLink (pm_y mi).cls i Lib.Math.min.name ∈ pm_tbl ∧ Jvm.Cond.static Lib.Math.min.name ∈ pm_tbl ∧ Jvm.Cond.code Lib.Math.min.name Lib.Math.min.code 2 (some .int) ∈ pm_tbl ∧ Jvm.Cond.initialized "java/lang/Math" ∈ pm_tbl
    | 31 => decode (pm_b mi) (pm_pc mi k) = .ok (.idiv, 1) ∧ pm_pc mi (k + 1) = pm_pc mi k + 1
    | 32 => decode (pm_b mi) (pm_pc mi k) = .ok (.irem, 1) ∧ pm_pc mi (k + 1) = pm_pc mi k + 1
    | _ => False
def pm_oks (mi : Nat) : Nat → List pm_I → Prop
  | _, [] => True
  | k, e :: l => pm_ok mi k e ∧ pm_oks mi (k + 1) l
theorem pm_oks_at {mi : Nat} : ∀ (l : List pm_I) (k j : Nat) (e : pm_I), pm_oks mi k l → l[j]? = some e → pm_ok mi (k + j) e
  | [], _, _, _, _, h => by simp at h
  | x :: l, k, 0, e, h, hj => by
    have : x = e := by simpa using hj
    subst this
    exact h.1
  | x :: l, k, j + 1, e, h, hj => by
    have h1 := pm_oks_at l (k + 1) j e h.2 (by simpa using hj)
    rw [show k + (j + 1) = k + 1 + j by omega]
    exact h1
/-- of a method that is called -/
def pm_okm (mi : Nat) : Prop := plainName (pm_y mi).cls = true ∧ Jvm.Cond.code (pm_y mi) (pm_b mi) (pm_nl mi) (pm_r mi) ∈ pm_tbl ∧ Jvm.Cond.initialized (pm_y mi).cls ∈ pm_tbl ∧ (pm_y mi).cls ≠ "java/lang/invoke/MethodHandle" ∧ (pm_y mi).cls ≠ "java/lang/invoke/VarHandle" ∧ pm_nl mi ≤ 20 ∧ pm_pc mi 0 = 0
end
section
/-! WHAT THE PURE MACHINE DOES, THE JVM DOES. Cell i + 1 of the pure heap lies at address n0 + i; reference 0 is the law's script, at b. -/
def pm_ad (b n0 i : Nat) : Nat := match i with
  | 0 => b
  | k + 1 => n0 + k
def pm_sh (b n0 : Nat) (v : Value) : Value := match v with
  | .ref i => .ref (pm_ad b n0 i)
  | .int x => .int x
  | .long x => .long x
  | .float x => .float x
  | .double x => .double x
  | .null => .null
  | .retAddr x => .retAddr x
def pm_tr (dA : Nat → ClassId) (b n0 : Nat) (x : pm_E) : va_E := match x with
  | .inl q => .inl (dA q.1, q.2)
  | .inr o => .inr (o.1, o.2.map (pm_sh b n0))
def pm_wo (dA : Nat → ClassId) (b n0 : Nat) (h : pm_H) : va_W := h.mapIdx (fun i x => (n0 + i, pm_tr dA b n0 x))
theorem pm_sh_cat (b n0 : Nat) (v : Value) : (pm_sh b n0 v).category = v.category := by cases v <;> rfl
theorem pm_wo_at (dA : Nat → ClassId) (b n0 : Nat) (h : pm_H) (i : Nat) : (pm_wo dA b n0 h)[i]? = (h[i]?).map (fun x => (n0 + i, pm_tr dA b n0 x)) := by
  simp [pm_wo]
theorem pm_wo_some {dA : Nat → ClassId} {b n0 : Nat} {h : pm_H} {i : Nat} {x : pm_E} (e : h[i]? = some x) : (pm_wo dA b n0 h)[i]? = some (n0 + i, pm_tr dA b n0 x) := by
  rw [pm_wo_at, e]; rfl
theorem pm_wo_len (dA : Nat → ClassId) (b n0 : Nat) (h : pm_H) : (pm_wo dA b n0 h).length = h.length := by simp [pm_wo]
theorem pm_wo_set (dA : Nat → ClassId) (b n0 : Nat) (h : pm_H) (i : Nat) (x : pm_E) : pm_wo dA b n0 (h.set i x) = (pm_wo dA b n0 h).set i (n0 + i, pm_tr dA b n0 x) := by
  apply List.ext_getElem?
  intro j
  rw [pm_wo_at, List.getElem?_set, List.getElem?_set, pm_wo_at, pm_wo_len]
  by_cases hij : i = j
  · subst hij
    by_cases hl : i < h.length
    · simp [hl]
    · simp [hl]
  · simp [hij]
theorem pm_wo_app (dA : Nat → ClassId) (b n0 : Nat) (h : pm_H) (x : pm_E) : pm_wo dA b n0 (h ++ [x]) = pm_wo dA b n0 h ++ [(n0 + h.length, pm_tr dA b n0 x)] := by
  simp [pm_wo, List.mapIdx_concat]
theorem pm_wo_D (dA : Nat → ClassId) (b n0 : Nat) (h : pm_H) : va_D (fun q => n0 ≤ q) (pm_wo dA b n0 h) := by
  refine ⟨fun i j p q hi hj hpq => ?_, fun k q hk => ?_⟩
  · rw [pm_wo_at, Option.map_eq_some_iff] at hi hj
    obtain ⟨x, -, rfl⟩ := hi
    obtain ⟨y, -, rfl⟩ := hj
    have : n0 + i = n0 + j := hpq
    omega
  · rw [pm_wo_at, Option.map_eq_some_iff] at hk
    obtain ⟨x, -, rfl⟩ := hk
    exact Nat.le_add_right _ _
/-- the heap reaches behind the world's last cell -/
theorem pm_wo_le {D : va_G} {dA : Nat → ClassId} {b n0 : Nat} {h : pm_H} {H : Heap} (hn : n0 ≤ H.size) (hP : va_P D pm_cl (pm_wo dA b n0 h) H) : n0 + h.length ≤ H.size := by
  by_cases h0 : h.length = 0
  · omega
  · have hl : h.length - 1 < h.length := by omega
    have h1 := (hP (h.length - 1) _ (pm_wo_some (List.getElem?_eq_getElem hl))).lt
    have h2 : n0 + (h.length - 1) < H.size := h1
    omega
/-- locals -/
def pm_pr (b n0 : Nat) (ls : pm_L) : List (Nat × Value) := (List.range ls.length).filterMap (fun i => match ls[i]? with
  | some (some w) => some (i, pm_sh b n0 w)
  | _ => none)
theorem pm_pr_mem {b n0 : Nat} {ls : pm_L} {i : Nat} {v : Value} : (i, v) ∈ pm_pr b n0 ls ↔ ∃ w, ls[i]? = some (some w) ∧ v = pm_sh b n0 w := by
  constructor
  · intro h
    obtain ⟨j, hj, he⟩ := List.mem_filterMap.mp h
    split at he
    · rename_i w hw
      cases he
      exact ⟨w, hw, rfl⟩
    · cases he
  · rintro ⟨w, hw, rfl⟩
    refine List.mem_filterMap.mpr ⟨i, List.mem_range.mpr (List.getElem?_eq_some_iff.mp hw).1, ?_⟩
    rw [hw]
def pm_lo (b n0 : Nat) (rls : Array Slot) (nL : Nat) (ls : pm_L) : Prop := ls.length = nL ∧ lv_has rls nL (pm_pr b n0 ls)
theorem pm_lo.at {b n0 : Nat} {rls : Array Slot} {nL : Nat} {ls : pm_L} (h : pm_lo b n0 rls nL ls) {a : Nat} {w : Value} (e : ls[a]? = some (some w)) : rls[a]? = some (.val (pm_sh b n0 w)) :=
  h.2.2.2 (a, pm_sh b n0 w) (pm_pr_mem.mpr ⟨w, e, rfl⟩)
theorem pm_clr_len (ls : pm_L) (a : Nat) : (pm_clr ls a).length = ls.length := by
  unfold pm_clr
  split
  · rfl
  · split
    · split <;> simp
    · rfl
theorem pm_clr_at {ls : pm_L} {a i : Nat} {w : Value} (h : (pm_clr ls a)[i]? = some (some w)) : ls[i]? = some (some w) ∧ ¬ (i + 1 = a ∧ w.category = 2) := by
  unfold pm_clr at h
  split at h
  · exact ⟨h, by omega⟩
  · rename_i j
    split at h
    · rename_i z hz
      split at h
      · rename_i hb
        rw [List.getElem?_set] at h
        by_cases hij : j = i
        · subst hij
          rw [if_pos rfl] at h
          split at h
          · cases h
          · cases h
        · rw [if_neg hij] at h
          exact ⟨h, by omega⟩
      · rename_i hb
        refine ⟨h, fun q => ?_⟩
        have hij : i = j := by omega
        subst hij
        rw [hz] at h
        cases h
        rw [q.2] at hb
        cases hb
    · rename_i hz
      refine ⟨h, fun q => ?_⟩
      have hij : i = j := by omega
      subst hij
      exact hz w h
theorem pm_lo.sto1 {b n0 : Nat} {rls rls' : Array Slot} {nL : Nat} {ls : pm_L} {a : Nat} {w : Value} (h : pm_lo b n0 rls nL ls) (hc : w.category = 1)
    (h' : lv_has rls' nL ((a, pm_sh b n0 w) :: (pm_pr b n0 ls).filter (fun q => !(q.1 == a) && !(q.1 + 1 == a && q.2.category == 2)))) : pm_lo b n0 rls' nL (pm_sto ls a w) := by
  have e : pm_sto ls a w = (pm_clr ls a).set a (some w) := by
    unfold pm_sto
    rw [hc]
  rw [e]
  refine ⟨by rw [List.length_set, pm_clr_len]; exact h.1, h'.1, h'.2.1, fun q hq => h'.2.2 q ?_⟩
  obtain ⟨i, v⟩ := q
  obtain ⟨z, hz, rfl⟩ := pm_pr_mem.mp hq
  rw [List.getElem?_set] at hz
  by_cases hia : a = i
  · subst hia
    rw [if_pos rfl] at hz
    split at hz
    · cases hz
      exact List.mem_cons_self
    · cases hz
  · rw [if_neg hia] at hz
    obtain ⟨h1, h2⟩ := pm_clr_at hz
    refine List.mem_cons_of_mem _ (List.mem_filter.mpr ⟨pm_pr_mem.mpr ⟨z, h1, rfl⟩, ?_⟩)
    have n1 : (i == a) = false := by simpa using Ne.symm hia
    simp only [n1, Bool.not_false, Bool.true_and, Bool.not_eq_true', Bool.and_eq_false_iff, beq_eq_false_iff_ne, ne_eq]
    by_cases h3 : i + 1 = a
    · right
      rw [pm_sh_cat]
      exact fun q => h2 ⟨h3, q⟩
    · exact Or.inl h3
theorem pm_lo.sto2 {b n0 : Nat} {rls rls' : Array Slot} {nL : Nat} {ls : pm_L} {a : Nat} {w : Value} (h : pm_lo b n0 rls nL ls) (hc : w.category = 2)
    (h' : lv_has rls' nL ((a, pm_sh b n0 w) :: (pm_pr b n0 ls).filter (fun q => !(q.1 == a) && (!(q.1 == a + 1) && !(q.1 + 1 == a && q.2.category == 2))))) : pm_lo b n0 rls' nL (pm_sto ls a w) := by
  have e : pm_sto ls a w = ((pm_clr ls a).set (a + 1) none).set a (some w) := by
    unfold pm_sto
    rw [hc]
  rw [e]
  refine ⟨by rw [List.length_set, List.length_set, pm_clr_len]; exact h.1, h'.1, h'.2.1, fun q hq => h'.2.2 q ?_⟩
  obtain ⟨i, v⟩ := q
  obtain ⟨z, hz, rfl⟩ := pm_pr_mem.mp hq
  rw [List.getElem?_set] at hz
  by_cases hia : a = i
  · subst hia
    rw [if_pos rfl] at hz
    split at hz
    · cases hz
      exact List.mem_cons_self
    · cases hz
  · rw [if_neg hia, List.getElem?_set] at hz
    by_cases hib : a + 1 = i
    · rw [if_pos hib] at hz
      split at hz <;> cases hz
    · rw [if_neg hib] at hz
      obtain ⟨h1, h2⟩ := pm_clr_at hz
      refine List.mem_cons_of_mem _ (List.mem_filter.mpr ⟨pm_pr_mem.mpr ⟨z, h1, rfl⟩, ?_⟩)
      have n1 : (i == a) = false := by simpa using Ne.symm hia
      have n2 : (i == a + 1) = false := by simpa using Ne.symm hib
      simp only [n1, n2, Bool.not_false, Bool.true_and, Bool.not_eq_true', Bool.and_eq_false_iff, beq_eq_false_iff_ne, ne_eq]
      by_cases h3 : i + 1 = a
      · right
        rw [pm_sh_cat]
        exact fun q => h2 ⟨h3, q⟩
      · exact Or.inl h3
theorem pm_fl_len (b n0 : Nat) : ∀ av : List Value, (lg_sl (av.map (pm_sh b n0))).length = (pm_fl av).length
  | [] => rfl
  | v :: r => by
    have ih := pm_fl_len b n0 r
    unfold pm_fl
    have h1 : lg_sl ((v :: r).map (pm_sh b n0)) = (if (pm_sh b n0 v).category = 2 then [Slot.val (pm_sh b n0 v), Slot.second] else [Slot.val (pm_sh b n0 v)]) ++ lg_sl (r.map (pm_sh b n0)) := by
      simp [lg_sl]
    rw [h1, pm_sh_cat]
    rcases lv_cat v with hv | hv
    · rw [hv]; simp [ih]
    · rw [hv]; simp [ih]
theorem pm_fl_args (b n0 : Nat) : ∀ (av : List Value) (j i : Nat) (w : Value), (pm_fl av)[i]? = some (some w) → (j + i, pm_sh b n0 w) ∈ lv_args j (av.map (pm_sh b n0))
  | [], _, _, _, h => by simp [pm_fl] at h
  | v :: r, j, i, w, h => by
    unfold pm_fl at h
    show _ ∈ (j, pm_sh b n0 v) :: lv_args (if (pm_sh b n0 v).category = 2 then j + 2 else j + 1) (r.map (pm_sh b n0))
    rw [pm_sh_cat]
    rcases lv_cat v with hv | hv
    · rw [hv] at h ⊢
      match i, h with
      | 0, h =>
        have : v = w := by simpa using h
        subst this
        exact List.mem_cons_self
      | i + 1, h =>
        refine List.mem_cons_of_mem _ ?_
        have h2 : (pm_fl r)[i]? = some (some w) := h
        have := pm_fl_args b n0 r (j + 1) i w h2
        rw [show j + (i + 1) = j + 1 + i by omega]
        simpa using this
    · rw [hv] at h ⊢
      match i, h with
      | 0, h =>
        have : v = w := by simpa using h
        subst this
        exact List.mem_cons_self
      | 1, h => exact absurd h (by simp)
      | i + 2, h =>
        refine List.mem_cons_of_mem _ ?_
        have h2 : (pm_fl r)[i]? = some (some w) := h
        have := pm_fl_args b n0 r (j + 2) i w h2
        rw [show j + (i + 2) = j + 2 + i by omega]
        simpa using this
theorem pm_lo_ent (b n0 : Nat) {av : List Value} {n : Nat} (h : (pm_fl av).length ≤ n) : pm_lo b n0 ((lg_sl (av.map (pm_sh b n0)) ++ List.replicate (n - (lg_sl (av.map (pm_sh b n0))).length) Slot.unset).toArray) n (pm_ent av n) := by
  have h1 := lv_entry (av.map (pm_sh b n0)) (n := n) (by rw [pm_fl_len]; exact h)
  refine ⟨by unfold pm_ent; simp; omega, h1.1, h1.2.1, fun q hq => h1.2.2 q ?_⟩
  obtain ⟨i, v⟩ := q
  obtain ⟨z, hz, rfl⟩ := pm_pr_mem.mp hq
  unfold pm_ent at hz
  by_cases hi : i < (pm_fl av).length
  · rw [List.getElem?_append_left hi] at hz
    have := pm_fl_args b n0 av 0 i z hz
    simpa using this
  · rw [List.getElem?_append_right (by omega), List.getElem?_replicate] at hz
    split at hz <;> cases hz
end
section
def pm_tys (dA : Nat → ClassId) : List (ClassId × FieldType) := [(dA 0, .int), (dA 1, .boolean), (dA 2, .long)]
/-- what holds while method mi runs -/
def pm_X (p : Program) (s : State) (m : MethodId) (args : Array Value) (meth : Method) (c : Code) (D : va_G) (dA : Nat → ClassId) (b n0 : Nat) (sc : Nat × (Nat → Int32)) (h0 : pm_H) (mi : Nat) : Prop :=
  p.tables.exec = Jvm.exec ∧ c.code = pm_b mi ∧ c.maxLocals = pm_nl mi ∧ s.vm.findClass (pm_y mi).cls = some m.cls ∧ (∀ w ∈ pm_tbl, w.before args s = true) ∧ va_K D pm_cl (pm_tys dA) s ∧ va_X b sc.1 sc.2 s s.heap ∧ b < n0 ∧ s.heap.size = n0 + h0.length ∧ ((pm_y mi).name = "<init>" → meth.name = "<init>")
/-- the JVM goes on from the state t -/
def pm_G (p : Program) (l : Launch) (e : Env) (R : Room) (s : State) (m : MethodId) (args : Array Value) (below : List Frame) (meth : Method) (c : Code) (Q : State → Prop) (D : va_G) (dA : Nat → ClassId) (b n0 : Nat) (h0 : pm_H) (mi : Nat) (t : pm_S) : Prop :=
  ∀ (H : Heap) (locs : List Loc) (rls : Array Slot) (cells slots : Nat), va_P D pm_cl (pm_wo dA b n0 t.2.2.2) H → va_S (fun q => n0 ≤ q) s.heap H locs → pm_lo b n0 rls (pm_nl mi) t.2.1 → cells + h0.length = t.2.2.2.length → slots + pm_sz h0 = pm_sz t.2.2.2 →
    W p l e R s m args below meth c H locs cells slots Q (F0 m (pm_pc mi t.1) rls (t.2.2.1.map (pm_sh b n0)))
section PMW
variable {p : Program} {l : Launch} {e : Env} {R : Room} {s : State} {m : MethodId} {args : Array Value} {below : List Frame} {meth : Method} {c : Code} {Q : State → Prop}
variable {D : va_G} {dA : Nat → ClassId} {b n0 : Nat} {h0 : pm_H} {sc : Nat × (Nat → Int32)} {mi : Nat} {Cl : pm_C} {K : pm_S → Prop} {F : Option Value → pm_H → Prop}
variable {k a bb : Nat} {v : Value} {tl : List Nat} {ls : pm_L} {st : List Value} {h : pm_H}
theorem pm_size {H : Heap} {locs : List Loc} {cells slots : Nat} {g : JFrame} (kk : H.size ≤ s.heap.size + cells → W p l e R s m args below meth c H locs cells slots Q g) : W p l e R s m args below meth c H locs cells slots Q g :=
  fun T hT X => kk (by rw [← hT]; exact X.heapSize) T hT X
theorem pm_w0 (X : pm_X p s m args meth c D dA b n0 sc h0 mi) (ok : pm_ok mi k (0, a, bb, v, tl)) (hs : pm_sk sc Cl (0, a, bb, v, tl) (k, ls, st, h) K F) (hK : ∀ t, K t → pm_G p l e R s m args below meth c Q D dA b n0 h0 mi t) : pm_G p l e R s m args below meth c Q D dA b n0 h0 mi (k, ls, st, h) := by
  obtain ⟨hx, hb, hml, hown, hts, -⟩ := X
  intro H locs rls cells slots hP hS hl hc hz
  have hW := hK _ hs H locs rls cells slots hP hS hl hc hz
  dsimp only at hW ⊢
  rcases ok with ⟨n, hd, rfl, hp⟩ | ⟨n, hd, rfl, hp⟩ | ⟨n, hd, rfl, hp⟩ | ⟨n, hd, rfl, hp⟩ | ⟨i, cc, hd, hm, rfl, hp⟩ | ⟨i, cc, hd, hm, rfl, hp⟩
  · rw [hp] at hW
    exact lv_iconst hx hb hd rfl hW
  · rw [hp] at hW
    exact lv_bipush hx hb hd rfl hW
  · rw [hp] at hW
    exact lv_sipush hx hb hd rfl hW
  · rw [hp] at hW
    exact lv_lconst hx hb hd rfl hW
  · rw [hp] at hW
    exact lv_ldc hx hb hown (hts _ hm) hd hW
  · rw [hp] at hW
    exact lv_ldc2 hx hb hown (hts _ hm) hd hW
theorem pm_w1 (X : pm_X p s m args meth c D dA b n0 sc h0 mi) (ok : pm_ok mi k (1, a, bb, v, tl)) (hs : pm_sk sc Cl (1, a, bb, v, tl) (k, ls, st, h) K F) (hK : ∀ t, K t → pm_G p l e R s m args below meth c Q D dA b n0 h0 mi t) : pm_G p l e R s m args below meth c Q D dA b n0 h0 mi (k, ls, st, h) := by
  obtain ⟨hx, hb, hml, hown, hts, -⟩ := X
  intro H locs rls cells slots hP hS hl hc hz
  obtain ⟨w, hw, hkd, hs⟩ : ∃ w, ls[a]? = some (some w) ∧ pm_kd bb w = true ∧ K (k + 1, ls, w :: st, h) := by
    simp only [pm_sk] at hs
    split at hs
    · rename_i w hw
      split at hs
      · rename_i hkd
        exact ⟨w, hw, hkd, hs⟩
      · exact hs.elim
    · exact hs.elim
  have hW := hK _ hs H locs rls cells slots hP hS hl hc hz
  have hr := hl.at hw
  dsimp only at hW ⊢
  match bb, hkd, ok with
  | 0, hkd, ok =>
    cases w <;> try (simp [pm_kd] at hkd; done)
    rcases ok with ⟨n, hd, hn, hp⟩ | ⟨hd, hp⟩
    · rw [hp] at hW
      exact lv_iload_n hx hb hd hn hr hW
    · rw [hp] at hW
      exact lv_iload hx hb hd hr hW
  | 1, hkd, ok =>
    cases w <;> try (simp [pm_kd] at hkd; done)
    rcases ok with ⟨n, hd, hn, hp⟩ | ⟨hd, hp⟩
    · rw [hp] at hW
      exact lv_lload_n hx hb hd hn hr hW
    · rw [hp] at hW
      exact lv_lload hx hb hd hr hW
  | 2, hkd, ok =>
    cases w <;> try (simp [pm_kd] at hkd; done)
    · rcases ok with ⟨n, hd, hn, hp⟩ | ⟨hd, hp⟩
      · rw [hp] at hW
        exact lv_aload_nN hx hb hd hn hr hW
      · rw [hp] at hW
        exact lv_aloadN hx hb hd hr hW
    · rcases ok with ⟨n, hd, hn, hp⟩ | ⟨hd, hp⟩
      · rw [hp] at hW
        exact lv_aload_n hx hb hd hn hr hW
      · rw [hp] at hW
        exact lv_aload hx hb hd hr hW
theorem pm_w2 (X : pm_X p s m args meth c D dA b n0 sc h0 mi) (ok : pm_ok mi k (2, a, bb, v, tl)) (hs : pm_sk sc Cl (2, a, bb, v, tl) (k, ls, st, h) K F) (hK : ∀ t, K t → pm_G p l e R s m args below meth c Q D dA b n0 h0 mi t) : pm_G p l e R s m args below meth c Q D dA b n0 h0 mi (k, ls, st, h) := by
  obtain ⟨hx, hb, hml, hown, hts, -⟩ := X
  intro H locs rls cells slots hP hS hl hc hz
  obtain ⟨w, r, rfl, hkd, hlt, hs⟩ : ∃ w r, st = w :: r ∧ pm_kd bb w = true ∧ a + bb % 2 < ls.length ∧ K (k + 1, pm_sto ls a w, r, h) := by
    simp only [pm_sk] at hs
    split at hs
    · rename_i w r
      split at hs
      · rename_i hkd
        rw [Bool.and_eq_true] at hkd
        exact ⟨w, r, rfl, hkd.1, Nat.le_of_ble_eq_true hkd.2, hs⟩
      · exact hs.elim
    · exact hs.elim
  have hG := hK _ hs
  have hlt' : a + bb % 2 < pm_nl mi := by rw [← hl.1]; exact hlt
  have hW1 : ∀ rls', w.category = 1 → lv_has rls' (pm_nl mi) ((a, pm_sh b n0 w) :: (pm_pr b n0 ls).filter (fun q => !(q.1 == a) && !(q.1 + 1 == a && q.2.category == 2))) → W p l e R s m args below meth c H locs cells slots Q (F0 m (pm_pc mi (k + 1)) rls' (r.map (pm_sh b n0))) :=
    fun rls' hc1 h' => hG H locs rls' cells slots hP hS (hl.sto1 hc1 h') hc hz
  have hW2 : ∀ rls', w.category = 2 → lv_has rls' (pm_nl mi) ((a, pm_sh b n0 w) :: (pm_pr b n0 ls).filter (fun q => !(q.1 == a) && (!(q.1 == a + 1) && !(q.1 + 1 == a && q.2.category == 2)))) → W p l e R s m args below meth c H locs cells slots Q (F0 m (pm_pc mi (k + 1)) rls' (r.map (pm_sh b n0))) :=
    fun rls' hc1 h' => hG H locs rls' cells slots hP hS (hl.sto2 hc1 h') hc hz
  dsimp only
  match bb, hkd, ok, hlt' with
  | 0, hkd, ok, hlt' =>
    cases w <;> try (simp [pm_kd] at hkd; done)
    rcases ok with ⟨n, hd, hn, hp⟩ | ⟨hd, hp⟩
    · rw [hp] at hW1
      exact lv_istore_n hx hb hd hn hl.2 hlt' rfl (fun rls' h' => hW1 rls' rfl h')
    · rw [hp] at hW1
      exact lv_istore hx hb hd hl.2 hlt' rfl (fun rls' h' => hW1 rls' rfl h')
  | 1, hkd, ok, hlt' =>
    cases w <;> try (simp [pm_kd] at hkd; done)
    rcases ok with ⟨n, hd, hn, hp⟩ | ⟨hd, hp⟩
    · rw [hp] at hW2
      exact lv_lstore_n hx hb hd hn hl.2 hlt' rfl (fun rls' h' => hW2 rls' rfl h')
    · rw [hp] at hW2
      exact lv_lstore hx hb hd hl.2 hlt' rfl (fun rls' h' => hW2 rls' rfl h')
  | 2, hkd, ok, hlt' =>
    cases w <;> try (simp [pm_kd] at hkd; done)
    · rcases ok with ⟨n, hd, hn, hp⟩ | ⟨hd, hp⟩
      · rw [hp] at hW1
        exact lv_astore_nN hx hb hd hn hl.2 hlt' rfl (fun rls' h' => hW1 rls' rfl h')
      · rw [hp] at hW1
        exact lv_astoreN hx hb hd hl.2 hlt' rfl (fun rls' h' => hW1 rls' rfl h')
    · rcases ok with ⟨n, hd, hn, hp⟩ | ⟨hd, hp⟩
      · rw [hp] at hW1
        exact lv_astore_n hx hb hd hn hl.2 hlt' rfl (fun rls' h' => hW1 rls' rfl h')
      · rw [hp] at hW1
        exact lv_astore hx hb hd hl.2 hlt' rfl (fun rls' h' => hW1 rls' rfl h')
theorem pm_w3 (X : pm_X p s m args meth c D dA b n0 sc h0 mi) (ok : pm_ok mi k (3, a, bb, v, tl)) (hs : pm_sk sc Cl (3, a, bb, v, tl) (k, ls, st, h) K F) (hK : ∀ t, K t → pm_G p l e R s m args below meth c Q D dA b n0 h0 mi t) : pm_G p l e R s m args below meth c Q D dA b n0 h0 mi (k, ls, st, h) := by
  obtain ⟨hx, hb, hml, hown, hts, -⟩ := X
  intro H locs rls cells slots hP hS hl hc hz
  obtain ⟨n, hd, rfl, hp⟩ := ok
  obtain ⟨x, hw, hs⟩ : ∃ x, ls[a]? = some (some (.int x)) ∧ K (k + 1, pm_sto ls a (.int (x + Int32.ofInt n)), st, h) := by
    simp only [pm_sk] at hs
    split at hs
    · rename_i x hx
      exact ⟨x, hx, hs⟩
    · exact hs.elim
  have hlt' : a < pm_nl mi := by rw [← hl.1]; exact (List.getElem?_eq_some_iff.mp hw).1
  obtain ⟨j, hj⟩ := List.getElem?_of_mem (pm_pr_mem (b := b) (n0 := n0).mpr ⟨_, hw, rfl⟩)
  dsimp only
  refine lv_iinc hx hb hd hl.2 hj rfl hlt' rfl (fun rls' h' => ?_)
  have hl' : pm_lo b n0 rls' (pm_nl mi) (pm_sto ls a (.int (x + Int32.ofInt n))) := pm_lo.sto1 (ls := ls) hl rfl h'
  have hW := hK _ hs H locs rls' cells slots hP hS hl' hc hz
  dsimp only at hW
  rw [hp] at hW
  exact hW
theorem pm_w4 (X : pm_X p s m args meth c D dA b n0 sc h0 mi) (ok : pm_ok mi k (4, a, bb, v, tl)) (hs : pm_sk sc Cl (4, a, bb, v, tl) (k, ls, st, h) K F) (hK : ∀ t, K t → pm_G p l e R s m args below meth c Q D dA b n0 h0 mi t) : pm_G p l e R s m args below meth c Q D dA b n0 h0 mi (k, ls, st, h) := by
  obtain ⟨hx, hb, hml, hown, hts, -⟩ := X
  intro H locs rls cells slots hP hS hl hc hz
  obtain ⟨x, y, r, rfl, hs⟩ : ∃ (x y : Int32) (r : List Value), st = .int y :: .int x :: r ∧ K (k + 1, ls, .int (pm_ib bb x y) :: r, h) := by
    simp only [pm_sk] at hs
    split at hs
    · exact ⟨_, _, _, rfl, hs⟩
    · exact hs.elim
  have hW := hK _ hs H locs rls cells slots hP hS hl hc hz
  obtain ⟨hd, hp⟩ := ok
  dsimp only at hW ⊢
  rw [hp] at hW
  match bb, hd, hW with
  | 0, hd, hW => exact lv_iadd hx hb hd hW
  | 1, hd, hW => exact lv_isub hx hb hd hW
  | 2, hd, hW => exact lv_imul hx hb hd hW
  | 3, hd, hW => exact lv_iand hx hb hd hW
  | 4, hd, hW => exact lv_ior hx hb hd hW
  | 5, hd, hW => exact lv_ixor hx hb hd hW
  | 6, hd, hW => exact lv_ishl hx hb hd hW
  | 7, hd, hW => exact lv_ishr hx hb hd hW
  | n + 8, hd, hW => exact lv_iushr hx hb hd rfl hW
theorem pm_w6 (X : pm_X p s m args meth c D dA b n0 sc h0 mi) (ok : pm_ok mi k (6, a, bb, v, tl)) (hs : pm_sk sc Cl (6, a, bb, v, tl) (k, ls, st, h) K F) (hK : ∀ t, K t → pm_G p l e R s m args below meth c Q D dA b n0 h0 mi t) : pm_G p l e R s m args below meth c Q D dA b n0 h0 mi (k, ls, st, h) := by
  obtain ⟨hx, hb, hml, hown, hts, -⟩ := X
  intro H locs rls cells slots hP hS hl hc hz
  obtain ⟨x, y, r, rfl, hs⟩ : ∃ (x y : Int64) (r : List Value), st = .long y :: .long x :: r ∧ K (k + 1, ls, .long (pm_lb bb x y) :: r, h) := by
    simp only [pm_sk] at hs
    split at hs
    · exact ⟨_, _, _, rfl, hs⟩
    · exact hs.elim
  have hW := hK _ hs H locs rls cells slots hP hS hl hc hz
  obtain ⟨hd, hp⟩ := ok
  dsimp only at hW ⊢
  rw [hp] at hW
  match bb, hd, hW with
  | 0, hd, hW => exact lv_ladd hx hb hd hW
  | 1, hd, hW => exact lv_lsub hx hb hd hW
  | 2, hd, hW => exact lv_lmul hx hb hd hW
  | 3, hd, hW => exact lv_land hx hb hd hW
  | 4, hd, hW => exact lv_lor hx hb hd hW
  | n + 5, hd, hW => exact lv_lxor hx hb hd hW
theorem pm_w7 (X : pm_X p s m args meth c D dA b n0 sc h0 mi) (ok : pm_ok mi k (7, a, bb, v, tl)) (hs : pm_sk sc Cl (7, a, bb, v, tl) (k, ls, st, h) K F) (hK : ∀ t, K t → pm_G p l e R s m args below meth c Q D dA b n0 h0 mi t) : pm_G p l e R s m args below meth c Q D dA b n0 h0 mi (k, ls, st, h) := by
  obtain ⟨hx, hb, hml, hown, hts, -⟩ := X
  intro H locs rls cells slots hP hS hl hc hz
  obtain ⟨x, y, r, rfl, hs⟩ : ∃ (x : Int64) (y : Int32) (r : List Value), st = .int y :: .long x :: r ∧ K (k + 1, ls, .long (pm_ls bb x y) :: r, h) := by
    simp only [pm_sk] at hs
    split at hs
    · exact ⟨_, _, _, rfl, hs⟩
    · exact hs.elim
  have hW := hK _ hs H locs rls cells slots hP hS hl hc hz
  obtain ⟨hd, hp⟩ := ok
  dsimp only at hW ⊢
  rw [hp] at hW
  match bb, hd, hW with
  | 0, hd, hW => exact lv_lshl hx hb hd rfl hW
  | 1, hd, hW => exact lv_lshr hx hb hd rfl hW
  | n + 2, hd, hW => exact lv_lushr hx hb hd rfl hW
theorem pm_w8 (X : pm_X p s m args meth c D dA b n0 sc h0 mi) (ok : pm_ok mi k (8, a, bb, v, tl)) (hs : pm_sk sc Cl (8, a, bb, v, tl) (k, ls, st, h) K F) (hK : ∀ t, K t → pm_G p l e R s m args below meth c Q D dA b n0 h0 mi t) : pm_G p l e R s m args below meth c Q D dA b n0 h0 mi (k, ls, st, h) := by
  obtain ⟨hx, hb, hml, hown, hts, -⟩ := X
  intro H locs rls cells slots hP hS hl hc hz
  obtain ⟨x, r, rfl, hs⟩ : ∃ (x : Int32) (r : List Value), st = .int x :: r ∧ K (k + 1, ls, .long x.toInt64 :: r, h) := by
    simp only [pm_sk] at hs
    split at hs
    · exact ⟨_, _, rfl, hs⟩
    · exact hs.elim
  have hW := hK _ hs H locs rls cells slots hP hS hl hc hz
  obtain ⟨hd, hp⟩ := ok
  dsimp only at hW ⊢
  rw [hp] at hW
  exact lv_i2l hx hb hd rfl hW
theorem pm_w9 (X : pm_X p s m args meth c D dA b n0 sc h0 mi) (ok : pm_ok mi k (9, a, bb, v, tl)) (hs : pm_sk sc Cl (9, a, bb, v, tl) (k, ls, st, h) K F) (hK : ∀ t, K t → pm_G p l e R s m args below meth c Q D dA b n0 h0 mi t) : pm_G p l e R s m args below meth c Q D dA b n0 h0 mi (k, ls, st, h) := by
  obtain ⟨hx, hb, hml, hown, hts, -⟩ := X
  intro H locs rls cells slots hP hS hl hc hz
  obtain ⟨x, r, rfl, hs⟩ : ∃ (x : Int64) (r : List Value), st = .long x :: r ∧ K (k + 1, ls, .int x.toInt32 :: r, h) := by
    simp only [pm_sk] at hs
    split at hs
    · exact ⟨_, _, rfl, hs⟩
    · exact hs.elim
  have hW := hK _ hs H locs rls cells slots hP hS hl hc hz
  obtain ⟨hd, hp⟩ := ok
  dsimp only at hW ⊢
  rw [hp] at hW
  exact lv_l2i hx hb hd rfl hW
theorem pm_w10 (X : pm_X p s m args meth c D dA b n0 sc h0 mi) (ok : pm_ok mi k (10, a, bb, v, tl)) (hs : pm_sk sc Cl (10, a, bb, v, tl) (k, ls, st, h) K F) (hK : ∀ t, K t → pm_G p l e R s m args below meth c Q D dA b n0 h0 mi t) : pm_G p l e R s m args below meth c Q D dA b n0 h0 mi (k, ls, st, h) := by
  obtain ⟨hx, hb, hml, hown, hts, -⟩ := X
  intro H locs rls cells slots hP hS hl hc hz
  obtain ⟨x, y, r, rfl, hs⟩ : ∃ (x y : Int64) (r : List Value), st = .long y :: .long x :: r ∧ K (k + 1, ls, .int (lg_cmp x y) :: r, h) := by
    simp only [pm_sk] at hs
    split at hs
    · exact ⟨_, _, _, rfl, hs⟩
    · exact hs.elim
  have hW := hK _ hs H locs rls cells slots hP hS hl hc hz
  obtain ⟨hd, hp⟩ := ok
  dsimp only at hW ⊢
  rw [hp] at hW
  exact W.lcmp hx hb hd hW
theorem pm_w31 (X : pm_X p s m args meth c D dA b n0 sc h0 mi) (ok : pm_ok mi k (31, a, bb, v, tl)) (hs : pm_sk sc Cl (31, a, bb, v, tl) (k, ls, st, h) K F) (hK : ∀ t, K t → pm_G p l e R s m args below meth c Q D dA b n0 h0 mi t) : pm_G p l e R s m args below meth c Q D dA b n0 h0 mi (k, ls, st, h) := by
  obtain ⟨hx, hb, hml, hown, hts, -⟩ := X
  intro H locs rls cells slots hP hS hl hc hz
  obtain ⟨x, y, r, rfl, hne, hs⟩ : ∃ (x y : Int32) (r : List Value), st = .int y :: .int x :: r ∧ (¬ y = 0) ∧ K (k + 1, ls, .int (x / y) :: r, h) := by
    simp only [pm_sk] at hs
    split at hs
    · exact ⟨_, _, _, rfl, hs⟩
    · exact hs.elim
  have hW := hK _ hs H locs rls cells slots hP hS hl hc hz
  obtain ⟨hd, hp⟩ := ok
  dsimp only at hW ⊢
  rw [hp] at hW
  exact lv_idiv hx hb hd hne hW
theorem pm_w32 (X : pm_X p s m args meth c D dA b n0 sc h0 mi) (ok : pm_ok mi k (32, a, bb, v, tl)) (hs : pm_sk sc Cl (32, a, bb, v, tl) (k, ls, st, h) K F) (hK : ∀ t, K t → pm_G p l e R s m args below meth c Q D dA b n0 h0 mi t) : pm_G p l e R s m args below meth c Q D dA b n0 h0 mi (k, ls, st, h) := by
  obtain ⟨hx, hb, hml, hown, hts, -⟩ := X
  intro H locs rls cells slots hP hS hl hc hz
  obtain ⟨x, y, r, rfl, hne, hs⟩ : ∃ (x y : Int32) (r : List Value), st = .int y :: .int x :: r ∧ (¬ y = 0) ∧ K (k + 1, ls, .int (x - x / y * y) :: r, h) := by
    simp only [pm_sk] at hs
    split at hs
    · exact ⟨_, _, _, rfl, hs⟩
    · exact hs.elim
  have hW := hK _ hs H locs rls cells slots hP hS hl hc hz
  obtain ⟨hd, hp⟩ := ok
  dsimp only at hW ⊢
  rw [hp] at hW
  exact lv_irem hx hb hd hne hW
theorem pm_w11 (X : pm_X p s m args meth c D dA b n0 sc h0 mi) (ok : pm_ok mi k (11, a, bb, v, tl)) (hs : pm_sk sc Cl (11, a, bb, v, tl) (k, ls, st, h) K F) (hK : ∀ t, K t → pm_G p l e R s m args below meth c Q D dA b n0 h0 mi t) : pm_G p l e R s m args below meth c Q D dA b n0 h0 mi (k, ls, st, h) := by
  obtain ⟨hx, hb, hml, hown, hts, -⟩ := X
  intro H locs rls cells slots hP hS hl hc hz
  obtain ⟨w, r, rfl, hcat, hs⟩ : ∃ (w : Value) (r : List Value), st = w :: r ∧ Nat.beq w.category 1 = true ∧ K (k + 1, ls, w :: w :: r, h) := by
    simp only [pm_sk] at hs
    split at hs
    · split at hs
      · rename_i hcat
        exact ⟨_, _, rfl, hcat, hs⟩
      · exact hs.elim
    · exact hs.elim
  have hW := hK _ hs H locs rls cells slots hP hS hl hc hz
  obtain ⟨hd, hp⟩ := ok
  dsimp only at hW ⊢
  rw [hp] at hW
  exact lv_dup hx hb hd (by rw [pm_sh_cat]; exact Nat.eq_of_beq_eq_true hcat) hW
theorem pm_w12 (X : pm_X p s m args meth c D dA b n0 sc h0 mi) (ok : pm_ok mi k (12, a, bb, v, tl)) (hs : pm_sk sc Cl (12, a, bb, v, tl) (k, ls, st, h) K F) (hK : ∀ t, K t → pm_G p l e R s m args below meth c Q D dA b n0 h0 mi t) : pm_G p l e R s m args below meth c Q D dA b n0 h0 mi (k, ls, st, h) := by
  obtain ⟨hx, hb, hml, hown, hts, -⟩ := X
  intro H locs rls cells slots hP hS hl hc hz
  obtain ⟨w, z, r, rfl, hcat, hs⟩ : ∃ (w z : Value) (r : List Value), st = w :: z :: r ∧ (Nat.beq w.category 1 && Nat.beq z.category 1) = true ∧ K (k + 1, ls, w :: z :: w :: r, h) := by
    simp only [pm_sk] at hs
    split at hs
    · split at hs
      · rename_i hcat
        exact ⟨_, _, _, rfl, hcat, hs⟩
      · exact hs.elim
    · exact hs.elim
  rw [Bool.and_eq_true] at hcat
  have hW := hK _ hs H locs rls cells slots hP hS hl hc hz
  obtain ⟨hd, hp⟩ := ok
  dsimp only at hW ⊢
  rw [hp] at hW
  exact lv_dup_x1 hx hb hd (by rw [pm_sh_cat]; exact Nat.eq_of_beq_eq_true hcat.1) (by rw [pm_sh_cat]; exact Nat.eq_of_beq_eq_true hcat.2) hW
theorem pm_w13 (X : pm_X p s m args meth c D dA b n0 sc h0 mi) (ok : pm_ok mi k (13, a, bb, v, tl)) (hs : pm_sk sc Cl (13, a, bb, v, tl) (k, ls, st, h) K F) (hK : ∀ t, K t → pm_G p l e R s m args below meth c Q D dA b n0 h0 mi t) : pm_G p l e R s m args below meth c Q D dA b n0 h0 mi (k, ls, st, h) := by
  obtain ⟨hx, hb, hml, hown, hts, -⟩ := X
  intro H locs rls cells slots hP hS hl hc hz
  obtain ⟨w, z, r, rfl, hcat, hs⟩ : ∃ (w z : Value) (r : List Value), st = w :: z :: r ∧ (Nat.beq w.category 1 && Nat.beq z.category 1) = true ∧ K (k + 1, ls, w :: z :: w :: z :: r, h) := by
    simp only [pm_sk] at hs
    split at hs
    · split at hs
      · rename_i hcat
        exact ⟨_, _, _, rfl, hcat, hs⟩
      · exact hs.elim
    · exact hs.elim
  rw [Bool.and_eq_true] at hcat
  have hW := hK _ hs H locs rls cells slots hP hS hl hc hz
  obtain ⟨hd, hp⟩ := ok
  dsimp only at hW ⊢
  rw [hp] at hW
  exact lv_dup2_11 hx hb hd (by rw [pm_sh_cat]; exact Nat.eq_of_beq_eq_true hcat.1) (by rw [pm_sh_cat]; exact Nat.eq_of_beq_eq_true hcat.2) hW
theorem pm_w15 (X : pm_X p s m args meth c D dA b n0 sc h0 mi) (ok : pm_ok mi k (15, a, bb, v, tl)) (hs : pm_sk sc Cl (15, a, bb, v, tl) (k, ls, st, h) K F) (hK : ∀ t, K t → pm_G p l e R s m args below meth c Q D dA b n0 h0 mi t) : pm_G p l e R s m args below meth c Q D dA b n0 h0 mi (k, ls, st, h) := by
  obtain ⟨hx, hb, hml, hown, hts, -⟩ := X
  intro H locs rls cells slots hP hS hl hc hz
  obtain ⟨x, r, rfl, hs⟩ : ∃ (x : Int32) (r : List Value), st = .int x :: r ∧ pm_br bb x 0 (K (a, ls, r, h)) (K (k + 1, ls, r, h)) := by
    simp only [pm_sk] at hs
    split at hs
    · exact ⟨_, _, rfl, hs⟩
    · exact hs.elim
  have hW1 := fun q => hK (a, ls, r, h) q H locs rls cells slots hP hS hl hc hz
  have hW2 := fun q => hK (k + 1, ls, r, h) q H locs rls cells slots hP hS hl hc hz
  obtain ⟨off, hd, ht, hp⟩ := ok
  dsimp only at hW1 hW2 ⊢
  rw [hp] at hW2
  match bb, hd, hs with
  | 0, hd, hs => exact lv_if_eq hx hb hd ht (fun q => hW1 (hs.1 q)) (fun q => hW2 (hs.2 q))
  | 1, hd, hs => exact lv_if_ne hx hb hd ht (fun q => hW1 (hs.1 q)) (fun q => hW2 (hs.2 q))
  | 2, hd, hs => exact lv_if_lt hx hb hd ht (fun q => hW1 (hs.1 q)) (fun q => hW2 (hs.2 q))
  | 3, hd, hs => exact lv_if_ge hx hb hd ht (fun q => hW1 (hs.1 q)) (fun q => hW2 (hs.2 q))
  | 4, hd, hs => exact lv_if_gt hx hb hd ht (fun q => hW1 (hs.1 q)) (fun q => hW2 (hs.2 q))
  | n + 5, hd, hs => exact lv_if_le hx hb hd ht (fun q => hW1 (hs.1 q)) (fun q => hW2 (hs.2 q))
theorem pm_w16 (X : pm_X p s m args meth c D dA b n0 sc h0 mi) (ok : pm_ok mi k (16, a, bb, v, tl)) (hs : pm_sk sc Cl (16, a, bb, v, tl) (k, ls, st, h) K F) (hK : ∀ t, K t → pm_G p l e R s m args below meth c Q D dA b n0 h0 mi t) : pm_G p l e R s m args below meth c Q D dA b n0 h0 mi (k, ls, st, h) := by
  obtain ⟨hx, hb, hml, hown, hts, -⟩ := X
  intro H locs rls cells slots hP hS hl hc hz
  obtain ⟨x, y, r, rfl, hs⟩ : ∃ (x y : Int32) (r : List Value), st = .int y :: .int x :: r ∧ pm_br bb x y (K (a, ls, r, h)) (K (k + 1, ls, r, h)) := by
    simp only [pm_sk] at hs
    split at hs
    · exact ⟨_, _, _, rfl, hs⟩
    · exact hs.elim
  have hW1 := fun q => hK (a, ls, r, h) q H locs rls cells slots hP hS hl hc hz
  have hW2 := fun q => hK (k + 1, ls, r, h) q H locs rls cells slots hP hS hl hc hz
  obtain ⟨off, hd, ht, hp⟩ := ok
  dsimp only at hW1 hW2 ⊢
  rw [hp] at hW2
  match bb, hd, hs with
  | 0, hd, hs => exact lv_icmp_eq hx hb hd ht (fun q => hW1 (hs.1 q)) (fun q => hW2 (hs.2 q))
  | 1, hd, hs => exact lv_icmp_ne hx hb hd ht (fun q => hW1 (hs.1 q)) (fun q => hW2 (hs.2 q))
  | 2, hd, hs => exact lv_icmp_lt hx hb hd ht (fun q => hW1 (hs.1 q)) (fun q => hW2 (hs.2 q))
  | 3, hd, hs => exact lv_icmp_ge hx hb hd ht (fun q => hW1 (hs.1 q)) (fun q => hW2 (hs.2 q))
  | 4, hd, hs => exact lv_icmp_gt hx hb hd ht (fun q => hW1 (hs.1 q)) (fun q => hW2 (hs.2 q))
  | n + 5, hd, hs => exact lv_icmp_le hx hb hd ht (fun q => hW1 (hs.1 q)) (fun q => hW2 (hs.2 q))
theorem pm_w17 (X : pm_X p s m args meth c D dA b n0 sc h0 mi) (ok : pm_ok mi k (17, a, bb, v, tl)) (hs : pm_sk sc Cl (17, a, bb, v, tl) (k, ls, st, h) K F) (hK : ∀ t, K t → pm_G p l e R s m args below meth c Q D dA b n0 h0 mi t) : pm_G p l e R s m args below meth c Q D dA b n0 h0 mi (k, ls, st, h) := by
  obtain ⟨hx, hb, hml, hown, hts, -⟩ := X
  intro H locs rls cells slots hP hS hl hc hz
  have hW := hK _ hs H locs rls cells slots hP hS hl hc hz
  obtain ⟨off, hd, ht⟩ := ok
  exact lv_goto hx hb hd ht hW
end PMW
end
section
theorem pm_sz_set {h : pm_H} {i : Nat} {x y : pm_E} (hy : h[i]? = some y) (he : pm_sz1 x = pm_sz1 y) : pm_sz (h.set i x) = pm_sz h := by
  induction h generalizing i with
  | nil => simp at hy
  | cons z t ih =>
    cases i with
    | zero =>
      have : z = y := by simpa using hy
      subst this
      show pm_sz1 x + pm_sz t = pm_sz1 z + pm_sz t
      rw [he]
    | succ i =>
      have h1 := ih (i := i) (by simpa using hy)
      show pm_sz1 z + pm_sz (t.set i x) = pm_sz1 z + pm_sz t
      rw [h1]
theorem pm_sz_app (h : pm_H) (x : pm_E) : pm_sz (h ++ [x]) = pm_sz h + pm_sz1 x := by simp [pm_sz]
theorem pm_get_some {h : pm_H} {o : Nat} {x : pm_E} (e : pm_get h o = some x) : ∃ o', o = o' + 1 ∧ h[o']? = some x := by
  cases o with
  | zero => cases e
  | succ o' => exact ⟨o', rfl, e⟩
theorem pm_df_sh (b n0 : Nat) : ∀ c : Nat, (pm_df c).map (pm_sh b n0) = pm_df c := by
  intro c
  unfold pm_df
  split <;> rfl
theorem pm_fk_ok {b n0 kd : Nat} {w : Value} {A : Prop} {ty : FieldType} (hk : pm_fk kd w A) (hf : pm_fty kd ty = true) : narrow ty (pm_sh b n0 w) = pm_sh b n0 w ∧ fits ty (pm_sh b n0 w) = true ∧ A := by
  match kd, hk, hf with
  | 0, hk, hf =>
    simp only [pm_fk] at hk
    cases w <;> cases ty <;> simp [pm_kd, pm_fty] at hk hf
    exact ⟨rfl, rfl, hk⟩
  | 1, hk, hf =>
    simp only [pm_fk] at hk
    cases w <;> cases ty <;> simp [pm_kd, pm_fty] at hk hf
    exact ⟨rfl, rfl, hk⟩
  | 2, hk, hf =>
    simp only [pm_fk] at hk
    cases w <;> cases ty <;> simp [pm_kd, pm_fty] at hk hf <;> exact ⟨rfl, rfl, hk⟩
  | 3, hk, hf =>
    simp only [pm_fk] at hk
    cases w <;> cases ty <;> simp [pm_fty] at hk hf
    obtain ⟨h01, hA⟩ := hk
    rcases h01 with rfl | rfl
    · exact ⟨rfl, rfl, hA⟩
    · exact ⟨rfl, rfl, hA⟩
  | n + 4, hk, hf =>
    cases ty <;> simp [pm_fty] at hf
theorem pm_al_cases {sc : Nat × (Nat → Int32)} {bb : Nat} {h : pm_H} {o : Nat} {i : Int32} {KK : Value → Prop} (hs : pm_al sc bb h o i KK) :
    (o = 0 ∧ bb = 0 ∧ vp_in i sc.1 ∧ KK (.int (sc.2 i.toNatClampNeg))) ∨ (∃ (o' n : Nat) (f : Nat → Int32), o = o' + 1 ∧ bb ≤ 1 ∧ h[o']? = some (.inl (bb, n, .inl f)) ∧ vp_in i n ∧ KK (.int (f i.toNatClampNeg))) ∨ (∃ (o' n : Nat) (f : Nat → Int64), o = o' + 1 ∧ bb = 2 ∧ h[o']? = some (.inl (2, n, .inr (.inl f))) ∧ vp_in i n ∧ KK (.long (f i.toNatClampNeg))) := by
  unfold pm_al at hs
  split at hs
  · split at hs
    · exact Or.inl ⟨rfl, rfl, hs.1, hs.2⟩
    · exact hs.elim
  · split at hs
    · rename_i kk n f hh
      split at hs
      · rename_i hb
        rw [Bool.and_eq_true] at hb
        have e := Nat.eq_of_beq_eq_true hb.1
        subst e
        exact Or.inr (Or.inl ⟨_, _, _, rfl, Nat.le_of_ble_eq_true hb.2, hh, hs.1, hs.2⟩)
      · exact hs.elim
    · rename_i kk n f hh
      split at hs
      · rename_i hb
        rw [Bool.and_eq_true] at hb
        have e := Nat.eq_of_beq_eq_true hb.1
        have e2 := Nat.eq_of_beq_eq_true hb.2
        subst e
        subst e2
        exact Or.inr (Or.inr ⟨_, _, _, rfl, rfl, hh, hs.1, hs.2⟩)
      · exact hs.elim
    · exact hs.elim
theorem pm_as_cases {bb : Nat} {h : pm_H} {o : Nat} {i : Int32} {w : Value} {KK : pm_H → Prop} (hs : pm_as bb h o i w KK) :
    (∃ (o' n : Nat) (f : Nat → Int32) (x : Int32), o = o' + 1 ∧ w = .int x ∧ (bb = 0 ∨ (bb = 1 ∧ (x = 0 ∨ x = 1))) ∧ h[o']? = some (.inl (bb, n, .inl f)) ∧ vp_in i n ∧ KK (h.set o' (.inl (bb, n, .inl (upd f i.toNatClampNeg x))))) ∨ (∃ (o' n : Nat) (f : Nat → Int64) (x : Int64), o = o' + 1 ∧ w = .long x ∧ bb = 2 ∧ h[o']? = some (.inl (2, n, .inr (.inl f))) ∧ vp_in i n ∧ KK (h.set o' (.inl (2, n, .inr (.inl (vp_updL f i.toNatClampNeg x)))))) := by
  unfold pm_as at hs
  split at hs
  · exact hs.elim
  · split at hs
    · rename_i kk n f hh
      split at hs
      · split at hs
        · rename_i hb
          have e := Nat.eq_of_beq_eq_true hb
          subst e
          split at hs
          · exact Or.inl ⟨_, _, _, _, rfl, rfl, Or.inl rfl, hh, hs.1, hs.2⟩
          · exact Or.inl ⟨_, _, _, _, rfl, rfl, Or.inr ⟨rfl, hs.2.1⟩, hh, hs.1, hs.2.2⟩
          · exact hs.elim
        · exact hs.elim
      · exact hs.elim
    · rename_i kk n f hh
      split at hs
      · split at hs
        · rename_i hb
          rw [Bool.and_eq_true] at hb
          have e := Nat.eq_of_beq_eq_true hb.1
          have e2 := Nat.eq_of_beq_eq_true hb.2
          subst e
          subst e2
          exact Or.inr ⟨_, _, _, _, rfl, rfl, rfl, hh, hs.1, hs.2⟩
        · exact hs.elim
      · exact hs.elim
    · exact hs.elim
section PMH
variable {p : Program} {l : Launch} {e : Env} {R : Room} {s : State} {m : MethodId} {args : Array Value} {below : List Frame} {meth : Method} {c : Code} {Q : State → Prop}
variable {D : va_G} {dA : Nat → ClassId} {b n0 : Nat} {h0 : pm_H} {sc : Nat × (Nat → Int32)} {mi : Nat} {Cl : pm_C} {K : pm_S → Prop} {F : Option Value → pm_H → Prop}
variable {k a bb : Nat} {v : Value} {tl : List Nat} {ls : pm_L} {st : List Value} {h : pm_H}
theorem pm_w18 (X : pm_X p s m args meth c D dA b n0 sc h0 mi) (ok : pm_ok mi k (18, a, bb, v, tl)) (hs0 : pm_sk sc Cl (18, a, bb, v, tl) (k, ls, st, h) K F) (hK : ∀ t, K t → pm_G p l e R s m args below meth c Q D dA b n0 h0 mi t) : pm_G p l e R s m args below meth c Q D dA b n0 h0 mi (k, ls, st, h) := by
  obtain ⟨hx, hb, hml, hown, hts, hKv, -⟩ := X
  intro H locs rls cells slots hP hS hl hc hz
  obtain ⟨o, r, fs, w, rfl, ho, hfs, hs⟩ : ∃ (o : Nat) (r fs : List Value) (w : Value), st = .ref o :: r ∧ pm_get h o = some (.inr (a, fs)) ∧ fs[bb]? = some w ∧ K (k + 1, ls, w :: r, h) := by
    simp only [pm_sk] at hs0
    split at hs0
    · split at hs0
      · rename_i ci fs hg
        split at hs0
        · rename_i hb
          have e := Nat.eq_of_beq_eq_true hb
          subst e
          split at hs0
          · rename_i w hw
            exact ⟨_, _, fs, w, rfl, hg, hw, hs0⟩
          · exact hs0.elim
        · exact hs0.elim
      · exact hs0.elim
    · exact hs0.elim
  obtain ⟨o', rfl, ho⟩ := pm_get_some ho
  have hW := hK _ hs H locs rls cells slots hP hS hl hc hz
  have he := pm_wo_some (dA := dA) (b := b) (n0 := n0) ho
  have hv : (fs.map (pm_sh b n0))[bb]? = some (pm_sh b n0 w) := by rw [List.getElem?_map, hfs]; rfl
  obtain ⟨i, C, T, N, hd, hp, hc', hbN, hin, hlk⟩ := ok
  dsimp only at hW ⊢
  rw [hp] at hW
  rcases hlk with hlk | ⟨host, hlk⟩
  · exact va_get (D := D) hx hb hts hin hown hKv hP o' he hc' bb hbN (hts _ hlk) (fun _ h9 => h9) hv hd hW
  · exact va_getN (D := D) (host := host) hx hb hts hin hown hKv hP o' he hc' bb hbN (hts _ hlk) (fun _ h9 => h9) hv hd hW
theorem pm_w19 (X : pm_X p s m args meth c D dA b n0 sc h0 mi) (ok : pm_ok mi k (19, a, bb, v, tl)) (hs0 : pm_sk sc Cl (19, a, bb, v, tl) (k, ls, st, h) K F) (hK : ∀ t, K t → pm_G p l e R s m args below meth c Q D dA b n0 h0 mi t) : pm_G p l e R s m args below meth c Q D dA b n0 h0 mi (k, ls, st, h) := by
  obtain ⟨hx, hb, hml, hown, hts, hKv, -, -, -, hini⟩ := X
  intro H locs rls cells slots hP hS hl hc hz
  obtain ⟨o, r, fs, w, rfl, ho, hfs, hs⟩ : ∃ (o : Nat) (r fs : List Value) (w : Value), st = w :: .ref o :: r ∧ pm_get h o = some (.inr (a, fs)) ∧ bb < fs.length ∧ pm_fk (tl.headD 9) w (K (k + 1, ls, r, pm_set h o (.inr (a, fs.set bb w)))) := by
    simp only [pm_sk] at hs0
    split at hs0
    · split at hs0
      · rename_i ci fs hg
        split at hs0
        · rename_i hb
          rw [Bool.and_eq_true] at hb
          have e := Nat.eq_of_beq_eq_true hb.1
          subst e
          exact ⟨_, _, fs, _, rfl, hg, Nat.le_of_ble_eq_true hb.2, hs0⟩
        · exact hs0.elim
      · exact hs0.elim
    · exact hs0.elim
  obtain ⟨o', rfl, ho⟩ := pm_get_some ho
  obtain ⟨i, C, T, N, ty, hd, hp, hc', hbN, hin, hty, hnm, hft, hlk⟩ := ok
  obtain ⟨hn, hfit, hs⟩ := pm_fk_ok (b := b) (n0 := n0) hs hft
  have he := pm_wo_some (dA := dA) (b := b) (n0 := n0) ho
  have kk : ∀ (H1 : Heap) (locs1 : List Loc), va_P D pm_cl ((pm_wo dA b n0 h).set o' (n0 + o', .inr (a, (fs.map (pm_sh b n0)).set bb (pm_sh b n0 w)))) H1 → va_D (fun q => n0 ≤ q) ((pm_wo dA b n0 h).set o' (n0 + o', .inr (a, (fs.map (pm_sh b n0)).set bb (pm_sh b n0 w)))) → va_S (fun q => n0 ≤ q) s.heap H1 locs1 → W p l e R s m args below meth c H1 locs1 cells slots Q (F0 m (pm_pc mi k + 3) rls (r.map (pm_sh b n0))) := by
    intro H1 locs1 hP1 _ hS1
    have hW := hK _ hs H1 locs1 rls cells slots (by
      show va_P D pm_cl (pm_wo dA b n0 (h.set o' (.inr (a, fs.set bb w)))) H1
      rw [pm_wo_set]
      show va_P D pm_cl ((pm_wo dA b n0 h).set o' (n0 + o', .inr (a, (fs.set bb w).map (pm_sh b n0)))) H1
      rw [List.map_set]
      exact hP1) hS1 hl (by show cells + h0.length = (h.set o' _).length; rw [List.length_set]; exact hc) (by
      show slots + pm_sz h0 = pm_sz (h.set o' _)
      rw [pm_sz_set ho (by simp [pm_sz1])]
      exact hz)
    dsimp only at hW
    rw [hp] at hW
    exact hW
  have hlen : bb < (fs.map (pm_sh b n0)).length := by rw [List.length_map]; exact hfs
  dsimp only
  rcases hlk with ⟨hfin, hlk | ⟨host, hlk⟩⟩ | ⟨hfin, hnm1, hdecl, hlk⟩
  · exact va_put (D := D) (ty := ty bb) hx hb hts hin ty hty hnm hown hKv hP (pm_wo_D dA b n0 h) hS o' he hc' bb hbN (hts _ hlk) (fun _ h9 => h9) hfin (hty bb hbN) hn hfit hlen hd kk
  · exact va_putN (D := D) (host := host) (ty := ty bb) hx hb hts hin ty hty hnm hown hKv hP (pm_wo_D dA b n0 h) hS o' he hc' bb hbN (hts _ hlk) (fun _ h9 => h9) hfin (hty bb hbN) hn hfit hlen hd kk
  · exact va_putF (D := D) (ty := ty bb) hx hb hts hin ty hty hnm hown hKv hP (pm_wo_D dA b n0 h) hS o' he hc' bb hbN (hts _ hlk) (fun _ h9 => h9) hfin (hini hnm1) hdecl (hty bb hbN) hn hfit hlen hd kk
theorem pm_w20 (X : pm_X p s m args meth c D dA b n0 sc h0 mi) (ok : pm_ok mi k (20, a, bb, v, tl)) (hs0 : pm_sk sc Cl (20, a, bb, v, tl) (k, ls, st, h) K F) (hK : ∀ t, K t → pm_G p l e R s m args below meth c Q D dA b n0 h0 mi t) : pm_G p l e R s m args below meth c Q D dA b n0 h0 mi (k, ls, st, h) := by
  obtain ⟨hx, hb, hml, hown, hts, hKv, hX, hbn, hsz, -⟩ := X
  intro H locs rls cells slots hP hS hl hc hz
  obtain ⟨i, o, r, rfl, hs⟩ : ∃ (i : Int32) (o : Nat) (r : List Value), st = .int i :: .ref o :: r ∧ pm_al sc bb h o i (fun w => K (k + 1, ls, w :: r, h)) := by
    simp only [pm_sk] at hs0
    split at hs0
    · exact ⟨_, _, _, rfl, hs0⟩
    · exact hs0.elim
  obtain ⟨hd, hp⟩ := ok
  dsimp only
  rcases pm_al_cases hs with ⟨rfl, rfl, hin, hs⟩ | ⟨o', n, f, rfl, hb1, ho, hin, hs⟩ | ⟨o', n, f, rfl, rfl, ho, hin, hs⟩
  · have hW := hK _ hs H locs rls cells slots hP hS hl hc hz
    dsimp only at hW
    rw [hp] at hW
    exact va_sld hx hb hX (by omega) (by show ¬ n0 ≤ b; omega) hS hin hd hW
  · have hW := hK _ hs H locs rls cells slots hP hS hl hc hz
    dsimp only at hW
    rw [hp] at hW
    have he := pm_wo_some (dA := dA) (b := b) (n0 := n0) ho
    match bb, hb1, hd, he with
    | 0, _, hd, he => exact va_iald (D := D) hx hb hKv hP o' 0 he rfl hin hd hW
    | 1, _, hd, he => exact va_zald (D := D) hx hb hKv hP o' 1 he rfl hin hd hW
  · have hW := hK _ hs H locs rls cells slots hP hS hl hc hz
    dsimp only at hW
    rw [hp] at hW
    have he := pm_wo_some (dA := dA) (b := b) (n0 := n0) ho
    exact va_lald (D := D) hx hb hKv hP o' 2 he rfl hin hd hW
theorem pm_nar_b {x : Int32} (h : x = 0 ∨ x = 1) : vp_nar .boolean x = x := by
  rcases h with rfl | rfl <;> decide
theorem pm_w21 (X : pm_X p s m args meth c D dA b n0 sc h0 mi) (ok : pm_ok mi k (21, a, bb, v, tl)) (hs0 : pm_sk sc Cl (21, a, bb, v, tl) (k, ls, st, h) K F) (hK : ∀ t, K t → pm_G p l e R s m args below meth c Q D dA b n0 h0 mi t) : pm_G p l e R s m args below meth c Q D dA b n0 h0 mi (k, ls, st, h) := by
  obtain ⟨hx, hb, hml, hown, hts, hKv, hX, hbn, hsz, -⟩ := X
  intro H locs rls cells slots hP hS hl hc hz
  obtain ⟨w, i, o, r, rfl, hs⟩ : ∃ (w : Value) (i : Int32) (o : Nat) (r : List Value), st = w :: .int i :: .ref o :: r ∧ pm_as bb h o i w (fun h' => K (k + 1, ls, r, h')) := by
    simp only [pm_sk] at hs0
    split at hs0
    · exact ⟨_, _, _, _, rfl, hs0⟩
    · exact hs0.elim
  obtain ⟨hd, hp⟩ := ok
  dsimp only
  rcases pm_as_cases hs with ⟨o', n, f, x, rfl, rfl, hb1, ho, hin, hs⟩ | ⟨o', n, f, x, rfl, rfl, rfl, ho, hin, hs⟩
  · have he := pm_wo_some (dA := dA) (b := b) (n0 := n0) ho
    have kk : ∀ (H1 : Heap) (locs1 : List Loc), va_P D pm_cl ((pm_wo dA b n0 h).set o' (n0 + o', .inl (dA bb, n, .inl (upd f i.toNatClampNeg x)))) H1 → va_S (fun q => n0 ≤ q) s.heap H1 locs1 → W p l e R s m args below meth c H1 locs1 cells slots Q (F0 m (pm_pc mi k + 1) rls (r.map (pm_sh b n0))) := by
      intro H1 locs1 hP1 hS1
      have hW := hK _ hs H1 locs1 rls cells slots (by
        show va_P D pm_cl (pm_wo dA b n0 (h.set o' _)) H1
        rw [pm_wo_set]
        exact hP1) hS1 hl (by show cells + h0.length = (h.set o' _).length; rw [List.length_set]; exact hc) (by
        show slots + pm_sz h0 = pm_sz (h.set o' _)
        rw [pm_sz_set ho (by simp [pm_sz1])]
        exact hz)
      dsimp only at hW
      rw [hp] at hW
      exact hW
    rcases hb1 with rfl | ⟨rfl, h01⟩
    · exact va_iast (D := D) hx hb hKv hP (pm_wo_D dA b n0 h) hS o' 0 he rfl hin hd (fun H1 locs1 hP1 _ hS1 => kk H1 locs1 hP1 hS1)
    · refine va_zast (D := D) hx hb hKv hP (pm_wo_D dA b n0 h) hS o' 1 he rfl hin hd (fun H1 locs1 hP1 _ hS1 => kk H1 locs1 ?_ hS1)
      rw [pm_nar_b h01] at hP1
      exact hP1
  · have he := pm_wo_some (dA := dA) (b := b) (n0 := n0) ho
    have kk : ∀ (H1 : Heap) (locs1 : List Loc), va_P D pm_cl ((pm_wo dA b n0 h).set o' (n0 + o', .inl (dA 2, n, .inr (.inl (vp_updL f i.toNatClampNeg x))))) H1 → va_S (fun q => n0 ≤ q) s.heap H1 locs1 → W p l e R s m args below meth c H1 locs1 cells slots Q (F0 m (pm_pc mi k + 1) rls (r.map (pm_sh b n0))) := by
      intro H1 locs1 hP1 hS1
      have hW := hK _ hs H1 locs1 rls cells slots (by
        show va_P D pm_cl (pm_wo dA b n0 (h.set o' _)) H1
        rw [pm_wo_set]
        exact hP1) hS1 hl (by show cells + h0.length = (h.set o' _).length; rw [List.length_set]; exact hc) (by
        show slots + pm_sz h0 = pm_sz (h.set o' _)
        rw [pm_sz_set ho (by simp [pm_sz1])]
        exact hz)
      dsimp only at hW
      rw [hp] at hW
      exact hW
    exact va_last (D := D) hx hb hKv hP (pm_wo_D dA b n0 h) hS o' 2 he rfl hin hd (fun H1 locs1 hP1 _ hS1 => kk H1 locs1 hP1 hS1)
theorem pm_w22 (X : pm_X p s m args meth c D dA b n0 sc h0 mi) (ok : pm_ok mi k (22, a, bb, v, tl)) (hs0 : pm_sk sc Cl (22, a, bb, v, tl) (k, ls, st, h) K F) (hK : ∀ t, K t → pm_G p l e R s m args below meth c Q D dA b n0 h0 mi t) : pm_G p l e R s m args below meth c Q D dA b n0 h0 mi (k, ls, st, h) := by
  obtain ⟨hx, hb, hml, hown, hts, hKv, hX, hbn, hsz, -⟩ := X
  intro H locs rls cells slots hP hS hl hc hz
  obtain ⟨r, rfl, hs⟩ : ∃ (r : List Value), st = .ref 0 :: r ∧ K (k + 1, ls, .int (Int32.ofNat sc.1) :: r, h) := by
    simp only [pm_sk] at hs0
    split at hs0
    · rename_i o r
      cases o with
      | zero => exact ⟨_, rfl, hs0⟩
      | succ o => exact hs0.elim
    · exact hs0.elim
  have hW := hK _ hs H locs rls cells slots hP hS hl hc hz
  obtain ⟨hd, hp⟩ := ok
  dsimp only at hW ⊢
  rw [hp] at hW
  exact va_slen (b := b) hx hb hX (by omega) (by show ¬ n0 ≤ b; omega) hS hd hW
/-- the address of a new cell -/
theorem pm_new_at {H1 : Heap} {q : Nat} {x : va_E} (hP1 : va_P D pm_cl (pm_wo dA b n0 h ++ [(q, x)]) H1) (hD1 : va_D (fun q => n0 ≤ q) (pm_wo dA b n0 h ++ [(q, x)])) (hz : H1.size ≤ n0 + h.length + 1) : q = n0 + h.length := by
  have hat : (pm_wo dA b n0 h ++ [(q, x)])[h.length]? = some (q, x) := by
    rw [List.getElem?_append_right (by rw [pm_wo_len]; exact Nat.le_refl _), pm_wo_len, Nat.sub_self]
    rfl
  have h1 : q < H1.size := (hP1 _ _ hat).lt
  have h2 : n0 ≤ q := hD1.2 _ _ hat
  by_cases h3 : q = n0 + h.length
  · exact h3
  · have hlt : q - n0 < h.length := by omega
    have hat2 : (pm_wo dA b n0 h ++ [(q, x)])[q - n0]? = some (n0 + (q - n0), pm_tr dA b n0 h[q - n0]) := by
      rw [List.getElem?_append_left (by rw [pm_wo_len]; exact hlt)]
      exact pm_wo_some (List.getElem?_eq_getElem hlt)
    have := hD1.1 _ _ _ _ hat2 hat (by show n0 + (q - n0) = q; omega)
    omega
theorem pm_w23 (X : pm_X p s m args meth c D dA b n0 sc h0 mi) (ok : pm_ok mi k (23, a, bb, v, tl)) (hs0 : pm_sk sc Cl (23, a, bb, v, tl) (k, ls, st, h) K F) (hK : ∀ t, K t → pm_G p l e R s m args below meth c Q D dA b n0 h0 mi t) (hB : ∀ t, K t → t.2.2.2.length ≤ R.cells + h0.length ∧ pm_sz t.2.2.2 ≤ R.slots + pm_sz h0) : pm_G p l e R s m args below meth c Q D dA b n0 h0 mi (k, ls, st, h) := by
  obtain ⟨hx, hb, hml, hown, hts, hKv, hX, hbn, hsz, -⟩ := X
  intro H locs rls cells slots hP hS hl hc hz
  obtain ⟨i, C, T, N, ty, hd, hp, hc', hin, hty, hdf, hdl, h1, h2, h3⟩ := ok
  have hs : K (k + 1, ls, .ref (h.length + 1) :: st, h ++ [.inr (a, pm_df a)]) := hs0
  have hb1 := hB _ hs
  dsimp only at hb1 hc hz ⊢
  rw [List.length_append, pm_sz_app] at hb1
  have e1 : pm_sz1 (.inr (a, pm_df a)) = N := hdl
  rw [e1] at hb1
  have e2 : ([(.inr (a, pm_df a) : pm_E)]).length = 1 := rfl
  rw [e2] at hb1
  refine va_new (D := D) (fs := pm_df a) hx hb hts hin ty hty hown (hts _ h1) (hts _ h2) (hts _ h3) hKv hP (pm_wo_D dA b n0 h) hS (fun q hq => by show n0 ≤ q; omega) hc' hdf (by omega) (by omega) hd (fun q H1 hP1 hD1 hS1 => ?_)
  refine pm_size (fun hsz1 => ?_)
  have hq := pm_new_at (h := h) hP1 hD1 (by omega)
  subst hq
  have hW := hK _ hs H1 locs rls (cells + 1) (slots + N) (by
    show va_P D pm_cl (pm_wo dA b n0 (h ++ [_])) H1
    rw [pm_wo_app]
    show va_P D pm_cl (pm_wo dA b n0 h ++ [(n0 + h.length, .inr (a, (pm_df a).map (pm_sh b n0)))]) H1
    rw [pm_df_sh]
    exact hP1) hS1 hl (by show cells + 1 + h0.length = (h ++ [_]).length; rw [List.length_append, e2]; omega) (by
    show slots + N + pm_sz h0 = pm_sz (h ++ [_])
    rw [pm_sz_app, e1]
    omega)
  dsimp only at hW
  rw [hp] at hW
  exact hW
theorem pm_w24 (X : pm_X p s m args meth c D dA b n0 sc h0 mi) (ok : pm_ok mi k (24, a, bb, v, tl)) (hs0 : pm_sk sc Cl (24, a, bb, v, tl) (k, ls, st, h) K F) (hK : ∀ t, K t → pm_G p l e R s m args below meth c Q D dA b n0 h0 mi t) (hB : ∀ t, K t → t.2.2.2.length ≤ R.cells + h0.length ∧ pm_sz t.2.2.2 ≤ R.slots + pm_sz h0) : pm_G p l e R s m args below meth c Q D dA b n0 h0 mi (k, ls, st, h) := by
  obtain ⟨hx, hb, hml, hown, hts, hKv, hX, hbn, hsz, -⟩ := X
  intro H locs rls cells slots hP hS hl hc hz
  obtain ⟨ha3, hd, hp, hm⟩ := ok
  obtain ⟨n, r, rfl, rfl, hle, hs⟩ : ∃ (n : Int32) (r : List Value), st = .int n :: r ∧ n = Int32.ofNat bb ∧ bb ≤ 100000 ∧ K (k + 1, ls, .ref (h.length + 1) :: r, h ++ [pm_zero a bb]) := by
    simp only [pm_sk] at hs0
    split at hs0
    · split at hs0
      · rename_i hb
        rw [Bool.and_eq_true, decide_eq_true_eq] at hb
        exact ⟨_, _, rfl, hb.1, Nat.le_of_ble_eq_true hb.2, hs0⟩
      · exact hs0.elim
    · exact hs0.elim
  have hb1 := hB _ hs
  dsimp only at hb1 hc hz ⊢
  rw [List.length_append, pm_sz_app] at hb1
  have e2 : ([pm_zero a bb]).length = 1 := rfl
  rw [e2] at hb1
  have hpos : ¬ Int32.ofNat bb < 0 := nI_pos (by omega)
  have hcl : (Int32.ofNat bb).toNatClampNeg = bb := nI_clamp (by omega)
  have key : ∀ (kd : Nat) (a0 : vp_A) (ty : FieldType), pm_zero a bb = .inl (kd, a0) → (pm_tys dA)[kd]? = some (dA kd, ty) → kd < 3 → newarray.typeOf (pm_aty a) = ty → a0.1 = bb → (∀ cA : ClassId, vp_cell cA a0 = arrV cA bb (fun _ => defaultValue ty)) → bb * componentBytes ty ≤ 536870912 → (∀ cA : ClassId, va_RA s cA ty → va_RA s (dA kd) ty → cA = dA kd) →
      W p l e R s m args below meth c H locs cells slots Q (F0 m (pm_pc mi k) rls ((Value.int (Int32.ofNat bb) :: r).map (pm_sh b n0))) := by
    intro kd a0 ty hzero hty hk3 hte ha0 hcell hby huniq
    have e1 : pm_sz1 (pm_zero a bb) = bb := by rw [hzero]; exact ha0
    rw [e1] at hb1
    refine va_newa (D := D) (a0 := a0) hx hb (hts _ hm) hte hKv hP (pm_wo_D dA b n0 h) hS (fun q hq => by show n0 ≤ q; omega) hcell hpos hcl hby (by omega) (by omega) hd (fun q cA H1 hK1 hP1 hD1 hS1 => ?_)
    have hcA : cA = dA kd := huniq cA (hK1.2 3 (cA, ty) rfl).2 (hKv.2 kd _ hty).2
    subst hcA
    refine pm_size (fun hsz1 => ?_)
    have hq := pm_new_at (h := h) hP1 hD1 (by omega)
    subst hq
    have hW := hK _ hs H1 locs rls (cells + 1) (slots + bb) (by
      show va_P D pm_cl (pm_wo dA b n0 (h ++ [_])) H1
      rw [pm_wo_app, hzero]
      exact hP1) hS1 hl (by show cells + 1 + h0.length = (h ++ [_]).length; rw [List.length_append, e2]; omega) (by
      show slots + bb + pm_sz h0 = pm_sz (h ++ [_])
      rw [pm_sz_app, e1]
      omega)
    dsimp only at hW
    rw [hp] at hW
    exact hW
  match a, ha3, key with
  | 0, _, key => exact key 0 _ .int rfl rfl (by omega) rfl rfl (fun _ => rfl) (by show bb * 4 ≤ _; omega) (fun cA h1 h2 => Option.some.inj (Eq.trans (Eq.symm h1) h2))
  | 1, _, key => exact key 1 _ .boolean rfl rfl (by omega) rfl rfl (fun _ => rfl) (by show bb * 1 ≤ _; omega) (fun cA h1 h2 => Option.some.inj (Eq.trans (Eq.symm h1) h2))
  | 2, _, key => exact key 2 _ .long rfl rfl (by omega) rfl rfl (fun _ => rfl) (by show bb * 8 ≤ _; omega) (fun cA h1 h2 => Option.some.inj (Eq.trans (Eq.symm h1) h2))
theorem pm_w28 (X : pm_X p s m args meth c D dA b n0 sc h0 mi) (ok : pm_ok mi k (28, a, bb, v, tl)) (hs0 : pm_sk sc Cl (28, a, bb, v, tl) (k, ls, st, h) K F) (hK : ∀ t, K t → pm_G p l e R s m args below meth c Q D dA b n0 h0 mi t) (hR : 1 ≤ R.frames ∧ 40 ≤ R.locals) : pm_G p l e R s m args below meth c Q D dA b n0 h0 mi (k, ls, st, h) := by
  obtain ⟨hx, hb, hml, hown, hts, hKv, hX, hbn, hsz, -⟩ := X
  intro H locs rls cells slots hP hS hl hc hz
  obtain ⟨o, r, rfl, hcat, hs⟩ : ∃ (o : Nat) (r : List Value), st = .ref o :: r ∧ pm_cat r ≤ 8 ∧ K (k + 1, ls, r, h) := by
    simp only [pm_sk] at hs0
    split at hs0
    · split at hs0
      · rename_i hb
        exact ⟨_, _, rfl, Nat.le_of_ble_eq_true hb, hs0⟩
      · exact hs0.elim
    · exact hs0.elim
  have hW := hK _ hs H locs rls cells slots hP hS hl hc hz
  obtain ⟨i, hd, hp, h1, h2, h3⟩ := ok
  have hcat2 : ((r.map (pm_sh b n0)).map fun v => v.category).sum = pm_cat r := by
    unfold pm_cat
    rw [List.map_map]
    congr 1
    apply List.map_congr_left
    intro v _
    exact pm_sh_cat b n0 v
  dsimp only at hW ⊢
  rw [hp] at hW
  refine W.objInit hx hb hown (hts _ h1) (hts _ h2) (hts _ h3) rfl (by rw [hml]; exact hl.2.1) rfl hd hR.1 ?_ hW
  show 2 * 0 + ((r.map (pm_sh b n0)).map fun v => v.category).sum + 12 ≤ R.locals
  omega
theorem pm_w29 (X : pm_X p s m args meth c D dA b n0 sc h0 mi) (ok : pm_ok mi k (29, a, bb, v, tl)) (hs0 : pm_sk sc Cl (29, a, bb, v, tl) (k, ls, st, h) K F) (hK : ∀ t, K t → pm_G p l e R s m args below meth c Q D dA b n0 h0 mi t) : pm_G p l e R s m args below meth c Q D dA b n0 h0 mi (k, ls, st, h) := by
  obtain ⟨hx, hb, hml, hown, hts, hKv, hX, hbn, hsz, -⟩ := X
  intro H locs rls cells slots hP hS hl hc hz
  obtain ⟨x, r, rfl, hs1, hs2⟩ : ∃ (x : Int32) (r : List Value), st = .int x :: r ∧ (∀ j : Nat, j < tl.length → x = Int32.ofNat j → K (tl.getD j 0, ls, r, h)) ∧ ((x.toInt < 0 ∨ (tl.length : Int) ≤ x.toInt) → K (a, ls, r, h)) := by
    simp only [pm_sk] at hs0
    split at hs0
    · split at hs0
      · exact ⟨_, _, rfl, hs0.1, hs0.2⟩
      · exact hs0.elim
    · exact hs0.elim
  obtain ⟨df, hi, offs, len, hd, ht, hhi, hoff⟩ := ok
  dsimp only
  by_cases hin : x.toInt < 0 ∨ (tl.length : Int) ≤ x.toInt
  · have hW := hK _ (hs2 hin) H locs rls cells slots hP hS hl hc hz
    exact lv_tableOut hx hb hd (by omega) ht hW
  · have hj : ∃ j : Nat, x.toInt = (j : Int) ∧ j < tl.length := ⟨x.toInt.toNat, by omega, by omega⟩
    obtain ⟨j, hj1, hj2⟩ := hj
    have hxj : x = Int32.ofNat j := by
      apply Int32.toInt_inj.mp
      rw [hj1]
      have : x.toInt < 2 ^ 31 := Int32.toInt_lt x
      exact (nI_toInt (by omega)).symm
    have hW := hK _ (hs1 j hj2 hxj) H locs rls cells slots hP hS hl hc hz
    have h3 := hoff j hj2
    rw [Option.map_eq_some_iff] at h3
    obtain ⟨off, ho1, ho2⟩ := h3
    exact lv_tableIn hx hb hd (by omega) (by omega) (by rw [hj1]; simpa using ho1) ho2 hW
theorem pm_w30 (X : pm_X p s m args meth c D dA b n0 sc h0 mi) (ok : pm_ok mi k (30, a, bb, v, tl)) (hs0 : pm_sk sc Cl (30, a, bb, v, tl) (k, ls, st, h) K F) (hK : ∀ t, K t → pm_G p l e R s m args below meth c Q D dA b n0 h0 mi t) (hR : 1 ≤ R.frames ∧ 40 ≤ R.locals) (hB : ∀ t, K t → t.2.2.2.length ≤ R.cells + h0.length ∧ pm_sz t.2.2.2 ≤ R.slots + pm_sz h0) : pm_G p l e R s m args below meth c Q D dA b n0 h0 mi (k, ls, st, h) := by
  obtain ⟨hx, hb, hml, hown, hts, hKv, hX, hbn, hsz, -⟩ := X
  intro H locs rls cells slots hP hS hl hc hz
  obtain ⟨x, y, r, rfl, hcat, hs⟩ : ∃ (x y : Int32) (r : List Value), st = .int y :: .int x :: r ∧ pm_cat r ≤ 8 ∧ K (k + 1, ls, .int (if y < x then y else x) :: r, h) := by
    simp only [pm_sk] at hs0
    split at hs0
    · split at hs0
      · rename_i hb
        exact ⟨_, _, _, rfl, Nat.le_of_ble_eq_true hb, hs0⟩
      · exact hs0.elim
    · exact hs0.elim
  have hW := hK _ hs H locs rls cells slots hP hS hl hc hz
  have hb1 := hB _ hs
  obtain ⟨i, hd, hp, h1, h2, h3, h4⟩ := ok
  have hcat2 : ((r.map (pm_sh b n0)).map fun v => v.category).sum = pm_cat r := by
    unfold pm_cat
    rw [List.map_map]
    congr 1
    apply List.map_congr_left
    intro v _
    exact pm_sh_cat b n0 v
  dsimp only at hW hb1 hc hz ⊢
  rw [hp] at hW
  exact va_mmin hx hb (by rw [hml]; exact hl.2.1.symm) hown (hts _ h1) (hts _ h2) (hts _ h4) (hts _ h3) hR.1 (by omega) (by omega) (by omega) hd hW
end PMH
end
section
theorem pm_br_cases {bb : Nat} {x y : Int32} {A B : Prop} (h : pm_br bb x y A B) : (A ∧ ∀ A' B' : Prop, A' → pm_br bb x y A' B') ∨ (B ∧ ∀ A' B' : Prop, B' → pm_br bb x y A' B') := by
  match bb, h with
  | 0, h =>
    by_cases q : x = y
    · exact Or.inl ⟨h.1 q, fun A' B' a => ⟨fun _ => a, fun n => absurd q n⟩⟩
    · exact Or.inr ⟨h.2 q, fun A' B' a => ⟨fun n => absurd n q, fun _ => a⟩⟩
  | 1, h =>
    by_cases q : x = y
    · exact Or.inr ⟨h.2 q, fun A' B' a => ⟨fun n => absurd q n, fun _ => a⟩⟩
    · exact Or.inl ⟨h.1 q, fun A' B' a => ⟨fun _ => a, fun n => absurd n q⟩⟩
  | 2, h =>
    by_cases q : x < y
    · exact Or.inl ⟨h.1 q, fun A' B' a => ⟨fun _ => a, fun n => absurd q n⟩⟩
    · exact Or.inr ⟨h.2 q, fun A' B' a => ⟨fun n => absurd n q, fun _ => a⟩⟩
  | 3, h =>
    by_cases q : y ≤ x
    · exact Or.inl ⟨h.1 q, fun A' B' a => ⟨fun _ => a, fun n => absurd q n⟩⟩
    · exact Or.inr ⟨h.2 q, fun A' B' a => ⟨fun n => absurd n q, fun _ => a⟩⟩
  | 4, h =>
    by_cases q : y < x
    · exact Or.inl ⟨h.1 q, fun A' B' a => ⟨fun _ => a, fun n => absurd q n⟩⟩
    · exact Or.inr ⟨h.2 q, fun A' B' a => ⟨fun n => absurd n q, fun _ => a⟩⟩
  | n + 5, h =>
    by_cases q : x ≤ y
    · exact Or.inl ⟨h.1 q, fun A' B' a => ⟨fun _ => a, fun n => absurd q n⟩⟩
    · exact Or.inr ⟨h.2 q, fun A' B' a => ⟨fun n => absurd n q, fun _ => a⟩⟩
theorem pm_fk_det {kd : Nat} {w : Value} {A : Prop} (h : pm_fk kd w A) : A ∧ ∀ A' : Prop, A' → pm_fk kd w A' := by
  unfold pm_fk at h
  split at h
  · split at h
    · exact ⟨h.2, fun A' a => ⟨h.1, a⟩⟩
    · exact h.elim
  · rename_i h3
    split at h
    · rename_i hk
      refine ⟨h, fun A' a => ?_⟩
      unfold pm_fk
      split
      · exact absurd rfl h3
      · rw [hk]; exact a
    · exact h.elim
theorem pm_al_det {sc : Nat × (Nat → Int32)} {bb : Nat} {h : pm_H} {o : Nat} {i : Int32} {KK : Value → Prop} (hs : pm_al sc bb h o i KK) : ∃ w, KK w ∧ ∀ KK' : Value → Prop, KK' w → pm_al sc bb h o i KK' := by
  rcases pm_al_cases hs with ⟨rfl, rfl, hin, hs⟩ | ⟨o', n, f, rfl, hb1, ho, hin, hs⟩ | ⟨o', n, f, rfl, rfl, ho, hin, hs⟩
  · exact ⟨_, hs, fun KK' q => ⟨hin, q⟩⟩
  · refine ⟨_, hs, fun KK' q => ?_⟩
    have e : (Nat.beq bb bb && Nat.ble bb 1) = true := by rw [Nat.beq_refl, Nat.ble_eq_true_of_le hb1]; rfl
    simp only [pm_al, ho, e]
    exact ⟨hin, q⟩
  · refine ⟨_, hs, fun KK' q => ?_⟩
    simp only [pm_al, ho]
    exact ⟨hin, q⟩
theorem pm_as_det {bb : Nat} {h : pm_H} {o : Nat} {i : Int32} {w : Value} {KK : pm_H → Prop} (hs : pm_as bb h o i w KK) : ∃ h', KK h' ∧ (h.length ≤ h'.length ∧ pm_sz h ≤ pm_sz h') ∧ ∀ KK' : pm_H → Prop, KK' h' → pm_as bb h o i w KK' := by
  rcases pm_as_cases hs with ⟨o', n, f, x, rfl, rfl, hb1, ho, hin, hs⟩ | ⟨o', n, f, x, rfl, rfl, rfl, ho, hin, hs⟩
  · refine ⟨_, hs, ⟨by rw [List.length_set]; exact Nat.le_refl _, by rw [pm_sz_set ho (by simp [pm_sz1])]; exact Nat.le_refl _⟩, fun KK' q => ?_⟩
    rcases hb1 with rfl | ⟨rfl, h01⟩
    · simp only [pm_as, ho]
      exact ⟨hin, q⟩
    · simp only [pm_as, ho]
      exact ⟨hin, h01, q⟩
  · refine ⟨_, hs, ⟨by rw [List.length_set]; exact Nat.le_refl _, by rw [pm_sz_set ho (by simp [pm_sz1])]; exact Nat.le_refl _⟩, fun KK' q => ?_⟩
    simp only [pm_as, ho]
    exact ⟨hin, q⟩
theorem pm_rk_det {a : Nat} {st : List Value} {F : Option Value → Prop} (hs : pm_rk a st F) : ∃ w, F w ∧ ∀ F' : Option Value → Prop, F' w → pm_rk a st F' := by
  unfold pm_rk at hs
  split at hs
  · split at hs
    · exact ⟨_, hs, fun F' q => q⟩
    · exact hs.elim
  · split at hs
    · exact ⟨_, hs, fun F' q => q⟩
    · exact hs.elim
  · split at hs
    · exact ⟨_, hs.2, fun F' q => ⟨hs.1, q⟩⟩
    · exact hs.elim
  · split at hs
    · exact ⟨_, hs, fun F' q => q⟩
    · exact hs.elim
  · split at hs
    · exact ⟨_, hs, fun F' q => q⟩
    · exact ⟨_, hs, fun F' q => q⟩
    · exact hs.elim
  · exact hs.elim
/-- one instruction goes one way -/
theorem pm_det {sc : Nat × (Nat → Int32)} {Cl : pm_C} (hCl : ∀ (cal : Nat) (av : List Value) (h : pm_H) (rv : Option Value) (h2 : pm_H), Cl cal av h rv h2 → h.length ≤ h2.length ∧ pm_sz h ≤ pm_sz h2) (e : pm_I) (t : pm_S) (K : pm_S → Prop) (F : Option Value → pm_H → Prop) (hs : pm_sk sc Cl e t K F) :
    (∃ t' : pm_S, K t' ∧ (t.2.2.2.length ≤ t'.2.2.2.length ∧ pm_sz t.2.2.2 ≤ pm_sz t'.2.2.2) ∧ ∀ (K' : pm_S → Prop) (F' : Option Value → pm_H → Prop), K' t' → pm_sk sc Cl e t K' F') ∨ (∃ w : Option Value, F w t.2.2.2 ∧ ∀ (K' : pm_S → Prop) (F' : Option Value → pm_H → Prop), F' w t.2.2.2 → pm_sk sc Cl e t K' F') := by
  obtain ⟨op, a, b, v, tl⟩ := e
  obtain ⟨k, ls, st, h⟩ := t
  have hr : h.length ≤ h.length ∧ pm_sz h ≤ pm_sz h := ⟨Nat.le_refl _, Nat.le_refl _⟩
  match op, hs with
  | 0, hs => exact Or.inl ⟨_, hs, hr, fun _ _ q => q⟩
  | 1, hs =>
    simp only [pm_sk] at hs
    split at hs
    · rename_i w hw
      split at hs
      · rename_i hk
        exact Or.inl ⟨_, hs, hr, fun _ _ q => by simp only [pm_sk, hw, hk]; exact q⟩
      · exact hs.elim
    · exact hs.elim
  | 2, hs =>
    simp only [pm_sk] at hs
    split at hs
    · split at hs
      · rename_i hk
        exact Or.inl ⟨_, hs, hr, fun _ _ q => by simp only [pm_sk, hk]; exact q⟩
      · exact hs.elim
    · exact hs.elim
  | 3, hs =>
    simp only [pm_sk] at hs
    split at hs
    · rename_i w hw
      split at hs
      · exact Or.inl ⟨_, hs, hr, fun _ _ q => by simp only [pm_sk, hw]; exact q⟩
      · exact hs.elim
    · exact hs.elim
  | 4, hs | 6, hs | 7, hs | 8, hs | 9, hs | 10, hs =>
    simp only [pm_sk] at hs
    split at hs
    · exact Or.inl ⟨_, hs, hr, fun _ _ q => q⟩
    · exact hs.elim
  | 11, hs | 12, hs | 13, hs | 28, hs | 30, hs =>
    simp only [pm_sk] at hs
    split at hs
    · split at hs
      · rename_i hk
        exact Or.inl ⟨_, hs, hr, fun _ _ q => by simp only [pm_sk, hk]; exact q⟩
      · exact hs.elim
    · exact hs.elim
  | 31, hs | 32, hs =>
    simp only [pm_sk] at hs
    split at hs
    · exact Or.inl ⟨_, hs.2, hr, fun _ _ q => ⟨hs.1, q⟩⟩
    · exact hs.elim
  | 15, hs | 16, hs =>
    simp only [pm_sk] at hs
    split at hs
    · rcases pm_br_cases hs with ⟨h1, h2⟩ | ⟨h1, h2⟩
      · exact Or.inl ⟨_, h1, hr, fun _ _ q => h2 _ _ q⟩
      · exact Or.inl ⟨_, h1, hr, fun _ _ q => h2 _ _ q⟩
    · exact hs.elim
  | 17, hs => exact Or.inl ⟨_, hs, hr, fun _ _ q => q⟩
  | 18, hs =>
    simp only [pm_sk] at hs
    split at hs
    · split at hs
      · rename_i hg
        split at hs
        · rename_i hb
          split at hs
          · rename_i hw
            exact Or.inl ⟨_, hs, hr, fun _ _ q => by simp only [pm_sk, hg, hb, hw]; exact q⟩
          · exact hs.elim
        · exact hs.elim
      · exact hs.elim
    · exact hs.elim
  | 19, hs =>
    simp only [pm_sk] at hs
    split at hs
    · split at hs
      · rename_i ci fs hg
        split at hs
        · rename_i hb
          obtain ⟨h1, h2⟩ := pm_fk_det hs
          obtain ⟨o', rfl, ho⟩ := pm_get_some hg
          refine Or.inl ⟨_, h1, ⟨?_, ?_⟩, fun _ _ q => by simp only [pm_sk, hg, hb]; exact h2 _ q⟩
          · show h.length ≤ (h.set o' _).length
            rw [List.length_set]; exact Nat.le_refl _
          · show pm_sz h ≤ pm_sz (h.set o' _)
            rw [pm_sz_set ho (by simp [pm_sz1])]; exact Nat.le_refl _
        · exact hs.elim
      · exact hs.elim
    · exact hs.elim
  | 20, hs =>
    simp only [pm_sk] at hs
    split at hs
    · obtain ⟨w, h1, h2⟩ := pm_al_det hs
      exact Or.inl ⟨_, h1, hr, fun K' _ q => h2 (fun w => K' (k + 1, ls, w :: _, h)) q⟩
    · exact hs.elim
  | 21, hs =>
    simp only [pm_sk] at hs
    split at hs
    · obtain ⟨h', h1, hle, h2⟩ := pm_as_det hs
      exact Or.inl ⟨_, h1, hle, fun K' _ q => h2 (fun h' => K' (k + 1, ls, _, h')) q⟩
    · exact hs.elim
  | 22, hs =>
    simp only [pm_sk] at hs
    split at hs
    · split at hs
      · rename_i hk
        exact Or.inl ⟨_, hs, hr, fun _ _ q => by simp only [pm_sk, hk]; exact q⟩
      · exact hs.elim
    · exact hs.elim
  | 23, hs =>
    refine Or.inl ⟨_, hs, ⟨?_, ?_⟩, fun _ _ q => q⟩
    · show h.length ≤ (h ++ [_]).length
      rw [List.length_append]; exact Nat.le_add_right _ _
    · show pm_sz h ≤ pm_sz (h ++ [_])
      rw [pm_sz_app]; exact Nat.le_add_right _ _
  | 24, hs =>
    simp only [pm_sk] at hs
    split at hs
    · split at hs
      · rename_i hk
        refine Or.inl ⟨_, hs, ⟨?_, ?_⟩, fun _ _ q => by simp only [pm_sk, hk]; exact q⟩
        · show h.length ≤ (h ++ [_]).length
          rw [List.length_append]; exact Nat.le_add_right _ _
        · show pm_sz h ≤ pm_sz (h ++ [_])
          rw [pm_sz_app]; exact Nat.le_add_right _ _
      · exact hs.elim
    · exact hs.elim
  | 25, hs =>
    simp only [pm_sk] at hs
    split at hs
    · rename_i hk
      obtain ⟨rv, h2, hc, hs⟩ := hs
      exact Or.inl ⟨_, hs, hCl _ _ _ _ _ hc, fun _ _ q => by simp only [pm_sk, hk]; exact ⟨rv, h2, hc, q⟩⟩
    · exact hs.elim
  | 26, hs =>
    obtain ⟨w, h1, h2⟩ := pm_rk_det (show pm_rk a st (fun w => F w h) from hs)
    exact Or.inr ⟨w, h1, fun _ F' q => h2 (fun w => F' w h) q⟩
  | 29, hs =>
    simp only [pm_sk] at hs
    obtain ⟨x, r, rfl, hq⟩ : ∃ (x : Int32) (r : List Value), st = .int x :: r ∧ (match Nat.ble tl.length 1000 with
      | true => (∀ j : Nat, j < tl.length → x = Int32.ofNat j → K (tl.getD j 0, ls, r, h)) ∧ ((x.toInt < 0 ∨ (tl.length : Int) ≤ x.toInt) → K (a, ls, r, h))
      | false => False) := by
      split at hs
      · exact ⟨_, _, rfl, hs⟩
      · exact hs.elim
    · split at hq
      · rename_i hk
        have hle : tl.length ≤ 1000 := Nat.le_of_ble_eq_true hk
        obtain ⟨hs1, hs2⟩ := hq
        have hof : ∀ j : Nat, j < tl.length → (Int32.ofNat j).toInt = (j : Int) := fun j hj => nI_toInt (by omega)
        by_cases hin : x.toInt < 0 ∨ (tl.length : Int) ≤ x.toInt
        · refine Or.inl ⟨_, hs2 hin, hr, fun _ _ q => ?_⟩
          simp only [pm_sk, hk]
          refine ⟨fun j hj hx => ?_, fun _ => q⟩
          have h2 := hof j hj
          rw [← hx] at h2
          omega
        · have hj : ∃ j : Nat, x.toInt = (j : Int) ∧ j < tl.length := ⟨x.toInt.toNat, by omega, by omega⟩
          obtain ⟨j, hj1, hj2⟩ := hj
          have hxj : x = Int32.ofNat j := by
            apply Int32.toInt_inj.mp
            rw [hj1]
            exact (hof j hj2).symm
          refine Or.inl ⟨_, hs1 j hj2 hxj, hr, fun _ _ q => ?_⟩
          simp only [pm_sk, hk]
          refine ⟨fun i hi hx => ?_, fun n => absurd n hin⟩
          have h2 := hof i hi
          rw [← hx] at h2
          have : i = j := by omega
          subst this
          exact q
      · exact hq.elim
  | 5, hs | 14, hs | 27, hs => exact hs.elim
  | n + 33, hs => exact hs.elim

theorem pm_sk_cl {sc : Nat × (Nat → Int32)} {Cl Cl' : pm_C} (hCl : ∀ (cal : Nat) (av : List Value) (h : pm_H) (rv : Option Value) (h2 : pm_H), Cl cal av h rv h2 → Cl' cal av h rv h2) (e : pm_I) (t : pm_S) (K : pm_S → Prop) (F : Option Value → pm_H → Prop) (hs : pm_sk sc Cl e t K F) : pm_sk sc Cl' e t K F := by
  obtain ⟨op, a, b, v, tl⟩ := e
  obtain ⟨k, ls, st, h⟩ := t
  match op, hs with
  | 25, hs =>
    simp only [pm_sk] at hs
    split at hs
    · rename_i hk
      obtain ⟨rv, h2, hc, hs⟩ := hs
      simp only [pm_sk, hk]
      exact ⟨rv, h2, hCl _ _ _ _ _ hc, hs⟩
    · exact hs.elim
  | 0, hs => exact hs
  | 1, hs => exact hs
  | 2, hs => exact hs
  | 3, hs => exact hs
  | 4, hs => exact hs
  | 5, hs => exact hs
  | 6, hs => exact hs
  | 7, hs => exact hs
  | 8, hs => exact hs
  | 9, hs => exact hs
  | 10, hs => exact hs
  | 11, hs => exact hs
  | 12, hs => exact hs
  | 13, hs => exact hs
  | 14, hs => exact hs
  | 15, hs => exact hs
  | 16, hs => exact hs
  | 17, hs => exact hs
  | 18, hs => exact hs
  | 19, hs => exact hs
  | 20, hs => exact hs
  | 21, hs => exact hs
  | 22, hs => exact hs
  | 23, hs => exact hs
  | 24, hs => exact hs
  | 26, hs => exact hs
  | 27, hs => exact hs
  | 28, hs => exact hs
  | 29, hs => exact hs
  | 30, hs => exact hs
  | 31, hs => exact hs
  | 32, hs => exact hs
  | n + 33, hs => exact hs
/-- the calls of a relation never shrink the heap -/
def pm_Up (Cl : pm_C) : Prop := ∀ (cal : Nat) (av : List Value) (h : pm_H) (rv : Option Value) (h2 : pm_H), Cl cal av h rv h2 → h.length ≤ h2.length ∧ pm_sz h ≤ pm_sz h2
theorem pm_ev_up {sc : Nat × (Nat → Int32)} {Cl : pm_C} (hCl : pm_Up Cl) {cd : List pm_I} : ∀ (n : Nat) (t : pm_S) (r : Option Value) (h' : pm_H), pm_ev sc Cl cd n t r h' → t.2.2.2.length ≤ h'.length ∧ pm_sz t.2.2.2 ≤ pm_sz h'
  | 0, _, _, _, h => h.elim
  | n + 1, t, r, h', h => by
    unfold pm_ev pm_st at h
    split at h
    · rcases pm_det hCl _ _ _ _ h with ⟨t', h1, h2, -⟩ | ⟨w, h1, -⟩
      · have h3 := pm_ev_up hCl n t' r h' h1
        exact ⟨Nat.le_trans h2.1 h3.1, Nat.le_trans h2.2 h3.2⟩
      · rw [h1.2]
        exact ⟨Nat.le_refl _, Nat.le_refl _⟩
    · exact h.elim
theorem pm_D_up (sc : Nat × (Nat → Int32)) : ∀ d, pm_Up (pm_D sc d)
  | 0 => fun _ _ _ _ _ h => h.elim
  | d + 1 => fun mi av h r h' hh => by
    obtain ⟨n, hn⟩ := hh
    exact pm_ev_up (pm_D_up sc d) n _ r h' hn
theorem pm_ev_cl {sc : Nat × (Nat → Int32)} {Cl Cl' : pm_C} (hU : pm_Up Cl) (hCl : ∀ (cal : Nat) (av : List Value) (h : pm_H) (rv : Option Value) (h2 : pm_H), Cl cal av h rv h2 → Cl' cal av h rv h2) {cd : List pm_I} : ∀ (n : Nat) (t : pm_S) (r : Option Value) (h' : pm_H), pm_ev sc Cl cd n t r h' → pm_ev sc Cl' cd n t r h'
  | 0, _, _, _, h => h.elim
  | n + 1, t, r, h', h => by
    unfold pm_ev pm_st at h ⊢
    split at h
    · refine pm_sk_cl hCl _ _ _ _ ?_
      rcases pm_det hU _ _ _ _ h with ⟨t', h1, -, h2⟩ | ⟨w, h1, h2⟩
      · exact h2 _ _ (pm_ev_cl hU hCl n t' r h' h1)
      · exact h2 _ _ h1
    · exact h.elim
theorem pm_D_succ (sc : Nat × (Nat → Int32)) : ∀ (d mi : Nat) (av : List Value) (h : pm_H) (r : Option Value) (h' : pm_H), pm_D sc d mi av h r h' → pm_D sc (d + 1) mi av h r h'
  | 0, _, _, _, _, _, h => h.elim
  | d + 1, mi, av, h, r, h', hh => by
    obtain ⟨n, hn⟩ := hh
    exact ⟨n, pm_ev_cl (pm_D_up sc d) (pm_D_succ sc d) n _ r h' hn⟩
theorem pm_D_le {sc : Nat × (Nat → Int32)} {d d' mi : Nat} {av : List Value} {h : pm_H} {r : Option Value} {h' : pm_H} (hh : pm_D sc d mi av h r h') (hd : d ≤ d') : pm_D sc d' mi av h r h' := by
  induction hd with
  | refl => exact hh
  | step _ ih => exact pm_D_succ sc _ mi av h r h' ih
end
section
def pm_g : List Jvm.Cond := lw_tbl.filter goodWord
def pm_ws (mi : Nat) : List Jvm.Cond := Jvm.Cond.code (pm_y mi) (pm_b mi) (pm_nl mi) (pm_r mi) :: pm_g
def pm_rm (d mc ms : Nat) : Room := { frames := d, cells := mc, slots := ms, locals := 40 * d }
theorem pm_N_on {w : Jvm.Cond} (hw : pm_isN w = true) : w.onTables = true := by
  cases w <;> first | (simp [pm_isN] at hw; done) | rfl
theorem pm_N_warm {w : Jvm.Cond} (hw : pm_isN w = true) {s U : State} (hW : s.WarmedH U.vm) (h : va_Nw w s) : va_Nw w U := by
  cases w <;> first | (simp [pm_isN] at hw; done) | exact va_Nw.warmF hW h | exact va_Nw.warmM hW h
def pm_Pc (D : va_G) (dA : Nat → ClassId) (b n0 : Nat) (sc : Nat × (Nat → Int32)) (av : List Value) (h : pm_H) : Array Value → State → Prop := fun A U =>
  A = (av.map (pm_sh b n0)).toArray ∧ U.heap.size = n0 + h.length ∧ va_P D pm_cl (pm_wo dA b n0 h) U.heap ∧ va_K D pm_cl (pm_tys dA) U ∧ va_X b sc.1 sc.2 U U.heap ∧ b < n0 ∧ ∀ w ∈ pm_tbl, pm_isN w = true → va_Nw w U
def pm_Qc (D : va_G) (dA : Nat → ClassId) (b n0 : Nat) (r : Option Value) (h' : pm_H) : Array Value → State → Outcome → State → Prop := fun _ st oc t =>
  oc = .returned (r.map (pm_sh b n0)) ∧ va_P D pm_cl (pm_wo dA b n0 h') t.heap ∧ va_F (fun q => n0 ≤ q) st t
def pm_M (l : Launch) (D : va_G) (dA : Nat → ClassId) (b n0 : Nat) (sc : Nat × (Nat → Int32)) (d mi : Nat) (av : List Value) (h : pm_H) (r : Option Value) (h' : pm_H) : Prop :=
  Met l (pm_y mi) (pm_ws mi) (pm_rm d (h'.length - h.length) (pm_sz h' - pm_sz h)) (pm_Pc D dA b n0 sc av h) (pm_Qc D dA b n0 r h') (h'.length - h.length) (pm_sz h' - pm_sz h) (fun q => n0 ≤ q)
theorem pm_Pc_blind (D : va_G) (dA : Nat → ClassId) (b n0 : Nat) (sc : Nat × (Nat → Int32)) (av : List Value) (h : pm_H) : FrameBlind (pm_Pc D dA b n0 sc av h) := fun a U g mk q => by
  obtain ⟨q0, q1, q2, q3, q4, q5, q6⟩ := q
  exact ⟨q0, q1, q2, va_K.moved (u := U) (U := U.calling g mk a) (Vm.Alike.refl U.vm) q3, va_X.moved (u := U) (U := U.calling g mk a) (Vm.Alike.refl U.vm) q4, q5, fun w hw hn => va_Nw.same (u := U) (U := U.calling g mk a) (pm_N_on hn) rfl (q6 w hw hn)⟩
theorem pm_good {a : Nat} (hc : Jvm.Cond.code (pm_y a) (pm_b a) (pm_nl a) (pm_r a) ∈ pm_tbl) : GoodIn pm_tbl (pm_ws a) := fun w hw => by
  rcases List.mem_cons.mp hw with rfl | hw
  · have h2 := (List.mem_filter.mp hc).2
    exact ⟨hc, good_of_word (by simpa [pm_use, pm_isN] using h2)⟩
  · have h2 := List.mem_filter.mp hw
    exact ⟨List.mem_filter.mpr ⟨h2.1, by unfold pm_use; rw [h2.2]; rfl⟩, good_of_word h2.2⟩
theorem pm_take : ∀ (st : List Value) (n : Nat) (v : Value), st[n]? = some v → st.take (n + 1) = st.take n ++ [v]
  | [], n, v, h => by simp at h
  | x :: t, 0, v, h => by
    have : x = v := by simpa using h
    simp [this]
  | x :: t, n + 1, v, h => by
    have h1 := pm_take t n v (by simpa using h)
    show x :: t.take (n + 1) = x :: t.take n ++ [v]
    rw [h1]
    rfl
theorem pm_cat_sh (b n0 : Nat) (r : List Value) : ((r.map (pm_sh b n0)).map fun v => v.category).sum = pm_cat r := by
  unfold pm_cat
  rw [List.map_map]
  congr 1
  apply List.map_congr_left
  intro v _
  exact pm_sh_cat b n0 v
section PMC
variable {p : Program} {l : Launch} {e : Env} {R : Room} {s : State} {m : MethodId} {args : Array Value} {below : List Frame} {meth : Method} {c : Code} {Q : State → Prop}
variable {D : va_G} {dA : Nat → ClassId} {b n0 : Nat} {h0 : pm_H} {sc : Nat × (Nat → Int32)} {mi : Nat} {Cl : pm_C} {K : pm_S → Prop} {F : Option Value → pm_H → Prop}
variable {k a bb : Nat} {v : Value} {tl : List Nat} {ls : pm_L} {st : List Value} {h : pm_H}
/-- behind a call -/
theorem pm_cont {H : Heap} {locs : List Loc} {cells slots mc ms pc : Nat} {rls : Array Slot} {st0 rest : List Value} {A : Array Value} {rv : Option Value} {h2 : pm_H}
    (hr : va_Run p l e R s m args below meth c H locs cells slots mc ms (F0 m pc rls st0) rest (pm_Qc D dA b n0 rv h2 A) (fun q => n0 ≤ q)) (hS : va_S (fun q => n0 ≤ q) s.heap H locs)
    (kk : ∀ (H1 : Heap) (locs1 : List Loc), va_P D pm_cl (pm_wo dA b n0 h2) H1 → va_S (fun q => n0 ≤ q) s.heap H1 locs1 → W p l e R s m args below meth c H1 locs1 (cells + mc) (slots + ms) Q (F0 m (pc + 3) rls ((rv.map (pm_sh b n0)).toList ++ rest))) : W p l e R s m args below meth c H locs cells slots Q (F0 m pc rls st0) := by
  intro T hT X
  obtain ⟨v, st₀, t, T', L, e0, X', hL, e1, e2, ⟨hv, hP1, hz, hk⟩, st⟩ := hr T hT X
  cases hv
  rw [e0] at hz hk
  obtain ⟨t2, a1, b1⟩ := kk T'.heap (locs ++ L) (by rw [e1]; exact hP1)
    ⟨Nat.le_trans hS.1 (by rw [e1]; exact hz), fun q h1 h2 => by rw [e1, hk q (Nat.lt_of_lt_of_le h1 hS.1) h2]; exact hS.2.1 q h1 h2, fun q hq => by
      rcases List.mem_append.mp hq with h | h
      · exact hS.2.2 q h
      · exact hL q h⟩ T' rfl X'
  exact ⟨t2, st t2 a1, b1⟩
theorem pm_w25 {d : Nat} (X : pm_X p s m args meth c D dA b n0 sc h0 mi) (ok : pm_ok mi k (25, a, bb, v, tl)) (hs0 : pm_sk sc Cl (25, a, bb, v, tl) (k, ls, st, h) K F) (hK : ∀ t, K t → pm_G p l e R s m args below meth c Q D dA b n0 h0 mi t) (hB : ∀ t, K t → t.2.2.2.length ≤ R.cells + h0.length ∧ pm_sz t.2.2.2 ≤ R.slots + pm_sz h0)
    (okm : ∀ a, a < 106 → pm_okm a) (hU : pm_Up Cl) (hM : ∀ (cal : Nat) (av : List Value) (h : pm_H) (rv : Option Value) (h2 : pm_H), Cl cal av h rv h2 → (pm_fl av).length ≤ pm_nl cal → cal < 106 → pm_M l D dA b n0 sc d cal av h rv h2) (hR : d + 1 ≤ R.frames ∧ 40 * d + 40 ≤ R.locals) : pm_G p l e R s m args below meth c Q D dA b n0 h0 mi (k, ls, st, h) := by
  obtain ⟨hx, hb, hml, hown, hts, hKv, hX, hbn, hsz, -⟩ := X
  intro H locs rls cells slots hP hS hl hc hz
  dsimp only at hP hl hc hz ⊢
  obtain ⟨hble, hrcv, hcat, hfl, rv, h2, hcl, hs⟩ : bb ≤ st.length ∧ pm_rcv tl st bb h = true ∧ pm_cat (st.drop bb) ≤ 8 ∧ (pm_fl (st.take bb).reverse).length ≤ pm_nl a ∧ ∃ (rv : Option Value) (h2 : pm_H), Cl a (st.take bb).reverse h rv h2 ∧ K (k + 1, ls, rv.toList ++ st.drop bb, h2) := by
    simp only [pm_sk] at hs0
    split at hs0
    · rename_i hk
      rw [Bool.and_eq_true, Bool.and_eq_true, Bool.and_eq_true] at hk
      obtain ⟨⟨⟨k1, k2⟩, k3⟩, k4⟩ := hk
      exact ⟨Nat.le_of_ble_eq_true k1, k2, Nat.le_of_ble_eq_true k3, Nat.le_of_ble_eq_true k4, hs0⟩
    · exact hs0.elim
  clear hs0
  obtain ⟨i, ha, hp, hlk, hcase⟩ := ok
  obtain ⟨hpl, hcode, hinit, hn1, hn2, hnl, hpc0⟩ := okm a ha
  have hMet := hM _ _ _ _ _ hcl hfl ha
  have hup := hU _ _ _ _ _ hcl
  have hb1 := hB _ hs
  dsimp only at hb1
  have cont : ∀ (H1 : Heap) (locs1 : List Loc), va_P D pm_cl (pm_wo dA b n0 h2) H1 → va_S (fun q => n0 ≤ q) s.heap H1 locs1 → W p l e R s m args below meth c H1 locs1 (cells + (h2.length - h.length)) (slots + (pm_sz h2 - pm_sz h)) Q (F0 m (pm_pc mi k + 3) rls ((rv.map (pm_sh b n0)).toList ++ (st.drop bb).map (pm_sh b n0))) := by
    intro H1 locs1 hP1 hS1
    have hW := hK _ hs H1 locs1 rls (cells + (h2.length - h.length)) (slots + (pm_sz h2 - pm_sz h)) hP1 hS1 hl (by show _ = h2.length; omega) (by show _ = pm_sz h2; omega)
    dsimp only at hW
    rw [hp, List.map_append] at hW
    cases rv with
    | none => exact hW
    | some w => exact hW
  have hf : cells + (h2.length - h.length) ≤ R.cells ∧ slots + (pm_sz h2 - pm_sz h) ≤ R.slots := by omega
  have hRm : (pm_rm d (h2.length - h.length) (pm_sz h2 - pm_sz h)).frames + 1 ≤ R.frames ∧ 8 + (pm_nl a + 11) + (pm_rm d (h2.length - h.length) (pm_sz h2 - pm_sz h)).locals ≤ R.locals := by
    refine ⟨hR.1, ?_⟩
    show 8 + (pm_nl a + 11) + 40 * d ≤ R.locals
    omega
  have hG := pm_good hcode
  have hroom : 2 * (F0 m (pm_pc mi k) rls (st.map (pm_sh b n0))).monitorRoom + (((st.drop bb).map (pm_sh b n0)).map fun v => v.category).sum ≤ 8 := lv_room (by rw [pm_cat_sh]; exact hcat)
  refine pm_size (fun hsz1 => ?_)
  have hHsz : H.size = n0 + h.length := by
    have h1 := pm_wo_le (n0 := n0) (Nat.le_trans (by omega) hS.1) hP
    omega
  have pre : ∀ U : State, U.heap = H → s.WarmedH U.vm → pm_Pc D dA b n0 sc (st.take bb).reverse h (((st.take bb).reverse).map (pm_sh b n0)).toArray U := fun U hU hW =>
    ⟨rfl, by rw [hU]; exact hHsz, by rw [hU]; exact hP, va_K.moved hW.alike hKv, by rw [hU]; exact va_X.moved hW.alike (hX.kept (hS.2.1 b (by omega) (by show ¬ n0 ≤ b; omega))), hbn, fun w hw hn => pm_N_warm hn hW (va_Nw.of (pm_N_on hn) (hts w hw))⟩
  have hspl : st.map (pm_sh b n0) = (st.take bb).map (pm_sh b n0) ++ (st.drop bb).map (pm_sh b n0) := by
    rw [← List.map_append, List.take_append_drop]
  have hrecv : ∀ ci : Nat, tl = [ci] → 1 ≤ bb → ∃ (o' : Nat) (fs : List Value), (pm_wo dA b n0 h)[o']? = some (n0 + o', .inr (ci, fs)) ∧ ((st.take bb).reverse).map (pm_sh b n0) = .ref (n0 + o') :: (((st.take (bb - 1)).reverse).map (pm_sh b n0)) ∧ st.map (pm_sh b n0) = (((st.take (bb - 1)).reverse).map (pm_sh b n0)).reverse ++ .ref (n0 + o') :: (st.drop bb).map (pm_sh b n0) := by
    intro ci htl h1
    subst htl
    unfold pm_rcv at hrcv
    dsimp only at hrcv
    split at hrcv
    · rename_i o ho
      split at hrcv
      · rename_i cj fs hg
        have e := Nat.eq_of_beq_eq_true hrcv
        subst e
        obtain ⟨o', rfl, hg⟩ := pm_get_some hg
        have ht := pm_take st (bb - 1) _ ho
        rw [show bb - 1 + 1 = bb by omega] at ht
        refine ⟨o', _, pm_wo_some hg, ?_, ?_⟩
        · rw [ht, List.reverse_append]
          rfl
        · rw [hspl, ht, List.map_append, List.map_reverse, List.reverse_reverse, List.append_assoc]
          rfl
      · cases hrcv
    · cases hrcv
  rcases hcase with ⟨hd, ci, T, N, htl, hcl', h1b, hparse, hinst, hsel⟩ | ⟨hd, ci, htl, hnm, hrn, h1b, hparse, hinst⟩ | ⟨hd, htl, hparse, hstat⟩
  · obtain ⟨o', fs, he, hav, hst⟩ := hrecv ci htl h1b
    rw [hav] at pre
    have hlen : (((st.take (bb - 1)).reverse).map (pm_sh b n0)).length = bb - 1 := by
      rw [List.length_map, List.length_reverse, List.length_take]; omega
    rcases hlk with hlk | ⟨host, hlk⟩
    · exact pm_cont (va_runV ⟨hx, hb, hml, hown, hts⟩ hMet ⟨callB_of (bb - 1) hts hG rfl rfl rfl (hts _ hinit) (hts _ hlk) ⟨hn1, hn2, hparse⟩ hRm, hts _ hinst, hts _ hsel⟩ ⟨pm_Pc_blind _ _ _ _ _ _ _, va_recv hKv hP hcl' he, pre⟩ rfl hlen hl.2.1 hst hroom hd hf) hS cont
    · exact pm_cont (va_runVN ⟨hx, hb, hml, hown, hts⟩ hMet ⟨va_cnB (bb - 1) hts hG rfl rfl rfl (va_Nw.of rfl (hts _ hlk)) (hts _ hinit) ⟨hn1, hn2, hparse⟩ hRm, hts _ hinst, hts _ hsel⟩ ⟨pm_Pc_blind _ _ _ _ _ _ _, va_recv hKv hP hcl' he, pre⟩ rfl hlen hl.2.1 hst hroom hd hf) hS cont
  · obtain ⟨o', fs, he, hav, hst⟩ := hrecv ci htl h1b
    rw [hav] at pre
    have hlen : (((st.take (bb - 1)).reverse).map (pm_sh b n0)).length = bb - 1 := by
      rw [List.length_map, List.length_reverse, List.length_take]; omega
    have hws : pm_ws a = Jvm.Cond.code (pm_y a) (pm_b a) (pm_nl a) none :: pm_g := by unfold pm_ws; rw [hrn]
    rcases hlk with hlk | ⟨host, hlk⟩
    · exact pm_cont (va_runI ⟨hx, hb, hml, hown, hts⟩ hMet ⟨callB_of (bb - 1) hts hG hws rfl rfl (hts _ hinit) (hts _ hlk) ⟨hn1, hn2, hparse⟩ hRm, hnm, hts _ hinst⟩ ⟨pm_Pc_blind _ _ _ _ _ _ _, pre⟩ rfl hlen hl.2.1 hst hroom hd hf) hS cont
    · exact pm_cont (va_runIN ⟨hx, hb, hml, hown, hts⟩ hMet ⟨va_cnB (bb - 1) hts hG hws rfl rfl (va_Nw.of rfl (hts _ hlk)) (hts _ hinit) ⟨hn1, hn2, hparse⟩ hRm, hnm, hts _ hinst⟩ ⟨pm_Pc_blind _ _ _ _ _ _ _, pre⟩ rfl hlen hl.2.1 hst hroom hd hf) hS cont
  · have hlen : (((st.take bb).reverse).map (pm_sh b n0)).length = bb := by
      rw [List.length_map, List.length_reverse, List.length_take]; omega
    have hst : st.map (pm_sh b n0) = (((st.take bb).reverse).map (pm_sh b n0)).reverse ++ (st.drop bb).map (pm_sh b n0) := by
      rw [hspl, List.map_reverse, List.reverse_reverse]
    rcases hlk with hlk | ⟨host, hlk⟩
    · exact pm_cont (va_runS ⟨hx, hb, hml, hown, hts⟩ hMet ⟨callB_of bb hts hG rfl rfl rfl (hts _ hinit) (hts _ hlk) ⟨hn1, hn2, hparse⟩ hRm, hts _ hstat⟩ ⟨pm_Pc_blind _ _ _ _ _ _ _, pre⟩ rfl hlen hl.2.1 hst hroom hd hf) hS cont
    · exact pm_cont (va_runSN ⟨hx, hb, hml, hown, hts⟩ hMet ⟨va_cnB bb hts hG rfl rfl rfl (va_Nw.of rfl (hts _ hlk)) (hts _ hinit) ⟨hn1, hn2, hparse⟩ hRm, hts _ hstat, trivial⟩ ⟨pm_Pc_blind _ _ _ _ _ _ _, pre⟩ rfl hlen hl.2.1 hst hroom hd hf) hS cont
/-- a method's end -/
theorem pm_w26 {r : Option Value} {h' : pm_H} (X : pm_X p s m args meth c D dA b n0 sc h0 mi) (hret : meth.sig.returnType = pm_r mi) (hlocks : meth.locks = false) (ok : pm_ok mi k (26, a, bb, v, tl)) (hs : pm_rk a st (fun w => w = r ∧ h = h')) :
    pm_G p l e R s m args below meth c (MQ below (pm_Qc D dA b n0 r h') args s (h'.length - h0.length) (pm_sz h' - pm_sz h0) (fun q => n0 ≤ q)) D dA b n0 h0 mi (k, ls, st, h) := by
  obtain ⟨hx, hb, hml, hown, hts, hKv, hX, hbn, hsz, -⟩ := X
  intro H locs rls cells slots hP hS hl hc hz
  dsimp only at hP hl hc hz ⊢
  have hq : h = h' → ∀ t : State, t.heap = H → s.WarmedH t.vm → pm_Qc D dA b n0 r h' args s (.returned (r.map (pm_sh b n0))) t := fun e t ht hW => ⟨rfl, by rw [ht, ← e]; exact hP, hS.F ht⟩
  have hcs : h = h' → cells = h'.length - h0.length ∧ slots = pm_sz h' - pm_sz h0 := fun e => by subst e; omega
  match a, ok, hs with
  | 0, ok, hs =>
    simp only [pm_rk] at hs
    split at hs
    · obtain ⟨hr, e⟩ := hs
      obtain ⟨e1, e2⟩ := hcs e
      subst e1; subst e2; subst hr
      exact W.vret hx hb (hret.trans ok.2) (hq e) hS.2.2 ok.1
    · exact hs.elim
  | 1, ok, hs =>
    simp only [pm_rk] at hs
    split at hs
    · obtain ⟨hr, e⟩ := hs
      obtain ⟨e1, e2⟩ := hcs e
      subst e1; subst e2; subst hr
      exact W.iret hx hb (hret.trans ok.2) (hq e) hS.2.2 ok.1
    · exact hs.elim
  | 2, ok, hs =>
    simp only [pm_rk] at hs
    split at hs
    · obtain ⟨h01, hr, e⟩ := hs
      obtain ⟨e1, e2⟩ := hcs e
      subst e1; subst e2; subst hr
      exact W.zret hx hb (hret.trans ok.2) (by rcases h01 with rfl | rfl <;> rfl) (hq e) hS.2.2 ok.1
    · exact hs.elim
  | 3, ok, hs =>
    simp only [pm_rk] at hs
    split at hs
    · obtain ⟨hr, e⟩ := hs
      obtain ⟨e1, e2⟩ := hcs e
      subst e1; subst e2; subst hr
      exact W.lret hx hb (hret.trans ok.2) (hq e) hS.2.2 ok.1
    · exact hs.elim
  | 4, ok, hs =>
    obtain ⟨hd, C, hrt⟩ := ok
    simp only [pm_rk] at hs
    split at hs
    · obtain ⟨hr, e⟩ := hs
      obtain ⟨e1, e2⟩ := hcs e
      subst e1; subst e2; subst hr
      exact W.aret hx hb (hret.trans hrt) (Or.inl ⟨_, rfl⟩) (Or.inr ⟨_, rfl⟩) (hq e) hS.2.2 hd
    · obtain ⟨hr, e⟩ := hs
      obtain ⟨e1, e2⟩ := hcs e
      subst e1; subst e2; subst hr
      exact W.aret hx hb (hret.trans hrt) (Or.inl ⟨_, rfl⟩) (Or.inl rfl) (hq e) hS.2.2 hd
    · exact hs.elim
  | n + 5, ok, hs => exact hs.elim
/-- a method's body: what the pure machine comes to, the JVM comes to -/
theorem pm_main {d : Nat} {r : Option Value} {h' : pm_H} (X : pm_X p s m args meth c D dA b n0 sc h0 mi) (oks : pm_oks mi 0 (pm_cd mi)) (okm : ∀ a, a < 106 → pm_okm a) (hU : pm_Up Cl) (hM : ∀ (cal : Nat) (av : List Value) (h : pm_H) (rv : Option Value) (h2 : pm_H), Cl cal av h rv h2 → (pm_fl av).length ≤ pm_nl cal → cal < 106 → pm_M l D dA b n0 sc d cal av h rv h2) (hR : d + 1 ≤ R.frames ∧ 40 * d + 40 ≤ R.locals)
    (hB : h'.length ≤ R.cells + h0.length ∧ pm_sz h' ≤ R.slots + pm_sz h0)
    (hend : ∀ (k a bb : Nat) (v : Value) (tl : List Nat) (ls : pm_L) (st : List Value) (h : pm_H), pm_ok mi k (26, a, bb, v, tl) → pm_rk a st (fun w => w = r ∧ h = h') → pm_G p l e R s m args below meth c Q D dA b n0 h0 mi (k, ls, st, h)) :
    ∀ (n : Nat) (t : pm_S), pm_ev sc Cl (pm_cd mi) n t r h' → pm_G p l e R s m args below meth c Q D dA b n0 h0 mi t
  | 0, _, h => h.elim
  | n + 1, t, hev => by
    have ih := pm_main X oks okm hU hM hR hB hend n
    have hB' : ∀ t, pm_ev sc Cl (pm_cd mi) n t r h' → t.2.2.2.length ≤ R.cells + h0.length ∧ pm_sz t.2.2.2 ≤ R.slots + pm_sz h0 := fun t ht => by
      have h1 := pm_ev_up hU n t r h' ht
      omega
    have hR1 : 1 ≤ R.frames ∧ 40 ≤ R.locals := by omega
    unfold pm_ev pm_st at hev
    split at hev
    · rename_i en hf
      have ok := pm_oks_at _ 0 _ _ oks hf
      rw [Nat.zero_add] at ok
      obtain ⟨op, a, bb, v, tl⟩ := en
      obtain ⟨k, ls, st, h⟩ := t
      match op, ok, hev with
      | 0, ok, hs => exact pm_w0 X ok hs ih
      | 1, ok, hs => exact pm_w1 X ok hs ih
      | 2, ok, hs => exact pm_w2 X ok hs ih
      | 3, ok, hs => exact pm_w3 X ok hs ih
      | 4, ok, hs => exact pm_w4 X ok hs ih
      | 6, ok, hs => exact pm_w6 X ok hs ih
      | 7, ok, hs => exact pm_w7 X ok hs ih
      | 8, ok, hs => exact pm_w8 X ok hs ih
      | 9, ok, hs => exact pm_w9 X ok hs ih
      | 10, ok, hs => exact pm_w10 X ok hs ih
      | 11, ok, hs => exact pm_w11 X ok hs ih
      | 12, ok, hs => exact pm_w12 X ok hs ih
      | 13, ok, hs => exact pm_w13 X ok hs ih
      | 15, ok, hs => exact pm_w15 X ok hs ih
      | 16, ok, hs => exact pm_w16 X ok hs ih
      | 17, ok, hs => exact pm_w17 X ok hs ih
      | 18, ok, hs => exact pm_w18 X ok hs ih
      | 19, ok, hs => exact pm_w19 X ok hs ih
      | 20, ok, hs => exact pm_w20 X ok hs ih
      | 21, ok, hs => exact pm_w21 X ok hs ih
      | 22, ok, hs => exact pm_w22 X ok hs ih
      | 23, ok, hs => exact pm_w23 X ok hs ih hB'
      | 24, ok, hs => exact pm_w24 X ok hs ih hB'
      | 25, ok, hs => exact pm_w25 X ok hs ih hB' okm hU hM hR
      | 26, ok, hs => exact hend k a bb v tl ls st h ok hs
      | 28, ok, hs => exact pm_w28 X ok hs ih hR1
      | 29, ok, hs => exact pm_w29 X ok hs ih
      | 30, ok, hs => exact pm_w30 X ok hs ih hR1 hB'
      | 31, ok, hs => exact pm_w31 X ok hs ih
      | 32, ok, hs => exact pm_w32 X ok hs ih
      | 5, ok, hs => exact hs.elim
      | 14, ok, hs => exact hs.elim
      | 27, ok, hs => exact hs.elim
      | n + 33, ok, hs => exact hs.elim
    · exact hev.elim
end PMC
/-- a called method -/
theorem pm_met (l : Launch) (D : va_G) (dA : Nat → ClassId) (b n0 : Nat) (sc : Nat × (Nat → Int32)) (okall : ∀ mi, mi < 107 → pm_oks mi 0 (pm_cd mi)) (okm : ∀ a, a < 106 → pm_okm a) :
    ∀ (d mi : Nat) (av : List Value) (h : pm_H) (r : Option Value) (h' : pm_H), pm_D sc d mi av h r h' → (pm_fl av).length ≤ pm_nl mi → mi < 106 → pm_M l D dA b n0 sc d mi av h r h'
  | 0, _, _, _, _, _, hd, _, _ => hd.elim
  | d + 1, mi, av, h, r, h', hd, hfl, hmi => by
    have hM := pm_met l D dA b n0 sc okall okm d
    have hup := pm_D_up sc (d + 1) _ _ _ _ _ hd
    obtain ⟨n, hev⟩ := hd
    obtain ⟨hpl, hcode, hinit, hn1, hn2, hnl, hpc0⟩ := okm mi hmi
    refine Met.ofW (cc := pm_b mi) (maxL := pm_nl mi) (ret := pm_r mi) hpl rfl ?_
    intro p e s m args below meth c s₁ B hml hv
    obtain ⟨rfl, hsz, hP, hK, hX, hbn, hN⟩ := hv
    have hts0 := atoms_spec (ws := pm_ws mi) B.pre
    have hts : ∀ w ∈ pm_tbl, w.before ((av.map (pm_sh b n0)).toArray) s = true := fun w hw => by
      by_cases hg : goodWord w = true
      · exact hts0 w (List.mem_cons_of_mem _ (List.mem_filter.mpr ⟨(List.mem_filter.mp hw).1, hg⟩))
      · have h2 := (List.mem_filter.mp hw).2
        unfold pm_use at h2
        have hn : pm_isN w = true := by
          cases hgw : goodWord w with
          | true => exact absurd hgw hg
          | false => rw [hgw] at h2; exact h2
        exact va_Nw.use (pm_N_on hn) (hN w hw hn)
    have hown : s.vm.findClass (pm_y mi).cls = some m.cls := findClass_of_methodNamed B.named
    have X : pm_X p s m ((av.map (pm_sh b n0)).toArray) meth c D dA b n0 sc h mi := ⟨B.exec, B.bytes, hml, hown, hts, hK, hX, hbn, hsz, fun hi => by rw [← hi]; exact (name_of_methodNamed B.named B.method).1⟩
    have hG := pm_main (l := l) (e := e) (below := below) (R := (headSpec (pm_ws mi) (pm_rm (d + 1) (h'.length - h.length) (pm_sz h' - pm_sz h))).room) (Q := MQ below (pm_Qc D dA b n0 r h') ((av.map (pm_sh b n0)).toArray) s (h'.length - h.length) (pm_sz h' - pm_sz h) (fun q => n0 ≤ q)) X (okall mi (by omega)) okm (pm_D_up sc d) hM ⟨Nat.le_refl _, by show 40 * d + 40 ≤ 40 * (d + 1); omega⟩ (by
        show h'.length ≤ (h'.length - h.length) + h.length ∧ pm_sz h' ≤ (pm_sz h' - pm_sz h) + pm_sz h
        omega) (fun k a bb v tl ls st hh ok hs => pm_w26 X B.returns B.notSynchronized ok hs) n _ hev
    have hW := hG s.heap [] _ 0 0 hP va_S.rf (pm_lo_ent b n0 hfl) (Nat.zero_add _) (Nat.zero_add _)
    dsimp only at hW
    rw [hpc0] at hW
    rw [lg_entry_eq]
    exact hW
end
section
theorem okm_0 : pm_okm 0 := ⟨by decide +kernel, (pm_tb 175 (by decide +kernel)), (pm_tb 6 (by decide +kernel)), by decide +kernel, by decide +kernel, by decide, by decide +kernel⟩
theorem okm_1 : pm_okm 1 := ⟨by decide +kernel, (pm_tb 180 (by decide +kernel)), (pm_tb 6 (by decide +kernel)), by decide +kernel, by decide +kernel, by decide, by decide +kernel⟩
theorem okm_2 : pm_okm 2 := ⟨by decide +kernel, (pm_tb 380 (by decide +kernel)), (pm_tb 6 (by decide +kernel)), by decide +kernel, by decide +kernel, by decide, by decide +kernel⟩
theorem okm_3 : pm_okm 3 := ⟨by decide +kernel, (pm_tb 388 (by decide +kernel)), (pm_tb 6 (by decide +kernel)), by decide +kernel, by decide +kernel, by decide, by decide +kernel⟩
theorem okm_4 : pm_okm 4 := ⟨by decide +kernel, (pm_tb 451 (by decide +kernel)), (pm_tb 6 (by decide +kernel)), by decide +kernel, by decide +kernel, by decide, by decide +kernel⟩
theorem okm_5 : pm_okm 5 := ⟨by decide +kernel, (pm_tb 397 (by decide +kernel)), (pm_tb 6 (by decide +kernel)), by decide +kernel, by decide +kernel, by decide, by decide +kernel⟩
theorem okm_6 : pm_okm 6 := ⟨by decide +kernel, (pm_tb 401 (by decide +kernel)), (pm_tb 6 (by decide +kernel)), by decide +kernel, by decide +kernel, by decide, by decide +kernel⟩
theorem okm_7 : pm_okm 7 := ⟨by decide +kernel, (pm_tb 405 (by decide +kernel)), (pm_tb 6 (by decide +kernel)), by decide +kernel, by decide +kernel, by decide, by decide +kernel⟩
theorem okm_8 : pm_okm 8 := ⟨by decide +kernel, (pm_tb 409 (by decide +kernel)), (pm_tb 6 (by decide +kernel)), by decide +kernel, by decide +kernel, by decide, by decide +kernel⟩
theorem okm_9 : pm_okm 9 := ⟨by decide +kernel, (pm_tb 414 (by decide +kernel)), (pm_tb 6 (by decide +kernel)), by decide +kernel, by decide +kernel, by decide, by decide +kernel⟩
theorem okm_10 : pm_okm 10 := ⟨by decide +kernel, (pm_tb 427 (by decide +kernel)), (pm_tb 6 (by decide +kernel)), by decide +kernel, by decide +kernel, by decide, by decide +kernel⟩
theorem okm_11 : pm_okm 11 := ⟨by decide +kernel, (pm_tb 431 (by decide +kernel)), (pm_tb 6 (by decide +kernel)), by decide +kernel, by decide +kernel, by decide, by decide +kernel⟩
theorem okm_12 : pm_okm 12 := ⟨by decide +kernel, (pm_tb 422 (by decide +kernel)), (pm_tb 6 (by decide +kernel)), by decide +kernel, by decide +kernel, by decide, by decide +kernel⟩
theorem okm_13 : pm_okm 13 := ⟨by decide +kernel, (pm_tb 435 (by decide +kernel)), (pm_tb 6 (by decide +kernel)), by decide +kernel, by decide +kernel, by decide, by decide +kernel⟩
theorem okm_14 : pm_okm 14 := ⟨by decide +kernel, (pm_tb 418 (by decide +kernel)), (pm_tb 6 (by decide +kernel)), by decide +kernel, by decide +kernel, by decide, by decide +kernel⟩
theorem okm_15 : pm_okm 15 := ⟨by decide +kernel, (pm_tb 22 (by decide +kernel)), (pm_tb 2 (by decide +kernel)), by decide +kernel, by decide +kernel, by decide, by decide +kernel⟩
theorem okm_16 : pm_okm 16 := ⟨by decide +kernel, (pm_tb 112 (by decide +kernel)), (pm_tb 2 (by decide +kernel)), by decide +kernel, by decide +kernel, by decide, by decide +kernel⟩
theorem okm_17 : pm_okm 17 := ⟨by decide +kernel, (pm_tb 236 (by decide +kernel)), (pm_tb 2 (by decide +kernel)), by decide +kernel, by decide +kernel, by decide, by decide +kernel⟩
theorem okm_18 : pm_okm 18 := ⟨by decide +kernel, (pm_tb 128 (by decide +kernel)), (pm_tb 2 (by decide +kernel)), by decide +kernel, by decide +kernel, by decide, by decide +kernel⟩
theorem okm_19 : pm_okm 19 := ⟨by decide +kernel, (pm_tb 278 (by decide +kernel)), (pm_tb 2 (by decide +kernel)), by decide +kernel, by decide +kernel, by decide, by decide +kernel⟩
theorem okm_20 : pm_okm 20 := ⟨by decide +kernel, (pm_tb 116 (by decide +kernel)), (pm_tb 2 (by decide +kernel)), by decide +kernel, by decide +kernel, by decide, by decide +kernel⟩
theorem okm_21 : pm_okm 21 := ⟨by decide +kernel, (pm_tb 124 (by decide +kernel)), (pm_tb 2 (by decide +kernel)), by decide +kernel, by decide +kernel, by decide, by decide +kernel⟩
theorem okm_22 : pm_okm 22 := ⟨by decide +kernel, (pm_tb 242 (by decide +kernel)), (pm_tb 2 (by decide +kernel)), by decide +kernel, by decide +kernel, by decide, by decide +kernel⟩
theorem okm_23 : pm_okm 23 := ⟨by decide +kernel, (pm_tb 250 (by decide +kernel)), (pm_tb 2 (by decide +kernel)), by decide +kernel, by decide +kernel, by decide, by decide +kernel⟩
theorem okm_24 : pm_okm 24 := ⟨by decide +kernel, (pm_tb 266 (by decide +kernel)), (pm_tb 2 (by decide +kernel)), by decide +kernel, by decide +kernel, by decide, by decide +kernel⟩
theorem okm_25 : pm_okm 25 := ⟨by decide +kernel, (pm_tb 262 (by decide +kernel)), (pm_tb 2 (by decide +kernel)), by decide +kernel, by decide +kernel, by decide, by decide +kernel⟩
theorem okm_26 : pm_okm 26 := ⟨by decide +kernel, (pm_tb 290 (by decide +kernel)), (pm_tb 2 (by decide +kernel)), by decide +kernel, by decide +kernel, by decide, by decide +kernel⟩
theorem okm_27 : pm_okm 27 := ⟨by decide +kernel, (pm_tb 302 (by decide +kernel)), (pm_tb 2 (by decide +kernel)), by decide +kernel, by decide +kernel, by decide, by decide +kernel⟩
theorem okm_28 : pm_okm 28 := ⟨by decide +kernel, (pm_tb 310 (by decide +kernel)), (pm_tb 2 (by decide +kernel)), by decide +kernel, by decide +kernel, by decide, by decide +kernel⟩
theorem okm_29 : pm_okm 29 := ⟨by decide +kernel, (pm_tb 318 (by decide +kernel)), (pm_tb 2 (by decide +kernel)), by decide +kernel, by decide +kernel, by decide, by decide +kernel⟩
theorem okm_30 : pm_okm 30 := ⟨by decide +kernel, (pm_tb 365 (by decide +kernel)), (pm_tb 2 (by decide +kernel)), by decide +kernel, by decide +kernel, by decide, by decide +kernel⟩
theorem okm_31 : pm_okm 31 := ⟨by decide +kernel, (pm_tb 65 (by decide +kernel)), (pm_tb 4 (by decide +kernel)), by decide +kernel, by decide +kernel, by decide, by decide +kernel⟩
theorem okm_32 : pm_okm 32 := ⟨by decide +kernel, (pm_tb 344 (by decide +kernel)), (pm_tb 4 (by decide +kernel)), by decide +kernel, by decide +kernel, by decide, by decide +kernel⟩
theorem okm_33 : pm_okm 33 := ⟨by decide +kernel, (pm_tb 348 (by decide +kernel)), (pm_tb 4 (by decide +kernel)), by decide +kernel, by decide +kernel, by decide, by decide +kernel⟩
theorem okm_34 : pm_okm 34 := ⟨by decide +kernel, (pm_tb 354 (by decide +kernel)), (pm_tb 4 (by decide +kernel)), by decide +kernel, by decide +kernel, by decide, by decide +kernel⟩
theorem okm_35 : pm_okm 35 := ⟨by decide +kernel, (pm_tb 28 (by decide +kernel)), (pm_tb 3 (by decide +kernel)), by decide +kernel, by decide +kernel, by decide, by decide +kernel⟩
theorem okm_36 : pm_okm 36 := ⟨by decide +kernel, (pm_tb 120 (by decide +kernel)), (pm_tb 3 (by decide +kernel)), by decide +kernel, by decide +kernel, by decide, by decide +kernel⟩
theorem okm_37 : pm_okm 37 := ⟨by decide +kernel, (pm_tb 132 (by decide +kernel)), (pm_tb 3 (by decide +kernel)), by decide +kernel, by decide +kernel, by decide, by decide +kernel⟩
theorem okm_38 : pm_okm 38 := ⟨by decide +kernel, (pm_tb 136 (by decide +kernel)), (pm_tb 3 (by decide +kernel)), by decide +kernel, by decide +kernel, by decide, by decide +kernel⟩
theorem okm_39 : pm_okm 39 := ⟨by decide +kernel, (pm_tb 140 (by decide +kernel)), (pm_tb 3 (by decide +kernel)), by decide +kernel, by decide +kernel, by decide, by decide +kernel⟩
theorem okm_40 : pm_okm 40 := ⟨by decide +kernel, (pm_tb 270 (by decide +kernel)), (pm_tb 3 (by decide +kernel)), by decide +kernel, by decide +kernel, by decide, by decide +kernel⟩
theorem okm_41 : pm_okm 41 := ⟨by decide +kernel, (pm_tb 294 (by decide +kernel)), (pm_tb 3 (by decide +kernel)), by decide +kernel, by decide +kernel, by decide, by decide +kernel⟩
theorem okm_42 : pm_okm 42 := ⟨by decide +kernel, (pm_tb 330 (by decide +kernel)), (pm_tb 3 (by decide +kernel)), by decide +kernel, by decide +kernel, by decide, by decide +kernel⟩
theorem okm_43 : pm_okm 43 := ⟨by decide +kernel, (pm_tb 90 (by decide +kernel)), (pm_tb 5 (by decide +kernel)), by decide +kernel, by decide +kernel, by decide, by decide +kernel⟩
theorem okm_44 : pm_okm 44 := ⟨by decide +kernel, (pm_tb 322 (by decide +kernel)), (pm_tb 5 (by decide +kernel)), by decide +kernel, by decide +kernel, by decide, by decide +kernel⟩
theorem okm_45 : pm_okm 45 := ⟨by decide +kernel, (pm_tb 326 (by decide +kernel)), (pm_tb 5 (by decide +kernel)), by decide +kernel, by decide +kernel, by decide, by decide +kernel⟩
theorem okm_46 : pm_okm 46 := ⟨by decide +kernel, (pm_tb 334 (by decide +kernel)), (pm_tb 5 (by decide +kernel)), by decide +kernel, by decide +kernel, by decide, by decide +kernel⟩
theorem okm_47 : pm_okm 47 := ⟨by decide +kernel, (pm_tb 14 (by decide +kernel)), (pm_tb 1 (by decide +kernel)), by decide +kernel, by decide +kernel, by decide, by decide +kernel⟩
theorem okm_48 : pm_okm 48 := ⟨by decide +kernel, (pm_tb 224 (by decide +kernel)), (pm_tb 1 (by decide +kernel)), by decide +kernel, by decide +kernel, by decide, by decide +kernel⟩
theorem okm_49 : pm_okm 49 := ⟨by decide +kernel, (pm_tb 232 (by decide +kernel)), (pm_tb 1 (by decide +kernel)), by decide +kernel, by decide +kernel, by decide, by decide +kernel⟩
theorem okm_50 : pm_okm 50 := ⟨by decide +kernel, (pm_tb 246 (by decide +kernel)), (pm_tb 1 (by decide +kernel)), by decide +kernel, by decide +kernel, by decide, by decide +kernel⟩
theorem okm_51 : pm_okm 51 := ⟨by decide +kernel, (pm_tb 254 (by decide +kernel)), (pm_tb 1 (by decide +kernel)), by decide +kernel, by decide +kernel, by decide, by decide +kernel⟩
theorem okm_52 : pm_okm 52 := ⟨by decide +kernel, (pm_tb 258 (by decide +kernel)), (pm_tb 1 (by decide +kernel)), by decide +kernel, by decide +kernel, by decide, by decide +kernel⟩
theorem okm_53 : pm_okm 53 := ⟨by decide +kernel, (pm_tb 274 (by decide +kernel)), (pm_tb 1 (by decide +kernel)), by decide +kernel, by decide +kernel, by decide, by decide +kernel⟩
theorem okm_54 : pm_okm 54 := ⟨by decide +kernel, (pm_tb 282 (by decide +kernel)), (pm_tb 1 (by decide +kernel)), by decide +kernel, by decide +kernel, by decide, by decide +kernel⟩
theorem okm_55 : pm_okm 55 := ⟨by decide +kernel, (pm_tb 286 (by decide +kernel)), (pm_tb 1 (by decide +kernel)), by decide +kernel, by decide +kernel, by decide, by decide +kernel⟩
theorem okm_56 : pm_okm 56 := ⟨by decide +kernel, (pm_tb 298 (by decide +kernel)), (pm_tb 1 (by decide +kernel)), by decide +kernel, by decide +kernel, by decide, by decide +kernel⟩
theorem okm_57 : pm_okm 57 := ⟨by decide +kernel, (pm_tb 306 (by decide +kernel)), (pm_tb 1 (by decide +kernel)), by decide +kernel, by decide +kernel, by decide, by decide +kernel⟩
theorem okm_58 : pm_okm 58 := ⟨by decide +kernel, (pm_tb 314 (by decide +kernel)), (pm_tb 1 (by decide +kernel)), by decide +kernel, by decide +kernel, by decide, by decide +kernel⟩
theorem okm_59 : pm_okm 59 := ⟨by decide +kernel, (pm_tb 361 (by decide +kernel)), (pm_tb 1 (by decide +kernel)), by decide +kernel, by decide +kernel, by decide, by decide +kernel⟩
theorem okm_60 : pm_okm 60 := ⟨by decide +kernel, (pm_tb 371 (by decide +kernel)), (pm_tb 1 (by decide +kernel)), by decide +kernel, by decide +kernel, by decide, by decide +kernel⟩
theorem okm_61 : pm_okm 61 := ⟨by decide +kernel, (pm_tb 376 (by decide +kernel)), (pm_tb 1 (by decide +kernel)), by decide +kernel, by decide +kernel, by decide, by decide +kernel⟩
theorem okm_62 : pm_okm 62 := ⟨by decide +kernel, (pm_tb 384 (by decide +kernel)), (pm_tb 1 (by decide +kernel)), by decide +kernel, by decide +kernel, by decide, by decide +kernel⟩
theorem okm_63 : pm_okm 63 := ⟨by decide +kernel, (pm_tb 392 (by decide +kernel)), (pm_tb 1 (by decide +kernel)), by decide +kernel, by decide +kernel, by decide, by decide +kernel⟩
theorem okm_64 : pm_okm 64 := ⟨by decide +kernel, (pm_tb 439 (by decide +kernel)), (pm_tb 1 (by decide +kernel)), by decide +kernel, by decide +kernel, by decide, by decide +kernel⟩
theorem okm_65 : pm_okm 65 := ⟨by decide +kernel, (pm_tb 443 (by decide +kernel)), (pm_tb 1 (by decide +kernel)), by decide +kernel, by decide +kernel, by decide, by decide +kernel⟩
theorem okm_66 : pm_okm 66 := ⟨by decide +kernel, (pm_tb 447 (by decide +kernel)), (pm_tb 1 (by decide +kernel)), by decide +kernel, by decide +kernel, by decide, by decide +kernel⟩
theorem okm_67 : pm_okm 67 := ⟨by decide +kernel, (pm_tb 227 (by decide +kernel)), (pm_tb 1 (by decide +kernel)), by decide +kernel, by decide +kernel, by decide, by decide +kernel⟩
theorem okm_68 : pm_okm 68 := ⟨by decide +kernel, (pm_tb 456 (by decide +kernel)), (pm_tb 7 (by decide +kernel)), by decide +kernel, by decide +kernel, by decide, by decide +kernel⟩
theorem okm_69 : pm_okm 69 := ⟨by decide +kernel, (pm_tb 531 (by decide +kernel)), (pm_tb 7 (by decide +kernel)), by decide +kernel, by decide +kernel, by decide, by decide +kernel⟩
theorem okm_70 : pm_okm 70 := ⟨by decide +kernel, (pm_tb 528 (by decide +kernel)), (pm_tb 7 (by decide +kernel)), by decide +kernel, by decide +kernel, by decide, by decide +kernel⟩
theorem okm_71 : pm_okm 71 := ⟨by decide +kernel, (pm_tb 539 (by decide +kernel)), (pm_tb 7 (by decide +kernel)), by decide +kernel, by decide +kernel, by decide, by decide +kernel⟩
theorem okm_72 : pm_okm 72 := ⟨by decide +kernel, (pm_tb 535 (by decide +kernel)), (pm_tb 7 (by decide +kernel)), by decide +kernel, by decide +kernel, by decide, by decide +kernel⟩
theorem okm_73 : pm_okm 73 := ⟨by decide +kernel, (pm_tb 543 (by decide +kernel)), (pm_tb 7 (by decide +kernel)), by decide +kernel, by decide +kernel, by decide, by decide +kernel⟩
theorem okm_74 : pm_okm 74 := ⟨by decide +kernel, (pm_tb 547 (by decide +kernel)), (pm_tb 7 (by decide +kernel)), by decide +kernel, by decide +kernel, by decide, by decide +kernel⟩
theorem okm_75 : pm_okm 75 := ⟨by decide +kernel, (pm_tb 563 (by decide +kernel)), (pm_tb 7 (by decide +kernel)), by decide +kernel, by decide +kernel, by decide, by decide +kernel⟩
theorem okm_76 : pm_okm 76 := ⟨by decide +kernel, (pm_tb 555 (by decide +kernel)), (pm_tb 7 (by decide +kernel)), by decide +kernel, by decide +kernel, by decide, by decide +kernel⟩
theorem okm_77 : pm_okm 77 := ⟨by decide +kernel, (pm_tb 559 (by decide +kernel)), (pm_tb 7 (by decide +kernel)), by decide +kernel, by decide +kernel, by decide, by decide +kernel⟩
theorem okm_78 : pm_okm 78 := ⟨by decide +kernel, (pm_tb 571 (by decide +kernel)), (pm_tb 7 (by decide +kernel)), by decide +kernel, by decide +kernel, by decide, by decide +kernel⟩
theorem okm_79 : pm_okm 79 := ⟨by decide +kernel, (pm_tb 567 (by decide +kernel)), (pm_tb 7 (by decide +kernel)), by decide +kernel, by decide +kernel, by decide, by decide +kernel⟩
theorem okm_80 : pm_okm 80 := ⟨by decide +kernel, (pm_tb 551 (by decide +kernel)), (pm_tb 7 (by decide +kernel)), by decide +kernel, by decide +kernel, by decide, by decide +kernel⟩
theorem okm_81 : pm_okm 81 := ⟨by decide +kernel, (pm_tb 575 (by decide +kernel)), (pm_tb 7 (by decide +kernel)), by decide +kernel, by decide +kernel, by decide, by decide +kernel⟩
theorem okm_82 : pm_okm 82 := ⟨by decide +kernel, (pm_tb 579 (by decide +kernel)), (pm_tb 7 (by decide +kernel)), by decide +kernel, by decide +kernel, by decide, by decide +kernel⟩
theorem okm_83 : pm_okm 83 := ⟨by decide +kernel, (pm_tb 583 (by decide +kernel)), (pm_tb 7 (by decide +kernel)), by decide +kernel, by decide +kernel, by decide, by decide +kernel⟩
theorem okm_84 : pm_okm 84 := ⟨by decide +kernel, (pm_tb 587 (by decide +kernel)), (pm_tb 7 (by decide +kernel)), by decide +kernel, by decide +kernel, by decide, by decide +kernel⟩
theorem okm_85 : pm_okm 85 := ⟨by decide +kernel, (pm_tb 591 (by decide +kernel)), (pm_tb 7 (by decide +kernel)), by decide +kernel, by decide +kernel, by decide, by decide +kernel⟩
theorem okm_86 : pm_okm 86 := ⟨by decide +kernel, (pm_tb 608 (by decide +kernel)), (pm_tb 7 (by decide +kernel)), by decide +kernel, by decide +kernel, by decide, by decide +kernel⟩
theorem okm_87 : pm_okm 87 := ⟨by decide +kernel, (pm_tb 599 (by decide +kernel)), (pm_tb 7 (by decide +kernel)), by decide +kernel, by decide +kernel, by decide, by decide +kernel⟩
theorem okm_88 : pm_okm 88 := ⟨by decide +kernel, (pm_tb 603 (by decide +kernel)), (pm_tb 7 (by decide +kernel)), by decide +kernel, by decide +kernel, by decide, by decide +kernel⟩
theorem okm_89 : pm_okm 89 := ⟨by decide +kernel, (pm_tb 595 (by decide +kernel)), (pm_tb 7 (by decide +kernel)), by decide +kernel, by decide +kernel, by decide, by decide +kernel⟩
theorem okm_90 : pm_okm 90 := ⟨by decide +kernel, (pm_tb 613 (by decide +kernel)), (pm_tb 7 (by decide +kernel)), by decide +kernel, by decide +kernel, by decide, by decide +kernel⟩
theorem okm_91 : pm_okm 91 := ⟨by decide +kernel, (pm_tb 617 (by decide +kernel)), (pm_tb 7 (by decide +kernel)), by decide +kernel, by decide +kernel, by decide, by decide +kernel⟩
theorem okm_92 : pm_okm 92 := ⟨by decide +kernel, (pm_tb 625 (by decide +kernel)), (pm_tb 7 (by decide +kernel)), by decide +kernel, by decide +kernel, by decide, by decide +kernel⟩
theorem okm_93 : pm_okm 93 := ⟨by decide +kernel, (pm_tb 621 (by decide +kernel)), (pm_tb 7 (by decide +kernel)), by decide +kernel, by decide +kernel, by decide, by decide +kernel⟩
theorem okm_94 : pm_okm 94 := ⟨by decide +kernel, (pm_tb 629 (by decide +kernel)), (pm_tb 7 (by decide +kernel)), by decide +kernel, by decide +kernel, by decide, by decide +kernel⟩
theorem okm_95 : pm_okm 95 := ⟨by decide +kernel, (pm_tb 633 (by decide +kernel)), (pm_tb 7 (by decide +kernel)), by decide +kernel, by decide +kernel, by decide, by decide +kernel⟩
theorem okm_96 : pm_okm 96 := ⟨by decide +kernel, (pm_tb 637 (by decide +kernel)), (pm_tb 7 (by decide +kernel)), by decide +kernel, by decide +kernel, by decide, by decide +kernel⟩
theorem okm_97 : pm_okm 97 := ⟨by decide +kernel, (pm_tb 641 (by decide +kernel)), (pm_tb 7 (by decide +kernel)), by decide +kernel, by decide +kernel, by decide, by decide +kernel⟩
theorem okm_98 : pm_okm 98 := ⟨by decide +kernel, (pm_tb 658 (by decide +kernel)), (pm_tb 7 (by decide +kernel)), by decide +kernel, by decide +kernel, by decide, by decide +kernel⟩
theorem okm_99 : pm_okm 99 := ⟨by decide +kernel, (pm_tb 654 (by decide +kernel)), (pm_tb 7 (by decide +kernel)), by decide +kernel, by decide +kernel, by decide, by decide +kernel⟩
theorem okm_100 : pm_okm 100 := ⟨by decide +kernel, (pm_tb 650 (by decide +kernel)), (pm_tb 7 (by decide +kernel)), by decide +kernel, by decide +kernel, by decide, by decide +kernel⟩
theorem okm_101 : pm_okm 101 := ⟨by decide +kernel, (pm_tb 645 (by decide +kernel)), (pm_tb 7 (by decide +kernel)), by decide +kernel, by decide +kernel, by decide, by decide +kernel⟩
theorem okm_102 : pm_okm 102 := ⟨by decide +kernel, (pm_tb 662 (by decide +kernel)), (pm_tb 7 (by decide +kernel)), by decide +kernel, by decide +kernel, by decide, by decide +kernel⟩
theorem okm_103 : pm_okm 103 := ⟨by decide +kernel, (pm_tb 666 (by decide +kernel)), (pm_tb 7 (by decide +kernel)), by decide +kernel, by decide +kernel, by decide, by decide +kernel⟩
theorem okm_104 : pm_okm 104 := ⟨by decide +kernel, (pm_tb 670 (by decide +kernel)), (pm_tb 7 (by decide +kernel)), by decide +kernel, by decide +kernel, by decide, by decide +kernel⟩
theorem okm_105 : pm_okm 105 := ⟨by decide +kernel, (pm_tb 337 (by decide +kernel)), (pm_tb 8 (by decide +kernel)), by decide +kernel, by decide +kernel, by decide, by decide +kernel⟩
theorem pm_okms : ∀ mi, mi < 106 → pm_okm mi := fun mi h => match mi, h with
  | 0, _ => okm_0
  | 1, _ => okm_1
  | 2, _ => okm_2
  | 3, _ => okm_3
  | 4, _ => okm_4
  | 5, _ => okm_5
  | 6, _ => okm_6
  | 7, _ => okm_7
  | 8, _ => okm_8
  | 9, _ => okm_9
  | 10, _ => okm_10
  | 11, _ => okm_11
  | 12, _ => okm_12
  | 13, _ => okm_13
  | 14, _ => okm_14
  | 15, _ => okm_15
  | 16, _ => okm_16
  | 17, _ => okm_17
  | 18, _ => okm_18
  | 19, _ => okm_19
  | 20, _ => okm_20
  | 21, _ => okm_21
  | 22, _ => okm_22
  | 23, _ => okm_23
  | 24, _ => okm_24
  | 25, _ => okm_25
  | 26, _ => okm_26
  | 27, _ => okm_27
  | 28, _ => okm_28
  | 29, _ => okm_29
  | 30, _ => okm_30
  | 31, _ => okm_31
  | 32, _ => okm_32
  | 33, _ => okm_33
  | 34, _ => okm_34
  | 35, _ => okm_35
  | 36, _ => okm_36
  | 37, _ => okm_37
  | 38, _ => okm_38
  | 39, _ => okm_39
  | 40, _ => okm_40
  | 41, _ => okm_41
  | 42, _ => okm_42
  | 43, _ => okm_43
  | 44, _ => okm_44
  | 45, _ => okm_45
  | 46, _ => okm_46
  | 47, _ => okm_47
  | 48, _ => okm_48
  | 49, _ => okm_49
  | 50, _ => okm_50
  | 51, _ => okm_51
  | 52, _ => okm_52
  | 53, _ => okm_53
  | 54, _ => okm_54
  | 55, _ => okm_55
  | 56, _ => okm_56
  | 57, _ => okm_57
  | 58, _ => okm_58
  | 59, _ => okm_59
  | 60, _ => okm_60
  | 61, _ => okm_61
  | 62, _ => okm_62
  | 63, _ => okm_63
  | 64, _ => okm_64
  | 65, _ => okm_65
  | 66, _ => okm_66
  | 67, _ => okm_67
  | 68, _ => okm_68
  | 69, _ => okm_69
  | 70, _ => okm_70
  | 71, _ => okm_71
  | 72, _ => okm_72
  | 73, _ => okm_73
  | 74, _ => okm_74
  | 75, _ => okm_75
  | 76, _ => okm_76
  | 77, _ => okm_77
  | 78, _ => okm_78
  | 79, _ => okm_79
  | 80, _ => okm_80
  | 81, _ => okm_81
  | 82, _ => okm_82
  | 83, _ => okm_83
  | 84, _ => okm_84
  | 85, _ => okm_85
  | 86, _ => okm_86
  | 87, _ => okm_87
  | 88, _ => okm_88
  | 89, _ => okm_89
  | 90, _ => okm_90
  | 91, _ => okm_91
  | 92, _ => okm_92
  | 93, _ => okm_93
  | 94, _ => okm_94
  | 95, _ => okm_95
  | 96, _ => okm_96
  | 97, _ => okm_97
  | 98, _ => okm_98
  | 99, _ => okm_99
  | 100, _ => okm_100
  | 101, _ => okm_101
  | 102, _ => okm_102
  | 103, _ => okm_103
  | 104, _ => okm_104
  | 105, _ => okm_105
  | n + 106, h => absurd h (by omega)
end
section
theorem ok_0_0 : pm_ok 0 0 (1, 0, 2, .null, []) := Or.inl ⟨0, by decide +kernel, rfl, rfl⟩
theorem ok_0_1 : pm_ok 0 1 (28, 0, 0, .null, []) := ⟨3, by decide +kernel, rfl, (pm_tb 176 (by decide +kernel)), (pm_tb 16 (by decide +kernel)), (pm_tb 17 (by decide +kernel))⟩
theorem ok_0_2 : pm_ok 0 2 (1, 0, 2, .null, []) := Or.inl ⟨0, by decide +kernel, rfl, rfl⟩
theorem ok_0_3 : pm_ok 0 3 (0, 0, 0, .int 8, []) := Or.inr (Or.inl ⟨8, by decide +kernel, by decide +kernel, rfl⟩)
theorem ok_0_4 : pm_ok 0 4 (24, 0, 8, .null, []) := ⟨by decide, by decide +kernel, rfl, (pm_tb 60 (by decide +kernel))⟩
theorem ok_0_5 : pm_ok 0 5 (19, 0, 5, .null, [2]) := ⟨9, RX0, TX0, 9, tyX0, by decide +kernel, rfl, rfl, by decide, pm_cw0, tyX0_ok, nmX0, by decide +kernel, Or.inr ⟨rfl, rfl, rfl, (pm_tb 189 (by decide +kernel))⟩⟩
theorem ok_0_6 : pm_ok 0 6 (1, 0, 2, .null, []) := Or.inl ⟨0, by decide +kernel, rfl, rfl⟩
theorem ok_0_7 : pm_ok 0 7 (0, 0, 0, .int 8, []) := Or.inr (Or.inl ⟨8, by decide +kernel, by decide +kernel, rfl⟩)
theorem ok_0_8 : pm_ok 0 8 (24, 0, 8, .null, []) := ⟨by decide, by decide +kernel, rfl, (pm_tb 60 (by decide +kernel))⟩
theorem ok_0_9 : pm_ok 0 9 (19, 0, 6, .null, [2]) := ⟨15, RX0, TX0, 9, tyX0, by decide +kernel, rfl, rfl, by decide, pm_cw0, tyX0_ok, nmX0, by decide +kernel, Or.inr ⟨rfl, rfl, rfl, (pm_tb 190 (by decide +kernel))⟩⟩
theorem ok_0_10 : pm_ok 0 10 (1, 0, 2, .null, []) := Or.inl ⟨0, by decide +kernel, rfl, rfl⟩
theorem ok_0_11 : pm_ok 0 11 (0, 0, 0, .int 8, []) := Or.inr (Or.inl ⟨8, by decide +kernel, by decide +kernel, rfl⟩)
theorem ok_0_12 : pm_ok 0 12 (24, 0, 8, .null, []) := ⟨by decide, by decide +kernel, rfl, (pm_tb 60 (by decide +kernel))⟩
theorem ok_0_13 : pm_ok 0 13 (19, 0, 7, .null, [2]) := ⟨18, RX0, TX0, 9, tyX0, by decide +kernel, rfl, rfl, by decide, pm_cw0, tyX0_ok, nmX0, by decide +kernel, Or.inr ⟨rfl, rfl, rfl, (pm_tb 192 (by decide +kernel))⟩⟩
theorem ok_0_14 : pm_ok 0 14 (1, 0, 2, .null, []) := Or.inl ⟨0, by decide +kernel, rfl, rfl⟩
theorem ok_0_15 : pm_ok 0 15 (0, 0, 0, .int 12, []) := Or.inr (Or.inl ⟨12, by decide +kernel, by decide +kernel, rfl⟩)
theorem ok_0_16 : pm_ok 0 16 (24, 0, 12, .null, []) := ⟨by decide, by decide +kernel, rfl, (pm_tb 60 (by decide +kernel))⟩
theorem ok_0_17 : pm_ok 0 17 (19, 0, 8, .null, [2]) := ⟨21, RX0, TX0, 9, tyX0, by decide +kernel, rfl, rfl, by decide, pm_cw0, tyX0_ok, nmX0, by decide +kernel, Or.inr ⟨rfl, rfl, rfl, (pm_tb 194 (by decide +kernel))⟩⟩
theorem ok_0_18 : pm_ok 0 18 (1, 0, 2, .null, []) := Or.inl ⟨0, by decide +kernel, rfl, rfl⟩
theorem ok_0_19 : pm_ok 0 19 (0, 0, 0, .int 1, []) := Or.inl ⟨1, by decide +kernel, rfl, rfl⟩
theorem ok_0_20 : pm_ok 0 20 (0, 0, 0, .int 1, []) := Or.inl ⟨1, by decide +kernel, rfl, rfl⟩
theorem ok_0_21 : pm_ok 0 21 (25, 1, 3, .null, [0]) := ⟨24, by decide, rfl, Or.inl (pm_tb 177 (by decide +kernel)), Or.inl ⟨by decide +kernel, 0, TX0, 9, rfl, rfl, by decide, by decide +kernel, (pm_tb 179 (by decide +kernel)), (pm_tp 8 (by decide +kernel))⟩⟩
theorem ok_0_22 : pm_ok 0 22 (26, 0, 0, .null, []) := ⟨by decide +kernel, rfl⟩
set_option maxRecDepth 100000 in
theorem ok_0 : pm_oks 0 0 cd_X0_init := ⟨ok_0_0, ok_0_1, ok_0_2, ok_0_3, ok_0_4, ok_0_5, ok_0_6, ok_0_7, ok_0_8, ok_0_9, ok_0_10, ok_0_11, ok_0_12, ok_0_13, ok_0_14, ok_0_15, ok_0_16, ok_0_17, ok_0_18, ok_0_19, ok_0_20, ok_0_21, ok_0_22, trivial⟩
theorem ok_1_0 : pm_ok 1 0 (1, 0, 2, .null, []) := Or.inl ⟨0, by decide +kernel, rfl, rfl⟩
theorem ok_1_1 : pm_ok 1 1 (1, 1, 0, .null, []) := Or.inl ⟨1, by decide +kernel, rfl, rfl⟩
theorem ok_1_2 : pm_ok 1 2 (19, 0, 0, .null, [0]) := ⟨28, RX0, TX0, 9, tyX0, by decide +kernel, rfl, rfl, by decide, pm_cw0, tyX0_ok, nmX0, by decide +kernel, Or.inl ⟨rfl, Or.inl (pm_tb 181 (by decide +kernel))⟩⟩
theorem ok_1_3 : pm_ok 1 3 (1, 0, 2, .null, []) := Or.inl ⟨0, by decide +kernel, rfl, rfl⟩
theorem ok_1_4 : pm_ok 1 4 (1, 2, 0, .null, []) := Or.inl ⟨2, by decide +kernel, rfl, rfl⟩
theorem ok_1_5 : pm_ok 1 5 (19, 0, 1, .null, [0]) := ⟨32, RX0, TX0, 9, tyX0, by decide +kernel, rfl, rfl, by decide, pm_cw0, tyX0_ok, nmX0, by decide +kernel, Or.inl ⟨rfl, Or.inl (pm_tb 182 (by decide +kernel))⟩⟩
theorem ok_1_6 : pm_ok 1 6 (1, 0, 2, .null, []) := Or.inl ⟨0, by decide +kernel, rfl, rfl⟩
theorem ok_1_7 : pm_ok 1 7 (0, 0, 0, .int 0, []) := Or.inl ⟨0, by decide +kernel, rfl, rfl⟩
theorem ok_1_8 : pm_ok 1 8 (19, 0, 2, .null, [0]) := ⟨35, RX0, TX0, 9, tyX0, by decide +kernel, rfl, rfl, by decide, pm_cw0, tyX0_ok, nmX0, by decide +kernel, Or.inl ⟨rfl, Or.inl (pm_tb 183 (by decide +kernel))⟩⟩
theorem ok_1_9 : pm_ok 1 9 (1, 0, 2, .null, []) := Or.inl ⟨0, by decide +kernel, rfl, rfl⟩
theorem ok_1_10 : pm_ok 1 10 (0, 0, 0, .int 0, []) := Or.inl ⟨0, by decide +kernel, rfl, rfl⟩
theorem ok_1_11 : pm_ok 1 11 (19, 0, 4, .null, [3]) := ⟨38, RX0, TX0, 9, tyX0, by decide +kernel, rfl, rfl, by decide, pm_cw0, tyX0_ok, nmX0, by decide +kernel, Or.inl ⟨rfl, Or.inl (pm_tb 187 (by decide +kernel))⟩⟩
theorem ok_1_12 : pm_ok 1 12 (26, 0, 0, .null, []) := ⟨by decide +kernel, rfl⟩
set_option maxRecDepth 100000 in
theorem ok_1 : pm_oks 1 0 cd_X0_clear := ⟨ok_1_0, ok_1_1, ok_1_2, ok_1_3, ok_1_4, ok_1_5, ok_1_6, ok_1_7, ok_1_8, ok_1_9, ok_1_10, ok_1_11, ok_1_12, trivial⟩
theorem ok_2_0 : pm_ok 2 0 (1, 0, 2, .null, []) := Or.inl ⟨0, by decide +kernel, rfl, rfl⟩
theorem ok_2_1 : pm_ok 2 1 (0, 0, 0, .int 0, []) := Or.inl ⟨0, by decide +kernel, rfl, rfl⟩
theorem ok_2_2 : pm_ok 2 2 (19, 0, 4, .null, [3]) := ⟨38, RX0, TX0, 9, tyX0, by decide +kernel, rfl, rfl, by decide, pm_cw0, tyX0_ok, nmX0, by decide +kernel, Or.inl ⟨rfl, Or.inl (pm_tb 187 (by decide +kernel))⟩⟩
theorem ok_2_3 : pm_ok 2 3 (1, 0, 2, .null, []) := Or.inl ⟨0, by decide +kernel, rfl, rfl⟩
theorem ok_2_4 : pm_ok 2 4 (18, 0, 5, .null, []) := ⟨9, RX0, TX0, 9, by decide +kernel, rfl, rfl, by decide, pm_cw0, Or.inl (pm_tb 189 (by decide +kernel))⟩
theorem ok_2_5 : pm_ok 2 5 (1, 0, 2, .null, []) := Or.inl ⟨0, by decide +kernel, rfl, rfl⟩
theorem ok_2_6 : pm_ok 2 6 (18, 0, 2, .null, []) := ⟨35, RX0, TX0, 9, by decide +kernel, rfl, rfl, by decide, pm_cw0, Or.inl (pm_tb 183 (by decide +kernel))⟩
theorem ok_2_7 : pm_ok 2 7 (1, 1, 0, .null, []) := Or.inl ⟨1, by decide +kernel, rfl, rfl⟩
theorem ok_2_8 : pm_ok 2 8 (21, 0, 0, .null, []) := ⟨by decide +kernel, rfl⟩
theorem ok_2_9 : pm_ok 2 9 (1, 0, 2, .null, []) := Or.inl ⟨0, by decide +kernel, rfl, rfl⟩
theorem ok_2_10 : pm_ok 2 10 (11, 0, 0, .null, []) := ⟨by decide +kernel, rfl⟩
theorem ok_2_11 : pm_ok 2 11 (18, 0, 2, .null, []) := ⟨35, RX0, TX0, 9, by decide +kernel, rfl, rfl, by decide, pm_cw0, Or.inl (pm_tb 183 (by decide +kernel))⟩
theorem ok_2_12 : pm_ok 2 12 (12, 0, 0, .null, []) := ⟨by decide +kernel, rfl⟩
theorem ok_2_13 : pm_ok 2 13 (0, 0, 0, .int 1, []) := Or.inl ⟨1, by decide +kernel, rfl, rfl⟩
theorem ok_2_14 : pm_ok 2 14 (4, 0, 0, .null, []) := ⟨by decide +kernel, rfl⟩
theorem ok_2_15 : pm_ok 2 15 (19, 0, 2, .null, [0]) := ⟨35, RX0, TX0, 9, tyX0, by decide +kernel, rfl, rfl, by decide, pm_cw0, tyX0_ok, nmX0, by decide +kernel, Or.inl ⟨rfl, Or.inl (pm_tb 183 (by decide +kernel))⟩⟩
theorem ok_2_16 : pm_ok 2 16 (26, 1, 0, .null, []) := ⟨by decide +kernel, rfl⟩
set_option maxRecDepth 100000 in
theorem ok_2 : pm_oks 2 0 cd_X0_append := ⟨ok_2_0, ok_2_1, ok_2_2, ok_2_3, ok_2_4, ok_2_5, ok_2_6, ok_2_7, ok_2_8, ok_2_9, ok_2_10, ok_2_11, ok_2_12, ok_2_13, ok_2_14, ok_2_15, ok_2_16, trivial⟩
theorem ok_3_0 : pm_ok 3 0 (1, 0, 2, .null, []) := Or.inl ⟨0, by decide +kernel, rfl, rfl⟩
theorem ok_3_1 : pm_ok 3 1 (0, 0, 0, .int 0, []) := Or.inl ⟨0, by decide +kernel, rfl, rfl⟩
theorem ok_3_2 : pm_ok 3 2 (19, 0, 4, .null, [3]) := ⟨38, RX0, TX0, 9, tyX0, by decide +kernel, rfl, rfl, by decide, pm_cw0, tyX0_ok, nmX0, by decide +kernel, Or.inl ⟨rfl, Or.inl (pm_tb 187 (by decide +kernel))⟩⟩
theorem ok_3_3 : pm_ok 3 3 (1, 0, 2, .null, []) := Or.inl ⟨0, by decide +kernel, rfl, rfl⟩
theorem ok_3_4 : pm_ok 3 4 (11, 0, 0, .null, []) := ⟨by decide +kernel, rfl⟩
theorem ok_3_5 : pm_ok 3 5 (18, 0, 2, .null, []) := ⟨35, RX0, TX0, 9, by decide +kernel, rfl, rfl, by decide, pm_cw0, Or.inl (pm_tb 183 (by decide +kernel))⟩
theorem ok_3_6 : pm_ok 3 6 (0, 0, 0, .int 1, []) := Or.inl ⟨1, by decide +kernel, rfl, rfl⟩
theorem ok_3_7 : pm_ok 3 7 (4, 0, 1, .null, []) := ⟨by decide +kernel, rfl⟩
theorem ok_3_8 : pm_ok 3 8 (12, 0, 0, .null, []) := ⟨by decide +kernel, rfl⟩
theorem ok_3_9 : pm_ok 3 9 (19, 0, 2, .null, [0]) := ⟨35, RX0, TX0, 9, tyX0, by decide +kernel, rfl, rfl, by decide, pm_cw0, tyX0_ok, nmX0, by decide +kernel, Or.inl ⟨rfl, Or.inl (pm_tb 183 (by decide +kernel))⟩⟩
theorem ok_3_10 : pm_ok 3 10 (26, 1, 0, .null, []) := ⟨by decide +kernel, rfl⟩
set_option maxRecDepth 100000 in
theorem ok_3 : pm_oks 3 0 cd_X0_removeLast := ⟨ok_3_0, ok_3_1, ok_3_2, ok_3_3, ok_3_4, ok_3_5, ok_3_6, ok_3_7, ok_3_8, ok_3_9, ok_3_10, trivial⟩
theorem ok_4_0 : pm_ok 4 0 (1, 0, 2, .null, []) := Or.inl ⟨0, by decide +kernel, rfl, rfl⟩
theorem ok_4_1 : pm_ok 4 1 (18, 0, 0, .null, []) := ⟨28, RX0, TX0, 9, by decide +kernel, rfl, rfl, by decide, pm_cw0, Or.inl (pm_tb 181 (by decide +kernel))⟩
theorem ok_4_2 : pm_ok 4 2 (1, 0, 2, .null, []) := Or.inl ⟨0, by decide +kernel, rfl, rfl⟩
theorem ok_4_3 : pm_ok 4 3 (18, 0, 1, .null, []) := ⟨32, RX0, TX0, 9, by decide +kernel, rfl, rfl, by decide, pm_cw0, Or.inl (pm_tb 182 (by decide +kernel))⟩
theorem ok_4_4 : pm_ok 4 4 (4, 0, 2, .null, []) := ⟨by decide +kernel, rfl⟩
theorem ok_4_5 : pm_ok 4 5 (2, 1, 0, .null, []) := Or.inl ⟨1, by decide +kernel, rfl, rfl⟩
theorem ok_4_6 : pm_ok 4 6 (0, 0, 0, .int 0, []) := Or.inl ⟨0, by decide +kernel, rfl, rfl⟩
theorem ok_4_7 : pm_ok 4 7 (2, 2, 0, .null, []) := Or.inl ⟨2, by decide +kernel, rfl, rfl⟩
theorem ok_4_8 : pm_ok 4 8 (1, 2, 0, .null, []) := Or.inl ⟨2, by decide +kernel, rfl, rfl⟩
theorem ok_4_9 : pm_ok 4 9 (1, 0, 2, .null, []) := Or.inl ⟨0, by decide +kernel, rfl, rfl⟩
theorem ok_4_10 : pm_ok 4 10 (18, 0, 2, .null, []) := ⟨35, RX0, TX0, 9, by decide +kernel, rfl, rfl, by decide, pm_cw0, Or.inl (pm_tb 183 (by decide +kernel))⟩
theorem ok_4_11 : pm_ok 4 11 (16, 26, 3, .null, []) := ⟨25, by decide +kernel, by decide +kernel, rfl⟩
theorem ok_4_12 : pm_ok 4 12 (1, 1, 0, .null, []) := Or.inl ⟨1, by decide +kernel, rfl, rfl⟩
theorem ok_4_13 : pm_ok 4 13 (1, 0, 2, .null, []) := Or.inl ⟨0, by decide +kernel, rfl, rfl⟩
theorem ok_4_14 : pm_ok 4 14 (18, 0, 5, .null, []) := ⟨9, RX0, TX0, 9, by decide +kernel, rfl, rfl, by decide, pm_cw0, Or.inl (pm_tb 189 (by decide +kernel))⟩
theorem ok_4_15 : pm_ok 4 15 (1, 2, 0, .null, []) := Or.inl ⟨2, by decide +kernel, rfl, rfl⟩
theorem ok_4_16 : pm_ok 4 16 (20, 0, 0, .null, []) := ⟨by decide +kernel, rfl⟩
theorem ok_4_17 : pm_ok 4 17 (1, 0, 2, .null, []) := Or.inl ⟨0, by decide +kernel, rfl, rfl⟩
theorem ok_4_18 : pm_ok 4 18 (18, 0, 5, .null, []) := ⟨9, RX0, TX0, 9, by decide +kernel, rfl, rfl, by decide, pm_cw0, Or.inl (pm_tb 189 (by decide +kernel))⟩
theorem ok_4_19 : pm_ok 4 19 (1, 2, 0, .null, []) := Or.inl ⟨2, by decide +kernel, rfl, rfl⟩
theorem ok_4_20 : pm_ok 4 20 (20, 0, 0, .null, []) := ⟨by decide +kernel, rfl⟩
theorem ok_4_21 : pm_ok 4 21 (4, 0, 2, .null, []) := ⟨by decide +kernel, rfl⟩
theorem ok_4_22 : pm_ok 4 22 (4, 0, 1, .null, []) := ⟨by decide +kernel, rfl⟩
theorem ok_4_23 : pm_ok 4 23 (2, 1, 0, .null, []) := Or.inl ⟨1, by decide +kernel, rfl, rfl⟩
theorem ok_4_24 : pm_ok 4 24 (3, 2, 0, .int 1, []) := ⟨1, by decide +kernel, rfl, rfl⟩
theorem ok_4_25 : pm_ok 4 25 (17, 8, 0, .null, []) := ⟨(-27), by decide +kernel, by decide +kernel⟩
theorem ok_4_26 : pm_ok 4 26 (1, 1, 0, .null, []) := Or.inl ⟨1, by decide +kernel, rfl, rfl⟩
theorem ok_4_27 : pm_ok 4 27 (26, 1, 0, .null, []) := ⟨by decide +kernel, rfl⟩
set_option maxRecDepth 100000 in
theorem ok_4 : pm_oks 4 0 cd_X0_countLeft := ⟨ok_4_0, ok_4_1, ok_4_2, ok_4_3, ok_4_4, ok_4_5, ok_4_6, ok_4_7, ok_4_8, ok_4_9, ok_4_10, ok_4_11, ok_4_12, ok_4_13, ok_4_14, ok_4_15, ok_4_16, ok_4_17, ok_4_18, ok_4_19, ok_4_20, ok_4_21, ok_4_22, ok_4_23, ok_4_24, ok_4_25, ok_4_26, ok_4_27, trivial⟩
theorem ok_5_0 : pm_ok 5 0 (1, 0, 2, .null, []) := Or.inl ⟨0, by decide +kernel, rfl, rfl⟩
theorem ok_5_1 : pm_ok 5 1 (0, 0, 0, .int 0, []) := Or.inl ⟨0, by decide +kernel, rfl, rfl⟩
theorem ok_5_2 : pm_ok 5 2 (19, 0, 3, .null, [0]) := ⟨42, RX0, TX0, 9, tyX0, by decide +kernel, rfl, rfl, by decide, pm_cw0, tyX0_ok, nmX0, by decide +kernel, Or.inl ⟨rfl, Or.inl (pm_tb 185 (by decide +kernel))⟩⟩
theorem ok_5_3 : pm_ok 5 3 (1, 0, 2, .null, []) := Or.inl ⟨0, by decide +kernel, rfl, rfl⟩
theorem ok_5_4 : pm_ok 5 4 (1, 1, 0, .null, []) := Or.inl ⟨1, by decide +kernel, rfl, rfl⟩
theorem ok_5_5 : pm_ok 5 5 (25, 6, 2, .null, [0]) := ⟨45, by decide, rfl, Or.inl (pm_tb 398 (by decide +kernel)), Or.inl ⟨by decide +kernel, 0, TX0, 9, rfl, rfl, by decide, by decide +kernel, (pm_tb 400 (by decide +kernel)), (pm_tp 32 (by decide +kernel))⟩⟩
theorem ok_5_6 : pm_ok 5 6 (2, 2, 0, .null, []) := Or.inl ⟨2, by decide +kernel, rfl, rfl⟩
theorem ok_5_7 : pm_ok 5 7 (1, 0, 2, .null, []) := Or.inl ⟨0, by decide +kernel, rfl, rfl⟩
theorem ok_5_8 : pm_ok 5 8 (1, 2, 0, .null, []) := Or.inl ⟨2, by decide +kernel, rfl, rfl⟩
theorem ok_5_9 : pm_ok 5 9 (0, 0, 0, .int 1, []) := Or.inl ⟨1, by decide +kernel, rfl, rfl⟩
theorem ok_5_10 : pm_ok 5 10 (16, 13, 1, .null, []) := ⟨7, by decide +kernel, by decide +kernel, rfl⟩
theorem ok_5_11 : pm_ok 5 11 (0, 0, 0, .int 1, []) := Or.inl ⟨1, by decide +kernel, rfl, rfl⟩
theorem ok_5_12 : pm_ok 5 12 (17, 14, 0, .null, []) := ⟨4, by decide +kernel, by decide +kernel⟩
theorem ok_5_13 : pm_ok 5 13 (0, 0, 0, .int 0, []) := Or.inl ⟨0, by decide +kernel, rfl, rfl⟩
theorem ok_5_14 : pm_ok 5 14 (19, 0, 4, .null, [3]) := ⟨38, RX0, TX0, 9, tyX0, by decide +kernel, rfl, rfl, by decide, pm_cw0, tyX0_ok, nmX0, by decide +kernel, Or.inl ⟨rfl, Or.inl (pm_tb 187 (by decide +kernel))⟩⟩
theorem ok_5_15 : pm_ok 5 15 (1, 2, 0, .null, []) := Or.inl ⟨2, by decide +kernel, rfl, rfl⟩
theorem ok_5_16 : pm_ok 5 16 (26, 1, 0, .null, []) := ⟨by decide +kernel, rfl⟩
set_option maxRecDepth 100000 in
theorem ok_5 : pm_oks 5 0 cd_X0_fill := ⟨ok_5_0, ok_5_1, ok_5_2, ok_5_3, ok_5_4, ok_5_5, ok_5_6, ok_5_7, ok_5_8, ok_5_9, ok_5_10, ok_5_11, ok_5_12, ok_5_13, ok_5_14, ok_5_15, ok_5_16, trivial⟩
theorem ok_6_0 : pm_ok 6 0 (1, 0, 2, .null, []) := Or.inl ⟨0, by decide +kernel, rfl, rfl⟩
theorem ok_6_1 : pm_ok 6 1 (25, 7, 1, .null, [0]) := ⟨49, by decide, rfl, Or.inl (pm_tb 402 (by decide +kernel)), Or.inl ⟨by decide +kernel, 0, TX0, 9, rfl, rfl, by decide, by decide +kernel, (pm_tb 404 (by decide +kernel)), (pm_tp 33 (by decide +kernel))⟩⟩
theorem ok_6_2 : pm_ok 6 2 (0, 0, 0, .int 0, []) := Or.inl ⟨0, by decide +kernel, rfl, rfl⟩
theorem ok_6_3 : pm_ok 6 3 (2, 2, 0, .null, []) := Or.inl ⟨2, by decide +kernel, rfl, rfl⟩
theorem ok_6_4 : pm_ok 6 4 (0, 0, 0, .int 0, []) := Or.inl ⟨0, by decide +kernel, rfl, rfl⟩
theorem ok_6_5 : pm_ok 6 5 (2, 3, 0, .null, []) := Or.inl ⟨3, by decide +kernel, rfl, rfl⟩
theorem ok_6_6 : pm_ok 6 6 (1, 3, 0, .null, []) := Or.inl ⟨3, by decide +kernel, rfl, rfl⟩
theorem ok_6_7 : pm_ok 6 7 (0, 0, 0, .int 200002, []) := Or.inr (Or.inr (Or.inr (Or.inr (Or.inl ⟨52, 200002, by decide +kernel, (pm_tb 410 (by decide +kernel)), rfl, rfl⟩))))
theorem ok_6_8 : pm_ok 6 8 (16, 48, 3, .null, []) := ⟨78, by decide +kernel, by decide +kernel, rfl⟩
theorem ok_6_9 : pm_ok 6 9 (1, 2, 0, .null, []) := Or.inl ⟨2, by decide +kernel, rfl, rfl⟩
theorem ok_6_10 : pm_ok 6 10 (1, 0, 2, .null, []) := Or.inl ⟨0, by decide +kernel, rfl, rfl⟩
theorem ok_6_11 : pm_ok 6 11 (18, 0, 2, .null, []) := ⟨35, RX0, TX0, 9, by decide +kernel, rfl, rfl, by decide, pm_cw0, Or.inl (pm_tb 183 (by decide +kernel))⟩
theorem ok_6_12 : pm_ok 6 12 (16, 15, 2, .null, []) := ⟨5, by decide +kernel, by decide +kernel, rfl⟩
theorem ok_6_13 : pm_ok 6 13 (0, 0, 0, .int 1, []) := Or.inl ⟨1, by decide +kernel, rfl, rfl⟩
theorem ok_6_14 : pm_ok 6 14 (26, 1, 0, .null, []) := ⟨by decide +kernel, rfl⟩
theorem ok_6_15 : pm_ok 6 15 (1, 0, 2, .null, []) := Or.inl ⟨0, by decide +kernel, rfl, rfl⟩
theorem ok_6_16 : pm_ok 6 16 (1, 2, 0, .null, []) := Or.inl ⟨2, by decide +kernel, rfl, rfl⟩
theorem ok_6_17 : pm_ok 6 17 (25, 9, 2, .null, [0]) := ⟨53, by decide, rfl, Or.inl (pm_tb 411 (by decide +kernel)), Or.inl ⟨by decide +kernel, 0, TX0, 9, rfl, rfl, by decide, by decide +kernel, (pm_tb 413 (by decide +kernel)), (pm_tp 35 (by decide +kernel))⟩⟩
theorem ok_6_18 : pm_ok 6 18 (15, 31, 1, .null, []) := ⟨25, by decide +kernel, by decide +kernel, rfl⟩
theorem ok_6_19 : pm_ok 6 19 (1, 2, 0, .null, []) := Or.inl ⟨2, by decide +kernel, rfl, rfl⟩
theorem ok_6_20 : pm_ok 6 20 (15, 23, 1, .null, []) := ⟨5, by decide +kernel, by decide +kernel, rfl⟩
theorem ok_6_21 : pm_ok 6 21 (0, 0, 0, .int 0, []) := Or.inl ⟨0, by decide +kernel, rfl, rfl⟩
theorem ok_6_22 : pm_ok 6 22 (26, 1, 0, .null, []) := ⟨by decide +kernel, rfl⟩
theorem ok_6_23 : pm_ok 6 23 (3, 2, 0, .int (-1), []) := ⟨(-1), by decide +kernel, rfl, rfl⟩
theorem ok_6_24 : pm_ok 6 24 (1, 0, 2, .null, []) := Or.inl ⟨0, by decide +kernel, rfl, rfl⟩
theorem ok_6_25 : pm_ok 6 25 (1, 2, 0, .null, []) := Or.inl ⟨2, by decide +kernel, rfl, rfl⟩
theorem ok_6_26 : pm_ok 6 26 (25, 14, 2, .null, [0]) := ⟨57, by decide, rfl, Or.inl (pm_tb 415 (by decide +kernel)), Or.inl ⟨by decide +kernel, 0, TX0, 9, rfl, rfl, by decide, by decide +kernel, (pm_tb 417 (by decide +kernel)), (pm_tp 36 (by decide +kernel))⟩⟩
theorem ok_6_27 : pm_ok 6 27 (1, 0, 2, .null, []) := Or.inl ⟨0, by decide +kernel, rfl, rfl⟩
theorem ok_6_28 : pm_ok 6 28 (1, 2, 0, .null, []) := Or.inl ⟨2, by decide +kernel, rfl, rfl⟩
theorem ok_6_29 : pm_ok 6 29 (25, 10, 2, .null, [0]) := ⟨61, by decide, rfl, Or.inl (pm_tb 424 (by decide +kernel)), Or.inl ⟨by decide +kernel, 0, TX0, 9, rfl, rfl, by decide, by decide +kernel, (pm_tb 426 (by decide +kernel)), (pm_tp 38 (by decide +kernel))⟩⟩
theorem ok_6_30 : pm_ok 6 30 (17, 46, 0, .null, []) := ⟨32, by decide +kernel, by decide +kernel⟩
theorem ok_6_31 : pm_ok 6 31 (1, 0, 2, .null, []) := Or.inl ⟨0, by decide +kernel, rfl, rfl⟩
theorem ok_6_32 : pm_ok 6 32 (18, 0, 3, .null, []) := ⟨42, RX0, TX0, 9, by decide +kernel, rfl, rfl, by decide, pm_cw0, Or.inl (pm_tb 185 (by decide +kernel))⟩
theorem ok_6_33 : pm_ok 6 33 (1, 1, 0, .null, []) := Or.inl ⟨1, by decide +kernel, rfl, rfl⟩
theorem ok_6_34 : pm_ok 6 34 (16, 37, 2, .null, []) := ⟨5, by decide +kernel, by decide +kernel, rfl⟩
theorem ok_6_35 : pm_ok 6 35 (0, 0, 0, .int 2, []) := Or.inl ⟨2, by decide +kernel, rfl, rfl⟩
theorem ok_6_36 : pm_ok 6 36 (26, 1, 0, .null, []) := ⟨by decide +kernel, rfl⟩
theorem ok_6_37 : pm_ok 6 37 (1, 0, 2, .null, []) := Or.inl ⟨0, by decide +kernel, rfl, rfl⟩
theorem ok_6_38 : pm_ok 6 38 (1, 2, 0, .null, []) := Or.inl ⟨2, by decide +kernel, rfl, rfl⟩
theorem ok_6_39 : pm_ok 6 39 (25, 11, 2, .null, [0]) := ⟨64, by decide, rfl, Or.inl (pm_tb 428 (by decide +kernel)), Or.inl ⟨by decide +kernel, 0, TX0, 9, rfl, rfl, by decide, by decide +kernel, (pm_tb 430 (by decide +kernel)), (pm_tp 39 (by decide +kernel))⟩⟩
theorem ok_6_40 : pm_ok 6 40 (15, 43, 0, .null, []) := ⟨9, by decide +kernel, by decide +kernel, rfl⟩
theorem ok_6_41 : pm_ok 6 41 (3, 2, 0, .int 1, []) := ⟨1, by decide +kernel, rfl, rfl⟩
theorem ok_6_42 : pm_ok 6 42 (17, 46, 0, .null, []) := ⟨8, by decide +kernel, by decide +kernel⟩
theorem ok_6_43 : pm_ok 6 43 (1, 0, 2, .null, []) := Or.inl ⟨0, by decide +kernel, rfl, rfl⟩
theorem ok_6_44 : pm_ok 6 44 (1, 2, 0, .null, []) := Or.inl ⟨2, by decide +kernel, rfl, rfl⟩
theorem ok_6_45 : pm_ok 6 45 (25, 10, 2, .null, [0]) := ⟨61, by decide, rfl, Or.inl (pm_tb 424 (by decide +kernel)), Or.inl ⟨by decide +kernel, 0, TX0, 9, rfl, rfl, by decide, by decide +kernel, (pm_tb 426 (by decide +kernel)), (pm_tp 38 (by decide +kernel))⟩⟩
theorem ok_6_46 : pm_ok 6 46 (3, 3, 0, .int 1, []) := ⟨1, by decide +kernel, rfl, rfl⟩
theorem ok_6_47 : pm_ok 6 47 (17, 6, 0, .null, []) := ⟨(-78), by decide +kernel, by decide +kernel⟩
theorem ok_6_48 : pm_ok 6 48 (0, 0, 0, .int 2, []) := Or.inl ⟨2, by decide +kernel, rfl, rfl⟩
theorem ok_6_49 : pm_ok 6 49 (26, 1, 0, .null, []) := ⟨by decide +kernel, rfl⟩
set_option maxRecDepth 100000 in
theorem ok_6 : pm_oks 6 0 cd_X0_layAll := ⟨ok_6_0, ok_6_1, ok_6_2, ok_6_3, ok_6_4, ok_6_5, ok_6_6, ok_6_7, ok_6_8, ok_6_9, ok_6_10, ok_6_11, ok_6_12, ok_6_13, ok_6_14, ok_6_15, ok_6_16, ok_6_17, ok_6_18, ok_6_19, ok_6_20, ok_6_21, ok_6_22, ok_6_23, ok_6_24, ok_6_25, ok_6_26, ok_6_27, ok_6_28, ok_6_29, ok_6_30, ok_6_31, ok_6_32, ok_6_33, ok_6_34, ok_6_35, ok_6_36, ok_6_37, ok_6_38, ok_6_39, ok_6_40, ok_6_41, ok_6_42, ok_6_43, ok_6_44, ok_6_45, ok_6_46, ok_6_47, ok_6_48, ok_6_49, trivial⟩
theorem ok_7_0 : pm_ok 7 0 (0, 0, 0, .int 0, []) := Or.inl ⟨0, by decide +kernel, rfl, rfl⟩
theorem ok_7_1 : pm_ok 7 1 (2, 1, 0, .null, []) := Or.inl ⟨1, by decide +kernel, rfl, rfl⟩
theorem ok_7_2 : pm_ok 7 2 (1, 1, 0, .null, []) := Or.inl ⟨1, by decide +kernel, rfl, rfl⟩
theorem ok_7_3 : pm_ok 7 3 (0, 0, 0, .int 12, []) := Or.inr (Or.inl ⟨12, by decide +kernel, by decide +kernel, rfl⟩)
theorem ok_7_4 : pm_ok 7 4 (16, 12, 3, .null, []) := ⟨16, by decide +kernel, by decide +kernel, rfl⟩
theorem ok_7_5 : pm_ok 7 5 (1, 0, 2, .null, []) := Or.inl ⟨0, by decide +kernel, rfl, rfl⟩
theorem ok_7_6 : pm_ok 7 6 (18, 0, 8, .null, []) := ⟨21, RX0, TX0, 9, by decide +kernel, rfl, rfl, by decide, pm_cw0, Or.inl (pm_tb 194 (by decide +kernel))⟩
theorem ok_7_7 : pm_ok 7 7 (1, 1, 0, .null, []) := Or.inl ⟨1, by decide +kernel, rfl, rfl⟩
theorem ok_7_8 : pm_ok 7 8 (0, 0, 0, .int 0, []) := Or.inl ⟨0, by decide +kernel, rfl, rfl⟩
theorem ok_7_9 : pm_ok 7 9 (21, 0, 0, .null, []) := ⟨by decide +kernel, rfl⟩
theorem ok_7_10 : pm_ok 7 10 (3, 1, 0, .int 1, []) := ⟨1, by decide +kernel, rfl, rfl⟩
theorem ok_7_11 : pm_ok 7 11 (17, 2, 0, .null, []) := ⟨(-16), by decide +kernel, by decide +kernel⟩
theorem ok_7_12 : pm_ok 7 12 (1, 0, 2, .null, []) := Or.inl ⟨0, by decide +kernel, rfl, rfl⟩
theorem ok_7_13 : pm_ok 7 13 (0, 0, 0, .int 0, []) := Or.inl ⟨0, by decide +kernel, rfl, rfl⟩
theorem ok_7_14 : pm_ok 7 14 (25, 8, 2, .null, [0]) := ⟨67, by decide, rfl, Or.inl (pm_tb 406 (by decide +kernel)), Or.inl ⟨by decide +kernel, 0, TX0, 9, rfl, rfl, by decide, by decide +kernel, (pm_tb 408 (by decide +kernel)), (pm_tp 34 (by decide +kernel))⟩⟩
theorem ok_7_15 : pm_ok 7 15 (26, 0, 0, .null, []) := ⟨by decide +kernel, rfl⟩
set_option maxRecDepth 100000 in
theorem ok_7 : pm_oks 7 0 cd_X0_emptyBox := ⟨ok_7_0, ok_7_1, ok_7_2, ok_7_3, ok_7_4, ok_7_5, ok_7_6, ok_7_7, ok_7_8, ok_7_9, ok_7_10, ok_7_11, ok_7_12, ok_7_13, ok_7_14, ok_7_15, trivial⟩
theorem ok_8_0 : pm_ok 8 0 (1, 1, 0, .null, []) := Or.inl ⟨1, by decide +kernel, rfl, rfl⟩
theorem ok_8_1 : pm_ok 8 1 (0, 0, 0, .int 8, []) := Or.inr (Or.inl ⟨8, by decide +kernel, by decide +kernel, rfl⟩)
theorem ok_8_2 : pm_ok 8 2 (16, 13, 3, .null, []) := ⟨17, by decide +kernel, by decide +kernel, rfl⟩
theorem ok_8_3 : pm_ok 8 3 (1, 0, 2, .null, []) := Or.inl ⟨0, by decide +kernel, rfl, rfl⟩
theorem ok_8_4 : pm_ok 8 4 (18, 0, 6, .null, []) := ⟨15, RX0, TX0, 9, by decide +kernel, rfl, rfl, by decide, pm_cw0, Or.inl (pm_tb 190 (by decide +kernel))⟩
theorem ok_8_5 : pm_ok 8 5 (1, 1, 0, .null, []) := Or.inl ⟨1, by decide +kernel, rfl, rfl⟩
theorem ok_8_6 : pm_ok 8 6 (0, 0, 0, .int 0, []) := Or.inl ⟨0, by decide +kernel, rfl, rfl⟩
theorem ok_8_7 : pm_ok 8 7 (21, 0, 0, .null, []) := ⟨by decide +kernel, rfl⟩
theorem ok_8_8 : pm_ok 8 8 (1, 0, 2, .null, []) := Or.inl ⟨0, by decide +kernel, rfl, rfl⟩
theorem ok_8_9 : pm_ok 8 9 (18, 0, 7, .null, []) := ⟨18, RX0, TX0, 9, by decide +kernel, rfl, rfl, by decide, pm_cw0, Or.inl (pm_tb 192 (by decide +kernel))⟩
theorem ok_8_10 : pm_ok 8 10 (1, 1, 0, .null, []) := Or.inl ⟨1, by decide +kernel, rfl, rfl⟩
theorem ok_8_11 : pm_ok 8 11 (0, 0, 0, .int 0, []) := Or.inl ⟨0, by decide +kernel, rfl, rfl⟩
theorem ok_8_12 : pm_ok 8 12 (21, 0, 0, .null, []) := ⟨by decide +kernel, rfl⟩
theorem ok_8_13 : pm_ok 8 13 (26, 0, 0, .null, []) := ⟨by decide +kernel, rfl⟩
set_option maxRecDepth 100000 in
theorem ok_8 : pm_oks 8 0 cd_X0_startOver := ⟨ok_8_0, ok_8_1, ok_8_2, ok_8_3, ok_8_4, ok_8_5, ok_8_6, ok_8_7, ok_8_8, ok_8_9, ok_8_10, ok_8_11, ok_8_12, ok_8_13, trivial⟩
theorem ok_9_0 : pm_ok 9 0 (1, 0, 2, .null, []) := Or.inl ⟨0, by decide +kernel, rfl, rfl⟩
theorem ok_9_1 : pm_ok 9 1 (18, 0, 6, .null, []) := ⟨15, RX0, TX0, 9, by decide +kernel, rfl, rfl, by decide, pm_cw0, Or.inl (pm_tb 190 (by decide +kernel))⟩
theorem ok_9_2 : pm_ok 9 2 (1, 1, 0, .null, []) := Or.inl ⟨1, by decide +kernel, rfl, rfl⟩
theorem ok_9_3 : pm_ok 9 3 (20, 0, 0, .null, []) := ⟨by decide +kernel, rfl⟩
theorem ok_9_4 : pm_ok 9 4 (1, 0, 2, .null, []) := Or.inl ⟨0, by decide +kernel, rfl, rfl⟩
theorem ok_9_5 : pm_ok 9 5 (18, 0, 5, .null, []) := ⟨9, RX0, TX0, 9, by decide +kernel, rfl, rfl, by decide, pm_cw0, Or.inl (pm_tb 189 (by decide +kernel))⟩
theorem ok_9_6 : pm_ok 9 6 (1, 1, 0, .null, []) := Or.inl ⟨1, by decide +kernel, rfl, rfl⟩
theorem ok_9_7 : pm_ok 9 7 (20, 0, 0, .null, []) := ⟨by decide +kernel, rfl⟩
theorem ok_9_8 : pm_ok 9 8 (4, 0, 0, .null, []) := ⟨by decide +kernel, rfl⟩
theorem ok_9_9 : pm_ok 9 9 (1, 0, 2, .null, []) := Or.inl ⟨0, by decide +kernel, rfl, rfl⟩
theorem ok_9_10 : pm_ok 9 10 (18, 0, 0, .null, []) := ⟨28, RX0, TX0, 9, by decide +kernel, rfl, rfl, by decide, pm_cw0, Or.inl (pm_tb 181 (by decide +kernel))⟩
theorem ok_9_11 : pm_ok 9 11 (16, 26, 4, .null, []) := ⟨27, by decide +kernel, by decide +kernel, rfl⟩
theorem ok_9_12 : pm_ok 9 12 (1, 0, 2, .null, []) := Or.inl ⟨0, by decide +kernel, rfl, rfl⟩
theorem ok_9_13 : pm_ok 9 13 (18, 0, 7, .null, []) := ⟨18, RX0, TX0, 9, by decide +kernel, rfl, rfl, by decide, pm_cw0, Or.inl (pm_tb 192 (by decide +kernel))⟩
theorem ok_9_14 : pm_ok 9 14 (1, 1, 0, .null, []) := Or.inl ⟨1, by decide +kernel, rfl, rfl⟩
theorem ok_9_15 : pm_ok 9 15 (20, 0, 0, .null, []) := ⟨by decide +kernel, rfl⟩
theorem ok_9_16 : pm_ok 9 16 (1, 0, 2, .null, []) := Or.inl ⟨0, by decide +kernel, rfl, rfl⟩
theorem ok_9_17 : pm_ok 9 17 (18, 0, 5, .null, []) := ⟨9, RX0, TX0, 9, by decide +kernel, rfl, rfl, by decide, pm_cw0, Or.inl (pm_tb 189 (by decide +kernel))⟩
theorem ok_9_18 : pm_ok 9 18 (1, 1, 0, .null, []) := Or.inl ⟨1, by decide +kernel, rfl, rfl⟩
theorem ok_9_19 : pm_ok 9 19 (20, 0, 0, .null, []) := ⟨by decide +kernel, rfl⟩
theorem ok_9_20 : pm_ok 9 20 (4, 0, 0, .null, []) := ⟨by decide +kernel, rfl⟩
theorem ok_9_21 : pm_ok 9 21 (1, 0, 2, .null, []) := Or.inl ⟨0, by decide +kernel, rfl, rfl⟩
theorem ok_9_22 : pm_ok 9 22 (18, 0, 1, .null, []) := ⟨32, RX0, TX0, 9, by decide +kernel, rfl, rfl, by decide, pm_cw0, Or.inl (pm_tb 182 (by decide +kernel))⟩
theorem ok_9_23 : pm_ok 9 23 (16, 26, 4, .null, []) := ⟨7, by decide +kernel, by decide +kernel, rfl⟩
theorem ok_9_24 : pm_ok 9 24 (0, 0, 0, .int 1, []) := Or.inl ⟨1, by decide +kernel, rfl, rfl⟩
theorem ok_9_25 : pm_ok 9 25 (17, 27, 0, .null, []) := ⟨4, by decide +kernel, by decide +kernel⟩
theorem ok_9_26 : pm_ok 9 26 (0, 0, 0, .int 0, []) := Or.inl ⟨0, by decide +kernel, rfl, rfl⟩
theorem ok_9_27 : pm_ok 9 27 (26, 2, 0, .null, []) := ⟨by decide +kernel, rfl⟩
set_option maxRecDepth 100000 in
theorem ok_9 : pm_oks 9 0 cd_X0_hasPlace := ⟨ok_9_0, ok_9_1, ok_9_2, ok_9_3, ok_9_4, ok_9_5, ok_9_6, ok_9_7, ok_9_8, ok_9_9, ok_9_10, ok_9_11, ok_9_12, ok_9_13, ok_9_14, ok_9_15, ok_9_16, ok_9_17, ok_9_18, ok_9_19, ok_9_20, ok_9_21, ok_9_22, ok_9_23, ok_9_24, ok_9_25, ok_9_26, ok_9_27, trivial⟩
theorem ok_10_0 : pm_ok 10 0 (1, 0, 2, .null, []) := Or.inl ⟨0, by decide +kernel, rfl, rfl⟩
theorem ok_10_1 : pm_ok 10 1 (18, 0, 6, .null, []) := ⟨15, RX0, TX0, 9, by decide +kernel, rfl, rfl, by decide, pm_cw0, Or.inl (pm_tb 190 (by decide +kernel))⟩
theorem ok_10_2 : pm_ok 10 2 (1, 1, 0, .null, []) := Or.inl ⟨1, by decide +kernel, rfl, rfl⟩
theorem ok_10_3 : pm_ok 10 3 (13, 0, 0, .null, []) := ⟨by decide +kernel, rfl⟩
theorem ok_10_4 : pm_ok 10 4 (20, 0, 0, .null, []) := ⟨by decide +kernel, rfl⟩
theorem ok_10_5 : pm_ok 10 5 (0, 0, 0, .int 1, []) := Or.inl ⟨1, by decide +kernel, rfl, rfl⟩
theorem ok_10_6 : pm_ok 10 6 (4, 0, 0, .null, []) := ⟨by decide +kernel, rfl⟩
theorem ok_10_7 : pm_ok 10 7 (21, 0, 0, .null, []) := ⟨by decide +kernel, rfl⟩
theorem ok_10_8 : pm_ok 10 8 (1, 0, 2, .null, []) := Or.inl ⟨0, by decide +kernel, rfl, rfl⟩
theorem ok_10_9 : pm_ok 10 9 (18, 0, 6, .null, []) := ⟨15, RX0, TX0, 9, by decide +kernel, rfl, rfl, by decide, pm_cw0, Or.inl (pm_tb 190 (by decide +kernel))⟩
theorem ok_10_10 : pm_ok 10 10 (1, 1, 0, .null, []) := Or.inl ⟨1, by decide +kernel, rfl, rfl⟩
theorem ok_10_11 : pm_ok 10 11 (20, 0, 0, .null, []) := ⟨by decide +kernel, rfl⟩
theorem ok_10_12 : pm_ok 10 12 (1, 0, 2, .null, []) := Or.inl ⟨0, by decide +kernel, rfl, rfl⟩
theorem ok_10_13 : pm_ok 10 13 (18, 0, 5, .null, []) := ⟨9, RX0, TX0, 9, by decide +kernel, rfl, rfl, by decide, pm_cw0, Or.inl (pm_tb 189 (by decide +kernel))⟩
theorem ok_10_14 : pm_ok 10 14 (1, 1, 0, .null, []) := Or.inl ⟨1, by decide +kernel, rfl, rfl⟩
theorem ok_10_15 : pm_ok 10 15 (20, 0, 0, .null, []) := ⟨by decide +kernel, rfl⟩
theorem ok_10_16 : pm_ok 10 16 (4, 0, 0, .null, []) := ⟨by decide +kernel, rfl⟩
theorem ok_10_17 : pm_ok 10 17 (1, 0, 2, .null, []) := Or.inl ⟨0, by decide +kernel, rfl, rfl⟩
theorem ok_10_18 : pm_ok 10 18 (18, 0, 0, .null, []) := ⟨28, RX0, TX0, 9, by decide +kernel, rfl, rfl, by decide, pm_cw0, Or.inl (pm_tb 181 (by decide +kernel))⟩
theorem ok_10_19 : pm_ok 10 19 (16, 33, 5, .null, []) := ⟨20, by decide +kernel, by decide +kernel, rfl⟩
theorem ok_10_20 : pm_ok 10 20 (1, 0, 2, .null, []) := Or.inl ⟨0, by decide +kernel, rfl, rfl⟩
theorem ok_10_21 : pm_ok 10 21 (18, 0, 6, .null, []) := ⟨15, RX0, TX0, 9, by decide +kernel, rfl, rfl, by decide, pm_cw0, Or.inl (pm_tb 190 (by decide +kernel))⟩
theorem ok_10_22 : pm_ok 10 22 (1, 1, 0, .null, []) := Or.inl ⟨1, by decide +kernel, rfl, rfl⟩
theorem ok_10_23 : pm_ok 10 23 (0, 0, 0, .int 0, []) := Or.inl ⟨0, by decide +kernel, rfl, rfl⟩
theorem ok_10_24 : pm_ok 10 24 (21, 0, 0, .null, []) := ⟨by decide +kernel, rfl⟩
theorem ok_10_25 : pm_ok 10 25 (1, 0, 2, .null, []) := Or.inl ⟨0, by decide +kernel, rfl, rfl⟩
theorem ok_10_26 : pm_ok 10 26 (18, 0, 7, .null, []) := ⟨18, RX0, TX0, 9, by decide +kernel, rfl, rfl, by decide, pm_cw0, Or.inl (pm_tb 192 (by decide +kernel))⟩
theorem ok_10_27 : pm_ok 10 27 (1, 1, 0, .null, []) := Or.inl ⟨1, by decide +kernel, rfl, rfl⟩
theorem ok_10_28 : pm_ok 10 28 (13, 0, 0, .null, []) := ⟨by decide +kernel, rfl⟩
theorem ok_10_29 : pm_ok 10 29 (20, 0, 0, .null, []) := ⟨by decide +kernel, rfl⟩
theorem ok_10_30 : pm_ok 10 30 (0, 0, 0, .int 1, []) := Or.inl ⟨1, by decide +kernel, rfl, rfl⟩
theorem ok_10_31 : pm_ok 10 31 (4, 0, 0, .null, []) := ⟨by decide +kernel, rfl⟩
theorem ok_10_32 : pm_ok 10 32 (21, 0, 0, .null, []) := ⟨by decide +kernel, rfl⟩
theorem ok_10_33 : pm_ok 10 33 (26, 0, 0, .null, []) := ⟨by decide +kernel, rfl⟩
set_option maxRecDepth 100000 in
theorem ok_10 : pm_oks 10 0 cd_X0_goOn := ⟨ok_10_0, ok_10_1, ok_10_2, ok_10_3, ok_10_4, ok_10_5, ok_10_6, ok_10_7, ok_10_8, ok_10_9, ok_10_10, ok_10_11, ok_10_12, ok_10_13, ok_10_14, ok_10_15, ok_10_16, ok_10_17, ok_10_18, ok_10_19, ok_10_20, ok_10_21, ok_10_22, ok_10_23, ok_10_24, ok_10_25, ok_10_26, ok_10_27, ok_10_28, ok_10_29, ok_10_30, ok_10_31, ok_10_32, ok_10_33, trivial⟩
theorem ok_11_0 : pm_ok 11 0 (1, 0, 2, .null, []) := Or.inl ⟨0, by decide +kernel, rfl, rfl⟩
theorem ok_11_1 : pm_ok 11 1 (11, 0, 0, .null, []) := ⟨by decide +kernel, rfl⟩
theorem ok_11_2 : pm_ok 11 2 (18, 0, 3, .null, []) := ⟨42, RX0, TX0, 9, by decide +kernel, rfl, rfl, by decide, pm_cw0, Or.inl (pm_tb 185 (by decide +kernel))⟩
theorem ok_11_3 : pm_ok 11 3 (0, 0, 0, .int 1, []) := Or.inl ⟨1, by decide +kernel, rfl, rfl⟩
theorem ok_11_4 : pm_ok 11 4 (4, 0, 0, .null, []) := ⟨by decide +kernel, rfl⟩
theorem ok_11_5 : pm_ok 11 5 (19, 0, 3, .null, [0]) := ⟨42, RX0, TX0, 9, tyX0, by decide +kernel, rfl, rfl, by decide, pm_cw0, tyX0_ok, nmX0, by decide +kernel, Or.inl ⟨rfl, Or.inl (pm_tb 185 (by decide +kernel))⟩⟩
theorem ok_11_6 : pm_ok 11 6 (1, 0, 2, .null, []) := Or.inl ⟨0, by decide +kernel, rfl, rfl⟩
theorem ok_11_7 : pm_ok 11 7 (1, 1, 0, .null, []) := Or.inl ⟨1, by decide +kernel, rfl, rfl⟩
theorem ok_11_8 : pm_ok 11 8 (25, 13, 2, .null, [0]) := ⟨70, by decide, rfl, Or.inl (pm_tb 432 (by decide +kernel)), Or.inl ⟨by decide +kernel, 0, TX0, 9, rfl, rfl, by decide, by decide +kernel, (pm_tb 434 (by decide +kernel)), (pm_tp 40 (by decide +kernel))⟩⟩
theorem ok_11_9 : pm_ok 11 9 (15, 12, 1, .null, []) := ⟨5, by decide +kernel, by decide +kernel, rfl⟩
theorem ok_11_10 : pm_ok 11 10 (0, 0, 0, .int 0, []) := Or.inl ⟨0, by decide +kernel, rfl, rfl⟩
theorem ok_11_11 : pm_ok 11 11 (26, 2, 0, .null, []) := ⟨by decide +kernel, rfl⟩
theorem ok_11_12 : pm_ok 11 12 (1, 0, 2, .null, []) := Or.inl ⟨0, by decide +kernel, rfl, rfl⟩
theorem ok_11_13 : pm_ok 11 13 (1, 1, 0, .null, []) := Or.inl ⟨1, by decide +kernel, rfl, rfl⟩
theorem ok_11_14 : pm_ok 11 14 (25, 14, 2, .null, [0]) := ⟨57, by decide, rfl, Or.inl (pm_tb 415 (by decide +kernel)), Or.inl ⟨by decide +kernel, 0, TX0, 9, rfl, rfl, by decide, by decide +kernel, (pm_tb 417 (by decide +kernel)), (pm_tp 36 (by decide +kernel))⟩⟩
theorem ok_11_15 : pm_ok 11 15 (1, 0, 2, .null, []) := Or.inl ⟨0, by decide +kernel, rfl, rfl⟩
theorem ok_11_16 : pm_ok 11 16 (1, 1, 0, .null, []) := Or.inl ⟨1, by decide +kernel, rfl, rfl⟩
theorem ok_11_17 : pm_ok 11 17 (0, 0, 0, .int 1, []) := Or.inl ⟨1, by decide +kernel, rfl, rfl⟩
theorem ok_11_18 : pm_ok 11 18 (4, 0, 0, .null, []) := ⟨by decide +kernel, rfl⟩
theorem ok_11_19 : pm_ok 11 19 (25, 8, 2, .null, [0]) := ⟨67, by decide, rfl, Or.inl (pm_tb 406 (by decide +kernel)), Or.inl ⟨by decide +kernel, 0, TX0, 9, rfl, rfl, by decide, by decide +kernel, (pm_tb 408 (by decide +kernel)), (pm_tp 34 (by decide +kernel))⟩⟩
theorem ok_11_20 : pm_ok 11 20 (0, 0, 0, .int 1, []) := Or.inl ⟨1, by decide +kernel, rfl, rfl⟩
theorem ok_11_21 : pm_ok 11 21 (26, 2, 0, .null, []) := ⟨by decide +kernel, rfl⟩
set_option maxRecDepth 100000 in
theorem ok_11 : pm_oks 11 0 cd_X0_tryPlace := ⟨ok_11_0, ok_11_1, ok_11_2, ok_11_3, ok_11_4, ok_11_5, ok_11_6, ok_11_7, ok_11_8, ok_11_9, ok_11_10, ok_11_11, ok_11_12, ok_11_13, ok_11_14, ok_11_15, ok_11_16, ok_11_17, ok_11_18, ok_11_19, ok_11_20, ok_11_21, trivial⟩
theorem ok_12_0 : pm_ok 12 0 (0, 0, 0, .int 1, []) := Or.inl ⟨1, by decide +kernel, rfl, rfl⟩
theorem ok_12_1 : pm_ok 12 1 (1, 0, 2, .null, []) := Or.inl ⟨0, by decide +kernel, rfl, rfl⟩
theorem ok_12_2 : pm_ok 12 2 (18, 0, 5, .null, []) := ⟨9, RX0, TX0, 9, by decide +kernel, rfl, rfl, by decide, pm_cw0, Or.inl (pm_tb 189 (by decide +kernel))⟩
theorem ok_12_3 : pm_ok 12 3 (1, 1, 0, .null, []) := Or.inl ⟨1, by decide +kernel, rfl, rfl⟩
theorem ok_12_4 : pm_ok 12 4 (20, 0, 0, .null, []) := ⟨by decide +kernel, rfl⟩
theorem ok_12_5 : pm_ok 12 5 (4, 0, 6, .null, []) := ⟨by decide +kernel, rfl⟩
theorem ok_12_6 : pm_ok 12 6 (0, 0, 0, .int 1, []) := Or.inl ⟨1, by decide +kernel, rfl, rfl⟩
theorem ok_12_7 : pm_ok 12 7 (4, 0, 1, .null, []) := ⟨by decide +kernel, rfl⟩
theorem ok_12_8 : pm_ok 12 8 (1, 0, 2, .null, []) := Or.inl ⟨0, by decide +kernel, rfl, rfl⟩
theorem ok_12_9 : pm_ok 12 9 (18, 0, 6, .null, []) := ⟨15, RX0, TX0, 9, by decide +kernel, rfl, rfl, by decide, pm_cw0, Or.inl (pm_tb 190 (by decide +kernel))⟩
theorem ok_12_10 : pm_ok 12 10 (1, 1, 0, .null, []) := Or.inl ⟨1, by decide +kernel, rfl, rfl⟩
theorem ok_12_11 : pm_ok 12 11 (20, 0, 0, .null, []) := ⟨by decide +kernel, rfl⟩
theorem ok_12_12 : pm_ok 12 12 (4, 0, 6, .null, []) := ⟨by decide +kernel, rfl⟩
theorem ok_12_13 : pm_ok 12 13 (26, 1, 0, .null, []) := ⟨by decide +kernel, rfl⟩
set_option maxRecDepth 100000 in
theorem ok_12 : pm_oks 12 0 cd_X0_breadthOf := ⟨ok_12_0, ok_12_1, ok_12_2, ok_12_3, ok_12_4, ok_12_5, ok_12_6, ok_12_7, ok_12_8, ok_12_9, ok_12_10, ok_12_11, ok_12_12, ok_12_13, trivial⟩
theorem ok_13_0 : pm_ok 13 0 (1, 0, 2, .null, []) := Or.inl ⟨0, by decide +kernel, rfl, rfl⟩
theorem ok_13_1 : pm_ok 13 1 (1, 1, 0, .null, []) := Or.inl ⟨1, by decide +kernel, rfl, rfl⟩
theorem ok_13_2 : pm_ok 13 2 (25, 12, 2, .null, [0]) := ⟨73, by decide, rfl, Or.inl (pm_tb 419 (by decide +kernel)), Or.inl ⟨by decide +kernel, 0, TX0, 9, rfl, rfl, by decide, by decide +kernel, (pm_tb 421 (by decide +kernel)), (pm_tp 37 (by decide +kernel))⟩⟩
theorem ok_13_3 : pm_ok 13 3 (2, 2, 0, .null, []) := Or.inl ⟨2, by decide +kernel, rfl, rfl⟩
theorem ok_13_4 : pm_ok 13 4 (1, 0, 2, .null, []) := Or.inl ⟨0, by decide +kernel, rfl, rfl⟩
theorem ok_13_5 : pm_ok 13 5 (18, 0, 7, .null, []) := ⟨18, RX0, TX0, 9, by decide +kernel, rfl, rfl, by decide, pm_cw0, Or.inl (pm_tb 192 (by decide +kernel))⟩
theorem ok_13_6 : pm_ok 13 6 (1, 1, 0, .null, []) := Or.inl ⟨1, by decide +kernel, rfl, rfl⟩
theorem ok_13_7 : pm_ok 13 7 (20, 0, 0, .null, []) := ⟨by decide +kernel, rfl⟩
theorem ok_13_8 : pm_ok 13 8 (1, 0, 2, .null, []) := Or.inl ⟨0, by decide +kernel, rfl, rfl⟩
theorem ok_13_9 : pm_ok 13 9 (18, 0, 5, .null, []) := ⟨9, RX0, TX0, 9, by decide +kernel, rfl, rfl, by decide, pm_cw0, Or.inl (pm_tb 189 (by decide +kernel))⟩
theorem ok_13_10 : pm_ok 13 10 (1, 1, 0, .null, []) := Or.inl ⟨1, by decide +kernel, rfl, rfl⟩
theorem ok_13_11 : pm_ok 13 11 (20, 0, 0, .null, []) := ⟨by decide +kernel, rfl⟩
theorem ok_13_12 : pm_ok 13 12 (4, 0, 0, .null, []) := ⟨by decide +kernel, rfl⟩
theorem ok_13_13 : pm_ok 13 13 (0, 0, 0, .int 12, []) := Or.inr (Or.inl ⟨12, by decide +kernel, by decide +kernel, rfl⟩)
theorem ok_13_14 : pm_ok 13 14 (30, 0, 0, .null, []) := ⟨76, by decide +kernel, rfl, (pm_tb 423 (by decide +kernel)), (pm_tb 356 (by decide +kernel)), (pm_tb 357 (by decide +kernel)), (pm_tb 9 (by decide +kernel))⟩
theorem ok_13_15 : pm_ok 13 15 (2, 3, 0, .null, []) := Or.inl ⟨3, by decide +kernel, rfl, rfl⟩
theorem ok_13_16 : pm_ok 13 16 (1, 0, 2, .null, []) := Or.inl ⟨0, by decide +kernel, rfl, rfl⟩
theorem ok_13_17 : pm_ok 13 17 (18, 0, 7, .null, []) := ⟨18, RX0, TX0, 9, by decide +kernel, rfl, rfl, by decide, pm_cw0, Or.inl (pm_tb 192 (by decide +kernel))⟩
theorem ok_13_18 : pm_ok 13 18 (1, 1, 0, .null, []) := Or.inl ⟨1, by decide +kernel, rfl, rfl⟩
theorem ok_13_19 : pm_ok 13 19 (20, 0, 0, .null, []) := ⟨by decide +kernel, rfl⟩
theorem ok_13_20 : pm_ok 13 20 (2, 4, 0, .null, []) := Or.inr ⟨by decide +kernel, rfl⟩
theorem ok_13_21 : pm_ok 13 21 (1, 4, 0, .null, []) := Or.inr ⟨by decide +kernel, rfl⟩
theorem ok_13_22 : pm_ok 13 22 (1, 3, 0, .null, []) := Or.inl ⟨3, by decide +kernel, rfl, rfl⟩
theorem ok_13_23 : pm_ok 13 23 (16, 35, 3, .null, []) := ⟨23, by decide +kernel, by decide +kernel, rfl⟩
theorem ok_13_24 : pm_ok 13 24 (1, 0, 2, .null, []) := Or.inl ⟨0, by decide +kernel, rfl, rfl⟩
theorem ok_13_25 : pm_ok 13 25 (18, 0, 8, .null, []) := ⟨21, RX0, TX0, 9, by decide +kernel, rfl, rfl, by decide, pm_cw0, Or.inl (pm_tb 194 (by decide +kernel))⟩
theorem ok_13_26 : pm_ok 13 26 (1, 4, 0, .null, []) := Or.inr ⟨by decide +kernel, rfl⟩
theorem ok_13_27 : pm_ok 13 27 (20, 0, 0, .null, []) := ⟨by decide +kernel, rfl⟩
theorem ok_13_28 : pm_ok 13 28 (1, 2, 0, .null, []) := Or.inl ⟨2, by decide +kernel, rfl, rfl⟩
theorem ok_13_29 : pm_ok 13 29 (4, 0, 3, .null, []) := ⟨by decide +kernel, rfl⟩
theorem ok_13_30 : pm_ok 13 30 (15, 33, 0, .null, []) := ⟨5, by decide +kernel, by decide +kernel, rfl⟩
theorem ok_13_31 : pm_ok 13 31 (0, 0, 0, .int 0, []) := Or.inl ⟨0, by decide +kernel, rfl, rfl⟩
theorem ok_13_32 : pm_ok 13 32 (26, 2, 0, .null, []) := ⟨by decide +kernel, rfl⟩
theorem ok_13_33 : pm_ok 13 33 (3, 4, 0, .int 1, []) := ⟨1, by decide +kernel, rfl, rfl⟩
theorem ok_13_34 : pm_ok 13 34 (17, 21, 0, .null, []) := ⟨(-23), by decide +kernel, by decide +kernel⟩
theorem ok_13_35 : pm_ok 13 35 (0, 0, 0, .int 1, []) := Or.inl ⟨1, by decide +kernel, rfl, rfl⟩
theorem ok_13_36 : pm_ok 13 36 (26, 2, 0, .null, []) := ⟨by decide +kernel, rfl⟩
set_option maxRecDepth 100000 in
theorem ok_13 : pm_oks 13 0 cd_X0_isFree := ⟨ok_13_0, ok_13_1, ok_13_2, ok_13_3, ok_13_4, ok_13_5, ok_13_6, ok_13_7, ok_13_8, ok_13_9, ok_13_10, ok_13_11, ok_13_12, ok_13_13, ok_13_14, ok_13_15, ok_13_16, ok_13_17, ok_13_18, ok_13_19, ok_13_20, ok_13_21, ok_13_22, ok_13_23, ok_13_24, ok_13_25, ok_13_26, ok_13_27, ok_13_28, ok_13_29, ok_13_30, ok_13_31, ok_13_32, ok_13_33, ok_13_34, ok_13_35, ok_13_36, trivial⟩
theorem ok_14_0 : pm_ok 14 0 (1, 0, 2, .null, []) := Or.inl ⟨0, by decide +kernel, rfl, rfl⟩
theorem ok_14_1 : pm_ok 14 1 (1, 1, 0, .null, []) := Or.inl ⟨1, by decide +kernel, rfl, rfl⟩
theorem ok_14_2 : pm_ok 14 2 (25, 12, 2, .null, [0]) := ⟨73, by decide, rfl, Or.inl (pm_tb 419 (by decide +kernel)), Or.inl ⟨by decide +kernel, 0, TX0, 9, rfl, rfl, by decide, by decide +kernel, (pm_tb 421 (by decide +kernel)), (pm_tp 37 (by decide +kernel))⟩⟩
theorem ok_14_3 : pm_ok 14 3 (2, 2, 0, .null, []) := Or.inl ⟨2, by decide +kernel, rfl, rfl⟩
theorem ok_14_4 : pm_ok 14 4 (1, 0, 2, .null, []) := Or.inl ⟨0, by decide +kernel, rfl, rfl⟩
theorem ok_14_5 : pm_ok 14 5 (18, 0, 7, .null, []) := ⟨18, RX0, TX0, 9, by decide +kernel, rfl, rfl, by decide, pm_cw0, Or.inl (pm_tb 192 (by decide +kernel))⟩
theorem ok_14_6 : pm_ok 14 6 (1, 1, 0, .null, []) := Or.inl ⟨1, by decide +kernel, rfl, rfl⟩
theorem ok_14_7 : pm_ok 14 7 (20, 0, 0, .null, []) := ⟨by decide +kernel, rfl⟩
theorem ok_14_8 : pm_ok 14 8 (1, 0, 2, .null, []) := Or.inl ⟨0, by decide +kernel, rfl, rfl⟩
theorem ok_14_9 : pm_ok 14 9 (18, 0, 5, .null, []) := ⟨9, RX0, TX0, 9, by decide +kernel, rfl, rfl, by decide, pm_cw0, Or.inl (pm_tb 189 (by decide +kernel))⟩
theorem ok_14_10 : pm_ok 14 10 (1, 1, 0, .null, []) := Or.inl ⟨1, by decide +kernel, rfl, rfl⟩
theorem ok_14_11 : pm_ok 14 11 (20, 0, 0, .null, []) := ⟨by decide +kernel, rfl⟩
theorem ok_14_12 : pm_ok 14 12 (4, 0, 0, .null, []) := ⟨by decide +kernel, rfl⟩
theorem ok_14_13 : pm_ok 14 13 (0, 0, 0, .int 12, []) := Or.inr (Or.inl ⟨12, by decide +kernel, by decide +kernel, rfl⟩)
theorem ok_14_14 : pm_ok 14 14 (30, 0, 0, .null, []) := ⟨76, by decide +kernel, rfl, (pm_tb 423 (by decide +kernel)), (pm_tb 356 (by decide +kernel)), (pm_tb 357 (by decide +kernel)), (pm_tb 9 (by decide +kernel))⟩
theorem ok_14_15 : pm_ok 14 15 (2, 3, 0, .null, []) := Or.inl ⟨3, by decide +kernel, rfl, rfl⟩
theorem ok_14_16 : pm_ok 14 16 (1, 0, 2, .null, []) := Or.inl ⟨0, by decide +kernel, rfl, rfl⟩
theorem ok_14_17 : pm_ok 14 17 (18, 0, 7, .null, []) := ⟨18, RX0, TX0, 9, by decide +kernel, rfl, rfl, by decide, pm_cw0, Or.inl (pm_tb 192 (by decide +kernel))⟩
theorem ok_14_18 : pm_ok 14 18 (1, 1, 0, .null, []) := Or.inl ⟨1, by decide +kernel, rfl, rfl⟩
theorem ok_14_19 : pm_ok 14 19 (20, 0, 0, .null, []) := ⟨by decide +kernel, rfl⟩
theorem ok_14_20 : pm_ok 14 20 (2, 4, 0, .null, []) := Or.inr ⟨by decide +kernel, rfl⟩
theorem ok_14_21 : pm_ok 14 21 (1, 4, 0, .null, []) := Or.inr ⟨by decide +kernel, rfl⟩
theorem ok_14_22 : pm_ok 14 22 (1, 3, 0, .null, []) := Or.inl ⟨3, by decide +kernel, rfl, rfl⟩
theorem ok_14_23 : pm_ok 14 23 (16, 34, 3, .null, []) := ⟨20, by decide +kernel, by decide +kernel, rfl⟩
theorem ok_14_24 : pm_ok 14 24 (1, 0, 2, .null, []) := Or.inl ⟨0, by decide +kernel, rfl, rfl⟩
theorem ok_14_25 : pm_ok 14 25 (18, 0, 8, .null, []) := ⟨21, RX0, TX0, 9, by decide +kernel, rfl, rfl, by decide, pm_cw0, Or.inl (pm_tb 194 (by decide +kernel))⟩
theorem ok_14_26 : pm_ok 14 26 (1, 4, 0, .null, []) := Or.inr ⟨by decide +kernel, rfl⟩
theorem ok_14_27 : pm_ok 14 27 (13, 0, 0, .null, []) := ⟨by decide +kernel, rfl⟩
theorem ok_14_28 : pm_ok 14 28 (20, 0, 0, .null, []) := ⟨by decide +kernel, rfl⟩
theorem ok_14_29 : pm_ok 14 29 (1, 2, 0, .null, []) := Or.inl ⟨2, by decide +kernel, rfl, rfl⟩
theorem ok_14_30 : pm_ok 14 30 (4, 0, 5, .null, []) := ⟨by decide +kernel, rfl⟩
theorem ok_14_31 : pm_ok 14 31 (21, 0, 0, .null, []) := ⟨by decide +kernel, rfl⟩
theorem ok_14_32 : pm_ok 14 32 (3, 4, 0, .int 1, []) := ⟨1, by decide +kernel, rfl, rfl⟩
theorem ok_14_33 : pm_ok 14 33 (17, 21, 0, .null, []) := ⟨(-20), by decide +kernel, by decide +kernel⟩
theorem ok_14_34 : pm_ok 14 34 (26, 0, 0, .null, []) := ⟨by decide +kernel, rfl⟩
set_option maxRecDepth 100000 in
theorem ok_14 : pm_oks 14 0 cd_X0_layOrLift := ⟨ok_14_0, ok_14_1, ok_14_2, ok_14_3, ok_14_4, ok_14_5, ok_14_6, ok_14_7, ok_14_8, ok_14_9, ok_14_10, ok_14_11, ok_14_12, ok_14_13, ok_14_14, ok_14_15, ok_14_16, ok_14_17, ok_14_18, ok_14_19, ok_14_20, ok_14_21, ok_14_22, ok_14_23, ok_14_24, ok_14_25, ok_14_26, ok_14_27, ok_14_28, ok_14_29, ok_14_30, ok_14_31, ok_14_32, ok_14_33, ok_14_34, trivial⟩
theorem ok_15_0 : pm_ok 15 0 (1, 0, 2, .null, []) := Or.inl ⟨0, by decide +kernel, rfl, rfl⟩
theorem ok_15_1 : pm_ok 15 1 (28, 0, 0, .null, []) := ⟨3, by decide +kernel, rfl, (pm_tb 23 (by decide +kernel)), (pm_tb 16 (by decide +kernel)), (pm_tb 17 (by decide +kernel))⟩
theorem ok_15_2 : pm_ok 15 2 (1, 0, 2, .null, []) := Or.inl ⟨0, by decide +kernel, rfl, rfl⟩
theorem ok_15_3 : pm_ok 15 3 (0, 0, 0, .int 64, []) := Or.inr (Or.inl ⟨64, by decide +kernel, by decide +kernel, rfl⟩)
theorem ok_15_4 : pm_ok 15 4 (24, 1, 64, .null, []) := ⟨by decide, by decide +kernel, rfl, (pm_tb 59 (by decide +kernel))⟩
theorem ok_15_5 : pm_ok 15 5 (19, 1, 3, .null, [2]) := ⟨9, RX1, TX1, 9, tyX1, by decide +kernel, rfl, rfl, by decide, pm_cw1, tyX1_ok, nmX1, by decide +kernel, Or.inr ⟨rfl, rfl, rfl, (pm_tb 144 (by decide +kernel))⟩⟩
theorem ok_15_6 : pm_ok 15 6 (1, 0, 2, .null, []) := Or.inl ⟨0, by decide +kernel, rfl, rfl⟩
theorem ok_15_7 : pm_ok 15 7 (0, 0, 0, .int 64, []) := Or.inr (Or.inl ⟨64, by decide +kernel, by decide +kernel, rfl⟩)
theorem ok_15_8 : pm_ok 15 8 (24, 1, 64, .null, []) := ⟨by decide, by decide +kernel, rfl, (pm_tb 59 (by decide +kernel))⟩
theorem ok_15_9 : pm_ok 15 9 (19, 1, 4, .null, [2]) := ⟨15, RX1, TX1, 9, tyX1, by decide +kernel, rfl, rfl, by decide, pm_cw1, tyX1_ok, nmX1, by decide +kernel, Or.inr ⟨rfl, rfl, rfl, (pm_tb 146 (by decide +kernel))⟩⟩
theorem ok_15_10 : pm_ok 15 10 (1, 0, 2, .null, []) := Or.inl ⟨0, by decide +kernel, rfl, rfl⟩
theorem ok_15_11 : pm_ok 15 11 (23, 3, 0, .null, []) := ⟨18, RX3, TX3, 6, tyX3, by decide +kernel, rfl, rfl, pm_cw3, tyX3_ok, pm_dfX3, rfl, (pm_tb 24 (by decide +kernel)), (pm_tb 25 (by decide +kernel)), (pm_tb 3 (by decide +kernel))⟩
theorem ok_15_12 : pm_ok 15 12 (11, 0, 0, .null, []) := ⟨by decide +kernel, rfl⟩
theorem ok_15_13 : pm_ok 15 13 (25, 35, 1, .null, [3]) := ⟨20, by decide, rfl, Or.inr ⟨"GuardPacks", (pm_tb 26 (by decide +kernel))⟩, Or.inr (Or.inl ⟨by decide +kernel, 3, rfl, rfl, rfl, by decide, by decide +kernel, (pm_tb 27 (by decide +kernel))⟩)⟩
theorem ok_15_14 : pm_ok 15 14 (19, 1, 5, .null, [2]) := ⟨21, RX1, TX1, 9, tyX1, by decide +kernel, rfl, rfl, by decide, pm_cw1, tyX1_ok, nmX1, by decide +kernel, Or.inr ⟨rfl, rfl, rfl, (pm_tb 148 (by decide +kernel))⟩⟩
theorem ok_15_15 : pm_ok 15 15 (1, 0, 2, .null, []) := Or.inl ⟨0, by decide +kernel, rfl, rfl⟩
theorem ok_15_16 : pm_ok 15 16 (23, 3, 0, .null, []) := ⟨18, RX3, TX3, 6, tyX3, by decide +kernel, rfl, rfl, pm_cw3, tyX3_ok, pm_dfX3, rfl, (pm_tb 24 (by decide +kernel)), (pm_tb 25 (by decide +kernel)), (pm_tb 3 (by decide +kernel))⟩
theorem ok_15_17 : pm_ok 15 17 (11, 0, 0, .null, []) := ⟨by decide +kernel, rfl⟩
theorem ok_15_18 : pm_ok 15 18 (25, 35, 1, .null, [3]) := ⟨20, by decide, rfl, Or.inr ⟨"GuardPacks", (pm_tb 26 (by decide +kernel))⟩, Or.inr (Or.inl ⟨by decide +kernel, 3, rfl, rfl, rfl, by decide, by decide +kernel, (pm_tb 27 (by decide +kernel))⟩)⟩
theorem ok_15_19 : pm_ok 15 19 (19, 1, 6, .null, [2]) := ⟨25, RX1, TX1, 9, tyX1, by decide +kernel, rfl, rfl, by decide, pm_cw1, tyX1_ok, nmX1, by decide +kernel, Or.inr ⟨rfl, rfl, rfl, (pm_tb 149 (by decide +kernel))⟩⟩
theorem ok_15_20 : pm_ok 15 20 (1, 0, 2, .null, []) := Or.inl ⟨0, by decide +kernel, rfl, rfl⟩
theorem ok_15_21 : pm_ok 15 21 (23, 2, 0, .null, []) := ⟨28, RX2, TX2, 6, tyX2, by decide +kernel, rfl, rfl, pm_cw2, tyX2_ok, pm_dfX2, rfl, (pm_tb 61 (by decide +kernel)), (pm_tb 62 (by decide +kernel)), (pm_tb 4 (by decide +kernel))⟩
theorem ok_15_22 : pm_ok 15 22 (11, 0, 0, .null, []) := ⟨by decide +kernel, rfl⟩
theorem ok_15_23 : pm_ok 15 23 (25, 31, 1, .null, [2]) := ⟨30, by decide, rfl, Or.inr ⟨"GuardPacks", (pm_tb 63 (by decide +kernel))⟩, Or.inr (Or.inl ⟨by decide +kernel, 2, rfl, rfl, rfl, by decide, by decide +kernel, (pm_tb 64 (by decide +kernel))⟩)⟩
theorem ok_15_24 : pm_ok 15 24 (19, 1, 7, .null, [2]) := ⟨31, RX1, TX1, 9, tyX1, by decide +kernel, rfl, rfl, by decide, pm_cw1, tyX1_ok, nmX1, by decide +kernel, Or.inr ⟨rfl, rfl, rfl, (pm_tb 150 (by decide +kernel))⟩⟩
theorem ok_15_25 : pm_ok 15 25 (1, 0, 2, .null, []) := Or.inl ⟨0, by decide +kernel, rfl, rfl⟩
theorem ok_15_26 : pm_ok 15 26 (23, 4, 0, .null, []) := ⟨35, RX4, TX4, 5, tyX4, by decide +kernel, rfl, rfl, pm_cw4, tyX4_ok, pm_dfX4, rfl, (pm_tb 86 (by decide +kernel)), (pm_tb 87 (by decide +kernel)), (pm_tb 5 (by decide +kernel))⟩
theorem ok_15_27 : pm_ok 15 27 (11, 0, 0, .null, []) := ⟨by decide +kernel, rfl⟩
theorem ok_15_28 : pm_ok 15 28 (1, 0, 2, .null, []) := Or.inl ⟨0, by decide +kernel, rfl, rfl⟩
theorem ok_15_29 : pm_ok 15 29 (18, 1, 7, .null, []) := ⟨31, RX1, TX1, 9, by decide +kernel, rfl, rfl, by decide, pm_cw1, Or.inl (pm_tb 150 (by decide +kernel))⟩
theorem ok_15_30 : pm_ok 15 30 (25, 43, 2, .null, [4]) := ⟨37, by decide, rfl, Or.inr ⟨"GuardPacks", (pm_tb 88 (by decide +kernel))⟩, Or.inr (Or.inl ⟨by decide +kernel, 4, rfl, rfl, rfl, by decide, by decide +kernel, (pm_tb 89 (by decide +kernel))⟩)⟩
theorem ok_15_31 : pm_ok 15 31 (19, 1, 8, .null, [2]) := ⟨40, RX1, TX1, 9, tyX1, by decide +kernel, rfl, rfl, by decide, pm_cw1, tyX1_ok, nmX1, by decide +kernel, Or.inr ⟨rfl, rfl, rfl, (pm_tb 151 (by decide +kernel))⟩⟩
theorem ok_15_32 : pm_ok 15 32 (1, 0, 2, .null, []) := Or.inl ⟨0, by decide +kernel, rfl, rfl⟩
theorem ok_15_33 : pm_ok 15 33 (0, 0, 0, .int 1, []) := Or.inl ⟨1, by decide +kernel, rfl, rfl⟩
theorem ok_15_34 : pm_ok 15 34 (0, 0, 0, .int 1, []) := Or.inl ⟨1, by decide +kernel, rfl, rfl⟩
theorem ok_15_35 : pm_ok 15 35 (25, 16, 3, .null, [1]) := ⟨44, by decide, rfl, Or.inl (pm_tb 109 (by decide +kernel)), Or.inl ⟨by decide +kernel, 1, TX1, 9, rfl, rfl, by decide, by decide +kernel, (pm_tb 111 (by decide +kernel)), (pm_tp 0 (by decide +kernel))⟩⟩
theorem ok_15_36 : pm_ok 15 36 (26, 0, 0, .null, []) := ⟨by decide +kernel, rfl⟩
set_option maxRecDepth 100000 in
theorem ok_15 : pm_oks 15 0 cd_X1_init := ⟨ok_15_0, ok_15_1, ok_15_2, ok_15_3, ok_15_4, ok_15_5, ok_15_6, ok_15_7, ok_15_8, ok_15_9, ok_15_10, ok_15_11, ok_15_12, ok_15_13, ok_15_14, ok_15_15, ok_15_16, ok_15_17, ok_15_18, ok_15_19, ok_15_20, ok_15_21, ok_15_22, ok_15_23, ok_15_24, ok_15_25, ok_15_26, ok_15_27, ok_15_28, ok_15_29, ok_15_30, ok_15_31, ok_15_32, ok_15_33, ok_15_34, ok_15_35, ok_15_36, trivial⟩
theorem ok_16_0 : pm_ok 16 0 (1, 0, 2, .null, []) := Or.inl ⟨0, by decide +kernel, rfl, rfl⟩
theorem ok_16_1 : pm_ok 16 1 (1, 1, 0, .null, []) := Or.inl ⟨1, by decide +kernel, rfl, rfl⟩
theorem ok_16_2 : pm_ok 16 2 (19, 1, 0, .null, [0]) := ⟨48, RX1, TX1, 9, tyX1, by decide +kernel, rfl, rfl, by decide, pm_cw1, tyX1_ok, nmX1, by decide +kernel, Or.inl ⟨rfl, Or.inl (pm_tb 141 (by decide +kernel))⟩⟩
theorem ok_16_3 : pm_ok 16 3 (1, 0, 2, .null, []) := Or.inl ⟨0, by decide +kernel, rfl, rfl⟩
theorem ok_16_4 : pm_ok 16 4 (1, 2, 0, .null, []) := Or.inl ⟨2, by decide +kernel, rfl, rfl⟩
theorem ok_16_5 : pm_ok 16 5 (19, 1, 1, .null, [0]) := ⟨52, RX1, TX1, 9, tyX1, by decide +kernel, rfl, rfl, by decide, pm_cw1, tyX1_ok, nmX1, by decide +kernel, Or.inl ⟨rfl, Or.inl (pm_tb 142 (by decide +kernel))⟩⟩
theorem ok_16_6 : pm_ok 16 6 (1, 0, 2, .null, []) := Or.inl ⟨0, by decide +kernel, rfl, rfl⟩
theorem ok_16_7 : pm_ok 16 7 (0, 0, 0, .int 0, []) := Or.inl ⟨0, by decide +kernel, rfl, rfl⟩
theorem ok_16_8 : pm_ok 16 8 (19, 1, 2, .null, [0]) := ⟨55, RX1, TX1, 9, tyX1, by decide +kernel, rfl, rfl, by decide, pm_cw1, tyX1_ok, nmX1, by decide +kernel, Or.inl ⟨rfl, Or.inl (pm_tb 143 (by decide +kernel))⟩⟩
theorem ok_16_9 : pm_ok 16 9 (0, 0, 0, .int 0, []) := Or.inl ⟨0, by decide +kernel, rfl, rfl⟩
theorem ok_16_10 : pm_ok 16 10 (2, 3, 0, .null, []) := Or.inl ⟨3, by decide +kernel, rfl, rfl⟩
theorem ok_16_11 : pm_ok 16 11 (1, 3, 0, .null, []) := Or.inl ⟨3, by decide +kernel, rfl, rfl⟩
theorem ok_16_12 : pm_ok 16 12 (0, 0, 0, .int 64, []) := Or.inr (Or.inl ⟨64, by decide +kernel, by decide +kernel, rfl⟩)
theorem ok_16_13 : pm_ok 16 13 (16, 26, 3, .null, []) := ⟨23, by decide +kernel, by decide +kernel, rfl⟩
theorem ok_16_14 : pm_ok 16 14 (1, 0, 2, .null, []) := Or.inl ⟨0, by decide +kernel, rfl, rfl⟩
theorem ok_16_15 : pm_ok 16 15 (18, 1, 3, .null, []) := ⟨9, RX1, TX1, 9, by decide +kernel, rfl, rfl, by decide, pm_cw1, Or.inl (pm_tb 144 (by decide +kernel))⟩
theorem ok_16_16 : pm_ok 16 16 (1, 3, 0, .null, []) := Or.inl ⟨3, by decide +kernel, rfl, rfl⟩
theorem ok_16_17 : pm_ok 16 17 (0, 0, 0, .int 1, []) := Or.inl ⟨1, by decide +kernel, rfl, rfl⟩
theorem ok_16_18 : pm_ok 16 18 (21, 0, 1, .null, []) := ⟨by decide +kernel, rfl⟩
theorem ok_16_19 : pm_ok 16 19 (1, 0, 2, .null, []) := Or.inl ⟨0, by decide +kernel, rfl, rfl⟩
theorem ok_16_20 : pm_ok 16 20 (18, 1, 4, .null, []) := ⟨15, RX1, TX1, 9, by decide +kernel, rfl, rfl, by decide, pm_cw1, Or.inl (pm_tb 146 (by decide +kernel))⟩
theorem ok_16_21 : pm_ok 16 21 (1, 3, 0, .null, []) := Or.inl ⟨3, by decide +kernel, rfl, rfl⟩
theorem ok_16_22 : pm_ok 16 22 (0, 0, 0, .int 0, []) := Or.inl ⟨0, by decide +kernel, rfl, rfl⟩
theorem ok_16_23 : pm_ok 16 23 (21, 0, 1, .null, []) := ⟨by decide +kernel, rfl⟩
theorem ok_16_24 : pm_ok 16 24 (3, 3, 0, .int 1, []) := ⟨1, by decide +kernel, rfl, rfl⟩
theorem ok_16_25 : pm_ok 16 25 (17, 11, 0, .null, []) := ⟨(-23), by decide +kernel, by decide +kernel⟩
theorem ok_16_26 : pm_ok 16 26 (1, 0, 2, .null, []) := Or.inl ⟨0, by decide +kernel, rfl, rfl⟩
theorem ok_16_27 : pm_ok 16 27 (25, 20, 1, .null, [1]) := ⟨58, by decide, rfl, Or.inl (pm_tb 113 (by decide +kernel)), Or.inl ⟨by decide +kernel, 1, TX1, 9, rfl, rfl, by decide, by decide +kernel, (pm_tb 115 (by decide +kernel)), (pm_tp 1 (by decide +kernel))⟩⟩
theorem ok_16_28 : pm_ok 16 28 (26, 0, 0, .null, []) := ⟨by decide +kernel, rfl⟩
set_option maxRecDepth 100000 in
theorem ok_16 : pm_oks 16 0 cd_X1_clear := ⟨ok_16_0, ok_16_1, ok_16_2, ok_16_3, ok_16_4, ok_16_5, ok_16_6, ok_16_7, ok_16_8, ok_16_9, ok_16_10, ok_16_11, ok_16_12, ok_16_13, ok_16_14, ok_16_15, ok_16_16, ok_16_17, ok_16_18, ok_16_19, ok_16_20, ok_16_21, ok_16_22, ok_16_23, ok_16_24, ok_16_25, ok_16_26, ok_16_27, ok_16_28, trivial⟩
theorem ok_17_0 : pm_ok 17 0 (1, 1, 0, .null, []) := Or.inl ⟨1, by decide +kernel, rfl, rfl⟩
theorem ok_17_1 : pm_ok 17 1 (0, 0, 0, .int 0, []) := Or.inl ⟨0, by decide +kernel, rfl, rfl⟩
theorem ok_17_2 : pm_ok 17 2 (1, 0, 2, .null, []) := Or.inl ⟨0, by decide +kernel, rfl, rfl⟩
theorem ok_17_3 : pm_ok 17 3 (18, 1, 0, .null, []) := ⟨48, RX1, TX1, 9, by decide +kernel, rfl, rfl, by decide, pm_cw1, Or.inl (pm_tb 141 (by decide +kernel))⟩
theorem ok_17_4 : pm_ok 17 4 (0, 0, 0, .int 1, []) := Or.inl ⟨1, by decide +kernel, rfl, rfl⟩
theorem ok_17_5 : pm_ok 17 5 (4, 0, 1, .null, []) := ⟨by decide +kernel, rfl⟩
theorem ok_17_6 : pm_ok 17 6 (25, 67, 3, .null, []) := ⟨61, by decide, rfl, Or.inr ⟨"GuardPacks", (pm_tb 237 (by decide +kernel))⟩, Or.inr (Or.inr ⟨by decide +kernel, rfl, by decide +kernel, (pm_tb 226 (by decide +kernel))⟩)⟩
theorem ok_17_7 : pm_ok 17 7 (15, 18, 0, .null, []) := ⟨21, by decide +kernel, by decide +kernel, rfl⟩
theorem ok_17_8 : pm_ok 17 8 (1, 2, 0, .null, []) := Or.inl ⟨2, by decide +kernel, rfl, rfl⟩
theorem ok_17_9 : pm_ok 17 9 (0, 0, 0, .int 0, []) := Or.inl ⟨0, by decide +kernel, rfl, rfl⟩
theorem ok_17_10 : pm_ok 17 10 (1, 0, 2, .null, []) := Or.inl ⟨0, by decide +kernel, rfl, rfl⟩
theorem ok_17_11 : pm_ok 17 11 (18, 1, 1, .null, []) := ⟨52, RX1, TX1, 9, by decide +kernel, rfl, rfl, by decide, pm_cw1, Or.inl (pm_tb 142 (by decide +kernel))⟩
theorem ok_17_12 : pm_ok 17 12 (0, 0, 0, .int 1, []) := Or.inl ⟨1, by decide +kernel, rfl, rfl⟩
theorem ok_17_13 : pm_ok 17 13 (4, 0, 1, .null, []) := ⟨by decide +kernel, rfl⟩
theorem ok_17_14 : pm_ok 17 14 (25, 67, 3, .null, []) := ⟨61, by decide, rfl, Or.inr ⟨"GuardPacks", (pm_tb 237 (by decide +kernel))⟩, Or.inr (Or.inr ⟨by decide +kernel, rfl, by decide +kernel, (pm_tb 226 (by decide +kernel))⟩)⟩
theorem ok_17_15 : pm_ok 17 15 (15, 18, 0, .null, []) := ⟨7, by decide +kernel, by decide +kernel, rfl⟩
theorem ok_17_16 : pm_ok 17 16 (0, 0, 0, .int 1, []) := Or.inl ⟨1, by decide +kernel, rfl, rfl⟩
theorem ok_17_17 : pm_ok 17 17 (17, 19, 0, .null, []) := ⟨4, by decide +kernel, by decide +kernel⟩
theorem ok_17_18 : pm_ok 17 18 (0, 0, 0, .int 0, []) := Or.inl ⟨0, by decide +kernel, rfl, rfl⟩
theorem ok_17_19 : pm_ok 17 19 (26, 2, 0, .null, []) := ⟨by decide +kernel, rfl⟩
set_option maxRecDepth 100000 in
theorem ok_17 : pm_oks 17 0 cd_X1_holds := ⟨ok_17_0, ok_17_1, ok_17_2, ok_17_3, ok_17_4, ok_17_5, ok_17_6, ok_17_7, ok_17_8, ok_17_9, ok_17_10, ok_17_11, ok_17_12, ok_17_13, ok_17_14, ok_17_15, ok_17_16, ok_17_17, ok_17_18, ok_17_19, trivial⟩
theorem ok_18_0 : pm_ok 18 0 (1, 2, 0, .null, []) := Or.inl ⟨2, by decide +kernel, rfl, rfl⟩
theorem ok_18_1 : pm_ok 18 1 (1, 0, 2, .null, []) := Or.inl ⟨0, by decide +kernel, rfl, rfl⟩
theorem ok_18_2 : pm_ok 18 2 (18, 1, 0, .null, []) := ⟨48, RX1, TX1, 9, by decide +kernel, rfl, rfl, by decide, pm_cw1, Or.inl (pm_tb 141 (by decide +kernel))⟩
theorem ok_18_3 : pm_ok 18 3 (4, 0, 2, .null, []) := ⟨by decide +kernel, rfl⟩
theorem ok_18_4 : pm_ok 18 4 (1, 1, 0, .null, []) := Or.inl ⟨1, by decide +kernel, rfl, rfl⟩
theorem ok_18_5 : pm_ok 18 5 (4, 0, 0, .null, []) := ⟨by decide +kernel, rfl⟩
theorem ok_18_6 : pm_ok 18 6 (26, 1, 0, .null, []) := ⟨by decide +kernel, rfl⟩
set_option maxRecDepth 100000 in
theorem ok_18 : pm_oks 18 0 cd_X1_numberOf := ⟨ok_18_0, ok_18_1, ok_18_2, ok_18_3, ok_18_4, ok_18_5, ok_18_6, trivial⟩
end
section
theorem ok_19_0 : pm_ok 19 0 (1, 1, 0, .null, []) := Or.inl ⟨1, by decide +kernel, rfl, rfl⟩
theorem ok_19_1 : pm_ok 19 1 (15, 5, 1, .null, []) := ⟨10, by decide +kernel, by decide +kernel, rfl⟩
theorem ok_19_2 : pm_ok 19 2 (1, 0, 2, .null, []) := Or.inl ⟨0, by decide +kernel, rfl, rfl⟩
theorem ok_19_3 : pm_ok 19 3 (18, 1, 5, .null, []) := ⟨21, RX1, TX1, 9, by decide +kernel, rfl, rfl, by decide, pm_cw1, Or.inl (pm_tb 148 (by decide +kernel))⟩
theorem ok_19_4 : pm_ok 19 4 (17, 7, 0, .null, []) := ⟨7, by decide +kernel, by decide +kernel⟩
theorem ok_19_5 : pm_ok 19 5 (1, 0, 2, .null, []) := Or.inl ⟨0, by decide +kernel, rfl, rfl⟩
theorem ok_19_6 : pm_ok 19 6 (18, 1, 6, .null, []) := ⟨25, RX1, TX1, 9, by decide +kernel, rfl, rfl, by decide, pm_cw1, Or.inl (pm_tb 149 (by decide +kernel))⟩
theorem ok_19_7 : pm_ok 19 7 (26, 4, 0, .null, []) := ⟨by decide +kernel, _, rfl⟩
set_option maxRecDepth 100000 in
theorem ok_19 : pm_oks 19 0 cd_X1_along := ⟨ok_19_0, ok_19_1, ok_19_2, ok_19_3, ok_19_4, ok_19_5, ok_19_6, ok_19_7, trivial⟩
theorem ok_20_0 : pm_ok 20 0 (1, 0, 2, .null, []) := Or.inl ⟨0, by decide +kernel, rfl, rfl⟩
theorem ok_20_1 : pm_ok 20 1 (18, 1, 5, .null, []) := ⟨21, RX1, TX1, 9, by decide +kernel, rfl, rfl, by decide, pm_cw1, Or.inl (pm_tb 148 (by decide +kernel))⟩
theorem ok_20_2 : pm_ok 20 2 (0, 0, 0, .int 1, []) := Or.inl ⟨1, by decide +kernel, rfl, rfl⟩
theorem ok_20_3 : pm_ok 20 3 (25, 36, 2, .null, [3]) := ⟨65, by decide, rfl, Or.inr ⟨"GuardPacks", (pm_tb 117 (by decide +kernel))⟩, Or.inl ⟨by decide +kernel, 3, TX3, 6, rfl, rfl, by decide, by decide +kernel, (pm_tb 119 (by decide +kernel)), (pm_tp 2 (by decide +kernel))⟩⟩
theorem ok_20_4 : pm_ok 20 4 (1, 0, 2, .null, []) := Or.inl ⟨0, by decide +kernel, rfl, rfl⟩
theorem ok_20_5 : pm_ok 20 5 (18, 1, 6, .null, []) := ⟨25, RX1, TX1, 9, by decide +kernel, rfl, rfl, by decide, pm_cw1, Or.inl (pm_tb 149 (by decide +kernel))⟩
theorem ok_20_6 : pm_ok 20 6 (1, 0, 2, .null, []) := Or.inl ⟨0, by decide +kernel, rfl, rfl⟩
theorem ok_20_7 : pm_ok 20 7 (18, 1, 0, .null, []) := ⟨48, RX1, TX1, 9, by decide +kernel, rfl, rfl, by decide, pm_cw1, Or.inl (pm_tb 141 (by decide +kernel))⟩
theorem ok_20_8 : pm_ok 20 8 (25, 36, 2, .null, [3]) := ⟨65, by decide, rfl, Or.inr ⟨"GuardPacks", (pm_tb 117 (by decide +kernel))⟩, Or.inl ⟨by decide +kernel, 3, TX3, 6, rfl, rfl, by decide, by decide +kernel, (pm_tb 119 (by decide +kernel)), (pm_tp 2 (by decide +kernel))⟩⟩
theorem ok_20_9 : pm_ok 20 9 (0, 0, 0, .int 0, []) := Or.inl ⟨0, by decide +kernel, rfl, rfl⟩
theorem ok_20_10 : pm_ok 20 10 (2, 1, 0, .null, []) := Or.inl ⟨1, by decide +kernel, rfl, rfl⟩
theorem ok_20_11 : pm_ok 20 11 (1, 1, 0, .null, []) := Or.inl ⟨1, by decide +kernel, rfl, rfl⟩
theorem ok_20_12 : pm_ok 20 12 (1, 0, 2, .null, []) := Or.inl ⟨0, by decide +kernel, rfl, rfl⟩
theorem ok_20_13 : pm_ok 20 13 (18, 1, 1, .null, []) := ⟨52, RX1, TX1, 9, by decide +kernel, rfl, rfl, by decide, pm_cw1, Or.inl (pm_tb 142 (by decide +kernel))⟩
theorem ok_20_14 : pm_ok 20 14 (16, 29, 3, .null, []) := ⟨31, by decide +kernel, by decide +kernel, rfl⟩
theorem ok_20_15 : pm_ok 20 15 (0, 0, 0, .int 0, []) := Or.inl ⟨0, by decide +kernel, rfl, rfl⟩
theorem ok_20_16 : pm_ok 20 16 (2, 2, 0, .null, []) := Or.inl ⟨2, by decide +kernel, rfl, rfl⟩
theorem ok_20_17 : pm_ok 20 17 (1, 2, 0, .null, []) := Or.inl ⟨2, by decide +kernel, rfl, rfl⟩
theorem ok_20_18 : pm_ok 20 18 (1, 0, 2, .null, []) := Or.inl ⟨0, by decide +kernel, rfl, rfl⟩
theorem ok_20_19 : pm_ok 20 19 (18, 1, 0, .null, []) := ⟨48, RX1, TX1, 9, by decide +kernel, rfl, rfl, by decide, pm_cw1, Or.inl (pm_tb 141 (by decide +kernel))⟩
theorem ok_20_20 : pm_ok 20 20 (16, 27, 3, .null, []) := ⟨15, by decide +kernel, by decide +kernel, rfl⟩
theorem ok_20_21 : pm_ok 20 21 (1, 0, 2, .null, []) := Or.inl ⟨0, by decide +kernel, rfl, rfl⟩
theorem ok_20_22 : pm_ok 20 22 (1, 2, 0, .null, []) := Or.inl ⟨2, by decide +kernel, rfl, rfl⟩
theorem ok_20_23 : pm_ok 20 23 (1, 1, 0, .null, []) := Or.inl ⟨1, by decide +kernel, rfl, rfl⟩
theorem ok_20_24 : pm_ok 20 24 (25, 21, 3, .null, [1]) := ⟨68, by decide, rfl, Or.inl (pm_tb 121 (by decide +kernel)), Or.inl ⟨by decide +kernel, 1, TX1, 9, rfl, rfl, by decide, by decide +kernel, (pm_tb 123 (by decide +kernel)), (pm_tp 3 (by decide +kernel))⟩⟩
theorem ok_20_25 : pm_ok 20 25 (3, 2, 0, .int 1, []) := ⟨1, by decide +kernel, rfl, rfl⟩
theorem ok_20_26 : pm_ok 20 26 (17, 17, 0, .null, []) := ⟨(-17), by decide +kernel, by decide +kernel⟩
theorem ok_20_27 : pm_ok 20 27 (3, 1, 0, .int 1, []) := ⟨1, by decide +kernel, rfl, rfl⟩
theorem ok_20_28 : pm_ok 20 28 (17, 11, 0, .null, []) := ⟨(-33), by decide +kernel, by decide +kernel⟩
theorem ok_20_29 : pm_ok 20 29 (26, 0, 0, .null, []) := ⟨by decide +kernel, rfl⟩
set_option maxRecDepth 100000 in
theorem ok_20 : pm_oks 20 0 cd_X1_numberRuns := ⟨ok_20_0, ok_20_1, ok_20_2, ok_20_3, ok_20_4, ok_20_5, ok_20_6, ok_20_7, ok_20_8, ok_20_9, ok_20_10, ok_20_11, ok_20_12, ok_20_13, ok_20_14, ok_20_15, ok_20_16, ok_20_17, ok_20_18, ok_20_19, ok_20_20, ok_20_21, ok_20_22, ok_20_23, ok_20_24, ok_20_25, ok_20_26, ok_20_27, ok_20_28, ok_20_29, trivial⟩
theorem ok_21_0 : pm_ok 21 0 (1, 0, 2, .null, []) := Or.inl ⟨0, by decide +kernel, rfl, rfl⟩
theorem ok_21_1 : pm_ok 21 1 (1, 1, 0, .null, []) := Or.inl ⟨1, by decide +kernel, rfl, rfl⟩
theorem ok_21_2 : pm_ok 21 2 (1, 2, 0, .null, []) := Or.inl ⟨2, by decide +kernel, rfl, rfl⟩
theorem ok_21_3 : pm_ok 21 3 (25, 18, 3, .null, [1]) := ⟨71, by decide, rfl, Or.inl (pm_tb 125 (by decide +kernel)), Or.inl ⟨by decide +kernel, 1, TX1, 9, rfl, rfl, by decide, by decide +kernel, (pm_tb 127 (by decide +kernel)), (pm_tp 4 (by decide +kernel))⟩⟩
theorem ok_21_4 : pm_ok 21 4 (2, 3, 0, .null, []) := Or.inl ⟨3, by decide +kernel, rfl, rfl⟩
theorem ok_21_5 : pm_ok 21 5 (1, 0, 2, .null, []) := Or.inl ⟨0, by decide +kernel, rfl, rfl⟩
theorem ok_21_6 : pm_ok 21 6 (18, 1, 3, .null, []) := ⟨9, RX1, TX1, 9, by decide +kernel, rfl, rfl, by decide, pm_cw1, Or.inl (pm_tb 144 (by decide +kernel))⟩
theorem ok_21_7 : pm_ok 21 7 (1, 3, 0, .null, []) := Or.inl ⟨3, by decide +kernel, rfl, rfl⟩
theorem ok_21_8 : pm_ok 21 8 (20, 0, 1, .null, []) := ⟨by decide +kernel, rfl⟩
theorem ok_21_9 : pm_ok 21 9 (15, 19, 1, .null, []) := ⟨20, by decide +kernel, by decide +kernel, rfl⟩
theorem ok_21_10 : pm_ok 21 10 (1, 0, 2, .null, []) := Or.inl ⟨0, by decide +kernel, rfl, rfl⟩
theorem ok_21_11 : pm_ok 21 11 (18, 1, 5, .null, []) := ⟨21, RX1, TX1, 9, by decide +kernel, rfl, rfl, by decide, pm_cw1, Or.inl (pm_tb 148 (by decide +kernel))⟩
theorem ok_21_12 : pm_ok 21 12 (1, 3, 0, .null, []) := Or.inl ⟨3, by decide +kernel, rfl, rfl⟩
theorem ok_21_13 : pm_ok 21 13 (25, 37, 2, .null, [3]) := ⟨75, by decide, rfl, Or.inr ⟨"GuardPacks", (pm_tb 129 (by decide +kernel))⟩, Or.inl ⟨by decide +kernel, 3, TX3, 6, rfl, rfl, by decide, by decide +kernel, (pm_tb 131 (by decide +kernel)), (pm_tp 5 (by decide +kernel))⟩⟩
theorem ok_21_14 : pm_ok 21 14 (1, 0, 2, .null, []) := Or.inl ⟨0, by decide +kernel, rfl, rfl⟩
theorem ok_21_15 : pm_ok 21 15 (18, 1, 6, .null, []) := ⟨25, RX1, TX1, 9, by decide +kernel, rfl, rfl, by decide, pm_cw1, Or.inl (pm_tb 149 (by decide +kernel))⟩
theorem ok_21_16 : pm_ok 21 16 (1, 3, 0, .null, []) := Or.inl ⟨3, by decide +kernel, rfl, rfl⟩
theorem ok_21_17 : pm_ok 21 17 (25, 37, 2, .null, [3]) := ⟨75, by decide, rfl, Or.inr ⟨"GuardPacks", (pm_tb 129 (by decide +kernel))⟩, Or.inl ⟨by decide +kernel, 3, TX3, 6, rfl, rfl, by decide, by decide +kernel, (pm_tb 131 (by decide +kernel)), (pm_tp 5 (by decide +kernel))⟩⟩
theorem ok_21_18 : pm_ok 21 18 (26, 0, 0, .null, []) := ⟨by decide +kernel, rfl⟩
theorem ok_21_19 : pm_ok 21 19 (1, 0, 2, .null, []) := Or.inl ⟨0, by decide +kernel, rfl, rfl⟩
theorem ok_21_20 : pm_ok 21 20 (18, 1, 5, .null, []) := ⟨21, RX1, TX1, 9, by decide +kernel, rfl, rfl, by decide, pm_cw1, Or.inl (pm_tb 148 (by decide +kernel))⟩
theorem ok_21_21 : pm_ok 21 21 (1, 3, 0, .null, []) := Or.inl ⟨3, by decide +kernel, rfl, rfl⟩
theorem ok_21_22 : pm_ok 21 22 (1, 1, 0, .null, []) := Or.inl ⟨1, by decide +kernel, rfl, rfl⟩
theorem ok_21_23 : pm_ok 21 23 (15, 26, 1, .null, []) := ⟨7, by decide +kernel, by decide +kernel, rfl⟩
theorem ok_21_24 : pm_ok 21 24 (0, 0, 0, .int 1, []) := Or.inl ⟨1, by decide +kernel, rfl, rfl⟩
theorem ok_21_25 : pm_ok 21 25 (17, 27, 0, .null, []) := ⟨4, by decide +kernel, by decide +kernel⟩
theorem ok_21_26 : pm_ok 21 26 (0, 0, 0, .int 0, []) := Or.inl ⟨0, by decide +kernel, rfl, rfl⟩
theorem ok_21_27 : pm_ok 21 27 (25, 38, 3, .null, [3]) := ⟨78, by decide, rfl, Or.inr ⟨"GuardPacks", (pm_tb 133 (by decide +kernel))⟩, Or.inl ⟨by decide +kernel, 3, TX3, 6, rfl, rfl, by decide, by decide +kernel, (pm_tb 135 (by decide +kernel)), (pm_tp 6 (by decide +kernel))⟩⟩
theorem ok_21_28 : pm_ok 21 28 (1, 0, 2, .null, []) := Or.inl ⟨0, by decide +kernel, rfl, rfl⟩
theorem ok_21_29 : pm_ok 21 29 (18, 1, 6, .null, []) := ⟨25, RX1, TX1, 9, by decide +kernel, rfl, rfl, by decide, pm_cw1, Or.inl (pm_tb 149 (by decide +kernel))⟩
theorem ok_21_30 : pm_ok 21 30 (1, 3, 0, .null, []) := Or.inl ⟨3, by decide +kernel, rfl, rfl⟩
theorem ok_21_31 : pm_ok 21 31 (1, 2, 0, .null, []) := Or.inl ⟨2, by decide +kernel, rfl, rfl⟩
theorem ok_21_32 : pm_ok 21 32 (15, 35, 1, .null, []) := ⟨7, by decide +kernel, by decide +kernel, rfl⟩
theorem ok_21_33 : pm_ok 21 33 (0, 0, 0, .int 1, []) := Or.inl ⟨1, by decide +kernel, rfl, rfl⟩
theorem ok_21_34 : pm_ok 21 34 (17, 36, 0, .null, []) := ⟨4, by decide +kernel, by decide +kernel⟩
theorem ok_21_35 : pm_ok 21 35 (0, 0, 0, .int 0, []) := Or.inl ⟨0, by decide +kernel, rfl, rfl⟩
theorem ok_21_36 : pm_ok 21 36 (25, 38, 3, .null, [3]) := ⟨78, by decide, rfl, Or.inr ⟨"GuardPacks", (pm_tb 133 (by decide +kernel))⟩, Or.inl ⟨by decide +kernel, 3, TX3, 6, rfl, rfl, by decide, by decide +kernel, (pm_tb 135 (by decide +kernel)), (pm_tp 6 (by decide +kernel))⟩⟩
theorem ok_21_37 : pm_ok 21 37 (1, 0, 2, .null, []) := Or.inl ⟨0, by decide +kernel, rfl, rfl⟩
theorem ok_21_38 : pm_ok 21 38 (18, 1, 4, .null, []) := ⟨15, RX1, TX1, 9, by decide +kernel, rfl, rfl, by decide, pm_cw1, Or.inl (pm_tb 146 (by decide +kernel))⟩
theorem ok_21_39 : pm_ok 21 39 (1, 3, 0, .null, []) := Or.inl ⟨3, by decide +kernel, rfl, rfl⟩
theorem ok_21_40 : pm_ok 21 40 (20, 0, 1, .null, []) := ⟨by decide +kernel, rfl⟩
theorem ok_21_41 : pm_ok 21 41 (15, 52, 0, .null, []) := ⟨21, by decide +kernel, by decide +kernel, rfl⟩
theorem ok_21_42 : pm_ok 21 42 (1, 0, 2, .null, []) := Or.inl ⟨0, by decide +kernel, rfl, rfl⟩
theorem ok_21_43 : pm_ok 21 43 (18, 1, 5, .null, []) := ⟨21, RX1, TX1, 9, by decide +kernel, rfl, rfl, by decide, pm_cw1, Or.inl (pm_tb 148 (by decide +kernel))⟩
theorem ok_21_44 : pm_ok 21 44 (1, 3, 0, .null, []) := Or.inl ⟨3, by decide +kernel, rfl, rfl⟩
theorem ok_21_45 : pm_ok 21 45 (0, 0, 0, .int 1, []) := Or.inl ⟨1, by decide +kernel, rfl, rfl⟩
theorem ok_21_46 : pm_ok 21 46 (25, 39, 3, .null, [3]) := ⟨82, by decide, rfl, Or.inr ⟨"GuardPacks", (pm_tb 137 (by decide +kernel))⟩, Or.inl ⟨by decide +kernel, 3, TX3, 6, rfl, rfl, by decide, by decide +kernel, (pm_tb 139 (by decide +kernel)), (pm_tp 7 (by decide +kernel))⟩⟩
theorem ok_21_47 : pm_ok 21 47 (1, 0, 2, .null, []) := Or.inl ⟨0, by decide +kernel, rfl, rfl⟩
theorem ok_21_48 : pm_ok 21 48 (18, 1, 6, .null, []) := ⟨25, RX1, TX1, 9, by decide +kernel, rfl, rfl, by decide, pm_cw1, Or.inl (pm_tb 149 (by decide +kernel))⟩
theorem ok_21_49 : pm_ok 21 49 (1, 3, 0, .null, []) := Or.inl ⟨3, by decide +kernel, rfl, rfl⟩
theorem ok_21_50 : pm_ok 21 50 (0, 0, 0, .int 1, []) := Or.inl ⟨1, by decide +kernel, rfl, rfl⟩
theorem ok_21_51 : pm_ok 21 51 (25, 39, 3, .null, [3]) := ⟨82, by decide, rfl, Or.inr ⟨"GuardPacks", (pm_tb 137 (by decide +kernel))⟩, Or.inl ⟨by decide +kernel, 3, TX3, 6, rfl, rfl, by decide, by decide +kernel, (pm_tb 139 (by decide +kernel)), (pm_tp 7 (by decide +kernel))⟩⟩
theorem ok_21_52 : pm_ok 21 52 (26, 0, 0, .null, []) := ⟨by decide +kernel, rfl⟩
set_option maxRecDepth 100000 in
theorem ok_21 : pm_oks 21 0 cd_X1_numberCell := ⟨ok_21_0, ok_21_1, ok_21_2, ok_21_3, ok_21_4, ok_21_5, ok_21_6, ok_21_7, ok_21_8, ok_21_9, ok_21_10, ok_21_11, ok_21_12, ok_21_13, ok_21_14, ok_21_15, ok_21_16, ok_21_17, ok_21_18, ok_21_19, ok_21_20, ok_21_21, ok_21_22, ok_21_23, ok_21_24, ok_21_25, ok_21_26, ok_21_27, ok_21_28, ok_21_29, ok_21_30, ok_21_31, ok_21_32, ok_21_33, ok_21_34, ok_21_35, ok_21_36, ok_21_37, ok_21_38, ok_21_39, ok_21_40, ok_21_41, ok_21_42, ok_21_43, ok_21_44, ok_21_45, ok_21_46, ok_21_47, ok_21_48, ok_21_49, ok_21_50, ok_21_51, ok_21_52, trivial⟩
theorem ok_22_0 : pm_ok 22 0 (1, 0, 2, .null, []) := Or.inl ⟨0, by decide +kernel, rfl, rfl⟩
theorem ok_22_1 : pm_ok 22 1 (18, 1, 3, .null, []) := ⟨9, RX1, TX1, 9, by decide +kernel, rfl, rfl, by decide, pm_cw1, Or.inl (pm_tb 144 (by decide +kernel))⟩
theorem ok_22_2 : pm_ok 22 2 (1, 1, 0, .null, []) := Or.inl ⟨1, by decide +kernel, rfl, rfl⟩
theorem ok_22_3 : pm_ok 22 3 (20, 0, 1, .null, []) := ⟨by decide +kernel, rfl⟩
theorem ok_22_4 : pm_ok 22 4 (1, 2, 0, .null, []) := Or.inl ⟨2, by decide +kernel, rfl, rfl⟩
theorem ok_22_5 : pm_ok 22 5 (16, 8, 1, .null, []) := ⟨5, by decide +kernel, by decide +kernel, rfl⟩
theorem ok_22_6 : pm_ok 22 6 (0, 0, 0, .int 0, []) := Or.inl ⟨0, by decide +kernel, rfl, rfl⟩
theorem ok_22_7 : pm_ok 22 7 (26, 2, 0, .null, []) := ⟨by decide +kernel, rfl⟩
theorem ok_22_8 : pm_ok 22 8 (1, 0, 2, .null, []) := Or.inl ⟨0, by decide +kernel, rfl, rfl⟩
theorem ok_22_9 : pm_ok 22 9 (18, 1, 3, .null, []) := ⟨9, RX1, TX1, 9, by decide +kernel, rfl, rfl, by decide, pm_cw1, Or.inl (pm_tb 144 (by decide +kernel))⟩
theorem ok_22_10 : pm_ok 22 10 (1, 1, 0, .null, []) := Or.inl ⟨1, by decide +kernel, rfl, rfl⟩
theorem ok_22_11 : pm_ok 22 11 (1, 2, 0, .null, []) := Or.inl ⟨2, by decide +kernel, rfl, rfl⟩
theorem ok_22_12 : pm_ok 22 12 (21, 0, 1, .null, []) := ⟨by decide +kernel, rfl⟩
theorem ok_22_13 : pm_ok 22 13 (1, 0, 2, .null, []) := Or.inl ⟨0, by decide +kernel, rfl, rfl⟩
theorem ok_22_14 : pm_ok 22 14 (25, 20, 1, .null, [1]) := ⟨58, by decide, rfl, Or.inl (pm_tb 113 (by decide +kernel)), Or.inl ⟨by decide +kernel, 1, TX1, 9, rfl, rfl, by decide, by decide +kernel, (pm_tb 115 (by decide +kernel)), (pm_tp 1 (by decide +kernel))⟩⟩
theorem ok_22_15 : pm_ok 22 15 (0, 0, 0, .int 1, []) := Or.inl ⟨1, by decide +kernel, rfl, rfl⟩
theorem ok_22_16 : pm_ok 22 16 (26, 2, 0, .null, []) := ⟨by decide +kernel, rfl⟩
set_option maxRecDepth 100000 in
theorem ok_22 : pm_oks 22 0 cd_X1_changeWall := ⟨ok_22_0, ok_22_1, ok_22_2, ok_22_3, ok_22_4, ok_22_5, ok_22_6, ok_22_7, ok_22_8, ok_22_9, ok_22_10, ok_22_11, ok_22_12, ok_22_13, ok_22_14, ok_22_15, ok_22_16, trivial⟩
theorem ok_23_0 : pm_ok 23 0 (1, 2, 0, .null, []) := Or.inl ⟨2, by decide +kernel, rfl, rfl⟩
theorem ok_23_1 : pm_ok 23 1 (15, 4, 0, .null, []) := ⟨7, by decide +kernel, by decide +kernel, rfl⟩
theorem ok_23_2 : pm_ok 23 2 (0, 0, 0, .int 1, []) := Or.inl ⟨1, by decide +kernel, rfl, rfl⟩
theorem ok_23_3 : pm_ok 23 3 (17, 5, 0, .null, []) := ⟨4, by decide +kernel, by decide +kernel⟩
theorem ok_23_4 : pm_ok 23 4 (0, 0, 0, .int (-1), []) := Or.inl ⟨(-1), by decide +kernel, rfl, rfl⟩
theorem ok_23_5 : pm_ok 23 5 (2, 3, 0, .null, []) := Or.inl ⟨3, by decide +kernel, rfl, rfl⟩
theorem ok_23_6 : pm_ok 23 6 (1, 0, 2, .null, []) := Or.inl ⟨0, by decide +kernel, rfl, rfl⟩
theorem ok_23_7 : pm_ok 23 7 (18, 1, 4, .null, []) := ⟨15, RX1, TX1, 9, by decide +kernel, rfl, rfl, by decide, pm_cw1, Or.inl (pm_tb 146 (by decide +kernel))⟩
theorem ok_23_8 : pm_ok 23 8 (1, 1, 0, .null, []) := Or.inl ⟨1, by decide +kernel, rfl, rfl⟩
theorem ok_23_9 : pm_ok 23 9 (1, 2, 0, .null, []) := Or.inl ⟨2, by decide +kernel, rfl, rfl⟩
theorem ok_23_10 : pm_ok 23 10 (21, 0, 1, .null, []) := ⟨by decide +kernel, rfl⟩
theorem ok_23_11 : pm_ok 23 11 (1, 0, 2, .null, []) := Or.inl ⟨0, by decide +kernel, rfl, rfl⟩
theorem ok_23_12 : pm_ok 23 12 (18, 1, 5, .null, []) := ⟨21, RX1, TX1, 9, by decide +kernel, rfl, rfl, by decide, pm_cw1, Or.inl (pm_tb 148 (by decide +kernel))⟩
theorem ok_23_13 : pm_ok 23 13 (1, 1, 0, .null, []) := Or.inl ⟨1, by decide +kernel, rfl, rfl⟩
theorem ok_23_14 : pm_ok 23 14 (1, 3, 0, .null, []) := Or.inl ⟨3, by decide +kernel, rfl, rfl⟩
theorem ok_23_15 : pm_ok 23 15 (25, 39, 3, .null, [3]) := ⟨82, by decide, rfl, Or.inr ⟨"GuardPacks", (pm_tb 137 (by decide +kernel))⟩, Or.inl ⟨by decide +kernel, 3, TX3, 6, rfl, rfl, by decide, by decide +kernel, (pm_tb 139 (by decide +kernel)), (pm_tp 7 (by decide +kernel))⟩⟩
theorem ok_23_16 : pm_ok 23 16 (1, 0, 2, .null, []) := Or.inl ⟨0, by decide +kernel, rfl, rfl⟩
theorem ok_23_17 : pm_ok 23 17 (18, 1, 6, .null, []) := ⟨25, RX1, TX1, 9, by decide +kernel, rfl, rfl, by decide, pm_cw1, Or.inl (pm_tb 149 (by decide +kernel))⟩
theorem ok_23_18 : pm_ok 23 18 (1, 1, 0, .null, []) := Or.inl ⟨1, by decide +kernel, rfl, rfl⟩
theorem ok_23_19 : pm_ok 23 19 (1, 3, 0, .null, []) := Or.inl ⟨3, by decide +kernel, rfl, rfl⟩
theorem ok_23_20 : pm_ok 23 20 (25, 39, 3, .null, [3]) := ⟨82, by decide, rfl, Or.inr ⟨"GuardPacks", (pm_tb 137 (by decide +kernel))⟩, Or.inl ⟨by decide +kernel, 3, TX3, 6, rfl, rfl, by decide, by decide +kernel, (pm_tb 139 (by decide +kernel)), (pm_tp 7 (by decide +kernel))⟩⟩
theorem ok_23_21 : pm_ok 23 21 (1, 0, 2, .null, []) := Or.inl ⟨0, by decide +kernel, rfl, rfl⟩
theorem ok_23_22 : pm_ok 23 22 (11, 0, 0, .null, []) := ⟨by decide +kernel, rfl⟩
theorem ok_23_23 : pm_ok 23 23 (18, 1, 2, .null, []) := ⟨55, RX1, TX1, 9, by decide +kernel, rfl, rfl, by decide, pm_cw1, Or.inl (pm_tb 143 (by decide +kernel))⟩
theorem ok_23_24 : pm_ok 23 24 (1, 3, 0, .null, []) := Or.inl ⟨3, by decide +kernel, rfl, rfl⟩
theorem ok_23_25 : pm_ok 23 25 (4, 0, 0, .null, []) := ⟨by decide +kernel, rfl⟩
theorem ok_23_26 : pm_ok 23 26 (19, 1, 2, .null, [0]) := ⟨55, RX1, TX1, 9, tyX1, by decide +kernel, rfl, rfl, by decide, pm_cw1, tyX1_ok, nmX1, by decide +kernel, Or.inl ⟨rfl, Or.inl (pm_tb 143 (by decide +kernel))⟩⟩
theorem ok_23_27 : pm_ok 23 27 (1, 0, 2, .null, []) := Or.inl ⟨0, by decide +kernel, rfl, rfl⟩
theorem ok_23_28 : pm_ok 23 28 (18, 1, 2, .null, []) := ⟨55, RX1, TX1, 9, by decide +kernel, rfl, rfl, by decide, pm_cw1, Or.inl (pm_tb 143 (by decide +kernel))⟩
theorem ok_23_29 : pm_ok 23 29 (26, 1, 0, .null, []) := ⟨by decide +kernel, rfl⟩
set_option maxRecDepth 100000 in
theorem ok_23 : pm_oks 23 0 cd_X1_changeGuard := ⟨ok_23_0, ok_23_1, ok_23_2, ok_23_3, ok_23_4, ok_23_5, ok_23_6, ok_23_7, ok_23_8, ok_23_9, ok_23_10, ok_23_11, ok_23_12, ok_23_13, ok_23_14, ok_23_15, ok_23_16, ok_23_17, ok_23_18, ok_23_19, ok_23_20, ok_23_21, ok_23_22, ok_23_23, ok_23_24, ok_23_25, ok_23_26, ok_23_27, ok_23_28, ok_23_29, trivial⟩
theorem ok_24_0 : pm_ok 24 0 (1, 0, 2, .null, []) := Or.inl ⟨0, by decide +kernel, rfl, rfl⟩
theorem ok_24_1 : pm_ok 24 1 (18, 1, 5, .null, []) := ⟨21, RX1, TX1, 9, by decide +kernel, rfl, rfl, by decide, pm_cw1, Or.inl (pm_tb 148 (by decide +kernel))⟩
theorem ok_24_2 : pm_ok 24 2 (1, 1, 0, .null, []) := Or.inl ⟨1, by decide +kernel, rfl, rfl⟩
theorem ok_24_3 : pm_ok 24 3 (25, 40, 2, .null, [3]) := ⟨85, by decide, rfl, Or.inr ⟨"GuardPacks", (pm_tb 267 (by decide +kernel))⟩, Or.inl ⟨by decide +kernel, 3, TX3, 6, rfl, rfl, by decide, by decide +kernel, (pm_tb 269 (by decide +kernel)), (pm_tp 14 (by decide +kernel))⟩⟩
theorem ok_24_4 : pm_ok 24 4 (15, 10, 1, .null, []) := ⟨14, by decide +kernel, by decide +kernel, rfl⟩
theorem ok_24_5 : pm_ok 24 5 (1, 0, 2, .null, []) := Or.inl ⟨0, by decide +kernel, rfl, rfl⟩
theorem ok_24_6 : pm_ok 24 6 (18, 1, 6, .null, []) := ⟨25, RX1, TX1, 9, by decide +kernel, rfl, rfl, by decide, pm_cw1, Or.inl (pm_tb 149 (by decide +kernel))⟩
theorem ok_24_7 : pm_ok 24 7 (1, 1, 0, .null, []) := Or.inl ⟨1, by decide +kernel, rfl, rfl⟩
theorem ok_24_8 : pm_ok 24 8 (25, 40, 2, .null, [3]) := ⟨85, by decide, rfl, Or.inr ⟨"GuardPacks", (pm_tb 267 (by decide +kernel))⟩, Or.inl ⟨by decide +kernel, 3, TX3, 6, rfl, rfl, by decide, by decide +kernel, (pm_tb 269 (by decide +kernel)), (pm_tp 14 (by decide +kernel))⟩⟩
theorem ok_24_9 : pm_ok 24 9 (15, 12, 0, .null, []) := ⟨7, by decide +kernel, by decide +kernel, rfl⟩
theorem ok_24_10 : pm_ok 24 10 (0, 0, 0, .int 1, []) := Or.inl ⟨1, by decide +kernel, rfl, rfl⟩
theorem ok_24_11 : pm_ok 24 11 (17, 13, 0, .null, []) := ⟨4, by decide +kernel, by decide +kernel⟩
theorem ok_24_12 : pm_ok 24 12 (0, 0, 0, .int 0, []) := Or.inl ⟨0, by decide +kernel, rfl, rfl⟩
theorem ok_24_13 : pm_ok 24 13 (26, 2, 0, .null, []) := ⟨by decide +kernel, rfl⟩
set_option maxRecDepth 100000 in
theorem ok_24 : pm_oks 24 0 cd_X1_isSeen := ⟨ok_24_0, ok_24_1, ok_24_2, ok_24_3, ok_24_4, ok_24_5, ok_24_6, ok_24_7, ok_24_8, ok_24_9, ok_24_10, ok_24_11, ok_24_12, ok_24_13, trivial⟩
theorem ok_25_0 : pm_ok 25 0 (1, 0, 2, .null, []) := Or.inl ⟨0, by decide +kernel, rfl, rfl⟩
theorem ok_25_1 : pm_ok 25 1 (18, 1, 3, .null, []) := ⟨9, RX1, TX1, 9, by decide +kernel, rfl, rfl, by decide, pm_cw1, Or.inl (pm_tb 144 (by decide +kernel))⟩
theorem ok_25_2 : pm_ok 25 2 (1, 1, 0, .null, []) := Or.inl ⟨1, by decide +kernel, rfl, rfl⟩
theorem ok_25_3 : pm_ok 25 3 (20, 0, 1, .null, []) := ⟨by decide +kernel, rfl⟩
theorem ok_25_4 : pm_ok 25 4 (15, 7, 1, .null, []) := ⟨5, by decide +kernel, by decide +kernel, rfl⟩
theorem ok_25_5 : pm_ok 25 5 (0, 0, 0, .int 0, []) := Or.inl ⟨0, by decide +kernel, rfl, rfl⟩
theorem ok_25_6 : pm_ok 25 6 (26, 1, 0, .null, []) := ⟨by decide +kernel, rfl⟩
theorem ok_25_7 : pm_ok 25 7 (1, 0, 2, .null, []) := Or.inl ⟨0, by decide +kernel, rfl, rfl⟩
theorem ok_25_8 : pm_ok 25 8 (18, 1, 4, .null, []) := ⟨15, RX1, TX1, 9, by decide +kernel, rfl, rfl, by decide, pm_cw1, Or.inl (pm_tb 146 (by decide +kernel))⟩
theorem ok_25_9 : pm_ok 25 9 (1, 1, 0, .null, []) := Or.inl ⟨1, by decide +kernel, rfl, rfl⟩
theorem ok_25_10 : pm_ok 25 10 (20, 0, 1, .null, []) := ⟨by decide +kernel, rfl⟩
theorem ok_25_11 : pm_ok 25 11 (15, 14, 0, .null, []) := ⟨5, by decide +kernel, by decide +kernel, rfl⟩
theorem ok_25_12 : pm_ok 25 12 (0, 0, 0, .int 3, []) := Or.inl ⟨3, by decide +kernel, rfl, rfl⟩
theorem ok_25_13 : pm_ok 25 13 (26, 1, 0, .null, []) := ⟨by decide +kernel, rfl⟩
theorem ok_25_14 : pm_ok 25 14 (1, 0, 2, .null, []) := Or.inl ⟨0, by decide +kernel, rfl, rfl⟩
theorem ok_25_15 : pm_ok 25 15 (1, 1, 0, .null, []) := Or.inl ⟨1, by decide +kernel, rfl, rfl⟩
theorem ok_25_16 : pm_ok 25 16 (25, 24, 2, .null, [1]) := ⟨89, by decide, rfl, Or.inl (pm_tb 263 (by decide +kernel)), Or.inl ⟨by decide +kernel, 1, TX1, 9, rfl, rfl, by decide, by decide +kernel, (pm_tb 265 (by decide +kernel)), (pm_tp 13 (by decide +kernel))⟩⟩
theorem ok_25_17 : pm_ok 25 17 (15, 20, 0, .null, []) := ⟨7, by decide +kernel, by decide +kernel, rfl⟩
theorem ok_25_18 : pm_ok 25 18 (0, 0, 0, .int 2, []) := Or.inl ⟨2, by decide +kernel, rfl, rfl⟩
theorem ok_25_19 : pm_ok 25 19 (17, 21, 0, .null, []) := ⟨4, by decide +kernel, by decide +kernel⟩
theorem ok_25_20 : pm_ok 25 20 (0, 0, 0, .int 1, []) := Or.inl ⟨1, by decide +kernel, rfl, rfl⟩
theorem ok_25_21 : pm_ok 25 21 (26, 1, 0, .null, []) := ⟨by decide +kernel, rfl⟩
set_option maxRecDepth 100000 in
theorem ok_25 : pm_oks 25 0 cd_X1_kindOf := ⟨ok_25_0, ok_25_1, ok_25_2, ok_25_3, ok_25_4, ok_25_5, ok_25_6, ok_25_7, ok_25_8, ok_25_9, ok_25_10, ok_25_11, ok_25_12, ok_25_13, ok_25_14, ok_25_15, ok_25_16, ok_25_17, ok_25_18, ok_25_19, ok_25_20, ok_25_21, trivial⟩
theorem ok_26_0 : pm_ok 26 0 (1, 0, 2, .null, []) := Or.inl ⟨0, by decide +kernel, rfl, rfl⟩
theorem ok_26_1 : pm_ok 26 1 (18, 1, 3, .null, []) := ⟨9, RX1, TX1, 9, by decide +kernel, rfl, rfl, by decide, pm_cw1, Or.inl (pm_tb 144 (by decide +kernel))⟩
theorem ok_26_2 : pm_ok 26 2 (1, 1, 0, .null, []) := Or.inl ⟨1, by decide +kernel, rfl, rfl⟩
theorem ok_26_3 : pm_ok 26 3 (20, 0, 1, .null, []) := ⟨by decide +kernel, rfl⟩
theorem ok_26_4 : pm_ok 26 4 (15, 17, 0, .null, []) := ⟨25, by decide +kernel, by decide +kernel, rfl⟩
theorem ok_26_5 : pm_ok 26 5 (1, 0, 2, .null, []) := Or.inl ⟨0, by decide +kernel, rfl, rfl⟩
theorem ok_26_6 : pm_ok 26 6 (18, 1, 5, .null, []) := ⟨21, RX1, TX1, 9, by decide +kernel, rfl, rfl, by decide, pm_cw1, Or.inl (pm_tb 148 (by decide +kernel))⟩
theorem ok_26_7 : pm_ok 26 7 (1, 1, 0, .null, []) := Or.inl ⟨1, by decide +kernel, rfl, rfl⟩
theorem ok_26_8 : pm_ok 26 8 (25, 41, 2, .null, [3]) := ⟨92, by decide, rfl, Or.inr ⟨"GuardPacks", (pm_tb 291 (by decide +kernel))⟩, Or.inl ⟨by decide +kernel, 3, TX3, 6, rfl, rfl, by decide, by decide +kernel, (pm_tb 293 (by decide +kernel)), (pm_tp 17 (by decide +kernel))⟩⟩
theorem ok_26_9 : pm_ok 26 9 (1, 0, 2, .null, []) := Or.inl ⟨0, by decide +kernel, rfl, rfl⟩
theorem ok_26_10 : pm_ok 26 10 (18, 1, 6, .null, []) := ⟨25, RX1, TX1, 9, by decide +kernel, rfl, rfl, by decide, pm_cw1, Or.inl (pm_tb 149 (by decide +kernel))⟩
theorem ok_26_11 : pm_ok 26 11 (1, 1, 0, .null, []) := Or.inl ⟨1, by decide +kernel, rfl, rfl⟩
theorem ok_26_12 : pm_ok 26 12 (25, 41, 2, .null, [3]) := ⟨92, by decide, rfl, Or.inr ⟨"GuardPacks", (pm_tb 291 (by decide +kernel))⟩, Or.inl ⟨by decide +kernel, 3, TX3, 6, rfl, rfl, by decide, by decide +kernel, (pm_tb 293 (by decide +kernel)), (pm_tp 17 (by decide +kernel))⟩⟩
theorem ok_26_13 : pm_ok 26 13 (4, 0, 0, .null, []) := ⟨by decide +kernel, rfl⟩
theorem ok_26_14 : pm_ok 26 14 (0, 0, 0, .int 1, []) := Or.inl ⟨1, by decide +kernel, rfl, rfl⟩
theorem ok_26_15 : pm_ok 26 15 (4, 0, 1, .null, []) := ⟨by decide +kernel, rfl⟩
theorem ok_26_16 : pm_ok 26 16 (17, 18, 0, .null, []) := ⟨4, by decide +kernel, by decide +kernel⟩
theorem ok_26_17 : pm_ok 26 17 (0, 0, 0, .int 0, []) := Or.inl ⟨0, by decide +kernel, rfl, rfl⟩
theorem ok_26_18 : pm_ok 26 18 (26, 1, 0, .null, []) := ⟨by decide +kernel, rfl⟩
set_option maxRecDepth 100000 in
theorem ok_26 : pm_oks 26 0 cd_X1_sightFrom := ⟨ok_26_0, ok_26_1, ok_26_2, ok_26_3, ok_26_4, ok_26_5, ok_26_6, ok_26_7, ok_26_8, ok_26_9, ok_26_10, ok_26_11, ok_26_12, ok_26_13, ok_26_14, ok_26_15, ok_26_16, ok_26_17, ok_26_18, trivial⟩
theorem ok_27_0 : pm_ok 27 0 (0, 0, 0, .int 0, []) := Or.inl ⟨0, by decide +kernel, rfl, rfl⟩
theorem ok_27_1 : pm_ok 27 1 (2, 1, 0, .null, []) := Or.inl ⟨1, by decide +kernel, rfl, rfl⟩
theorem ok_27_2 : pm_ok 27 2 (0, 0, 0, .int 0, []) := Or.inl ⟨0, by decide +kernel, rfl, rfl⟩
theorem ok_27_3 : pm_ok 27 3 (2, 2, 0, .null, []) := Or.inl ⟨2, by decide +kernel, rfl, rfl⟩
theorem ok_27_4 : pm_ok 27 4 (1, 2, 0, .null, []) := Or.inl ⟨2, by decide +kernel, rfl, rfl⟩
theorem ok_27_5 : pm_ok 27 5 (1, 0, 2, .null, []) := Or.inl ⟨0, by decide +kernel, rfl, rfl⟩
theorem ok_27_6 : pm_ok 27 6 (18, 1, 0, .null, []) := ⟨48, RX1, TX1, 9, by decide +kernel, rfl, rfl, by decide, pm_cw1, Or.inl (pm_tb 141 (by decide +kernel))⟩
theorem ok_27_7 : pm_ok 27 7 (1, 0, 2, .null, []) := Or.inl ⟨0, by decide +kernel, rfl, rfl⟩
theorem ok_27_8 : pm_ok 27 8 (18, 1, 1, .null, []) := ⟨52, RX1, TX1, 9, by decide +kernel, rfl, rfl, by decide, pm_cw1, Or.inl (pm_tb 142 (by decide +kernel))⟩
theorem ok_27_9 : pm_ok 27 9 (4, 0, 2, .null, []) := ⟨by decide +kernel, rfl⟩
theorem ok_27_10 : pm_ok 27 10 (16, 18, 3, .null, []) := ⟨20, by decide +kernel, by decide +kernel, rfl⟩
theorem ok_27_11 : pm_ok 27 11 (1, 0, 2, .null, []) := Or.inl ⟨0, by decide +kernel, rfl, rfl⟩
theorem ok_27_12 : pm_ok 27 12 (1, 2, 0, .null, []) := Or.inl ⟨2, by decide +kernel, rfl, rfl⟩
theorem ok_27_13 : pm_ok 27 13 (25, 24, 2, .null, [1]) := ⟨89, by decide, rfl, Or.inl (pm_tb 263 (by decide +kernel)), Or.inl ⟨by decide +kernel, 1, TX1, 9, rfl, rfl, by decide, by decide +kernel, (pm_tb 265 (by decide +kernel)), (pm_tp 13 (by decide +kernel))⟩⟩
theorem ok_27_14 : pm_ok 27 14 (15, 16, 0, .null, []) := ⟨6, by decide +kernel, by decide +kernel, rfl⟩
theorem ok_27_15 : pm_ok 27 15 (3, 1, 0, .int 1, []) := ⟨1, by decide +kernel, rfl, rfl⟩
theorem ok_27_16 : pm_ok 27 16 (3, 2, 0, .int 1, []) := ⟨1, by decide +kernel, rfl, rfl⟩
theorem ok_27_17 : pm_ok 27 17 (17, 4, 0, .null, []) := ⟨(-27), by decide +kernel, by decide +kernel⟩
theorem ok_27_18 : pm_ok 27 18 (1, 1, 0, .null, []) := Or.inl ⟨1, by decide +kernel, rfl, rfl⟩
theorem ok_27_19 : pm_ok 27 19 (26, 1, 0, .null, []) := ⟨by decide +kernel, rfl⟩
set_option maxRecDepth 100000 in
theorem ok_27 : pm_oks 27 0 cd_X1_countSeen := ⟨ok_27_0, ok_27_1, ok_27_2, ok_27_3, ok_27_4, ok_27_5, ok_27_6, ok_27_7, ok_27_8, ok_27_9, ok_27_10, ok_27_11, ok_27_12, ok_27_13, ok_27_14, ok_27_15, ok_27_16, ok_27_17, ok_27_18, ok_27_19, trivial⟩
theorem ok_28_0 : pm_ok 28 0 (0, 0, 0, .int 0, []) := Or.inl ⟨0, by decide +kernel, rfl, rfl⟩
theorem ok_28_1 : pm_ok 28 1 (2, 2, 0, .null, []) := Or.inl ⟨2, by decide +kernel, rfl, rfl⟩
theorem ok_28_2 : pm_ok 28 2 (0, 0, 0, .int 0, []) := Or.inl ⟨0, by decide +kernel, rfl, rfl⟩
theorem ok_28_3 : pm_ok 28 3 (2, 3, 0, .null, []) := Or.inl ⟨3, by decide +kernel, rfl, rfl⟩
theorem ok_28_4 : pm_ok 28 4 (1, 3, 0, .null, []) := Or.inl ⟨3, by decide +kernel, rfl, rfl⟩
theorem ok_28_5 : pm_ok 28 5 (1, 0, 2, .null, []) := Or.inl ⟨0, by decide +kernel, rfl, rfl⟩
theorem ok_28_6 : pm_ok 28 6 (18, 1, 0, .null, []) := ⟨48, RX1, TX1, 9, by decide +kernel, rfl, rfl, by decide, pm_cw1, Or.inl (pm_tb 141 (by decide +kernel))⟩
theorem ok_28_7 : pm_ok 28 7 (1, 0, 2, .null, []) := Or.inl ⟨0, by decide +kernel, rfl, rfl⟩
theorem ok_28_8 : pm_ok 28 8 (18, 1, 1, .null, []) := ⟨52, RX1, TX1, 9, by decide +kernel, rfl, rfl, by decide, pm_cw1, Or.inl (pm_tb 142 (by decide +kernel))⟩
theorem ok_28_9 : pm_ok 28 9 (4, 0, 2, .null, []) := ⟨by decide +kernel, rfl⟩
theorem ok_28_10 : pm_ok 28 10 (16, 28, 3, .null, []) := ⟨36, by decide +kernel, by decide +kernel, rfl⟩
theorem ok_28_11 : pm_ok 28 11 (1, 0, 2, .null, []) := Or.inl ⟨0, by decide +kernel, rfl, rfl⟩
theorem ok_28_12 : pm_ok 28 12 (18, 1, 3, .null, []) := ⟨9, RX1, TX1, 9, by decide +kernel, rfl, rfl, by decide, pm_cw1, Or.inl (pm_tb 144 (by decide +kernel))⟩
theorem ok_28_13 : pm_ok 28 13 (1, 3, 0, .null, []) := Or.inl ⟨3, by decide +kernel, rfl, rfl⟩
theorem ok_28_14 : pm_ok 28 14 (20, 0, 1, .null, []) := ⟨by decide +kernel, rfl⟩
theorem ok_28_15 : pm_ok 28 15 (15, 26, 0, .null, []) := ⟨21, by decide +kernel, by decide +kernel, rfl⟩
theorem ok_28_16 : pm_ok 28 16 (1, 0, 2, .null, []) := Or.inl ⟨0, by decide +kernel, rfl, rfl⟩
theorem ok_28_17 : pm_ok 28 17 (1, 3, 0, .null, []) := Or.inl ⟨3, by decide +kernel, rfl, rfl⟩
theorem ok_28_18 : pm_ok 28 18 (25, 24, 2, .null, [1]) := ⟨89, by decide, rfl, Or.inl (pm_tb 263 (by decide +kernel)), Or.inl ⟨by decide +kernel, 1, TX1, 9, rfl, rfl, by decide, by decide +kernel, (pm_tb 265 (by decide +kernel)), (pm_tp 13 (by decide +kernel))⟩⟩
theorem ok_28_19 : pm_ok 28 19 (15, 26, 1, .null, []) := ⟨13, by decide +kernel, by decide +kernel, rfl⟩
theorem ok_28_20 : pm_ok 28 20 (1, 2, 0, .null, []) := Or.inl ⟨2, by decide +kernel, rfl, rfl⟩
theorem ok_28_21 : pm_ok 28 21 (1, 1, 0, .null, []) := Or.inl ⟨1, by decide +kernel, rfl, rfl⟩
theorem ok_28_22 : pm_ok 28 22 (16, 25, 1, .null, []) := ⟨5, by decide +kernel, by decide +kernel, rfl⟩
theorem ok_28_23 : pm_ok 28 23 (1, 3, 0, .null, []) := Or.inl ⟨3, by decide +kernel, rfl, rfl⟩
theorem ok_28_24 : pm_ok 28 24 (26, 1, 0, .null, []) := ⟨by decide +kernel, rfl⟩
theorem ok_28_25 : pm_ok 28 25 (3, 2, 0, .int 1, []) := ⟨1, by decide +kernel, rfl, rfl⟩
theorem ok_28_26 : pm_ok 28 26 (3, 3, 0, .int 1, []) := ⟨1, by decide +kernel, rfl, rfl⟩
theorem ok_28_27 : pm_ok 28 27 (17, 4, 0, .null, []) := ⟨(-43), by decide +kernel, by decide +kernel⟩
theorem ok_28_28 : pm_ok 28 28 (0, 0, 0, .int (-1), []) := Or.inl ⟨(-1), by decide +kernel, rfl, rfl⟩
theorem ok_28_29 : pm_ok 28 29 (26, 1, 0, .null, []) := ⟨by decide +kernel, rfl⟩
set_option maxRecDepth 100000 in
theorem ok_28 : pm_oks 28 0 cd_X1_findMissed := ⟨ok_28_0, ok_28_1, ok_28_2, ok_28_3, ok_28_4, ok_28_5, ok_28_6, ok_28_7, ok_28_8, ok_28_9, ok_28_10, ok_28_11, ok_28_12, ok_28_13, ok_28_14, ok_28_15, ok_28_16, ok_28_17, ok_28_18, ok_28_19, ok_28_20, ok_28_21, ok_28_22, ok_28_23, ok_28_24, ok_28_25, ok_28_26, ok_28_27, ok_28_28, ok_28_29, trivial⟩
theorem ok_29_0 : pm_ok 29 0 (1, 0, 2, .null, []) := Or.inl ⟨0, by decide +kernel, rfl, rfl⟩
theorem ok_29_1 : pm_ok 29 1 (18, 1, 5, .null, []) := ⟨21, RX1, TX1, 9, by decide +kernel, rfl, rfl, by decide, pm_cw1, Or.inl (pm_tb 148 (by decide +kernel))⟩
theorem ok_29_2 : pm_ok 29 2 (18, 3, 0, .null, []) := ⟨96, RX3, TX3, 6, by decide +kernel, rfl, rfl, by decide, pm_cw3, Or.inr ⟨"GuardPacks", (pm_tb 34 (by decide +kernel))⟩⟩
theorem ok_29_3 : pm_ok 29 3 (1, 0, 2, .null, []) := Or.inl ⟨0, by decide +kernel, rfl, rfl⟩
theorem ok_29_4 : pm_ok 29 4 (18, 1, 6, .null, []) := ⟨25, RX1, TX1, 9, by decide +kernel, rfl, rfl, by decide, pm_cw1, Or.inl (pm_tb 149 (by decide +kernel))⟩
theorem ok_29_5 : pm_ok 29 5 (18, 3, 0, .null, []) := ⟨96, RX3, TX3, 6, by decide +kernel, rfl, rfl, by decide, pm_cw3, Or.inr ⟨"GuardPacks", (pm_tb 34 (by decide +kernel))⟩⟩
theorem ok_29_6 : pm_ok 29 6 (16, 9, 4, .null, []) := ⟨7, by decide +kernel, by decide +kernel, rfl⟩
theorem ok_29_7 : pm_ok 29 7 (0, 0, 0, .int 1, []) := Or.inl ⟨1, by decide +kernel, rfl, rfl⟩
theorem ok_29_8 : pm_ok 29 8 (17, 10, 0, .null, []) := ⟨4, by decide +kernel, by decide +kernel⟩
theorem ok_29_9 : pm_ok 29 9 (0, 0, 0, .int 0, []) := Or.inl ⟨0, by decide +kernel, rfl, rfl⟩
theorem ok_29_10 : pm_ok 29 10 (2, 1, 0, .null, []) := Or.inl ⟨1, by decide +kernel, rfl, rfl⟩
theorem ok_29_11 : pm_ok 29 11 (1, 1, 0, .null, []) := Or.inl ⟨1, by decide +kernel, rfl, rfl⟩
theorem ok_29_12 : pm_ok 29 12 (15, 16, 0, .null, []) := ⟨10, by decide +kernel, by decide +kernel, rfl⟩
theorem ok_29_13 : pm_ok 29 13 (1, 0, 2, .null, []) := Or.inl ⟨0, by decide +kernel, rfl, rfl⟩
theorem ok_29_14 : pm_ok 29 14 (18, 1, 5, .null, []) := ⟨21, RX1, TX1, 9, by decide +kernel, rfl, rfl, by decide, pm_cw1, Or.inl (pm_tb 148 (by decide +kernel))⟩
theorem ok_29_15 : pm_ok 29 15 (17, 18, 0, .null, []) := ⟨7, by decide +kernel, by decide +kernel⟩
theorem ok_29_16 : pm_ok 29 16 (1, 0, 2, .null, []) := Or.inl ⟨0, by decide +kernel, rfl, rfl⟩
theorem ok_29_17 : pm_ok 29 17 (18, 1, 6, .null, []) := ⟨25, RX1, TX1, 9, by decide +kernel, rfl, rfl, by decide, pm_cw1, Or.inl (pm_tb 149 (by decide +kernel))⟩
theorem ok_29_18 : pm_ok 29 18 (2, 2, 2, .null, []) := Or.inl ⟨2, by decide +kernel, rfl, rfl⟩
theorem ok_29_19 : pm_ok 29 19 (1, 1, 0, .null, []) := Or.inl ⟨1, by decide +kernel, rfl, rfl⟩
theorem ok_29_20 : pm_ok 29 20 (15, 24, 0, .null, []) := ⟨10, by decide +kernel, by decide +kernel, rfl⟩
theorem ok_29_21 : pm_ok 29 21 (1, 0, 2, .null, []) := Or.inl ⟨0, by decide +kernel, rfl, rfl⟩
theorem ok_29_22 : pm_ok 29 22 (18, 1, 6, .null, []) := ⟨25, RX1, TX1, 9, by decide +kernel, rfl, rfl, by decide, pm_cw1, Or.inl (pm_tb 149 (by decide +kernel))⟩
theorem ok_29_23 : pm_ok 29 23 (17, 26, 0, .null, []) := ⟨7, by decide +kernel, by decide +kernel⟩
theorem ok_29_24 : pm_ok 29 24 (1, 0, 2, .null, []) := Or.inl ⟨0, by decide +kernel, rfl, rfl⟩
theorem ok_29_25 : pm_ok 29 25 (18, 1, 5, .null, []) := ⟨21, RX1, TX1, 9, by decide +kernel, rfl, rfl, by decide, pm_cw1, Or.inl (pm_tb 148 (by decide +kernel))⟩
theorem ok_29_26 : pm_ok 29 26 (2, 3, 2, .null, []) := Or.inl ⟨3, by decide +kernel, rfl, rfl⟩
theorem ok_29_27 : pm_ok 29 27 (1, 2, 2, .null, []) := Or.inl ⟨2, by decide +kernel, rfl, rfl⟩
theorem ok_29_28 : pm_ok 29 28 (18, 3, 0, .null, []) := ⟨96, RX3, TX3, 6, by decide +kernel, rfl, rfl, by decide, pm_cw3, Or.inr ⟨"GuardPacks", (pm_tb 34 (by decide +kernel))⟩⟩
theorem ok_29_29 : pm_ok 29 29 (0, 0, 0, .int 12, []) := Or.inr (Or.inl ⟨12, by decide +kernel, by decide +kernel, rfl⟩)
theorem ok_29_30 : pm_ok 29 30 (16, 33, 5, .null, []) := ⟨8, by decide +kernel, by decide +kernel, rfl⟩
theorem ok_29_31 : pm_ok 29 31 (0, 0, 0, .int (-5), []) := Or.inr (Or.inl ⟨(-5), by decide +kernel, by decide +kernel, rfl⟩)
theorem ok_29_32 : pm_ok 29 32 (17, 38, 0, .null, []) := ⟨12, by decide +kernel, by decide +kernel⟩
theorem ok_29_33 : pm_ok 29 33 (1, 0, 2, .null, []) := Or.inl ⟨0, by decide +kernel, rfl, rfl⟩
theorem ok_29_34 : pm_ok 29 34 (18, 1, 8, .null, []) := ⟨40, RX1, TX1, 9, by decide +kernel, rfl, rfl, by decide, pm_cw1, Or.inl (pm_tb 151 (by decide +kernel))⟩
theorem ok_29_35 : pm_ok 29 35 (1, 2, 2, .null, []) := Or.inl ⟨2, by decide +kernel, rfl, rfl⟩
theorem ok_29_36 : pm_ok 29 36 (1, 3, 2, .null, []) := Or.inl ⟨3, by decide +kernel, rfl, rfl⟩
theorem ok_29_37 : pm_ok 29 37 (25, 44, 3, .null, [4]) := ⟨99, by decide, rfl, Or.inr ⟨"GuardPacks", (pm_tb 319 (by decide +kernel))⟩, Or.inl ⟨by decide +kernel, 4, TX4, 5, rfl, rfl, by decide, by decide +kernel, (pm_tb 321 (by decide +kernel)), (pm_tp 21 (by decide +kernel))⟩⟩
theorem ok_29_38 : pm_ok 29 38 (26, 1, 0, .null, []) := ⟨by decide +kernel, rfl⟩
set_option maxRecDepth 100000 in
theorem ok_29 : pm_oks 29 0 cd_X1_leastMore := ⟨ok_29_0, ok_29_1, ok_29_2, ok_29_3, ok_29_4, ok_29_5, ok_29_6, ok_29_7, ok_29_8, ok_29_9, ok_29_10, ok_29_11, ok_29_12, ok_29_13, ok_29_14, ok_29_15, ok_29_16, ok_29_17, ok_29_18, ok_29_19, ok_29_20, ok_29_21, ok_29_22, ok_29_23, ok_29_24, ok_29_25, ok_29_26, ok_29_27, ok_29_28, ok_29_29, ok_29_30, ok_29_31, ok_29_32, ok_29_33, ok_29_34, ok_29_35, ok_29_36, ok_29_37, ok_29_38, trivial⟩
theorem ok_30_0 : pm_ok 30 0 (1, 0, 2, .null, []) := Or.inl ⟨0, by decide +kernel, rfl, rfl⟩
theorem ok_30_1 : pm_ok 30 1 (18, 1, 7, .null, []) := ⟨31, RX1, TX1, 9, by decide +kernel, rfl, rfl, by decide, pm_cw1, Or.inl (pm_tb 150 (by decide +kernel))⟩
theorem ok_30_2 : pm_ok 30 2 (1, 0, 2, .null, []) := Or.inl ⟨0, by decide +kernel, rfl, rfl⟩
theorem ok_30_3 : pm_ok 30 3 (18, 1, 5, .null, []) := ⟨21, RX1, TX1, 9, by decide +kernel, rfl, rfl, by decide, pm_cw1, Or.inl (pm_tb 148 (by decide +kernel))⟩
theorem ok_30_4 : pm_ok 30 4 (1, 0, 2, .null, []) := Or.inl ⟨0, by decide +kernel, rfl, rfl⟩
theorem ok_30_5 : pm_ok 30 5 (18, 1, 6, .null, []) := ⟨25, RX1, TX1, 9, by decide +kernel, rfl, rfl, by decide, pm_cw1, Or.inl (pm_tb 149 (by decide +kernel))⟩
theorem ok_30_6 : pm_ok 30 6 (0, 0, 0, .long (-1), []) := Or.inr (Or.inr (Or.inr (Or.inr (Or.inr ⟨103, (-1), by decide +kernel, (pm_tb 366 (by decide +kernel)), rfl, rfl⟩))))
theorem ok_30_7 : pm_ok 30 7 (0, 0, 0, .long (-1), []) := Or.inr (Or.inr (Or.inr (Or.inr (Or.inr ⟨103, (-1), by decide +kernel, (pm_tb 366 (by decide +kernel)), rfl, rfl⟩))))
theorem ok_30_8 : pm_ok 30 8 (25, 32, 5, .null, [2]) := ⟨105, by decide, rfl, Or.inr ⟨"GuardPacks", (pm_tb 367 (by decide +kernel))⟩, Or.inl ⟨by decide +kernel, 2, TX2, 6, rfl, rfl, by decide, by decide +kernel, (pm_tb 343 (by decide +kernel)), (pm_tp 25 (by decide +kernel))⟩⟩
theorem ok_30_9 : pm_ok 30 9 (26, 1, 0, .null, []) := ⟨by decide +kernel, rfl⟩
set_option maxRecDepth 100000 in
theorem ok_30 : pm_oks 30 0 cd_X1_mostPeaceful := ⟨ok_30_0, ok_30_1, ok_30_2, ok_30_3, ok_30_4, ok_30_5, ok_30_6, ok_30_7, ok_30_8, ok_30_9, trivial⟩
theorem ok_31_0 : pm_ok 31 0 (1, 0, 2, .null, []) := Or.inl ⟨0, by decide +kernel, rfl, rfl⟩
theorem ok_31_1 : pm_ok 31 1 (28, 0, 0, .null, []) := ⟨3, by decide +kernel, rfl, (pm_tb 66 (by decide +kernel)), (pm_tb 16 (by decide +kernel)), (pm_tb 17 (by decide +kernel))⟩
theorem ok_31_2 : pm_ok 31 2 (1, 0, 2, .null, []) := Or.inl ⟨0, by decide +kernel, rfl, rfl⟩
theorem ok_31_3 : pm_ok 31 3 (0, 0, 0, .int 64, []) := Or.inr (Or.inl ⟨64, by decide +kernel, by decide +kernel, rfl⟩)
theorem ok_31_4 : pm_ok 31 4 (24, 0, 64, .null, []) := ⟨by decide, by decide +kernel, rfl, (pm_tb 60 (by decide +kernel))⟩
theorem ok_31_5 : pm_ok 31 5 (19, 2, 2, .null, [2]) := ⟨9, RX2, TX2, 6, tyX2, by decide +kernel, rfl, rfl, by decide, pm_cw2, tyX2_ok, nmX2, by decide +kernel, Or.inr ⟨rfl, rfl, rfl, (pm_tb 69 (by decide +kernel))⟩⟩
theorem ok_31_6 : pm_ok 31 6 (1, 0, 2, .null, []) := Or.inl ⟨0, by decide +kernel, rfl, rfl⟩
theorem ok_31_7 : pm_ok 31 7 (0, 0, 0, .int 64, []) := Or.inr (Or.inl ⟨64, by decide +kernel, by decide +kernel, rfl⟩)
theorem ok_31_8 : pm_ok 31 8 (24, 0, 64, .null, []) := ⟨by decide, by decide +kernel, rfl, (pm_tb 60 (by decide +kernel))⟩
theorem ok_31_9 : pm_ok 31 9 (19, 2, 3, .null, [2]) := ⟨15, RX2, TX2, 6, tyX2, by decide +kernel, rfl, rfl, by decide, pm_cw2, tyX2_ok, nmX2, by decide +kernel, Or.inr ⟨rfl, rfl, rfl, (pm_tb 70 (by decide +kernel))⟩⟩
theorem ok_31_10 : pm_ok 31 10 (1, 0, 2, .null, []) := Or.inl ⟨0, by decide +kernel, rfl, rfl⟩
theorem ok_31_11 : pm_ok 31 11 (0, 0, 0, .int 64, []) := Or.inr (Or.inl ⟨64, by decide +kernel, by decide +kernel, rfl⟩)
theorem ok_31_12 : pm_ok 31 12 (24, 0, 64, .null, []) := ⟨by decide, by decide +kernel, rfl, (pm_tb 60 (by decide +kernel))⟩
theorem ok_31_13 : pm_ok 31 13 (19, 2, 4, .null, [2]) := ⟨18, RX2, TX2, 6, tyX2, by decide +kernel, rfl, rfl, by decide, pm_cw2, tyX2_ok, nmX2, by decide +kernel, Or.inr ⟨rfl, rfl, rfl, (pm_tb 71 (by decide +kernel))⟩⟩
theorem ok_31_14 : pm_ok 31 14 (1, 0, 2, .null, []) := Or.inl ⟨0, by decide +kernel, rfl, rfl⟩
theorem ok_31_15 : pm_ok 31 15 (0, 0, 0, .int 64, []) := Or.inr (Or.inl ⟨64, by decide +kernel, by decide +kernel, rfl⟩)
theorem ok_31_16 : pm_ok 31 16 (24, 0, 64, .null, []) := ⟨by decide, by decide +kernel, rfl, (pm_tb 60 (by decide +kernel))⟩
theorem ok_31_17 : pm_ok 31 17 (19, 2, 5, .null, [2]) := ⟨21, RX2, TX2, 6, tyX2, by decide +kernel, rfl, rfl, by decide, pm_cw2, tyX2_ok, nmX2, by decide +kernel, Or.inr ⟨rfl, rfl, rfl, (pm_tb 72 (by decide +kernel))⟩⟩
theorem ok_31_18 : pm_ok 31 18 (26, 0, 0, .null, []) := ⟨by decide +kernel, rfl⟩
set_option maxRecDepth 100000 in
theorem ok_31 : pm_oks 31 0 cd_X2_init := ⟨ok_31_0, ok_31_1, ok_31_2, ok_31_3, ok_31_4, ok_31_5, ok_31_6, ok_31_7, ok_31_8, ok_31_9, ok_31_10, ok_31_11, ok_31_12, ok_31_13, ok_31_14, ok_31_15, ok_31_16, ok_31_17, ok_31_18, trivial⟩
theorem ok_32_0 : pm_ok 32 0 (1, 0, 2, .null, []) := Or.inl ⟨0, by decide +kernel, rfl, rfl⟩
theorem ok_32_1 : pm_ok 32 1 (1, 1, 2, .null, []) := Or.inl ⟨1, by decide +kernel, rfl, rfl⟩
theorem ok_32_2 : pm_ok 32 2 (19, 2, 0, .null, [2]) := ⟨24, RX2, TX2, 6, tyX2, by decide +kernel, rfl, rfl, by decide, pm_cw2, tyX2_ok, nmX2, by decide +kernel, Or.inl ⟨rfl, Or.inl (pm_tb 67 (by decide +kernel))⟩⟩
theorem ok_32_3 : pm_ok 32 3 (1, 0, 2, .null, []) := Or.inl ⟨0, by decide +kernel, rfl, rfl⟩
theorem ok_32_4 : pm_ok 32 4 (1, 2, 2, .null, []) := Or.inl ⟨2, by decide +kernel, rfl, rfl⟩
theorem ok_32_5 : pm_ok 32 5 (19, 2, 1, .null, [2]) := ⟨28, RX2, TX2, 6, tyX2, by decide +kernel, rfl, rfl, by decide, pm_cw2, tyX2_ok, nmX2, by decide +kernel, Or.inl ⟨rfl, Or.inl (pm_tb 68 (by decide +kernel))⟩⟩
theorem ok_32_6 : pm_ok 32 6 (0, 0, 0, .int 0, []) := Or.inl ⟨0, by decide +kernel, rfl, rfl⟩
theorem ok_32_7 : pm_ok 32 7 (2, 7, 0, .null, []) := Or.inr ⟨by decide +kernel, rfl⟩
theorem ok_32_8 : pm_ok 32 8 (1, 7, 0, .null, []) := Or.inr ⟨by decide +kernel, rfl⟩
theorem ok_32_9 : pm_ok 32 9 (0, 0, 0, .int 64, []) := Or.inr (Or.inl ⟨64, by decide +kernel, by decide +kernel, rfl⟩)
theorem ok_32_10 : pm_ok 32 10 (16, 23, 3, .null, []) := ⟨25, by decide +kernel, by decide +kernel, rfl⟩
theorem ok_32_11 : pm_ok 32 11 (1, 0, 2, .null, []) := Or.inl ⟨0, by decide +kernel, rfl, rfl⟩
theorem ok_32_12 : pm_ok 32 12 (18, 2, 2, .null, []) := ⟨9, RX2, TX2, 6, by decide +kernel, rfl, rfl, by decide, pm_cw2, Or.inl (pm_tb 69 (by decide +kernel))⟩
theorem ok_32_13 : pm_ok 32 13 (1, 7, 0, .null, []) := Or.inr ⟨by decide +kernel, rfl⟩
theorem ok_32_14 : pm_ok 32 14 (0, 0, 0, .int (-1), []) := Or.inl ⟨(-1), by decide +kernel, rfl, rfl⟩
theorem ok_32_15 : pm_ok 32 15 (21, 0, 0, .null, []) := ⟨by decide +kernel, rfl⟩
theorem ok_32_16 : pm_ok 32 16 (1, 0, 2, .null, []) := Or.inl ⟨0, by decide +kernel, rfl, rfl⟩
theorem ok_32_17 : pm_ok 32 17 (18, 2, 3, .null, []) := ⟨15, RX2, TX2, 6, by decide +kernel, rfl, rfl, by decide, pm_cw2, Or.inl (pm_tb 70 (by decide +kernel))⟩
theorem ok_32_18 : pm_ok 32 18 (1, 7, 0, .null, []) := Or.inr ⟨by decide +kernel, rfl⟩
theorem ok_32_19 : pm_ok 32 19 (0, 0, 0, .int (-1), []) := Or.inl ⟨(-1), by decide +kernel, rfl, rfl⟩
theorem ok_32_20 : pm_ok 32 20 (21, 0, 0, .null, []) := ⟨by decide +kernel, rfl⟩
theorem ok_32_21 : pm_ok 32 21 (3, 7, 0, .int 1, []) := ⟨1, by decide +kernel, rfl, rfl⟩
theorem ok_32_22 : pm_ok 32 22 (17, 8, 0, .null, []) := ⟨(-26), by decide +kernel, by decide +kernel⟩
theorem ok_32_23 : pm_ok 32 23 (0, 0, 0, .int 0, []) := Or.inl ⟨0, by decide +kernel, rfl, rfl⟩
theorem ok_32_24 : pm_ok 32 24 (2, 7, 0, .null, []) := Or.inr ⟨by decide +kernel, rfl⟩
theorem ok_32_25 : pm_ok 32 25 (0, 0, 0, .int 0, []) := Or.inl ⟨0, by decide +kernel, rfl, rfl⟩
theorem ok_32_26 : pm_ok 32 26 (2, 8, 0, .null, []) := Or.inr ⟨by decide +kernel, rfl⟩
theorem ok_32_27 : pm_ok 32 27 (1, 8, 0, .null, []) := Or.inr ⟨by decide +kernel, rfl⟩
theorem ok_32_28 : pm_ok 32 28 (1, 0, 2, .null, []) := Or.inl ⟨0, by decide +kernel, rfl, rfl⟩
theorem ok_32_29 : pm_ok 32 29 (18, 2, 0, .null, []) := ⟨24, RX2, TX2, 6, by decide +kernel, rfl, rfl, by decide, pm_cw2, Or.inl (pm_tb 67 (by decide +kernel))⟩
theorem ok_32_30 : pm_ok 32 30 (18, 3, 0, .null, []) := ⟨31, RX3, TX3, 6, by decide +kernel, rfl, rfl, by decide, pm_cw3, Or.inr ⟨"GuardPacks", (pm_tb 32 (by decide +kernel))⟩⟩
theorem ok_32_31 : pm_ok 32 31 (16, 48, 3, .null, []) := ⟨34, by decide +kernel, by decide +kernel, rfl⟩
theorem ok_32_32 : pm_ok 32 32 (1, 3, 1, .null, []) := Or.inl ⟨3, by decide +kernel, rfl, rfl⟩
theorem ok_32_33 : pm_ok 32 33 (1, 8, 0, .null, []) := Or.inr ⟨by decide +kernel, rfl⟩
theorem ok_32_34 : pm_ok 32 34 (7, 0, 2, .null, []) := ⟨by decide +kernel, rfl⟩
theorem ok_32_35 : pm_ok 32 35 (0, 0, 0, .long 1, []) := Or.inr (Or.inr (Or.inr (Or.inl ⟨1, by decide +kernel, by decide +kernel, rfl⟩)))
theorem ok_32_36 : pm_ok 32 36 (6, 0, 3, .null, []) := ⟨by decide +kernel, rfl⟩
theorem ok_32_37 : pm_ok 32 37 (0, 0, 0, .long 0, []) := Or.inr (Or.inr (Or.inr (Or.inl ⟨0, by decide +kernel, by decide +kernel, rfl⟩)))
theorem ok_32_38 : pm_ok 32 38 (10, 0, 0, .null, []) := ⟨by decide +kernel, rfl⟩
theorem ok_32_39 : pm_ok 32 39 (15, 46, 0, .null, []) := ⟨17, by decide +kernel, by decide +kernel, rfl⟩
theorem ok_32_40 : pm_ok 32 40 (1, 0, 2, .null, []) := Or.inl ⟨0, by decide +kernel, rfl, rfl⟩
theorem ok_32_41 : pm_ok 32 41 (1, 8, 0, .null, []) := Or.inr ⟨by decide +kernel, rfl⟩
theorem ok_32_42 : pm_ok 32 42 (1, 5, 1, .null, []) := Or.inr ⟨by decide +kernel, rfl⟩
theorem ok_32_43 : pm_ok 32 43 (25, 33, 3, .null, [2]) := ⟨37, by decide, rfl, Or.inl (pm_tb 345 (by decide +kernel)), Or.inl ⟨by decide +kernel, 2, TX2, 6, rfl, rfl, by decide, by decide +kernel, (pm_tb 347 (by decide +kernel)), (pm_tp 26 (by decide +kernel))⟩⟩
theorem ok_32_44 : pm_ok 32 44 (15, 46, 0, .null, []) := ⟨6, by decide +kernel, by decide +kernel, rfl⟩
theorem ok_32_45 : pm_ok 32 45 (3, 7, 0, .int 1, []) := ⟨1, by decide +kernel, rfl, rfl⟩
theorem ok_32_46 : pm_ok 32 46 (3, 8, 0, .int 1, []) := ⟨1, by decide +kernel, rfl, rfl⟩
theorem ok_32_47 : pm_ok 32 47 (17, 27, 0, .null, []) := ⟨(-40), by decide +kernel, by decide +kernel⟩
theorem ok_32_48 : pm_ok 32 48 (1, 7, 0, .null, []) := Or.inr ⟨by decide +kernel, rfl⟩
theorem ok_32_49 : pm_ok 32 49 (26, 1, 0, .null, []) := ⟨by decide +kernel, rfl⟩
set_option maxRecDepth 100000 in
theorem ok_32 : pm_oks 32 0 cd_X2_most := ⟨ok_32_0, ok_32_1, ok_32_2, ok_32_3, ok_32_4, ok_32_5, ok_32_6, ok_32_7, ok_32_8, ok_32_9, ok_32_10, ok_32_11, ok_32_12, ok_32_13, ok_32_14, ok_32_15, ok_32_16, ok_32_17, ok_32_18, ok_32_19, ok_32_20, ok_32_21, ok_32_22, ok_32_23, ok_32_24, ok_32_25, ok_32_26, ok_32_27, ok_32_28, ok_32_29, ok_32_30, ok_32_31, ok_32_32, ok_32_33, ok_32_34, ok_32_35, ok_32_36, ok_32_37, ok_32_38, ok_32_39, ok_32_40, ok_32_41, ok_32_42, ok_32_43, ok_32_44, ok_32_45, ok_32_46, ok_32_47, ok_32_48, ok_32_49, trivial⟩
theorem ok_33_0 : pm_ok 33 0 (1, 2, 1, .null, []) := Or.inl ⟨2, by decide +kernel, rfl, rfl⟩
theorem ok_33_1 : pm_ok 33 1 (2, 4, 1, .null, []) := Or.inr ⟨by decide +kernel, rfl⟩
theorem ok_33_2 : pm_ok 33 2 (0, 0, 0, .int 1, []) := Or.inl ⟨1, by decide +kernel, rfl, rfl⟩
theorem ok_33_3 : pm_ok 33 3 (2, 6, 0, .null, []) := Or.inr ⟨by decide +kernel, rfl⟩
theorem ok_33_4 : pm_ok 33 4 (1, 0, 2, .null, []) := Or.inl ⟨0, by decide +kernel, rfl, rfl⟩
theorem ok_33_5 : pm_ok 33 5 (18, 2, 5, .null, []) := ⟨21, RX2, TX2, 6, by decide +kernel, rfl, rfl, by decide, pm_cw2, Or.inl (pm_tb 72 (by decide +kernel))⟩
theorem ok_33_6 : pm_ok 33 6 (0, 0, 0, .int 0, []) := Or.inl ⟨0, by decide +kernel, rfl, rfl⟩
theorem ok_33_7 : pm_ok 33 7 (1, 1, 0, .null, []) := Or.inl ⟨1, by decide +kernel, rfl, rfl⟩
theorem ok_33_8 : pm_ok 33 8 (21, 0, 0, .null, []) := ⟨by decide +kernel, rfl⟩
theorem ok_33_9 : pm_ok 33 9 (0, 0, 0, .int 0, []) := Or.inl ⟨0, by decide +kernel, rfl, rfl⟩
theorem ok_33_10 : pm_ok 33 10 (2, 7, 0, .null, []) := Or.inr ⟨by decide +kernel, rfl⟩
theorem ok_33_11 : pm_ok 33 11 (1, 7, 0, .null, []) := Or.inr ⟨by decide +kernel, rfl⟩
theorem ok_33_12 : pm_ok 33 12 (1, 6, 0, .null, []) := Or.inr ⟨by decide +kernel, rfl⟩
theorem ok_33_13 : pm_ok 33 13 (16, 90, 3, .null, []) := ⟨149, by decide +kernel, by decide +kernel, rfl⟩
theorem ok_33_14 : pm_ok 33 14 (1, 0, 2, .null, []) := Or.inl ⟨0, by decide +kernel, rfl, rfl⟩
theorem ok_33_15 : pm_ok 33 15 (18, 2, 5, .null, []) := ⟨21, RX2, TX2, 6, by decide +kernel, rfl, rfl, by decide, pm_cw2, Or.inl (pm_tb 72 (by decide +kernel))⟩
theorem ok_33_16 : pm_ok 33 16 (1, 7, 0, .null, []) := Or.inr ⟨by decide +kernel, rfl⟩
theorem ok_33_17 : pm_ok 33 17 (20, 0, 0, .null, []) := ⟨by decide +kernel, rfl⟩
theorem ok_33_18 : pm_ok 33 18 (2, 8, 0, .null, []) := Or.inr ⟨by decide +kernel, rfl⟩
theorem ok_33_19 : pm_ok 33 19 (0, 0, 0, .int 0, []) := Or.inl ⟨0, by decide +kernel, rfl, rfl⟩
theorem ok_33_20 : pm_ok 33 20 (2, 9, 0, .null, []) := Or.inr ⟨by decide +kernel, rfl⟩
theorem ok_33_21 : pm_ok 33 21 (1, 9, 0, .null, []) := Or.inr ⟨by decide +kernel, rfl⟩
theorem ok_33_22 : pm_ok 33 22 (1, 0, 2, .null, []) := Or.inl ⟨0, by decide +kernel, rfl, rfl⟩
theorem ok_33_23 : pm_ok 33 23 (18, 2, 0, .null, []) := ⟨24, RX2, TX2, 6, by decide +kernel, rfl, rfl, by decide, pm_cw2, Or.inl (pm_tb 67 (by decide +kernel))⟩
theorem ok_33_24 : pm_ok 33 24 (18, 3, 4, .null, []) := ⟨41, RX3, TX3, 6, by decide +kernel, rfl, rfl, by decide, pm_cw3, Or.inr ⟨"GuardPacks", (pm_tb 43 (by decide +kernel))⟩⟩
theorem ok_33_25 : pm_ok 33 25 (1, 8, 0, .null, []) := Or.inr ⟨by decide +kernel, rfl⟩
theorem ok_33_26 : pm_ok 33 26 (20, 0, 0, .null, []) := ⟨by decide +kernel, rfl⟩
theorem ok_33_27 : pm_ok 33 27 (16, 88, 3, .null, []) := ⟨116, by decide +kernel, by decide +kernel, rfl⟩
theorem ok_33_28 : pm_ok 33 28 (1, 0, 2, .null, []) := Or.inl ⟨0, by decide +kernel, rfl, rfl⟩
theorem ok_33_29 : pm_ok 33 29 (18, 2, 1, .null, []) := ⟨28, RX2, TX2, 6, by decide +kernel, rfl, rfl, by decide, pm_cw2, Or.inl (pm_tb 68 (by decide +kernel))⟩
theorem ok_33_30 : pm_ok 33 30 (18, 3, 2, .null, []) := ⟨44, RX3, TX3, 6, by decide +kernel, rfl, rfl, by decide, pm_cw3, Or.inr ⟨"GuardPacks", (pm_tb 38 (by decide +kernel))⟩⟩
theorem ok_33_31 : pm_ok 33 31 (1, 0, 2, .null, []) := Or.inl ⟨0, by decide +kernel, rfl, rfl⟩
theorem ok_33_32 : pm_ok 33 32 (18, 2, 0, .null, []) := ⟨24, RX2, TX2, 6, by decide +kernel, rfl, rfl, by decide, pm_cw2, Or.inl (pm_tb 67 (by decide +kernel))⟩
theorem ok_33_33 : pm_ok 33 33 (1, 8, 0, .null, []) := Or.inr ⟨by decide +kernel, rfl⟩
theorem ok_33_34 : pm_ok 33 34 (1, 9, 0, .null, []) := Or.inr ⟨by decide +kernel, rfl⟩
theorem ok_33_35 : pm_ok 33 35 (25, 42, 3, .null, [3]) := ⟨47, by decide, rfl, Or.inr ⟨"GuardPacks", (pm_tb 349 (by decide +kernel))⟩, Or.inl ⟨by decide +kernel, 3, TX3, 6, rfl, rfl, by decide, by decide +kernel, (pm_tb 329 (by decide +kernel)), (pm_tp 23 (by decide +kernel))⟩⟩
theorem ok_33_36 : pm_ok 33 36 (20, 0, 0, .null, []) := ⟨by decide +kernel, rfl⟩
theorem ok_33_37 : pm_ok 33 37 (2, 10, 0, .null, []) := Or.inr ⟨by decide +kernel, rfl⟩
theorem ok_33_38 : pm_ok 33 38 (1, 10, 0, .null, []) := Or.inr ⟨by decide +kernel, rfl⟩
theorem ok_33_39 : pm_ok 33 39 (0, 0, 0, .int (-1), []) := Or.inl ⟨(-1), by decide +kernel, rfl, rfl⟩
theorem ok_33_40 : pm_ok 33 40 (16, 86, 0, .null, []) := ⟨83, by decide +kernel, by decide +kernel, rfl⟩
theorem ok_33_41 : pm_ok 33 41 (1, 4, 1, .null, []) := Or.inr ⟨by decide +kernel, rfl⟩
theorem ok_33_42 : pm_ok 33 42 (1, 10, 0, .null, []) := Or.inr ⟨by decide +kernel, rfl⟩
theorem ok_33_43 : pm_ok 33 43 (7, 0, 2, .null, []) := ⟨by decide +kernel, rfl⟩
theorem ok_33_44 : pm_ok 33 44 (0, 0, 0, .long 1, []) := Or.inr (Or.inr (Or.inr (Or.inl ⟨1, by decide +kernel, by decide +kernel, rfl⟩)))
theorem ok_33_45 : pm_ok 33 45 (6, 0, 3, .null, []) := ⟨by decide +kernel, rfl⟩
theorem ok_33_46 : pm_ok 33 46 (0, 0, 0, .long 0, []) := Or.inr (Or.inr (Or.inr (Or.inl ⟨0, by decide +kernel, by decide +kernel, rfl⟩)))
theorem ok_33_47 : pm_ok 33 47 (10, 0, 0, .null, []) := ⟨by decide +kernel, rfl⟩
theorem ok_33_48 : pm_ok 33 48 (15, 50, 1, .null, []) := ⟨6, by decide +kernel, by decide +kernel, rfl⟩
theorem ok_33_49 : pm_ok 33 49 (17, 86, 0, .null, []) := ⟨68, by decide +kernel, by decide +kernel⟩
theorem ok_33_50 : pm_ok 33 50 (1, 4, 1, .null, []) := Or.inr ⟨by decide +kernel, rfl⟩
theorem ok_33_51 : pm_ok 33 51 (0, 0, 0, .long 1, []) := Or.inr (Or.inr (Or.inr (Or.inl ⟨1, by decide +kernel, by decide +kernel, rfl⟩)))
theorem ok_33_52 : pm_ok 33 52 (1, 10, 0, .null, []) := Or.inr ⟨by decide +kernel, rfl⟩
theorem ok_33_53 : pm_ok 33 53 (7, 0, 0, .null, []) := ⟨by decide +kernel, rfl⟩
theorem ok_33_54 : pm_ok 33 54 (0, 0, 0, .long (-1), []) := Or.inr (Or.inr (Or.inr (Or.inr (Or.inr ⟨51, (-1), by decide +kernel, (pm_tb 350 (by decide +kernel)), rfl, rfl⟩))))
theorem ok_33_55 : pm_ok 33 55 (6, 0, 5, .null, []) := ⟨by decide +kernel, rfl⟩
theorem ok_33_56 : pm_ok 33 56 (6, 0, 3, .null, []) := ⟨by decide +kernel, rfl⟩
theorem ok_33_57 : pm_ok 33 57 (2, 4, 1, .null, []) := Or.inr ⟨by decide +kernel, rfl⟩
theorem ok_33_58 : pm_ok 33 58 (1, 0, 2, .null, []) := Or.inl ⟨0, by decide +kernel, rfl, rfl⟩
theorem ok_33_59 : pm_ok 33 59 (18, 2, 4, .null, []) := ⟨18, RX2, TX2, 6, by decide +kernel, rfl, rfl, by decide, pm_cw2, Or.inl (pm_tb 71 (by decide +kernel))⟩
theorem ok_33_60 : pm_ok 33 60 (1, 10, 0, .null, []) := Or.inr ⟨by decide +kernel, rfl⟩
theorem ok_33_61 : pm_ok 33 61 (1, 8, 0, .null, []) := Or.inr ⟨by decide +kernel, rfl⟩
theorem ok_33_62 : pm_ok 33 62 (21, 0, 0, .null, []) := ⟨by decide +kernel, rfl⟩
theorem ok_33_63 : pm_ok 33 63 (1, 0, 2, .null, []) := Or.inl ⟨0, by decide +kernel, rfl, rfl⟩
theorem ok_33_64 : pm_ok 33 64 (18, 2, 3, .null, []) := ⟨15, RX2, TX2, 6, by decide +kernel, rfl, rfl, by decide, pm_cw2, Or.inl (pm_tb 70 (by decide +kernel))⟩
theorem ok_33_65 : pm_ok 33 65 (1, 10, 0, .null, []) := Or.inr ⟨by decide +kernel, rfl⟩
theorem ok_33_66 : pm_ok 33 66 (20, 0, 0, .null, []) := ⟨by decide +kernel, rfl⟩
theorem ok_33_67 : pm_ok 33 67 (0, 0, 0, .int (-1), []) := Or.inl ⟨(-1), by decide +kernel, rfl, rfl⟩
theorem ok_33_68 : pm_ok 33 68 (16, 74, 1, .null, []) := ⟨11, by decide +kernel, by decide +kernel, rfl⟩
theorem ok_33_69 : pm_ok 33 69 (1, 0, 2, .null, []) := Or.inl ⟨0, by decide +kernel, rfl, rfl⟩
theorem ok_33_70 : pm_ok 33 70 (1, 10, 0, .null, []) := Or.inr ⟨by decide +kernel, rfl⟩
theorem ok_33_71 : pm_ok 33 71 (25, 34, 2, .null, [2]) := ⟨53, by decide, rfl, Or.inl (pm_tb 351 (by decide +kernel)), Or.inl ⟨by decide +kernel, 2, TX2, 6, rfl, rfl, by decide, by decide +kernel, (pm_tb 353 (by decide +kernel)), (pm_tp 27 (by decide +kernel))⟩⟩
theorem ok_33_72 : pm_ok 33 72 (0, 0, 0, .int 1, []) := Or.inl ⟨1, by decide +kernel, rfl, rfl⟩
theorem ok_33_73 : pm_ok 33 73 (26, 2, 0, .null, []) := ⟨by decide +kernel, rfl⟩
theorem ok_33_74 : pm_ok 33 74 (1, 6, 0, .null, []) := Or.inr ⟨by decide +kernel, rfl⟩
theorem ok_33_75 : pm_ok 33 75 (0, 0, 0, .int 64, []) := Or.inr (Or.inl ⟨64, by decide +kernel, by decide +kernel, rfl⟩)
theorem ok_33_76 : pm_ok 33 76 (16, 86, 3, .null, []) := ⟨20, by decide +kernel, by decide +kernel, rfl⟩
theorem ok_33_77 : pm_ok 33 77 (1, 0, 2, .null, []) := Or.inl ⟨0, by decide +kernel, rfl, rfl⟩
theorem ok_33_78 : pm_ok 33 78 (18, 2, 5, .null, []) := ⟨21, RX2, TX2, 6, by decide +kernel, rfl, rfl, by decide, pm_cw2, Or.inl (pm_tb 72 (by decide +kernel))⟩
theorem ok_33_79 : pm_ok 33 79 (1, 6, 0, .null, []) := Or.inr ⟨by decide +kernel, rfl⟩
theorem ok_33_80 : pm_ok 33 80 (3, 6, 0, .int 1, []) := ⟨1, by decide +kernel, rfl, rfl⟩
theorem ok_33_81 : pm_ok 33 81 (1, 0, 2, .null, []) := Or.inl ⟨0, by decide +kernel, rfl, rfl⟩
theorem ok_33_82 : pm_ok 33 82 (18, 2, 3, .null, []) := ⟨15, RX2, TX2, 6, by decide +kernel, rfl, rfl, by decide, pm_cw2, Or.inl (pm_tb 70 (by decide +kernel))⟩
theorem ok_33_83 : pm_ok 33 83 (1, 10, 0, .null, []) := Or.inr ⟨by decide +kernel, rfl⟩
theorem ok_33_84 : pm_ok 33 84 (20, 0, 0, .null, []) := ⟨by decide +kernel, rfl⟩
theorem ok_33_85 : pm_ok 33 85 (21, 0, 0, .null, []) := ⟨by decide +kernel, rfl⟩
theorem ok_33_86 : pm_ok 33 86 (3, 9, 0, .int 1, []) := ⟨1, by decide +kernel, rfl, rfl⟩
theorem ok_33_87 : pm_ok 33 87 (17, 21, 0, .null, []) := ⟨(-125), by decide +kernel, by decide +kernel⟩
theorem ok_33_88 : pm_ok 33 88 (3, 7, 0, .int 1, []) := ⟨1, by decide +kernel, rfl, rfl⟩
theorem ok_33_89 : pm_ok 33 89 (17, 11, 0, .null, []) := ⟨(-150), by decide +kernel, by decide +kernel⟩
theorem ok_33_90 : pm_ok 33 90 (0, 0, 0, .int 0, []) := Or.inl ⟨0, by decide +kernel, rfl, rfl⟩
theorem ok_33_91 : pm_ok 33 91 (26, 2, 0, .null, []) := ⟨by decide +kernel, rfl⟩
set_option maxRecDepth 100000 in
theorem ok_33 : pm_oks 33 0 cd_X2_findPair := ⟨ok_33_0, ok_33_1, ok_33_2, ok_33_3, ok_33_4, ok_33_5, ok_33_6, ok_33_7, ok_33_8, ok_33_9, ok_33_10, ok_33_11, ok_33_12, ok_33_13, ok_33_14, ok_33_15, ok_33_16, ok_33_17, ok_33_18, ok_33_19, ok_33_20, ok_33_21, ok_33_22, ok_33_23, ok_33_24, ok_33_25, ok_33_26, ok_33_27, ok_33_28, ok_33_29, ok_33_30, ok_33_31, ok_33_32, ok_33_33, ok_33_34, ok_33_35, ok_33_36, ok_33_37, ok_33_38, ok_33_39, ok_33_40, ok_33_41, ok_33_42, ok_33_43, ok_33_44, ok_33_45, ok_33_46, ok_33_47, ok_33_48, ok_33_49, ok_33_50, ok_33_51, ok_33_52, ok_33_53, ok_33_54, ok_33_55, ok_33_56, ok_33_57, ok_33_58, ok_33_59, ok_33_60, ok_33_61, ok_33_62, ok_33_63, ok_33_64, ok_33_65, ok_33_66, ok_33_67, ok_33_68, ok_33_69, ok_33_70, ok_33_71, ok_33_72, ok_33_73, ok_33_74, ok_33_75, ok_33_76, ok_33_77, ok_33_78, ok_33_79, ok_33_80, ok_33_81, ok_33_82, ok_33_83, ok_33_84, ok_33_85, ok_33_86, ok_33_87, ok_33_88, ok_33_89, ok_33_90, ok_33_91, trivial⟩
end
section
theorem ok_34_0 : pm_ok 34 0 (1, 1, 0, .null, []) := Or.inl ⟨1, by decide +kernel, rfl, rfl⟩
theorem ok_34_1 : pm_ok 34 1 (2, 2, 0, .null, []) := Or.inl ⟨2, by decide +kernel, rfl, rfl⟩
theorem ok_34_2 : pm_ok 34 2 (0, 0, 0, .int 0, []) := Or.inl ⟨0, by decide +kernel, rfl, rfl⟩
theorem ok_34_3 : pm_ok 34 3 (2, 3, 0, .null, []) := Or.inl ⟨3, by decide +kernel, rfl, rfl⟩
theorem ok_34_4 : pm_ok 34 4 (1, 3, 0, .null, []) := Or.inl ⟨3, by decide +kernel, rfl, rfl⟩
theorem ok_34_5 : pm_ok 34 5 (0, 0, 0, .int 64, []) := Or.inr (Or.inl ⟨64, by decide +kernel, by decide +kernel, rfl⟩)
theorem ok_34_6 : pm_ok 34 6 (16, 34, 3, .null, []) := ⟨50, by decide +kernel, by decide +kernel, rfl⟩
theorem ok_34_7 : pm_ok 34 7 (1, 2, 0, .null, []) := Or.inl ⟨2, by decide +kernel, rfl, rfl⟩
theorem ok_34_8 : pm_ok 34 8 (0, 0, 0, .int (-1), []) := Or.inl ⟨(-1), by decide +kernel, rfl, rfl⟩
theorem ok_34_9 : pm_ok 34 9 (16, 34, 0, .null, []) := ⟨45, by decide +kernel, by decide +kernel, rfl⟩
theorem ok_34_10 : pm_ok 34 10 (1, 0, 2, .null, []) := Or.inl ⟨0, by decide +kernel, rfl, rfl⟩
theorem ok_34_11 : pm_ok 34 11 (18, 2, 4, .null, []) := ⟨18, RX2, TX2, 6, by decide +kernel, rfl, rfl, by decide, pm_cw2, Or.inl (pm_tb 71 (by decide +kernel))⟩
theorem ok_34_12 : pm_ok 34 12 (1, 2, 0, .null, []) := Or.inl ⟨2, by decide +kernel, rfl, rfl⟩
theorem ok_34_13 : pm_ok 34 13 (20, 0, 0, .null, []) := ⟨by decide +kernel, rfl⟩
theorem ok_34_14 : pm_ok 34 14 (2, 4, 0, .null, []) := Or.inr ⟨by decide +kernel, rfl⟩
theorem ok_34_15 : pm_ok 34 15 (1, 0, 2, .null, []) := Or.inl ⟨0, by decide +kernel, rfl, rfl⟩
theorem ok_34_16 : pm_ok 34 16 (18, 2, 2, .null, []) := ⟨9, RX2, TX2, 6, by decide +kernel, rfl, rfl, by decide, pm_cw2, Or.inl (pm_tb 69 (by decide +kernel))⟩
theorem ok_34_17 : pm_ok 34 17 (1, 4, 0, .null, []) := Or.inr ⟨by decide +kernel, rfl⟩
theorem ok_34_18 : pm_ok 34 18 (20, 0, 0, .null, []) := ⟨by decide +kernel, rfl⟩
theorem ok_34_19 : pm_ok 34 19 (2, 5, 0, .null, []) := Or.inr ⟨by decide +kernel, rfl⟩
theorem ok_34_20 : pm_ok 34 20 (1, 0, 2, .null, []) := Or.inl ⟨0, by decide +kernel, rfl, rfl⟩
theorem ok_34_21 : pm_ok 34 21 (18, 2, 2, .null, []) := ⟨9, RX2, TX2, 6, by decide +kernel, rfl, rfl, by decide, pm_cw2, Or.inl (pm_tb 69 (by decide +kernel))⟩
theorem ok_34_22 : pm_ok 34 22 (1, 4, 0, .null, []) := Or.inr ⟨by decide +kernel, rfl⟩
theorem ok_34_23 : pm_ok 34 23 (1, 2, 0, .null, []) := Or.inl ⟨2, by decide +kernel, rfl, rfl⟩
theorem ok_34_24 : pm_ok 34 24 (21, 0, 0, .null, []) := ⟨by decide +kernel, rfl⟩
theorem ok_34_25 : pm_ok 34 25 (1, 0, 2, .null, []) := Or.inl ⟨0, by decide +kernel, rfl, rfl⟩
theorem ok_34_26 : pm_ok 34 26 (18, 2, 3, .null, []) := ⟨15, RX2, TX2, 6, by decide +kernel, rfl, rfl, by decide, pm_cw2, Or.inl (pm_tb 70 (by decide +kernel))⟩
theorem ok_34_27 : pm_ok 34 27 (1, 2, 0, .null, []) := Or.inl ⟨2, by decide +kernel, rfl, rfl⟩
theorem ok_34_28 : pm_ok 34 28 (1, 4, 0, .null, []) := Or.inr ⟨by decide +kernel, rfl⟩
theorem ok_34_29 : pm_ok 34 29 (21, 0, 0, .null, []) := ⟨by decide +kernel, rfl⟩
theorem ok_34_30 : pm_ok 34 30 (1, 5, 0, .null, []) := Or.inr ⟨by decide +kernel, rfl⟩
theorem ok_34_31 : pm_ok 34 31 (2, 2, 0, .null, []) := Or.inl ⟨2, by decide +kernel, rfl, rfl⟩
theorem ok_34_32 : pm_ok 34 32 (3, 3, 0, .int 1, []) := ⟨1, by decide +kernel, rfl, rfl⟩
theorem ok_34_33 : pm_ok 34 33 (17, 4, 0, .null, []) := ⟨(-50), by decide +kernel, by decide +kernel⟩
theorem ok_34_34 : pm_ok 34 34 (26, 0, 0, .null, []) := ⟨by decide +kernel, rfl⟩
set_option maxRecDepth 100000 in
theorem ok_34 : pm_oks 34 0 cd_X2_pairBack := ⟨ok_34_0, ok_34_1, ok_34_2, ok_34_3, ok_34_4, ok_34_5, ok_34_6, ok_34_7, ok_34_8, ok_34_9, ok_34_10, ok_34_11, ok_34_12, ok_34_13, ok_34_14, ok_34_15, ok_34_16, ok_34_17, ok_34_18, ok_34_19, ok_34_20, ok_34_21, ok_34_22, ok_34_23, ok_34_24, ok_34_25, ok_34_26, ok_34_27, ok_34_28, ok_34_29, ok_34_30, ok_34_31, ok_34_32, ok_34_33, ok_34_34, trivial⟩
theorem ok_35_0 : pm_ok 35 0 (1, 0, 2, .null, []) := Or.inl ⟨0, by decide +kernel, rfl, rfl⟩
theorem ok_35_1 : pm_ok 35 1 (28, 0, 0, .null, []) := ⟨3, by decide +kernel, rfl, (pm_tb 29 (by decide +kernel)), (pm_tb 16 (by decide +kernel)), (pm_tb 17 (by decide +kernel))⟩
theorem ok_35_2 : pm_ok 35 2 (1, 0, 2, .null, []) := Or.inl ⟨0, by decide +kernel, rfl, rfl⟩
theorem ok_35_3 : pm_ok 35 3 (0, 0, 0, .int 64, []) := Or.inr (Or.inl ⟨64, by decide +kernel, by decide +kernel, rfl⟩)
theorem ok_35_4 : pm_ok 35 4 (24, 0, 64, .null, []) := ⟨by decide, by decide +kernel, rfl, (pm_tb 60 (by decide +kernel))⟩
theorem ok_35_5 : pm_ok 35 5 (19, 3, 2, .null, [2]) := ⟨9, RX3, TX3, 6, tyX3, by decide +kernel, rfl, rfl, by decide, pm_cw3, tyX3_ok, nmX3, by decide +kernel, Or.inr ⟨rfl, rfl, rfl, (pm_tb 36 (by decide +kernel))⟩⟩
theorem ok_35_6 : pm_ok 35 6 (1, 0, 2, .null, []) := Or.inl ⟨0, by decide +kernel, rfl, rfl⟩
theorem ok_35_7 : pm_ok 35 7 (0, 0, 0, .int 64, []) := Or.inr (Or.inl ⟨64, by decide +kernel, by decide +kernel, rfl⟩)
theorem ok_35_8 : pm_ok 35 8 (24, 0, 64, .null, []) := ⟨by decide, by decide +kernel, rfl, (pm_tb 60 (by decide +kernel))⟩
theorem ok_35_9 : pm_ok 35 9 (19, 3, 3, .null, [2]) := ⟨15, RX3, TX3, 6, tyX3, by decide +kernel, rfl, rfl, by decide, pm_cw3, tyX3_ok, nmX3, by decide +kernel, Or.inr ⟨rfl, rfl, rfl, (pm_tb 40 (by decide +kernel))⟩⟩
theorem ok_35_10 : pm_ok 35 10 (1, 0, 2, .null, []) := Or.inl ⟨0, by decide +kernel, rfl, rfl⟩
theorem ok_35_11 : pm_ok 35 11 (0, 0, 0, .int 64, []) := Or.inr (Or.inl ⟨64, by decide +kernel, by decide +kernel, rfl⟩)
theorem ok_35_12 : pm_ok 35 12 (24, 0, 64, .null, []) := ⟨by decide, by decide +kernel, rfl, (pm_tb 60 (by decide +kernel))⟩
theorem ok_35_13 : pm_ok 35 13 (19, 3, 4, .null, [2]) := ⟨18, RX3, TX3, 6, tyX3, by decide +kernel, rfl, rfl, by decide, pm_cw3, tyX3_ok, nmX3, by decide +kernel, Or.inr ⟨rfl, rfl, rfl, (pm_tb 41 (by decide +kernel))⟩⟩
theorem ok_35_14 : pm_ok 35 14 (1, 0, 2, .null, []) := Or.inl ⟨0, by decide +kernel, rfl, rfl⟩
theorem ok_35_15 : pm_ok 35 15 (0, 0, 0, .int 64, []) := Or.inr (Or.inl ⟨64, by decide +kernel, by decide +kernel, rfl⟩)
theorem ok_35_16 : pm_ok 35 16 (24, 0, 64, .null, []) := ⟨by decide, by decide +kernel, rfl, (pm_tb 60 (by decide +kernel))⟩
theorem ok_35_17 : pm_ok 35 17 (19, 3, 5, .null, [2]) := ⟨21, RX3, TX3, 6, tyX3, by decide +kernel, rfl, rfl, by decide, pm_cw3, tyX3_ok, nmX3, by decide +kernel, Or.inr ⟨rfl, rfl, rfl, (pm_tb 44 (by decide +kernel))⟩⟩
theorem ok_35_18 : pm_ok 35 18 (26, 0, 0, .null, []) := ⟨by decide +kernel, rfl⟩
set_option maxRecDepth 100000 in
theorem ok_35 : pm_oks 35 0 cd_X3_init := ⟨ok_35_0, ok_35_1, ok_35_2, ok_35_3, ok_35_4, ok_35_5, ok_35_6, ok_35_7, ok_35_8, ok_35_9, ok_35_10, ok_35_11, ok_35_12, ok_35_13, ok_35_14, ok_35_15, ok_35_16, ok_35_17, ok_35_18, trivial⟩
theorem ok_36_0 : pm_ok 36 0 (1, 0, 2, .null, []) := Or.inl ⟨0, by decide +kernel, rfl, rfl⟩
theorem ok_36_1 : pm_ok 36 1 (0, 0, 0, .int 0, []) := Or.inl ⟨0, by decide +kernel, rfl, rfl⟩
theorem ok_36_2 : pm_ok 36 2 (19, 3, 0, .null, [0]) := ⟨24, RX3, TX3, 6, tyX3, by decide +kernel, rfl, rfl, by decide, pm_cw3, tyX3_ok, nmX3, by decide +kernel, Or.inl ⟨rfl, Or.inl (pm_tb 30 (by decide +kernel))⟩⟩
theorem ok_36_3 : pm_ok 36 3 (1, 0, 2, .null, []) := Or.inl ⟨0, by decide +kernel, rfl, rfl⟩
theorem ok_36_4 : pm_ok 36 4 (1, 1, 0, .null, []) := Or.inl ⟨1, by decide +kernel, rfl, rfl⟩
theorem ok_36_5 : pm_ok 36 5 (19, 3, 1, .null, [0]) := ⟨28, RX3, TX3, 6, tyX3, by decide +kernel, rfl, rfl, by decide, pm_cw3, tyX3_ok, nmX3, by decide +kernel, Or.inl ⟨rfl, Or.inl (pm_tb 35 (by decide +kernel))⟩⟩
theorem ok_36_6 : pm_ok 36 6 (26, 0, 0, .null, []) := ⟨by decide +kernel, rfl⟩
set_option maxRecDepth 100000 in
theorem ok_36 : pm_oks 36 0 cd_X3_clear := ⟨ok_36_0, ok_36_1, ok_36_2, ok_36_3, ok_36_4, ok_36_5, ok_36_6, trivial⟩
theorem ok_37_0 : pm_ok 37 0 (1, 0, 2, .null, []) := Or.inl ⟨0, by decide +kernel, rfl, rfl⟩
theorem ok_37_1 : pm_ok 37 1 (18, 3, 2, .null, []) := ⟨9, RX3, TX3, 6, by decide +kernel, rfl, rfl, by decide, pm_cw3, Or.inl (pm_tb 36 (by decide +kernel))⟩
theorem ok_37_2 : pm_ok 37 2 (1, 1, 0, .null, []) := Or.inl ⟨1, by decide +kernel, rfl, rfl⟩
theorem ok_37_3 : pm_ok 37 3 (0, 0, 0, .int (-1), []) := Or.inl ⟨(-1), by decide +kernel, rfl, rfl⟩
theorem ok_37_4 : pm_ok 37 4 (21, 0, 0, .null, []) := ⟨by decide +kernel, rfl⟩
theorem ok_37_5 : pm_ok 37 5 (26, 0, 0, .null, []) := ⟨by decide +kernel, rfl⟩
set_option maxRecDepth 100000 in
theorem ok_37 : pm_oks 37 0 cd_X3_takeShut := ⟨ok_37_0, ok_37_1, ok_37_2, ok_37_3, ok_37_4, ok_37_5, trivial⟩
theorem ok_38_0 : pm_ok 38 0 (1, 2, 0, .null, []) := Or.inl ⟨2, by decide +kernel, rfl, rfl⟩
theorem ok_38_1 : pm_ok 38 1 (15, 4, 0, .null, []) := ⟨7, by decide +kernel, by decide +kernel, rfl⟩
theorem ok_38_2 : pm_ok 38 2 (0, 0, 0, .int (-1), []) := Or.inl ⟨(-1), by decide +kernel, rfl, rfl⟩
theorem ok_38_3 : pm_ok 38 3 (17, 11, 0, .null, []) := ⟨14, by decide +kernel, by decide +kernel⟩
theorem ok_38_4 : pm_ok 38 4 (1, 0, 2, .null, []) := Or.inl ⟨0, by decide +kernel, rfl, rfl⟩
theorem ok_38_5 : pm_ok 38 5 (18, 3, 2, .null, []) := ⟨9, RX3, TX3, 6, by decide +kernel, rfl, rfl, by decide, pm_cw3, Or.inl (pm_tb 36 (by decide +kernel))⟩
theorem ok_38_6 : pm_ok 38 6 (1, 1, 0, .null, []) := Or.inl ⟨1, by decide +kernel, rfl, rfl⟩
theorem ok_38_7 : pm_ok 38 7 (1, 0, 2, .null, []) := Or.inl ⟨0, by decide +kernel, rfl, rfl⟩
theorem ok_38_8 : pm_ok 38 8 (18, 3, 1, .null, []) := ⟨28, RX3, TX3, 6, by decide +kernel, rfl, rfl, by decide, pm_cw3, Or.inl (pm_tb 35 (by decide +kernel))⟩
theorem ok_38_9 : pm_ok 38 9 (4, 0, 1, .null, []) := ⟨by decide +kernel, rfl⟩
theorem ok_38_10 : pm_ok 38 10 (20, 0, 0, .null, []) := ⟨by decide +kernel, rfl⟩
theorem ok_38_11 : pm_ok 38 11 (2, 3, 0, .null, []) := Or.inl ⟨3, by decide +kernel, rfl, rfl⟩
theorem ok_38_12 : pm_ok 38 12 (1, 3, 0, .null, []) := Or.inl ⟨3, by decide +kernel, rfl, rfl⟩
theorem ok_38_13 : pm_ok 38 13 (0, 0, 0, .int (-1), []) := Or.inl ⟨(-1), by decide +kernel, rfl, rfl⟩
theorem ok_38_14 : pm_ok 38 14 (16, 38, 1, .null, []) := ⟨36, by decide +kernel, by decide +kernel, rfl⟩
theorem ok_38_15 : pm_ok 38 15 (1, 0, 2, .null, []) := Or.inl ⟨0, by decide +kernel, rfl, rfl⟩
theorem ok_38_16 : pm_ok 38 16 (11, 0, 0, .null, []) := ⟨by decide +kernel, rfl⟩
theorem ok_38_17 : pm_ok 38 17 (18, 3, 0, .null, []) := ⟨24, RX3, TX3, 6, by decide +kernel, rfl, rfl, by decide, pm_cw3, Or.inl (pm_tb 30 (by decide +kernel))⟩
theorem ok_38_18 : pm_ok 38 18 (12, 0, 0, .null, []) := ⟨by decide +kernel, rfl⟩
theorem ok_38_19 : pm_ok 38 19 (0, 0, 0, .int 1, []) := Or.inl ⟨1, by decide +kernel, rfl, rfl⟩
theorem ok_38_20 : pm_ok 38 20 (4, 0, 0, .null, []) := ⟨by decide +kernel, rfl⟩
theorem ok_38_21 : pm_ok 38 21 (19, 3, 0, .null, [0]) := ⟨24, RX3, TX3, 6, tyX3, by decide +kernel, rfl, rfl, by decide, pm_cw3, tyX3_ok, nmX3, by decide +kernel, Or.inl ⟨rfl, Or.inl (pm_tb 30 (by decide +kernel))⟩⟩
theorem ok_38_22 : pm_ok 38 22 (2, 3, 0, .null, []) := Or.inl ⟨3, by decide +kernel, rfl, rfl⟩
theorem ok_38_23 : pm_ok 38 23 (1, 0, 2, .null, []) := Or.inl ⟨0, by decide +kernel, rfl, rfl⟩
theorem ok_38_24 : pm_ok 38 24 (18, 3, 3, .null, []) := ⟨15, RX3, TX3, 6, by decide +kernel, rfl, rfl, by decide, pm_cw3, Or.inl (pm_tb 40 (by decide +kernel))⟩
theorem ok_38_25 : pm_ok 38 25 (1, 3, 0, .null, []) := Or.inl ⟨3, by decide +kernel, rfl, rfl⟩
theorem ok_38_26 : pm_ok 38 26 (1, 1, 0, .null, []) := Or.inl ⟨1, by decide +kernel, rfl, rfl⟩
theorem ok_38_27 : pm_ok 38 27 (21, 0, 0, .null, []) := ⟨by decide +kernel, rfl⟩
theorem ok_38_28 : pm_ok 38 28 (1, 0, 2, .null, []) := Or.inl ⟨0, by decide +kernel, rfl, rfl⟩
theorem ok_38_29 : pm_ok 38 29 (18, 3, 4, .null, []) := ⟨18, RX3, TX3, 6, by decide +kernel, rfl, rfl, by decide, pm_cw3, Or.inl (pm_tb 41 (by decide +kernel))⟩
theorem ok_38_30 : pm_ok 38 30 (1, 3, 0, .null, []) := Or.inl ⟨3, by decide +kernel, rfl, rfl⟩
theorem ok_38_31 : pm_ok 38 31 (0, 0, 0, .int 0, []) := Or.inl ⟨0, by decide +kernel, rfl, rfl⟩
theorem ok_38_32 : pm_ok 38 32 (21, 0, 0, .null, []) := ⟨by decide +kernel, rfl⟩
theorem ok_38_33 : pm_ok 38 33 (1, 0, 2, .null, []) := Or.inl ⟨0, by decide +kernel, rfl, rfl⟩
theorem ok_38_34 : pm_ok 38 34 (18, 3, 5, .null, []) := ⟨21, RX3, TX3, 6, by decide +kernel, rfl, rfl, by decide, pm_cw3, Or.inl (pm_tb 44 (by decide +kernel))⟩
theorem ok_38_35 : pm_ok 38 35 (1, 3, 0, .null, []) := Or.inl ⟨3, by decide +kernel, rfl, rfl⟩
theorem ok_38_36 : pm_ok 38 36 (0, 0, 0, .int 0, []) := Or.inl ⟨0, by decide +kernel, rfl, rfl⟩
theorem ok_38_37 : pm_ok 38 37 (21, 0, 0, .null, []) := ⟨by decide +kernel, rfl⟩
theorem ok_38_38 : pm_ok 38 38 (1, 0, 2, .null, []) := Or.inl ⟨0, by decide +kernel, rfl, rfl⟩
theorem ok_38_39 : pm_ok 38 39 (18, 3, 2, .null, []) := ⟨9, RX3, TX3, 6, by decide +kernel, rfl, rfl, by decide, pm_cw3, Or.inl (pm_tb 36 (by decide +kernel))⟩
theorem ok_38_40 : pm_ok 38 40 (1, 1, 0, .null, []) := Or.inl ⟨1, by decide +kernel, rfl, rfl⟩
theorem ok_38_41 : pm_ok 38 41 (1, 3, 0, .null, []) := Or.inl ⟨3, by decide +kernel, rfl, rfl⟩
theorem ok_38_42 : pm_ok 38 42 (21, 0, 0, .null, []) := ⟨by decide +kernel, rfl⟩
theorem ok_38_43 : pm_ok 38 43 (1, 0, 2, .null, []) := Or.inl ⟨0, by decide +kernel, rfl, rfl⟩
theorem ok_38_44 : pm_ok 38 44 (18, 3, 4, .null, []) := ⟨18, RX3, TX3, 6, by decide +kernel, rfl, rfl, by decide, pm_cw3, Or.inl (pm_tb 41 (by decide +kernel))⟩
theorem ok_38_45 : pm_ok 38 45 (1, 3, 0, .null, []) := Or.inl ⟨3, by decide +kernel, rfl, rfl⟩
theorem ok_38_46 : pm_ok 38 46 (13, 0, 0, .null, []) := ⟨by decide +kernel, rfl⟩
theorem ok_38_47 : pm_ok 38 47 (20, 0, 0, .null, []) := ⟨by decide +kernel, rfl⟩
theorem ok_38_48 : pm_ok 38 48 (0, 0, 0, .int 1, []) := Or.inl ⟨1, by decide +kernel, rfl, rfl⟩
theorem ok_38_49 : pm_ok 38 49 (4, 0, 0, .null, []) := ⟨by decide +kernel, rfl⟩
theorem ok_38_50 : pm_ok 38 50 (21, 0, 0, .null, []) := ⟨by decide +kernel, rfl⟩
theorem ok_38_51 : pm_ok 38 51 (26, 0, 0, .null, []) := ⟨by decide +kernel, rfl⟩
set_option maxRecDepth 100000 in
theorem ok_38 : pm_oks 38 0 cd_X3_takeOpen := ⟨ok_38_0, ok_38_1, ok_38_2, ok_38_3, ok_38_4, ok_38_5, ok_38_6, ok_38_7, ok_38_8, ok_38_9, ok_38_10, ok_38_11, ok_38_12, ok_38_13, ok_38_14, ok_38_15, ok_38_16, ok_38_17, ok_38_18, ok_38_19, ok_38_20, ok_38_21, ok_38_22, ok_38_23, ok_38_24, ok_38_25, ok_38_26, ok_38_27, ok_38_28, ok_38_29, ok_38_30, ok_38_31, ok_38_32, ok_38_33, ok_38_34, ok_38_35, ok_38_36, ok_38_37, ok_38_38, ok_38_39, ok_38_40, ok_38_41, ok_38_42, ok_38_43, ok_38_44, ok_38_45, ok_38_46, ok_38_47, ok_38_48, ok_38_49, ok_38_50, ok_38_51, trivial⟩
theorem ok_39_0 : pm_ok 39 0 (1, 0, 2, .null, []) := Or.inl ⟨0, by decide +kernel, rfl, rfl⟩
theorem ok_39_1 : pm_ok 39 1 (18, 3, 2, .null, []) := ⟨9, RX3, TX3, 6, by decide +kernel, rfl, rfl, by decide, pm_cw3, Or.inl (pm_tb 36 (by decide +kernel))⟩
theorem ok_39_2 : pm_ok 39 2 (1, 1, 0, .null, []) := Or.inl ⟨1, by decide +kernel, rfl, rfl⟩
theorem ok_39_3 : pm_ok 39 3 (20, 0, 0, .null, []) := ⟨by decide +kernel, rfl⟩
theorem ok_39_4 : pm_ok 39 4 (2, 3, 0, .null, []) := Or.inl ⟨3, by decide +kernel, rfl, rfl⟩
theorem ok_39_5 : pm_ok 39 5 (1, 3, 0, .null, []) := Or.inl ⟨3, by decide +kernel, rfl, rfl⟩
theorem ok_39_6 : pm_ok 39 6 (0, 0, 0, .int (-1), []) := Or.inl ⟨(-1), by decide +kernel, rfl, rfl⟩
theorem ok_39_7 : pm_ok 39 7 (16, 16, 0, .null, []) := ⟨13, by decide +kernel, by decide +kernel, rfl⟩
theorem ok_39_8 : pm_ok 39 8 (1, 0, 2, .null, []) := Or.inl ⟨0, by decide +kernel, rfl, rfl⟩
theorem ok_39_9 : pm_ok 39 9 (18, 3, 5, .null, []) := ⟨21, RX3, TX3, 6, by decide +kernel, rfl, rfl, by decide, pm_cw3, Or.inl (pm_tb 44 (by decide +kernel))⟩
theorem ok_39_10 : pm_ok 39 10 (1, 3, 0, .null, []) := Or.inl ⟨3, by decide +kernel, rfl, rfl⟩
theorem ok_39_11 : pm_ok 39 11 (13, 0, 0, .null, []) := ⟨by decide +kernel, rfl⟩
theorem ok_39_12 : pm_ok 39 12 (20, 0, 0, .null, []) := ⟨by decide +kernel, rfl⟩
theorem ok_39_13 : pm_ok 39 13 (1, 2, 0, .null, []) := Or.inl ⟨2, by decide +kernel, rfl, rfl⟩
theorem ok_39_14 : pm_ok 39 14 (4, 0, 0, .null, []) := ⟨by decide +kernel, rfl⟩
theorem ok_39_15 : pm_ok 39 15 (21, 0, 0, .null, []) := ⟨by decide +kernel, rfl⟩
theorem ok_39_16 : pm_ok 39 16 (26, 0, 0, .null, []) := ⟨by decide +kernel, rfl⟩
set_option maxRecDepth 100000 in
theorem ok_39 : pm_oks 39 0 cd_X3_addGuards := ⟨ok_39_0, ok_39_1, ok_39_2, ok_39_3, ok_39_4, ok_39_5, ok_39_6, ok_39_7, ok_39_8, ok_39_9, ok_39_10, ok_39_11, ok_39_12, ok_39_13, ok_39_14, ok_39_15, ok_39_16, trivial⟩
theorem ok_40_0 : pm_ok 40 0 (1, 0, 2, .null, []) := Or.inl ⟨0, by decide +kernel, rfl, rfl⟩
theorem ok_40_1 : pm_ok 40 1 (18, 3, 2, .null, []) := ⟨9, RX3, TX3, 6, by decide +kernel, rfl, rfl, by decide, pm_cw3, Or.inl (pm_tb 36 (by decide +kernel))⟩
theorem ok_40_2 : pm_ok 40 2 (1, 1, 0, .null, []) := Or.inl ⟨1, by decide +kernel, rfl, rfl⟩
theorem ok_40_3 : pm_ok 40 3 (20, 0, 0, .null, []) := ⟨by decide +kernel, rfl⟩
theorem ok_40_4 : pm_ok 40 4 (2, 2, 0, .null, []) := Or.inl ⟨2, by decide +kernel, rfl, rfl⟩
theorem ok_40_5 : pm_ok 40 5 (1, 2, 0, .null, []) := Or.inl ⟨2, by decide +kernel, rfl, rfl⟩
theorem ok_40_6 : pm_ok 40 6 (0, 0, 0, .int (-1), []) := Or.inl ⟨(-1), by decide +kernel, rfl, rfl⟩
theorem ok_40_7 : pm_ok 40 7 (16, 15, 0, .null, []) := ⟨16, by decide +kernel, by decide +kernel, rfl⟩
theorem ok_40_8 : pm_ok 40 8 (1, 0, 2, .null, []) := Or.inl ⟨0, by decide +kernel, rfl, rfl⟩
theorem ok_40_9 : pm_ok 40 9 (18, 3, 5, .null, []) := ⟨21, RX3, TX3, 6, by decide +kernel, rfl, rfl, by decide, pm_cw3, Or.inl (pm_tb 44 (by decide +kernel))⟩
theorem ok_40_10 : pm_ok 40 10 (1, 2, 0, .null, []) := Or.inl ⟨2, by decide +kernel, rfl, rfl⟩
theorem ok_40_11 : pm_ok 40 11 (20, 0, 0, .null, []) := ⟨by decide +kernel, rfl⟩
theorem ok_40_12 : pm_ok 40 12 (15, 15, 5, .null, []) := ⟨7, by decide +kernel, by decide +kernel, rfl⟩
theorem ok_40_13 : pm_ok 40 13 (0, 0, 0, .int 1, []) := Or.inl ⟨1, by decide +kernel, rfl, rfl⟩
theorem ok_40_14 : pm_ok 40 14 (17, 16, 0, .null, []) := ⟨4, by decide +kernel, by decide +kernel⟩
theorem ok_40_15 : pm_ok 40 15 (0, 0, 0, .int 0, []) := Or.inl ⟨0, by decide +kernel, rfl, rfl⟩
theorem ok_40_16 : pm_ok 40 16 (26, 2, 0, .null, []) := ⟨by decide +kernel, rfl⟩
set_option maxRecDepth 100000 in
theorem ok_40 : pm_oks 40 0 cd_X3_isWatched := ⟨ok_40_0, ok_40_1, ok_40_2, ok_40_3, ok_40_4, ok_40_5, ok_40_6, ok_40_7, ok_40_8, ok_40_9, ok_40_10, ok_40_11, ok_40_12, ok_40_13, ok_40_14, ok_40_15, ok_40_16, trivial⟩
theorem ok_41_0 : pm_ok 41 0 (1, 0, 2, .null, []) := Or.inl ⟨0, by decide +kernel, rfl, rfl⟩
theorem ok_41_1 : pm_ok 41 1 (18, 3, 2, .null, []) := ⟨9, RX3, TX3, 6, by decide +kernel, rfl, rfl, by decide, pm_cw3, Or.inl (pm_tb 36 (by decide +kernel))⟩
theorem ok_41_2 : pm_ok 41 2 (1, 1, 0, .null, []) := Or.inl ⟨1, by decide +kernel, rfl, rfl⟩
theorem ok_41_3 : pm_ok 41 3 (20, 0, 0, .null, []) := ⟨by decide +kernel, rfl⟩
theorem ok_41_4 : pm_ok 41 4 (2, 2, 0, .null, []) := Or.inl ⟨2, by decide +kernel, rfl, rfl⟩
theorem ok_41_5 : pm_ok 41 5 (1, 2, 0, .null, []) := Or.inl ⟨2, by decide +kernel, rfl, rfl⟩
theorem ok_41_6 : pm_ok 41 6 (0, 0, 0, .int (-1), []) := Or.inl ⟨(-1), by decide +kernel, rfl, rfl⟩
theorem ok_41_7 : pm_ok 41 7 (16, 10, 1, .null, []) := ⟨7, by decide +kernel, by decide +kernel, rfl⟩
theorem ok_41_8 : pm_ok 41 8 (0, 0, 0, .int 0, []) := Or.inl ⟨0, by decide +kernel, rfl, rfl⟩
theorem ok_41_9 : pm_ok 41 9 (17, 14, 0, .null, []) := ⟨9, by decide +kernel, by decide +kernel⟩
theorem ok_41_10 : pm_ok 41 10 (1, 0, 2, .null, []) := Or.inl ⟨0, by decide +kernel, rfl, rfl⟩
theorem ok_41_11 : pm_ok 41 11 (18, 3, 4, .null, []) := ⟨18, RX3, TX3, 6, by decide +kernel, rfl, rfl, by decide, pm_cw3, Or.inl (pm_tb 41 (by decide +kernel))⟩
theorem ok_41_12 : pm_ok 41 12 (1, 2, 0, .null, []) := Or.inl ⟨2, by decide +kernel, rfl, rfl⟩
theorem ok_41_13 : pm_ok 41 13 (20, 0, 0, .null, []) := ⟨by decide +kernel, rfl⟩
theorem ok_41_14 : pm_ok 41 14 (26, 1, 0, .null, []) := ⟨by decide +kernel, rfl⟩
set_option maxRecDepth 100000 in
theorem ok_41 : pm_oks 41 0 cd_X3_lengthAt := ⟨ok_41_0, ok_41_1, ok_41_2, ok_41_3, ok_41_4, ok_41_5, ok_41_6, ok_41_7, ok_41_8, ok_41_9, ok_41_10, ok_41_11, ok_41_12, ok_41_13, ok_41_14, trivial⟩
theorem ok_42_0 : pm_ok 42 0 (1, 0, 2, .null, []) := Or.inl ⟨0, by decide +kernel, rfl, rfl⟩
theorem ok_42_1 : pm_ok 42 1 (18, 3, 3, .null, []) := ⟨15, RX3, TX3, 6, by decide +kernel, rfl, rfl, by decide, pm_cw3, Or.inl (pm_tb 40 (by decide +kernel))⟩
theorem ok_42_2 : pm_ok 42 2 (1, 1, 0, .null, []) := Or.inl ⟨1, by decide +kernel, rfl, rfl⟩
theorem ok_42_3 : pm_ok 42 3 (20, 0, 0, .null, []) := ⟨by decide +kernel, rfl⟩
theorem ok_42_4 : pm_ok 42 4 (1, 2, 0, .null, []) := Or.inl ⟨2, by decide +kernel, rfl, rfl⟩
theorem ok_42_5 : pm_ok 42 5 (1, 0, 2, .null, []) := Or.inl ⟨0, by decide +kernel, rfl, rfl⟩
theorem ok_42_6 : pm_ok 42 6 (18, 3, 1, .null, []) := ⟨28, RX3, TX3, 6, by decide +kernel, rfl, rfl, by decide, pm_cw3, Or.inl (pm_tb 35 (by decide +kernel))⟩
theorem ok_42_7 : pm_ok 42 7 (4, 0, 2, .null, []) := ⟨by decide +kernel, rfl⟩
theorem ok_42_8 : pm_ok 42 8 (4, 0, 0, .null, []) := ⟨by decide +kernel, rfl⟩
theorem ok_42_9 : pm_ok 42 9 (26, 1, 0, .null, []) := ⟨by decide +kernel, rfl⟩
set_option maxRecDepth 100000 in
theorem ok_42 : pm_oks 42 0 cd_X3_cellOf := ⟨ok_42_0, ok_42_1, ok_42_2, ok_42_3, ok_42_4, ok_42_5, ok_42_6, ok_42_7, ok_42_8, ok_42_9, trivial⟩
theorem ok_43_0 : pm_ok 43 0 (1, 0, 2, .null, []) := Or.inl ⟨0, by decide +kernel, rfl, rfl⟩
theorem ok_43_1 : pm_ok 43 1 (28, 0, 0, .null, []) := ⟨3, by decide +kernel, rfl, (pm_tb 91 (by decide +kernel)), (pm_tb 16 (by decide +kernel)), (pm_tb 17 (by decide +kernel))⟩
theorem ok_43_2 : pm_ok 43 2 (1, 0, 2, .null, []) := Or.inl ⟨0, by decide +kernel, rfl, rfl⟩
theorem ok_43_3 : pm_ok 43 3 (0, 0, 0, .int 12, []) := Or.inr (Or.inl ⟨12, by decide +kernel, by decide +kernel, rfl⟩)
theorem ok_43_4 : pm_ok 43 4 (24, 2, 12, .null, []) := ⟨by decide, by decide +kernel, rfl, (pm_tb 108 (by decide +kernel))⟩
theorem ok_43_5 : pm_ok 43 5 (19, 4, 3, .null, [2]) := ⟨9, RX4, TX4, 5, tyX4, by decide +kernel, rfl, rfl, by decide, pm_cw4, tyX4_ok, nmX4, by decide +kernel, Or.inr ⟨rfl, rfl, rfl, (pm_tb 95 (by decide +kernel))⟩⟩
theorem ok_43_6 : pm_ok 43 6 (1, 0, 2, .null, []) := Or.inl ⟨0, by decide +kernel, rfl, rfl⟩
theorem ok_43_7 : pm_ok 43 7 (1, 1, 2, .null, []) := Or.inl ⟨1, by decide +kernel, rfl, rfl⟩
theorem ok_43_8 : pm_ok 43 8 (19, 4, 4, .null, [2]) := ⟨15, RX4, TX4, 5, tyX4, by decide +kernel, rfl, rfl, by decide, pm_cw4, tyX4_ok, nmX4, by decide +kernel, Or.inr ⟨rfl, rfl, rfl, (pm_tb 96 (by decide +kernel))⟩⟩
theorem ok_43_9 : pm_ok 43 9 (26, 0, 0, .null, []) := ⟨by decide +kernel, rfl⟩
set_option maxRecDepth 100000 in
theorem ok_43 : pm_oks 43 0 cd_X4_init := ⟨ok_43_0, ok_43_1, ok_43_2, ok_43_3, ok_43_4, ok_43_5, ok_43_6, ok_43_7, ok_43_8, ok_43_9, trivial⟩
theorem ok_44_0 : pm_ok 44 0 (1, 0, 2, .null, []) := Or.inl ⟨0, by decide +kernel, rfl, rfl⟩
theorem ok_44_1 : pm_ok 44 1 (1, 1, 2, .null, []) := Or.inl ⟨1, by decide +kernel, rfl, rfl⟩
theorem ok_44_2 : pm_ok 44 2 (19, 4, 0, .null, [2]) := ⟨19, RX4, TX4, 5, tyX4, by decide +kernel, rfl, rfl, by decide, pm_cw4, tyX4_ok, nmX4, by decide +kernel, Or.inl ⟨rfl, Or.inl (pm_tb 92 (by decide +kernel))⟩⟩
theorem ok_44_3 : pm_ok 44 3 (1, 0, 2, .null, []) := Or.inl ⟨0, by decide +kernel, rfl, rfl⟩
theorem ok_44_4 : pm_ok 44 4 (1, 2, 2, .null, []) := Or.inl ⟨2, by decide +kernel, rfl, rfl⟩
theorem ok_44_5 : pm_ok 44 5 (19, 4, 1, .null, [2]) := ⟨23, RX4, TX4, 5, tyX4, by decide +kernel, rfl, rfl, by decide, pm_cw4, tyX4_ok, nmX4, by decide +kernel, Or.inl ⟨rfl, Or.inl (pm_tb 93 (by decide +kernel))⟩⟩
theorem ok_44_6 : pm_ok 44 6 (1, 0, 2, .null, []) := Or.inl ⟨0, by decide +kernel, rfl, rfl⟩
theorem ok_44_7 : pm_ok 44 7 (0, 0, 0, .int 0, []) := Or.inl ⟨0, by decide +kernel, rfl, rfl⟩
theorem ok_44_8 : pm_ok 44 8 (19, 4, 2, .null, [0]) := ⟨26, RX4, TX4, 5, tyX4, by decide +kernel, rfl, rfl, by decide, pm_cw4, tyX4_ok, nmX4, by decide +kernel, Or.inl ⟨rfl, Or.inl (pm_tb 94 (by decide +kernel))⟩⟩
theorem ok_44_9 : pm_ok 44 9 (0, 0, 0, .int 0, []) := Or.inl ⟨0, by decide +kernel, rfl, rfl⟩
theorem ok_44_10 : pm_ok 44 10 (2, 3, 0, .null, []) := Or.inl ⟨3, by decide +kernel, rfl, rfl⟩
theorem ok_44_11 : pm_ok 44 11 (1, 3, 0, .null, []) := Or.inl ⟨3, by decide +kernel, rfl, rfl⟩
theorem ok_44_12 : pm_ok 44 12 (1, 0, 2, .null, []) := Or.inl ⟨0, by decide +kernel, rfl, rfl⟩
theorem ok_44_13 : pm_ok 44 13 (18, 4, 0, .null, []) := ⟨19, RX4, TX4, 5, by decide +kernel, rfl, rfl, by decide, pm_cw4, Or.inl (pm_tb 92 (by decide +kernel))⟩
theorem ok_44_14 : pm_ok 44 14 (18, 3, 0, .null, []) := ⟨30, RX3, TX3, 6, by decide +kernel, rfl, rfl, by decide, pm_cw3, Or.inr ⟨"GuardPacks", (pm_tb 31 (by decide +kernel))⟩⟩
theorem ok_44_15 : pm_ok 44 15 (16, 41, 3, .null, []) := ⟨47, by decide +kernel, by decide +kernel, rfl⟩
theorem ok_44_16 : pm_ok 44 16 (1, 3, 0, .null, []) := Or.inl ⟨3, by decide +kernel, rfl, rfl⟩
theorem ok_44_17 : pm_ok 44 17 (0, 0, 0, .int 12, []) := Or.inr (Or.inl ⟨12, by decide +kernel, by decide +kernel, rfl⟩)
theorem ok_44_18 : pm_ok 44 18 (16, 41, 3, .null, []) := ⟨41, by decide +kernel, by decide +kernel, rfl⟩
theorem ok_44_19 : pm_ok 44 19 (1, 0, 2, .null, []) := Or.inl ⟨0, by decide +kernel, rfl, rfl⟩
theorem ok_44_20 : pm_ok 44 20 (18, 4, 3, .null, []) := ⟨9, RX4, TX4, 5, by decide +kernel, rfl, rfl, by decide, pm_cw4, Or.inl (pm_tb 95 (by decide +kernel))⟩
theorem ok_44_21 : pm_ok 44 21 (1, 3, 0, .null, []) := Or.inl ⟨3, by decide +kernel, rfl, rfl⟩
theorem ok_44_22 : pm_ok 44 22 (1, 0, 2, .null, []) := Or.inl ⟨0, by decide +kernel, rfl, rfl⟩
theorem ok_44_23 : pm_ok 44 23 (1, 3, 0, .null, []) := Or.inl ⟨3, by decide +kernel, rfl, rfl⟩
theorem ok_44_24 : pm_ok 44 24 (25, 45, 2, .null, [4]) := ⟨35, by decide, rfl, Or.inl (pm_tb 323 (by decide +kernel)), Or.inl ⟨by decide +kernel, 4, TX4, 5, rfl, rfl, by decide, by decide +kernel, (pm_tb 325 (by decide +kernel)), (pm_tp 22 (by decide +kernel))⟩⟩
theorem ok_44_25 : pm_ok 44 25 (21, 0, 2, .null, []) := ⟨by decide +kernel, rfl⟩
theorem ok_44_26 : pm_ok 44 26 (1, 0, 2, .null, []) := Or.inl ⟨0, by decide +kernel, rfl, rfl⟩
theorem ok_44_27 : pm_ok 44 27 (18, 4, 3, .null, []) := ⟨9, RX4, TX4, 5, by decide +kernel, rfl, rfl, by decide, pm_cw4, Or.inl (pm_tb 95 (by decide +kernel))⟩
theorem ok_44_28 : pm_ok 44 28 (1, 3, 0, .null, []) := Or.inl ⟨3, by decide +kernel, rfl, rfl⟩
theorem ok_44_29 : pm_ok 44 29 (20, 0, 2, .null, []) := ⟨by decide +kernel, rfl⟩
theorem ok_44_30 : pm_ok 44 30 (0, 0, 0, .long 0, []) := Or.inr (Or.inr (Or.inr (Or.inl ⟨0, by decide +kernel, by decide +kernel, rfl⟩)))
theorem ok_44_31 : pm_ok 44 31 (10, 0, 0, .null, []) := ⟨by decide +kernel, rfl⟩
theorem ok_44_32 : pm_ok 44 32 (15, 39, 0, .null, []) := ⟨13, by decide +kernel, by decide +kernel, rfl⟩
theorem ok_44_33 : pm_ok 44 33 (1, 0, 2, .null, []) := Or.inl ⟨0, by decide +kernel, rfl, rfl⟩
theorem ok_44_34 : pm_ok 44 34 (11, 0, 0, .null, []) := ⟨by decide +kernel, rfl⟩
theorem ok_44_35 : pm_ok 44 35 (18, 4, 2, .null, []) := ⟨26, RX4, TX4, 5, by decide +kernel, rfl, rfl, by decide, pm_cw4, Or.inl (pm_tb 94 (by decide +kernel))⟩
theorem ok_44_36 : pm_ok 44 36 (0, 0, 0, .int 1, []) := Or.inl ⟨1, by decide +kernel, rfl, rfl⟩
theorem ok_44_37 : pm_ok 44 37 (4, 0, 0, .null, []) := ⟨by decide +kernel, rfl⟩
theorem ok_44_38 : pm_ok 44 38 (19, 4, 2, .null, [0]) := ⟨26, RX4, TX4, 5, tyX4, by decide +kernel, rfl, rfl, by decide, pm_cw4, tyX4_ok, nmX4, by decide +kernel, Or.inl ⟨rfl, Or.inl (pm_tb 94 (by decide +kernel))⟩⟩
theorem ok_44_39 : pm_ok 44 39 (3, 3, 0, .int 1, []) := ⟨1, by decide +kernel, rfl, rfl⟩
theorem ok_44_40 : pm_ok 44 40 (17, 11, 0, .null, []) := ⟨(-52), by decide +kernel, by decide +kernel⟩
theorem ok_44_41 : pm_ok 44 41 (1, 0, 2, .null, []) := Or.inl ⟨0, by decide +kernel, rfl, rfl⟩
theorem ok_44_42 : pm_ok 44 42 (0, 0, 0, .int 0, []) := Or.inl ⟨0, by decide +kernel, rfl, rfl⟩
theorem ok_44_43 : pm_ok 44 43 (0, 0, 0, .long 0, []) := Or.inr (Or.inr (Or.inr (Or.inl ⟨0, by decide +kernel, by decide +kernel, rfl⟩)))
theorem ok_44_44 : pm_ok 44 44 (0, 0, 0, .long 0, []) := Or.inr (Or.inr (Or.inr (Or.inl ⟨0, by decide +kernel, by decide +kernel, rfl⟩)))
theorem ok_44_45 : pm_ok 44 45 (25, 46, 4, .null, [4]) := ⟨39, by decide, rfl, Or.inl (pm_tb 331 (by decide +kernel)), Or.inl ⟨by decide +kernel, 4, TX4, 5, rfl, rfl, by decide, by decide +kernel, (pm_tb 333 (by decide +kernel)), (pm_tp 24 (by decide +kernel))⟩⟩
theorem ok_44_46 : pm_ok 44 46 (1, 0, 2, .null, []) := Or.inl ⟨0, by decide +kernel, rfl, rfl⟩
theorem ok_44_47 : pm_ok 44 47 (18, 4, 2, .null, []) := ⟨26, RX4, TX4, 5, by decide +kernel, rfl, rfl, by decide, pm_cw4, Or.inl (pm_tb 94 (by decide +kernel))⟩
theorem ok_44_48 : pm_ok 44 48 (26, 1, 0, .null, []) := ⟨by decide +kernel, rfl⟩
set_option maxRecDepth 100000 in
theorem ok_44 : pm_oks 44 0 cd_X4_leastGuards := ⟨ok_44_0, ok_44_1, ok_44_2, ok_44_3, ok_44_4, ok_44_5, ok_44_6, ok_44_7, ok_44_8, ok_44_9, ok_44_10, ok_44_11, ok_44_12, ok_44_13, ok_44_14, ok_44_15, ok_44_16, ok_44_17, ok_44_18, ok_44_19, ok_44_20, ok_44_21, ok_44_22, ok_44_23, ok_44_24, ok_44_25, ok_44_26, ok_44_27, ok_44_28, ok_44_29, ok_44_30, ok_44_31, ok_44_32, ok_44_33, ok_44_34, ok_44_35, ok_44_36, ok_44_37, ok_44_38, ok_44_39, ok_44_40, ok_44_41, ok_44_42, ok_44_43, ok_44_44, ok_44_45, ok_44_46, ok_44_47, ok_44_48, trivial⟩
theorem ok_45_0 : pm_ok 45 0 (0, 0, 0, .long 0, []) := Or.inr (Or.inr (Or.inr (Or.inl ⟨0, by decide +kernel, by decide +kernel, rfl⟩)))
theorem ok_45_1 : pm_ok 45 1 (2, 2, 1, .null, []) := Or.inl ⟨2, by decide +kernel, rfl, rfl⟩
theorem ok_45_2 : pm_ok 45 2 (1, 0, 2, .null, []) := Or.inl ⟨0, by decide +kernel, rfl, rfl⟩
theorem ok_45_3 : pm_ok 45 3 (18, 4, 0, .null, []) := ⟨19, RX4, TX4, 5, by decide +kernel, rfl, rfl, by decide, pm_cw4, Or.inl (pm_tb 92 (by decide +kernel))⟩
theorem ok_45_4 : pm_ok 45 4 (18, 3, 5, .null, []) := ⟨43, RX3, TX3, 6, by decide +kernel, rfl, rfl, by decide, pm_cw3, Or.inr ⟨"GuardPacks", (pm_tb 45 (by decide +kernel))⟩⟩
theorem ok_45_5 : pm_ok 45 5 (1, 1, 0, .null, []) := Or.inl ⟨1, by decide +kernel, rfl, rfl⟩
theorem ok_45_6 : pm_ok 45 6 (20, 0, 0, .null, []) := ⟨by decide +kernel, rfl⟩
theorem ok_45_7 : pm_ok 45 7 (15, 10, 5, .null, []) := ⟨5, by decide +kernel, by decide +kernel, rfl⟩
theorem ok_45_8 : pm_ok 45 8 (1, 2, 1, .null, []) := Or.inl ⟨2, by decide +kernel, rfl, rfl⟩
theorem ok_45_9 : pm_ok 45 9 (26, 3, 0, .null, []) := ⟨by decide +kernel, rfl⟩
theorem ok_45_10 : pm_ok 45 10 (0, 0, 0, .int 0, []) := Or.inl ⟨0, by decide +kernel, rfl, rfl⟩
theorem ok_45_11 : pm_ok 45 11 (2, 4, 0, .null, []) := Or.inr ⟨by decide +kernel, rfl⟩
theorem ok_45_12 : pm_ok 45 12 (1, 4, 0, .null, []) := Or.inr ⟨by decide +kernel, rfl⟩
theorem ok_45_13 : pm_ok 45 13 (1, 0, 2, .null, []) := Or.inl ⟨0, by decide +kernel, rfl, rfl⟩
theorem ok_45_14 : pm_ok 45 14 (18, 4, 0, .null, []) := ⟨19, RX4, TX4, 5, by decide +kernel, rfl, rfl, by decide, pm_cw4, Or.inl (pm_tb 92 (by decide +kernel))⟩
theorem ok_45_15 : pm_ok 45 15 (18, 3, 4, .null, []) := ⟨47, RX3, TX3, 6, by decide +kernel, rfl, rfl, by decide, pm_cw3, Or.inr ⟨"GuardPacks", (pm_tb 42 (by decide +kernel))⟩⟩
theorem ok_45_16 : pm_ok 45 16 (1, 1, 0, .null, []) := Or.inl ⟨1, by decide +kernel, rfl, rfl⟩
theorem ok_45_17 : pm_ok 45 17 (20, 0, 0, .null, []) := ⟨by decide +kernel, rfl⟩
theorem ok_45_18 : pm_ok 45 18 (16, 46, 3, .null, []) := ⟨55, by decide +kernel, by decide +kernel, rfl⟩
theorem ok_45_19 : pm_ok 45 19 (1, 0, 2, .null, []) := Or.inl ⟨0, by decide +kernel, rfl, rfl⟩
theorem ok_45_20 : pm_ok 45 20 (18, 4, 1, .null, []) := ⟨23, RX4, TX4, 5, by decide +kernel, rfl, rfl, by decide, pm_cw4, Or.inl (pm_tb 93 (by decide +kernel))⟩
theorem ok_45_21 : pm_ok 45 21 (18, 3, 2, .null, []) := ⟨50, RX3, TX3, 6, by decide +kernel, rfl, rfl, by decide, pm_cw3, Or.inr ⟨"GuardPacks", (pm_tb 37 (by decide +kernel))⟩⟩
theorem ok_45_22 : pm_ok 45 22 (1, 0, 2, .null, []) := Or.inl ⟨0, by decide +kernel, rfl, rfl⟩
theorem ok_45_23 : pm_ok 45 23 (18, 4, 0, .null, []) := ⟨19, RX4, TX4, 5, by decide +kernel, rfl, rfl, by decide, pm_cw4, Or.inl (pm_tb 92 (by decide +kernel))⟩
theorem ok_45_24 : pm_ok 45 24 (1, 1, 0, .null, []) := Or.inl ⟨1, by decide +kernel, rfl, rfl⟩
theorem ok_45_25 : pm_ok 45 25 (1, 4, 0, .null, []) := Or.inr ⟨by decide +kernel, rfl⟩
theorem ok_45_26 : pm_ok 45 26 (25, 42, 3, .null, [3]) := ⟨53, by decide, rfl, Or.inr ⟨"GuardPacks", (pm_tb 327 (by decide +kernel))⟩, Or.inl ⟨by decide +kernel, 3, TX3, 6, rfl, rfl, by decide, by decide +kernel, (pm_tb 329 (by decide +kernel)), (pm_tp 23 (by decide +kernel))⟩⟩
theorem ok_45_27 : pm_ok 45 27 (20, 0, 0, .null, []) := ⟨by decide +kernel, rfl⟩
theorem ok_45_28 : pm_ok 45 28 (2, 5, 0, .null, []) := Or.inr ⟨by decide +kernel, rfl⟩
theorem ok_45_29 : pm_ok 45 29 (1, 5, 0, .null, []) := Or.inr ⟨by decide +kernel, rfl⟩
theorem ok_45_30 : pm_ok 45 30 (0, 0, 0, .int (-1), []) := Or.inl ⟨(-1), by decide +kernel, rfl, rfl⟩
theorem ok_45_31 : pm_ok 45 31 (16, 44, 0, .null, []) := ⟨23, by decide +kernel, by decide +kernel, rfl⟩
theorem ok_45_32 : pm_ok 45 32 (1, 0, 2, .null, []) := Or.inl ⟨0, by decide +kernel, rfl, rfl⟩
theorem ok_45_33 : pm_ok 45 33 (18, 4, 1, .null, []) := ⟨23, RX4, TX4, 5, by decide +kernel, rfl, rfl, by decide, pm_cw4, Or.inl (pm_tb 93 (by decide +kernel))⟩
theorem ok_45_34 : pm_ok 45 34 (18, 3, 5, .null, []) := ⟨43, RX3, TX3, 6, by decide +kernel, rfl, rfl, by decide, pm_cw3, Or.inr ⟨"GuardPacks", (pm_tb 45 (by decide +kernel))⟩⟩
theorem ok_45_35 : pm_ok 45 35 (1, 5, 0, .null, []) := Or.inr ⟨by decide +kernel, rfl⟩
theorem ok_45_36 : pm_ok 45 36 (20, 0, 0, .null, []) := ⟨by decide +kernel, rfl⟩
theorem ok_45_37 : pm_ok 45 37 (15, 44, 1, .null, []) := ⟨10, by decide +kernel, by decide +kernel, rfl⟩
theorem ok_45_38 : pm_ok 45 38 (1, 2, 1, .null, []) := Or.inl ⟨2, by decide +kernel, rfl, rfl⟩
theorem ok_45_39 : pm_ok 45 39 (0, 0, 0, .long 1, []) := Or.inr (Or.inr (Or.inr (Or.inl ⟨1, by decide +kernel, by decide +kernel, rfl⟩)))
theorem ok_45_40 : pm_ok 45 40 (1, 5, 0, .null, []) := Or.inr ⟨by decide +kernel, rfl⟩
theorem ok_45_41 : pm_ok 45 41 (7, 0, 0, .null, []) := ⟨by decide +kernel, rfl⟩
theorem ok_45_42 : pm_ok 45 42 (6, 0, 4, .null, []) := ⟨by decide +kernel, rfl⟩
theorem ok_45_43 : pm_ok 45 43 (2, 2, 1, .null, []) := Or.inl ⟨2, by decide +kernel, rfl, rfl⟩
theorem ok_45_44 : pm_ok 45 44 (3, 4, 0, .int 1, []) := ⟨1, by decide +kernel, rfl, rfl⟩
theorem ok_45_45 : pm_ok 45 45 (17, 12, 0, .null, []) := ⟨(-63), by decide +kernel, by decide +kernel⟩
theorem ok_45_46 : pm_ok 45 46 (1, 2, 1, .null, []) := Or.inl ⟨2, by decide +kernel, rfl, rfl⟩
theorem ok_45_47 : pm_ok 45 47 (26, 3, 0, .null, []) := ⟨by decide +kernel, rfl⟩
set_option maxRecDepth 100000 in
theorem ok_45 : pm_oks 45 0 cd_X4_findUnseenFar := ⟨ok_45_0, ok_45_1, ok_45_2, ok_45_3, ok_45_4, ok_45_5, ok_45_6, ok_45_7, ok_45_8, ok_45_9, ok_45_10, ok_45_11, ok_45_12, ok_45_13, ok_45_14, ok_45_15, ok_45_16, ok_45_17, ok_45_18, ok_45_19, ok_45_20, ok_45_21, ok_45_22, ok_45_23, ok_45_24, ok_45_25, ok_45_26, ok_45_27, ok_45_28, ok_45_29, ok_45_30, ok_45_31, ok_45_32, ok_45_33, ok_45_34, ok_45_35, ok_45_36, ok_45_37, ok_45_38, ok_45_39, ok_45_40, ok_45_41, ok_45_42, ok_45_43, ok_45_44, ok_45_45, ok_45_46, ok_45_47, trivial⟩
theorem ok_46_0 : pm_ok 46 0 (1, 2, 1, .null, []) := Or.inl ⟨2, by decide +kernel, rfl, rfl⟩
theorem ok_46_1 : pm_ok 46 1 (25, 105, 1, .null, []) := ⟨57, by decide, rfl, Or.inl (pm_tb 335 (by decide +kernel)), Or.inr (Or.inr ⟨by decide +kernel, rfl, by decide +kernel, (pm_tb 336 (by decide +kernel))⟩)⟩
theorem ok_46_2 : pm_ok 46 2 (2, 6, 0, .null, []) := Or.inr ⟨by decide +kernel, rfl⟩
theorem ok_46_3 : pm_ok 46 3 (1, 4, 1, .null, []) := Or.inr ⟨by decide +kernel, rfl⟩
theorem ok_46_4 : pm_ok 46 4 (25, 105, 1, .null, []) := ⟨57, by decide, rfl, Or.inl (pm_tb 335 (by decide +kernel)), Or.inr (Or.inr ⟨by decide +kernel, rfl, by decide +kernel, (pm_tb 336 (by decide +kernel))⟩)⟩
theorem ok_46_5 : pm_ok 46 5 (2, 7, 0, .null, []) := Or.inr ⟨by decide +kernel, rfl⟩
theorem ok_46_6 : pm_ok 46 6 (1, 6, 0, .null, []) := Or.inr ⟨by decide +kernel, rfl⟩
theorem ok_46_7 : pm_ok 46 7 (1, 0, 2, .null, []) := Or.inl ⟨0, by decide +kernel, rfl, rfl⟩
theorem ok_46_8 : pm_ok 46 8 (18, 4, 2, .null, []) := ⟨26, RX4, TX4, 5, by decide +kernel, rfl, rfl, by decide, pm_cw4, Or.inl (pm_tb 94 (by decide +kernel))⟩
theorem ok_46_9 : pm_ok 46 9 (16, 14, 3, .null, []) := ⟨12, by decide +kernel, by decide +kernel, rfl⟩
theorem ok_46_10 : pm_ok 46 10 (1, 7, 0, .null, []) := Or.inr ⟨by decide +kernel, rfl⟩
theorem ok_46_11 : pm_ok 46 11 (1, 0, 2, .null, []) := Or.inl ⟨0, by decide +kernel, rfl, rfl⟩
theorem ok_46_12 : pm_ok 46 12 (18, 4, 2, .null, []) := ⟨26, RX4, TX4, 5, by decide +kernel, rfl, rfl, by decide, pm_cw4, Or.inl (pm_tb 94 (by decide +kernel))⟩
theorem ok_46_13 : pm_ok 46 13 (16, 15, 2, .null, []) := ⟨4, by decide +kernel, by decide +kernel, rfl⟩
theorem ok_46_14 : pm_ok 46 14 (26, 0, 0, .null, []) := ⟨by decide +kernel, rfl⟩
theorem ok_46_15 : pm_ok 46 15 (1, 1, 0, .null, []) := Or.inl ⟨1, by decide +kernel, rfl, rfl⟩
theorem ok_46_16 : pm_ok 46 16 (1, 0, 2, .null, []) := Or.inl ⟨0, by decide +kernel, rfl, rfl⟩
theorem ok_46_17 : pm_ok 46 17 (18, 4, 0, .null, []) := ⟨19, RX4, TX4, 5, by decide +kernel, rfl, rfl, by decide, pm_cw4, Or.inl (pm_tb 92 (by decide +kernel))⟩
theorem ok_46_18 : pm_ok 46 18 (18, 3, 0, .null, []) := ⟨30, RX3, TX3, 6, by decide +kernel, rfl, rfl, by decide, pm_cw3, Or.inr ⟨"GuardPacks", (pm_tb 31 (by decide +kernel))⟩⟩
theorem ok_46_19 : pm_ok 46 19 (16, 23, 3, .null, []) := ⟨9, by decide +kernel, by decide +kernel, rfl⟩
theorem ok_46_20 : pm_ok 46 20 (1, 1, 0, .null, []) := Or.inl ⟨1, by decide +kernel, rfl, rfl⟩
theorem ok_46_21 : pm_ok 46 21 (0, 0, 0, .int 12, []) := Or.inr (Or.inl ⟨12, by decide +kernel, by decide +kernel, rfl⟩)
theorem ok_46_22 : pm_ok 46 22 (16, 44, 2, .null, []) := ⟨43, by decide +kernel, by decide +kernel, rfl⟩
theorem ok_46_23 : pm_ok 46 23 (1, 6, 0, .null, []) := Or.inr ⟨by decide +kernel, rfl⟩
theorem ok_46_24 : pm_ok 46 24 (1, 7, 0, .null, []) := Or.inr ⟨by decide +kernel, rfl⟩
theorem ok_46_25 : pm_ok 46 25 (4, 0, 0, .null, []) := ⟨by decide +kernel, rfl⟩
theorem ok_46_26 : pm_ok 46 26 (1, 0, 2, .null, []) := Or.inl ⟨0, by decide +kernel, rfl, rfl⟩
theorem ok_46_27 : pm_ok 46 27 (18, 4, 4, .null, []) := ⟨15, RX4, TX4, 5, by decide +kernel, rfl, rfl, by decide, pm_cw4, Or.inl (pm_tb 96 (by decide +kernel))⟩
theorem ok_46_28 : pm_ok 46 28 (1, 0, 2, .null, []) := Or.inl ⟨0, by decide +kernel, rfl, rfl⟩
theorem ok_46_29 : pm_ok 46 29 (18, 4, 0, .null, []) := ⟨19, RX4, TX4, 5, by decide +kernel, rfl, rfl, by decide, pm_cw4, Or.inl (pm_tb 92 (by decide +kernel))⟩
theorem ok_46_30 : pm_ok 46 30 (1, 0, 2, .null, []) := Or.inl ⟨0, by decide +kernel, rfl, rfl⟩
theorem ok_46_31 : pm_ok 46 31 (18, 4, 1, .null, []) := ⟨23, RX4, TX4, 5, by decide +kernel, rfl, rfl, by decide, pm_cw4, Or.inl (pm_tb 93 (by decide +kernel))⟩
theorem ok_46_32 : pm_ok 46 32 (1, 2, 1, .null, []) := Or.inl ⟨2, by decide +kernel, rfl, rfl⟩
theorem ok_46_33 : pm_ok 46 33 (1, 4, 1, .null, []) := Or.inr ⟨by decide +kernel, rfl⟩
theorem ok_46_34 : pm_ok 46 34 (25, 32, 5, .null, [2]) := ⟨63, by decide, rfl, Or.inr ⟨"GuardPacks", (pm_tb 341 (by decide +kernel))⟩, Or.inl ⟨by decide +kernel, 2, TX2, 6, rfl, rfl, by decide, by decide +kernel, (pm_tb 343 (by decide +kernel)), (pm_tp 25 (by decide +kernel))⟩⟩
theorem ok_46_35 : pm_ok 46 35 (4, 0, 1, .null, []) := ⟨by decide +kernel, rfl⟩
theorem ok_46_36 : pm_ok 46 36 (2, 8, 0, .null, []) := Or.inr ⟨by decide +kernel, rfl⟩
theorem ok_46_37 : pm_ok 46 37 (1, 0, 2, .null, []) := Or.inl ⟨0, by decide +kernel, rfl, rfl⟩
theorem ok_46_38 : pm_ok 46 38 (1, 0, 2, .null, []) := Or.inl ⟨0, by decide +kernel, rfl, rfl⟩
theorem ok_46_39 : pm_ok 46 39 (18, 4, 2, .null, []) := ⟨26, RX4, TX4, 5, by decide +kernel, rfl, rfl, by decide, pm_cw4, Or.inl (pm_tb 94 (by decide +kernel))⟩
theorem ok_46_40 : pm_ok 46 40 (1, 8, 0, .null, []) := Or.inr ⟨by decide +kernel, rfl⟩
theorem ok_46_41 : pm_ok 46 41 (30, 0, 0, .null, []) := ⟨69, by decide +kernel, rfl, (pm_tb 355 (by decide +kernel)), (pm_tb 356 (by decide +kernel)), (pm_tb 357 (by decide +kernel)), (pm_tb 9 (by decide +kernel))⟩
theorem ok_46_42 : pm_ok 46 42 (19, 4, 2, .null, [0]) := ⟨26, RX4, TX4, 5, tyX4, by decide +kernel, rfl, rfl, by decide, pm_cw4, tyX4_ok, nmX4, by decide +kernel, Or.inl ⟨rfl, Or.inl (pm_tb 94 (by decide +kernel))⟩⟩
theorem ok_46_43 : pm_ok 46 43 (26, 0, 0, .null, []) := ⟨by decide +kernel, rfl⟩
theorem ok_46_44 : pm_ok 46 44 (1, 4, 1, .null, []) := Or.inr ⟨by decide +kernel, rfl⟩
theorem ok_46_45 : pm_ok 46 45 (1, 0, 2, .null, []) := Or.inl ⟨0, by decide +kernel, rfl, rfl⟩
theorem ok_46_46 : pm_ok 46 46 (18, 4, 3, .null, []) := ⟨9, RX4, TX4, 5, by decide +kernel, rfl, rfl, by decide, pm_cw4, Or.inl (pm_tb 95 (by decide +kernel))⟩
theorem ok_46_47 : pm_ok 46 47 (1, 1, 0, .null, []) := Or.inl ⟨1, by decide +kernel, rfl, rfl⟩
theorem ok_46_48 : pm_ok 46 48 (20, 0, 2, .null, []) := ⟨by decide +kernel, rfl⟩
theorem ok_46_49 : pm_ok 46 49 (6, 0, 4, .null, []) := ⟨by decide +kernel, rfl⟩
theorem ok_46_50 : pm_ok 46 50 (2, 8, 1, .null, []) := Or.inr ⟨by decide +kernel, rfl⟩
theorem ok_46_51 : pm_ok 46 51 (1, 0, 2, .null, []) := Or.inl ⟨0, by decide +kernel, rfl, rfl⟩
theorem ok_46_52 : pm_ok 46 52 (1, 1, 0, .null, []) := Or.inl ⟨1, by decide +kernel, rfl, rfl⟩
theorem ok_46_53 : pm_ok 46 53 (0, 0, 0, .int 1, []) := Or.inl ⟨1, by decide +kernel, rfl, rfl⟩
theorem ok_46_54 : pm_ok 46 54 (4, 0, 0, .null, []) := ⟨by decide +kernel, rfl⟩
theorem ok_46_55 : pm_ok 46 55 (1, 2, 1, .null, []) := Or.inl ⟨2, by decide +kernel, rfl, rfl⟩
theorem ok_46_56 : pm_ok 46 56 (1, 8, 1, .null, []) := Or.inr ⟨by decide +kernel, rfl⟩
theorem ok_46_57 : pm_ok 46 57 (25, 46, 4, .null, [4]) := ⟨39, by decide, rfl, Or.inl (pm_tb 331 (by decide +kernel)), Or.inl ⟨by decide +kernel, 4, TX4, 5, rfl, rfl, by decide, by decide +kernel, (pm_tb 333 (by decide +kernel)), (pm_tp 24 (by decide +kernel))⟩⟩
theorem ok_46_58 : pm_ok 46 58 (1, 8, 1, .null, []) := Or.inr ⟨by decide +kernel, rfl⟩
theorem ok_46_59 : pm_ok 46 59 (1, 4, 1, .null, []) := Or.inr ⟨by decide +kernel, rfl⟩
theorem ok_46_60 : pm_ok 46 60 (10, 0, 0, .null, []) := ⟨by decide +kernel, rfl⟩
theorem ok_46_61 : pm_ok 46 61 (15, 73, 0, .null, []) := ⟨17, by decide +kernel, by decide +kernel, rfl⟩
theorem ok_46_62 : pm_ok 46 62 (1, 0, 2, .null, []) := Or.inl ⟨0, by decide +kernel, rfl, rfl⟩
theorem ok_46_63 : pm_ok 46 63 (1, 1, 0, .null, []) := Or.inl ⟨1, by decide +kernel, rfl, rfl⟩
theorem ok_46_64 : pm_ok 46 64 (0, 0, 0, .int 1, []) := Or.inl ⟨1, by decide +kernel, rfl, rfl⟩
theorem ok_46_65 : pm_ok 46 65 (4, 0, 0, .null, []) := ⟨by decide +kernel, rfl⟩
theorem ok_46_66 : pm_ok 46 66 (1, 2, 1, .null, []) := Or.inl ⟨2, by decide +kernel, rfl, rfl⟩
theorem ok_46_67 : pm_ok 46 67 (0, 0, 0, .long 1, []) := Or.inr (Or.inr (Or.inr (Or.inl ⟨1, by decide +kernel, by decide +kernel, rfl⟩)))
theorem ok_46_68 : pm_ok 46 68 (1, 1, 0, .null, []) := Or.inl ⟨1, by decide +kernel, rfl, rfl⟩
theorem ok_46_69 : pm_ok 46 69 (7, 0, 0, .null, []) := ⟨by decide +kernel, rfl⟩
theorem ok_46_70 : pm_ok 46 70 (6, 0, 4, .null, []) := ⟨by decide +kernel, rfl⟩
theorem ok_46_71 : pm_ok 46 71 (1, 4, 1, .null, []) := Or.inr ⟨by decide +kernel, rfl⟩
theorem ok_46_72 : pm_ok 46 72 (25, 46, 4, .null, [4]) := ⟨39, by decide, rfl, Or.inl (pm_tb 331 (by decide +kernel)), Or.inl ⟨by decide +kernel, 4, TX4, 5, rfl, rfl, by decide, by decide +kernel, (pm_tb 333 (by decide +kernel)), (pm_tp 24 (by decide +kernel))⟩⟩
theorem ok_46_73 : pm_ok 46 73 (26, 0, 0, .null, []) := ⟨by decide +kernel, rfl⟩
set_option maxRecDepth 100000 in
theorem ok_46 : pm_oks 46 0 cd_X4_choose := ⟨ok_46_0, ok_46_1, ok_46_2, ok_46_3, ok_46_4, ok_46_5, ok_46_6, ok_46_7, ok_46_8, ok_46_9, ok_46_10, ok_46_11, ok_46_12, ok_46_13, ok_46_14, ok_46_15, ok_46_16, ok_46_17, ok_46_18, ok_46_19, ok_46_20, ok_46_21, ok_46_22, ok_46_23, ok_46_24, ok_46_25, ok_46_26, ok_46_27, ok_46_28, ok_46_29, ok_46_30, ok_46_31, ok_46_32, ok_46_33, ok_46_34, ok_46_35, ok_46_36, ok_46_37, ok_46_38, ok_46_39, ok_46_40, ok_46_41, ok_46_42, ok_46_43, ok_46_44, ok_46_45, ok_46_46, ok_46_47, ok_46_48, ok_46_49, ok_46_50, ok_46_51, ok_46_52, ok_46_53, ok_46_54, ok_46_55, ok_46_56, ok_46_57, ok_46_58, ok_46_59, ok_46_60, ok_46_61, ok_46_62, ok_46_63, ok_46_64, ok_46_65, ok_46_66, ok_46_67, ok_46_68, ok_46_69, ok_46_70, ok_46_71, ok_46_72, ok_46_73, trivial⟩
theorem ok_47_0 : pm_ok 47 0 (1, 0, 2, .null, []) := Or.inl ⟨0, by decide +kernel, rfl, rfl⟩
theorem ok_47_1 : pm_ok 47 1 (28, 0, 0, .null, []) := ⟨3, by decide +kernel, rfl, (pm_tb 15 (by decide +kernel)), (pm_tb 16 (by decide +kernel)), (pm_tb 17 (by decide +kernel))⟩
theorem ok_47_2 : pm_ok 47 2 (1, 0, 2, .null, []) := Or.inl ⟨0, by decide +kernel, rfl, rfl⟩
theorem ok_47_3 : pm_ok 47 3 (23, 1, 0, .null, []) := ⟨9, RX1, TX1, 9, tyX1, by decide +kernel, rfl, rfl, pm_cw1, tyX1_ok, pm_dfX1, rfl, (pm_tb 18 (by decide +kernel)), (pm_tb 19 (by decide +kernel)), (pm_tb 2 (by decide +kernel))⟩
theorem ok_47_4 : pm_ok 47 4 (11, 0, 0, .null, []) := ⟨by decide +kernel, rfl⟩
theorem ok_47_5 : pm_ok 47 5 (25, 15, 1, .null, [1]) := ⟨11, by decide, rfl, Or.inr ⟨"GuardPacks", (pm_tb 20 (by decide +kernel))⟩, Or.inr (Or.inl ⟨by decide +kernel, 1, rfl, rfl, rfl, by decide, by decide +kernel, (pm_tb 21 (by decide +kernel))⟩)⟩
theorem ok_47_6 : pm_ok 47 6 (19, 5, 0, .null, [2]) := ⟨12, RX5, TX5, 2, tyX5, by decide +kernel, rfl, rfl, by decide, pm_cw5, tyX5_ok, nmX5, by decide +kernel, Or.inr ⟨rfl, rfl, rfl, (pm_tb 214 (by decide +kernel))⟩⟩
theorem ok_47_7 : pm_ok 47 7 (1, 0, 2, .null, []) := Or.inl ⟨0, by decide +kernel, rfl, rfl⟩
theorem ok_47_8 : pm_ok 47 8 (23, 0, 0, .null, []) := ⟨16, RX0, TX0, 9, tyX0, by decide +kernel, rfl, rfl, pm_cw0, tyX0_ok, pm_dfX0, rfl, (pm_tb 171 (by decide +kernel)), (pm_tb 172 (by decide +kernel)), (pm_tb 6 (by decide +kernel))⟩
theorem ok_47_9 : pm_ok 47 9 (11, 0, 0, .null, []) := ⟨by decide +kernel, rfl⟩
theorem ok_47_10 : pm_ok 47 10 (25, 0, 1, .null, [0]) := ⟨18, by decide, rfl, Or.inr ⟨"GuardPacks", (pm_tb 173 (by decide +kernel))⟩, Or.inr (Or.inl ⟨by decide +kernel, 0, rfl, rfl, rfl, by decide, by decide +kernel, (pm_tb 174 (by decide +kernel))⟩)⟩
theorem ok_47_11 : pm_ok 47 11 (19, 5, 1, .null, [2]) := ⟨19, RX5, TX5, 2, tyX5, by decide +kernel, rfl, rfl, by decide, pm_cw5, tyX5_ok, nmX5, by decide +kernel, Or.inr ⟨rfl, rfl, rfl, (pm_tb 215 (by decide +kernel))⟩⟩
theorem ok_47_12 : pm_ok 47 12 (26, 0, 0, .null, []) := ⟨by decide +kernel, rfl⟩
set_option maxRecDepth 100000 in
theorem ok_47 : pm_oks 47 0 cd_X5_init := ⟨ok_47_0, ok_47_1, ok_47_2, ok_47_3, ok_47_4, ok_47_5, ok_47_6, ok_47_7, ok_47_8, ok_47_9, ok_47_10, ok_47_11, ok_47_12, trivial⟩
theorem ok_48_0 : pm_ok 48 0 (1, 1, 0, .null, []) := Or.inl ⟨1, by decide +kernel, rfl, rfl⟩
theorem ok_48_1 : pm_ok 48 1 (0, 0, 0, .int 1, []) := Or.inl ⟨1, by decide +kernel, rfl, rfl⟩
theorem ok_48_2 : pm_ok 48 2 (0, 0, 0, .int 8, []) := Or.inr (Or.inl ⟨8, by decide +kernel, by decide +kernel, rfl⟩)
theorem ok_48_3 : pm_ok 48 3 (25, 67, 3, .null, []) := ⟨23, by decide, rfl, Or.inl (pm_tb 225 (by decide +kernel)), Or.inr (Or.inr ⟨by decide +kernel, rfl, by decide +kernel, (pm_tb 226 (by decide +kernel))⟩)⟩
theorem ok_48_4 : pm_ok 48 4 (15, 10, 0, .null, []) := ⟨13, by decide +kernel, by decide +kernel, rfl⟩
theorem ok_48_5 : pm_ok 48 5 (1, 2, 0, .null, []) := Or.inl ⟨2, by decide +kernel, rfl, rfl⟩
theorem ok_48_6 : pm_ok 48 6 (0, 0, 0, .int 1, []) := Or.inl ⟨1, by decide +kernel, rfl, rfl⟩
theorem ok_48_7 : pm_ok 48 7 (0, 0, 0, .int 8, []) := Or.inr (Or.inl ⟨8, by decide +kernel, by decide +kernel, rfl⟩)
theorem ok_48_8 : pm_ok 48 8 (25, 67, 3, .null, []) := ⟨23, by decide, rfl, Or.inl (pm_tb 225 (by decide +kernel)), Or.inr (Or.inr ⟨by decide +kernel, rfl, by decide +kernel, (pm_tb 226 (by decide +kernel))⟩)⟩
theorem ok_48_9 : pm_ok 48 9 (15, 12, 1, .null, []) := ⟨6, by decide +kernel, by decide +kernel, rfl⟩
theorem ok_48_10 : pm_ok 48 10 (0, 0, 0, .int (-2), []) := Or.inr (Or.inl ⟨(-2), by decide +kernel, by decide +kernel, rfl⟩)
theorem ok_48_11 : pm_ok 48 11 (26, 1, 0, .null, []) := ⟨by decide +kernel, rfl⟩
theorem ok_48_12 : pm_ok 48 12 (1, 0, 2, .null, []) := Or.inl ⟨0, by decide +kernel, rfl, rfl⟩
theorem ok_48_13 : pm_ok 48 13 (18, 5, 0, .null, []) := ⟨12, RX5, TX5, 2, by decide +kernel, rfl, rfl, by decide, pm_cw5, Or.inl (pm_tb 214 (by decide +kernel))⟩
theorem ok_48_14 : pm_ok 48 14 (1, 1, 0, .null, []) := Or.inl ⟨1, by decide +kernel, rfl, rfl⟩
theorem ok_48_15 : pm_ok 48 15 (1, 2, 0, .null, []) := Or.inl ⟨2, by decide +kernel, rfl, rfl⟩
theorem ok_48_16 : pm_ok 48 16 (25, 16, 3, .null, [1]) := ⟨27, by decide, rfl, Or.inr ⟨"GuardPacks", (pm_tb 228 (by decide +kernel))⟩, Or.inl ⟨by decide +kernel, 1, TX1, 9, rfl, rfl, by decide, by decide +kernel, (pm_tb 111 (by decide +kernel)), (pm_tp 0 (by decide +kernel))⟩⟩
theorem ok_48_17 : pm_ok 48 17 (1, 1, 0, .null, []) := Or.inl ⟨1, by decide +kernel, rfl, rfl⟩
theorem ok_48_18 : pm_ok 48 18 (1, 2, 0, .null, []) := Or.inl ⟨2, by decide +kernel, rfl, rfl⟩
theorem ok_48_19 : pm_ok 48 19 (4, 0, 2, .null, []) := ⟨by decide +kernel, rfl⟩
theorem ok_48_20 : pm_ok 48 20 (26, 1, 0, .null, []) := ⟨by decide +kernel, rfl⟩
set_option maxRecDepth 100000 in
theorem ok_48 : pm_oks 48 0 cd_X5_hall := ⟨ok_48_0, ok_48_1, ok_48_2, ok_48_3, ok_48_4, ok_48_5, ok_48_6, ok_48_7, ok_48_8, ok_48_9, ok_48_10, ok_48_11, ok_48_12, ok_48_13, ok_48_14, ok_48_15, ok_48_16, ok_48_17, ok_48_18, ok_48_19, ok_48_20, trivial⟩
theorem ok_49_0 : pm_ok 49 0 (1, 0, 2, .null, []) := Or.inl ⟨0, by decide +kernel, rfl, rfl⟩
theorem ok_49_1 : pm_ok 49 1 (18, 5, 0, .null, []) := ⟨12, RX5, TX5, 2, by decide +kernel, rfl, rfl, by decide, pm_cw5, Or.inl (pm_tb 214 (by decide +kernel))⟩
theorem ok_49_2 : pm_ok 49 2 (1, 1, 0, .null, []) := Or.inl ⟨1, by decide +kernel, rfl, rfl⟩
theorem ok_49_3 : pm_ok 49 3 (1, 2, 0, .null, []) := Or.inl ⟨2, by decide +kernel, rfl, rfl⟩
theorem ok_49_4 : pm_ok 49 4 (25, 17, 3, .null, [1]) := ⟨31, by decide, rfl, Or.inr ⟨"GuardPacks", (pm_tb 233 (by decide +kernel))⟩, Or.inl ⟨by decide +kernel, 1, TX1, 9, rfl, rfl, by decide, by decide +kernel, (pm_tb 235 (by decide +kernel)), (pm_tp 9 (by decide +kernel))⟩⟩
theorem ok_49_5 : pm_ok 49 5 (15, 8, 1, .null, []) := ⟨6, by decide +kernel, by decide +kernel, rfl⟩
theorem ok_49_6 : pm_ok 49 6 (0, 0, 0, .int (-2), []) := Or.inr (Or.inl ⟨(-2), by decide +kernel, by decide +kernel, rfl⟩)
theorem ok_49_7 : pm_ok 49 7 (26, 1, 0, .null, []) := ⟨by decide +kernel, rfl⟩
theorem ok_49_8 : pm_ok 49 8 (1, 0, 2, .null, []) := Or.inl ⟨0, by decide +kernel, rfl, rfl⟩
theorem ok_49_9 : pm_ok 49 9 (18, 5, 0, .null, []) := ⟨12, RX5, TX5, 2, by decide +kernel, rfl, rfl, by decide, pm_cw5, Or.inl (pm_tb 214 (by decide +kernel))⟩
theorem ok_49_10 : pm_ok 49 10 (1, 1, 0, .null, []) := Or.inl ⟨1, by decide +kernel, rfl, rfl⟩
theorem ok_49_11 : pm_ok 49 11 (1, 2, 0, .null, []) := Or.inl ⟨2, by decide +kernel, rfl, rfl⟩
theorem ok_49_12 : pm_ok 49 12 (25, 18, 3, .null, [1]) := ⟨35, by decide, rfl, Or.inr ⟨"GuardPacks", (pm_tb 238 (by decide +kernel))⟩, Or.inl ⟨by decide +kernel, 1, TX1, 9, rfl, rfl, by decide, by decide +kernel, (pm_tb 127 (by decide +kernel)), (pm_tp 4 (by decide +kernel))⟩⟩
theorem ok_49_13 : pm_ok 49 13 (2, 4, 0, .null, []) := Or.inr ⟨by decide +kernel, rfl⟩
theorem ok_49_14 : pm_ok 49 14 (1, 0, 2, .null, []) := Or.inl ⟨0, by decide +kernel, rfl, rfl⟩
theorem ok_49_15 : pm_ok 49 15 (18, 5, 0, .null, []) := ⟨12, RX5, TX5, 2, by decide +kernel, rfl, rfl, by decide, pm_cw5, Or.inl (pm_tb 214 (by decide +kernel))⟩
theorem ok_49_16 : pm_ok 49 16 (18, 1, 4, .null, []) := ⟨39, RX1, TX1, 9, by decide +kernel, rfl, rfl, by decide, pm_cw1, Or.inr ⟨"GuardPacks", (pm_tb 147 (by decide +kernel))⟩⟩
theorem ok_49_17 : pm_ok 49 17 (1, 4, 0, .null, []) := Or.inr ⟨by decide +kernel, rfl⟩
theorem ok_49_18 : pm_ok 49 18 (20, 0, 1, .null, []) := ⟨by decide +kernel, rfl⟩
theorem ok_49_19 : pm_ok 49 19 (15, 22, 0, .null, []) := ⟨6, by decide +kernel, by decide +kernel, rfl⟩
theorem ok_49_20 : pm_ok 49 20 (0, 0, 0, .int (-3), []) := Or.inr (Or.inl ⟨(-3), by decide +kernel, by decide +kernel, rfl⟩)
theorem ok_49_21 : pm_ok 49 21 (26, 1, 0, .null, []) := ⟨by decide +kernel, rfl⟩
theorem ok_49_22 : pm_ok 49 22 (1, 0, 2, .null, []) := Or.inl ⟨0, by decide +kernel, rfl, rfl⟩
theorem ok_49_23 : pm_ok 49 23 (18, 5, 0, .null, []) := ⟨12, RX5, TX5, 2, by decide +kernel, rfl, rfl, by decide, pm_cw5, Or.inl (pm_tb 214 (by decide +kernel))⟩
theorem ok_49_24 : pm_ok 49 24 (1, 4, 0, .null, []) := Or.inr ⟨by decide +kernel, rfl⟩
theorem ok_49_25 : pm_ok 49 25 (1, 3, 0, .null, []) := Or.inl ⟨3, by decide +kernel, rfl, rfl⟩
theorem ok_49_26 : pm_ok 49 26 (25, 22, 3, .null, [1]) := ⟨43, by decide, rfl, Or.inr ⟨"GuardPacks", (pm_tb 239 (by decide +kernel))⟩, Or.inl ⟨by decide +kernel, 1, TX1, 9, rfl, rfl, by decide, by decide +kernel, (pm_tb 241 (by decide +kernel)), (pm_tp 10 (by decide +kernel))⟩⟩
theorem ok_49_27 : pm_ok 49 27 (15, 30, 0, .null, []) := ⟨7, by decide +kernel, by decide +kernel, rfl⟩
theorem ok_49_28 : pm_ok 49 28 (0, 0, 0, .int 1, []) := Or.inl ⟨1, by decide +kernel, rfl, rfl⟩
theorem ok_49_29 : pm_ok 49 29 (17, 31, 0, .null, []) := ⟨4, by decide +kernel, by decide +kernel⟩
theorem ok_49_30 : pm_ok 49 30 (0, 0, 0, .int 0, []) := Or.inl ⟨0, by decide +kernel, rfl, rfl⟩
theorem ok_49_31 : pm_ok 49 31 (26, 1, 0, .null, []) := ⟨by decide +kernel, rfl⟩
set_option maxRecDepth 100000 in
theorem ok_49 : pm_oks 49 0 cd_X5_wall := ⟨ok_49_0, ok_49_1, ok_49_2, ok_49_3, ok_49_4, ok_49_5, ok_49_6, ok_49_7, ok_49_8, ok_49_9, ok_49_10, ok_49_11, ok_49_12, ok_49_13, ok_49_14, ok_49_15, ok_49_16, ok_49_17, ok_49_18, ok_49_19, ok_49_20, ok_49_21, ok_49_22, ok_49_23, ok_49_24, ok_49_25, ok_49_26, ok_49_27, ok_49_28, ok_49_29, ok_49_30, ok_49_31, trivial⟩
theorem ok_50_0 : pm_ok 50 0 (1, 0, 2, .null, []) := Or.inl ⟨0, by decide +kernel, rfl, rfl⟩
theorem ok_50_1 : pm_ok 50 1 (18, 5, 0, .null, []) := ⟨12, RX5, TX5, 2, by decide +kernel, rfl, rfl, by decide, pm_cw5, Or.inl (pm_tb 214 (by decide +kernel))⟩
theorem ok_50_2 : pm_ok 50 2 (1, 1, 0, .null, []) := Or.inl ⟨1, by decide +kernel, rfl, rfl⟩
theorem ok_50_3 : pm_ok 50 3 (1, 2, 0, .null, []) := Or.inl ⟨2, by decide +kernel, rfl, rfl⟩
theorem ok_50_4 : pm_ok 50 4 (25, 17, 3, .null, [1]) := ⟨31, by decide, rfl, Or.inr ⟨"GuardPacks", (pm_tb 233 (by decide +kernel))⟩, Or.inl ⟨by decide +kernel, 1, TX1, 9, rfl, rfl, by decide, by decide +kernel, (pm_tb 235 (by decide +kernel)), (pm_tp 9 (by decide +kernel))⟩⟩
theorem ok_50_5 : pm_ok 50 5 (15, 8, 1, .null, []) := ⟨6, by decide +kernel, by decide +kernel, rfl⟩
theorem ok_50_6 : pm_ok 50 6 (0, 0, 0, .int (-2), []) := Or.inr (Or.inl ⟨(-2), by decide +kernel, by decide +kernel, rfl⟩)
theorem ok_50_7 : pm_ok 50 7 (26, 1, 0, .null, []) := ⟨by decide +kernel, rfl⟩
theorem ok_50_8 : pm_ok 50 8 (1, 0, 2, .null, []) := Or.inl ⟨0, by decide +kernel, rfl, rfl⟩
theorem ok_50_9 : pm_ok 50 9 (18, 5, 0, .null, []) := ⟨12, RX5, TX5, 2, by decide +kernel, rfl, rfl, by decide, pm_cw5, Or.inl (pm_tb 214 (by decide +kernel))⟩
theorem ok_50_10 : pm_ok 50 10 (1, 1, 0, .null, []) := Or.inl ⟨1, by decide +kernel, rfl, rfl⟩
theorem ok_50_11 : pm_ok 50 11 (1, 2, 0, .null, []) := Or.inl ⟨2, by decide +kernel, rfl, rfl⟩
theorem ok_50_12 : pm_ok 50 12 (25, 18, 3, .null, [1]) := ⟨35, by decide, rfl, Or.inr ⟨"GuardPacks", (pm_tb 238 (by decide +kernel))⟩, Or.inl ⟨by decide +kernel, 1, TX1, 9, rfl, rfl, by decide, by decide +kernel, (pm_tb 127 (by decide +kernel)), (pm_tp 4 (by decide +kernel))⟩⟩
theorem ok_50_13 : pm_ok 50 13 (2, 3, 0, .null, []) := Or.inl ⟨3, by decide +kernel, rfl, rfl⟩
theorem ok_50_14 : pm_ok 50 14 (1, 0, 2, .null, []) := Or.inl ⟨0, by decide +kernel, rfl, rfl⟩
theorem ok_50_15 : pm_ok 50 15 (18, 5, 0, .null, []) := ⟨12, RX5, TX5, 2, by decide +kernel, rfl, rfl, by decide, pm_cw5, Or.inl (pm_tb 214 (by decide +kernel))⟩
theorem ok_50_16 : pm_ok 50 16 (18, 1, 3, .null, []) := ⟨47, RX1, TX1, 9, by decide +kernel, rfl, rfl, by decide, pm_cw1, Or.inr ⟨"GuardPacks", (pm_tb 145 (by decide +kernel))⟩⟩
theorem ok_50_17 : pm_ok 50 17 (1, 3, 0, .null, []) := Or.inl ⟨3, by decide +kernel, rfl, rfl⟩
theorem ok_50_18 : pm_ok 50 18 (20, 0, 1, .null, []) := ⟨by decide +kernel, rfl⟩
theorem ok_50_19 : pm_ok 50 19 (15, 26, 0, .null, []) := ⟨15, by decide +kernel, by decide +kernel, rfl⟩
theorem ok_50_20 : pm_ok 50 20 (1, 0, 2, .null, []) := Or.inl ⟨0, by decide +kernel, rfl, rfl⟩
theorem ok_50_21 : pm_ok 50 21 (18, 5, 0, .null, []) := ⟨12, RX5, TX5, 2, by decide +kernel, rfl, rfl, by decide, pm_cw5, Or.inl (pm_tb 214 (by decide +kernel))⟩
theorem ok_50_22 : pm_ok 50 22 (18, 1, 4, .null, []) := ⟨39, RX1, TX1, 9, by decide +kernel, rfl, rfl, by decide, pm_cw1, Or.inr ⟨"GuardPacks", (pm_tb 147 (by decide +kernel))⟩⟩
theorem ok_50_23 : pm_ok 50 23 (1, 3, 0, .null, []) := Or.inl ⟨3, by decide +kernel, rfl, rfl⟩
theorem ok_50_24 : pm_ok 50 24 (20, 0, 1, .null, []) := ⟨by decide +kernel, rfl⟩
theorem ok_50_25 : pm_ok 50 25 (15, 28, 0, .null, []) := ⟨6, by decide +kernel, by decide +kernel, rfl⟩
theorem ok_50_26 : pm_ok 50 26 (0, 0, 0, .int (-3), []) := Or.inr (Or.inl ⟨(-3), by decide +kernel, by decide +kernel, rfl⟩)
theorem ok_50_27 : pm_ok 50 27 (26, 1, 0, .null, []) := ⟨by decide +kernel, rfl⟩
theorem ok_50_28 : pm_ok 50 28 (1, 0, 2, .null, []) := Or.inl ⟨0, by decide +kernel, rfl, rfl⟩
theorem ok_50_29 : pm_ok 50 29 (18, 5, 0, .null, []) := ⟨12, RX5, TX5, 2, by decide +kernel, rfl, rfl, by decide, pm_cw5, Or.inl (pm_tb 214 (by decide +kernel))⟩
theorem ok_50_30 : pm_ok 50 30 (1, 3, 0, .null, []) := Or.inl ⟨3, by decide +kernel, rfl, rfl⟩
theorem ok_50_31 : pm_ok 50 31 (0, 0, 0, .int 1, []) := Or.inl ⟨1, by decide +kernel, rfl, rfl⟩
theorem ok_50_32 : pm_ok 50 32 (25, 23, 3, .null, [1]) := ⟨50, by decide, rfl, Or.inr ⟨"GuardPacks", (pm_tb 247 (by decide +kernel))⟩, Or.inl ⟨by decide +kernel, 1, TX1, 9, rfl, rfl, by decide, by decide +kernel, (pm_tb 249 (by decide +kernel)), (pm_tp 11 (by decide +kernel))⟩⟩
theorem ok_50_33 : pm_ok 50 33 (26, 1, 0, .null, []) := ⟨by decide +kernel, rfl⟩
set_option maxRecDepth 100000 in
theorem ok_50 : pm_oks 50 0 cd_X5_guard := ⟨ok_50_0, ok_50_1, ok_50_2, ok_50_3, ok_50_4, ok_50_5, ok_50_6, ok_50_7, ok_50_8, ok_50_9, ok_50_10, ok_50_11, ok_50_12, ok_50_13, ok_50_14, ok_50_15, ok_50_16, ok_50_17, ok_50_18, ok_50_19, ok_50_20, ok_50_21, ok_50_22, ok_50_23, ok_50_24, ok_50_25, ok_50_26, ok_50_27, ok_50_28, ok_50_29, ok_50_30, ok_50_31, ok_50_32, ok_50_33, trivial⟩
end
section
theorem ok_51_0 : pm_ok 51 0 (1, 0, 2, .null, []) := Or.inl ⟨0, by decide +kernel, rfl, rfl⟩
theorem ok_51_1 : pm_ok 51 1 (18, 5, 0, .null, []) := ⟨12, RX5, TX5, 2, by decide +kernel, rfl, rfl, by decide, pm_cw5, Or.inl (pm_tb 214 (by decide +kernel))⟩
theorem ok_51_2 : pm_ok 51 2 (1, 1, 0, .null, []) := Or.inl ⟨1, by decide +kernel, rfl, rfl⟩
theorem ok_51_3 : pm_ok 51 3 (1, 2, 0, .null, []) := Or.inl ⟨2, by decide +kernel, rfl, rfl⟩
theorem ok_51_4 : pm_ok 51 4 (25, 17, 3, .null, [1]) := ⟨31, by decide, rfl, Or.inr ⟨"GuardPacks", (pm_tb 233 (by decide +kernel))⟩, Or.inl ⟨by decide +kernel, 1, TX1, 9, rfl, rfl, by decide, by decide +kernel, (pm_tb 235 (by decide +kernel)), (pm_tp 9 (by decide +kernel))⟩⟩
theorem ok_51_5 : pm_ok 51 5 (15, 8, 1, .null, []) := ⟨6, by decide +kernel, by decide +kernel, rfl⟩
theorem ok_51_6 : pm_ok 51 6 (0, 0, 0, .int (-2), []) := Or.inr (Or.inl ⟨(-2), by decide +kernel, by decide +kernel, rfl⟩)
theorem ok_51_7 : pm_ok 51 7 (26, 1, 0, .null, []) := ⟨by decide +kernel, rfl⟩
theorem ok_51_8 : pm_ok 51 8 (1, 0, 2, .null, []) := Or.inl ⟨0, by decide +kernel, rfl, rfl⟩
theorem ok_51_9 : pm_ok 51 9 (18, 5, 0, .null, []) := ⟨12, RX5, TX5, 2, by decide +kernel, rfl, rfl, by decide, pm_cw5, Or.inl (pm_tb 214 (by decide +kernel))⟩
theorem ok_51_10 : pm_ok 51 10 (1, 1, 0, .null, []) := Or.inl ⟨1, by decide +kernel, rfl, rfl⟩
theorem ok_51_11 : pm_ok 51 11 (1, 2, 0, .null, []) := Or.inl ⟨2, by decide +kernel, rfl, rfl⟩
theorem ok_51_12 : pm_ok 51 12 (25, 18, 3, .null, [1]) := ⟨35, by decide, rfl, Or.inr ⟨"GuardPacks", (pm_tb 238 (by decide +kernel))⟩, Or.inl ⟨by decide +kernel, 1, TX1, 9, rfl, rfl, by decide, by decide +kernel, (pm_tb 127 (by decide +kernel)), (pm_tp 4 (by decide +kernel))⟩⟩
theorem ok_51_13 : pm_ok 51 13 (2, 3, 0, .null, []) := Or.inl ⟨3, by decide +kernel, rfl, rfl⟩
theorem ok_51_14 : pm_ok 51 14 (1, 0, 2, .null, []) := Or.inl ⟨0, by decide +kernel, rfl, rfl⟩
theorem ok_51_15 : pm_ok 51 15 (18, 5, 0, .null, []) := ⟨12, RX5, TX5, 2, by decide +kernel, rfl, rfl, by decide, pm_cw5, Or.inl (pm_tb 214 (by decide +kernel))⟩
theorem ok_51_16 : pm_ok 51 16 (18, 1, 4, .null, []) := ⟨39, RX1, TX1, 9, by decide +kernel, rfl, rfl, by decide, pm_cw1, Or.inr ⟨"GuardPacks", (pm_tb 147 (by decide +kernel))⟩⟩
theorem ok_51_17 : pm_ok 51 17 (1, 3, 0, .null, []) := Or.inl ⟨3, by decide +kernel, rfl, rfl⟩
theorem ok_51_18 : pm_ok 51 18 (20, 0, 1, .null, []) := ⟨by decide +kernel, rfl⟩
theorem ok_51_19 : pm_ok 51 19 (15, 22, 1, .null, []) := ⟨6, by decide +kernel, by decide +kernel, rfl⟩
theorem ok_51_20 : pm_ok 51 20 (0, 0, 0, .int (-3), []) := Or.inr (Or.inl ⟨(-3), by decide +kernel, by decide +kernel, rfl⟩)
theorem ok_51_21 : pm_ok 51 21 (26, 1, 0, .null, []) := ⟨by decide +kernel, rfl⟩
theorem ok_51_22 : pm_ok 51 22 (1, 0, 2, .null, []) := Or.inl ⟨0, by decide +kernel, rfl, rfl⟩
theorem ok_51_23 : pm_ok 51 23 (18, 5, 0, .null, []) := ⟨12, RX5, TX5, 2, by decide +kernel, rfl, rfl, by decide, pm_cw5, Or.inl (pm_tb 214 (by decide +kernel))⟩
theorem ok_51_24 : pm_ok 51 24 (1, 3, 0, .null, []) := Or.inl ⟨3, by decide +kernel, rfl, rfl⟩
theorem ok_51_25 : pm_ok 51 25 (0, 0, 0, .int 0, []) := Or.inl ⟨0, by decide +kernel, rfl, rfl⟩
theorem ok_51_26 : pm_ok 51 26 (25, 23, 3, .null, [1]) := ⟨50, by decide, rfl, Or.inr ⟨"GuardPacks", (pm_tb 247 (by decide +kernel))⟩, Or.inl ⟨by decide +kernel, 1, TX1, 9, rfl, rfl, by decide, by decide +kernel, (pm_tb 249 (by decide +kernel)), (pm_tp 11 (by decide +kernel))⟩⟩
theorem ok_51_27 : pm_ok 51 27 (26, 1, 0, .null, []) := ⟨by decide +kernel, rfl⟩
set_option maxRecDepth 100000 in
theorem ok_51 : pm_oks 51 0 cd_X5_leave := ⟨ok_51_0, ok_51_1, ok_51_2, ok_51_3, ok_51_4, ok_51_5, ok_51_6, ok_51_7, ok_51_8, ok_51_9, ok_51_10, ok_51_11, ok_51_12, ok_51_13, ok_51_14, ok_51_15, ok_51_16, ok_51_17, ok_51_18, ok_51_19, ok_51_20, ok_51_21, ok_51_22, ok_51_23, ok_51_24, ok_51_25, ok_51_26, ok_51_27, trivial⟩
theorem ok_52_0 : pm_ok 52 0 (1, 0, 2, .null, []) := Or.inl ⟨0, by decide +kernel, rfl, rfl⟩
theorem ok_52_1 : pm_ok 52 1 (18, 5, 0, .null, []) := ⟨12, RX5, TX5, 2, by decide +kernel, rfl, rfl, by decide, pm_cw5, Or.inl (pm_tb 214 (by decide +kernel))⟩
theorem ok_52_2 : pm_ok 52 2 (1, 1, 0, .null, []) := Or.inl ⟨1, by decide +kernel, rfl, rfl⟩
theorem ok_52_3 : pm_ok 52 3 (1, 2, 0, .null, []) := Or.inl ⟨2, by decide +kernel, rfl, rfl⟩
theorem ok_52_4 : pm_ok 52 4 (25, 17, 3, .null, [1]) := ⟨31, by decide, rfl, Or.inr ⟨"GuardPacks", (pm_tb 233 (by decide +kernel))⟩, Or.inl ⟨by decide +kernel, 1, TX1, 9, rfl, rfl, by decide, by decide +kernel, (pm_tb 235 (by decide +kernel)), (pm_tp 9 (by decide +kernel))⟩⟩
theorem ok_52_5 : pm_ok 52 5 (15, 8, 1, .null, []) := ⟨6, by decide +kernel, by decide +kernel, rfl⟩
theorem ok_52_6 : pm_ok 52 6 (0, 0, 0, .int (-2), []) := Or.inr (Or.inl ⟨(-2), by decide +kernel, by decide +kernel, rfl⟩)
theorem ok_52_7 : pm_ok 52 7 (26, 1, 0, .null, []) := ⟨by decide +kernel, rfl⟩
theorem ok_52_8 : pm_ok 52 8 (1, 0, 2, .null, []) := Or.inl ⟨0, by decide +kernel, rfl, rfl⟩
theorem ok_52_9 : pm_ok 52 9 (18, 5, 0, .null, []) := ⟨12, RX5, TX5, 2, by decide +kernel, rfl, rfl, by decide, pm_cw5, Or.inl (pm_tb 214 (by decide +kernel))⟩
theorem ok_52_10 : pm_ok 52 10 (1, 0, 2, .null, []) := Or.inl ⟨0, by decide +kernel, rfl, rfl⟩
theorem ok_52_11 : pm_ok 52 11 (18, 5, 0, .null, []) := ⟨12, RX5, TX5, 2, by decide +kernel, rfl, rfl, by decide, pm_cw5, Or.inl (pm_tb 214 (by decide +kernel))⟩
theorem ok_52_12 : pm_ok 52 12 (1, 1, 0, .null, []) := Or.inl ⟨1, by decide +kernel, rfl, rfl⟩
theorem ok_52_13 : pm_ok 52 13 (1, 2, 0, .null, []) := Or.inl ⟨2, by decide +kernel, rfl, rfl⟩
theorem ok_52_14 : pm_ok 52 14 (25, 18, 3, .null, [1]) := ⟨35, by decide, rfl, Or.inr ⟨"GuardPacks", (pm_tb 238 (by decide +kernel))⟩, Or.inl ⟨by decide +kernel, 1, TX1, 9, rfl, rfl, by decide, by decide +kernel, (pm_tb 127 (by decide +kernel)), (pm_tp 4 (by decide +kernel))⟩⟩
theorem ok_52_15 : pm_ok 52 15 (25, 25, 2, .null, [1]) := ⟨54, by decide, rfl, Or.inr ⟨"GuardPacks", (pm_tb 259 (by decide +kernel))⟩, Or.inl ⟨by decide +kernel, 1, TX1, 9, rfl, rfl, by decide, by decide +kernel, (pm_tb 261 (by decide +kernel)), (pm_tp 12 (by decide +kernel))⟩⟩
theorem ok_52_16 : pm_ok 52 16 (26, 1, 0, .null, []) := ⟨by decide +kernel, rfl⟩
set_option maxRecDepth 100000 in
theorem ok_52 : pm_oks 52 0 cd_X5_cell := ⟨ok_52_0, ok_52_1, ok_52_2, ok_52_3, ok_52_4, ok_52_5, ok_52_6, ok_52_7, ok_52_8, ok_52_9, ok_52_10, ok_52_11, ok_52_12, ok_52_13, ok_52_14, ok_52_15, ok_52_16, trivial⟩
theorem ok_53_0 : pm_ok 53 0 (1, 1, 0, .null, []) := Or.inl ⟨1, by decide +kernel, rfl, rfl⟩
theorem ok_53_1 : pm_ok 53 1 (0, 0, 0, .int 0, []) := Or.inl ⟨0, by decide +kernel, rfl, rfl⟩
theorem ok_53_2 : pm_ok 53 2 (0, 0, 0, .int 1, []) := Or.inl ⟨1, by decide +kernel, rfl, rfl⟩
theorem ok_53_3 : pm_ok 53 3 (25, 67, 3, .null, []) := ⟨23, by decide, rfl, Or.inl (pm_tb 225 (by decide +kernel)), Or.inr (Or.inr ⟨by decide +kernel, rfl, by decide +kernel, (pm_tb 226 (by decide +kernel))⟩)⟩
theorem ok_53_4 : pm_ok 53 4 (15, 7, 1, .null, []) := ⟨6, by decide +kernel, by decide +kernel, rfl⟩
theorem ok_53_5 : pm_ok 53 5 (0, 0, 0, .int (-2), []) := Or.inr (Or.inl ⟨(-2), by decide +kernel, by decide +kernel, rfl⟩)
theorem ok_53_6 : pm_ok 53 6 (26, 1, 0, .null, []) := ⟨by decide +kernel, rfl⟩
theorem ok_53_7 : pm_ok 53 7 (1, 0, 2, .null, []) := Or.inl ⟨0, by decide +kernel, rfl, rfl⟩
theorem ok_53_8 : pm_ok 53 8 (18, 5, 0, .null, []) := ⟨12, RX5, TX5, 2, by decide +kernel, rfl, rfl, by decide, pm_cw5, Or.inl (pm_tb 214 (by decide +kernel))⟩
theorem ok_53_9 : pm_ok 53 9 (1, 1, 0, .null, []) := Or.inl ⟨1, by decide +kernel, rfl, rfl⟩
theorem ok_53_10 : pm_ok 53 10 (25, 19, 2, .null, [1]) := ⟨58, by decide, rfl, Or.inr ⟨"GuardPacks", (pm_tb 275 (by decide +kernel))⟩, Or.inl ⟨by decide +kernel, 1, TX1, 9, rfl, rfl, by decide, by decide +kernel, (pm_tb 277 (by decide +kernel)), (pm_tp 15 (by decide +kernel))⟩⟩
theorem ok_53_11 : pm_ok 53 11 (18, 3, 0, .null, []) := ⟨62, RX3, TX3, 6, by decide +kernel, rfl, rfl, by decide, pm_cw3, Or.inr ⟨"GuardPacks", (pm_tb 33 (by decide +kernel))⟩⟩
theorem ok_53_12 : pm_ok 53 12 (26, 1, 0, .null, []) := ⟨by decide +kernel, rfl⟩
set_option maxRecDepth 100000 in
theorem ok_53 : pm_oks 53 0 cd_X5_runs := ⟨ok_53_0, ok_53_1, ok_53_2, ok_53_3, ok_53_4, ok_53_5, ok_53_6, ok_53_7, ok_53_8, ok_53_9, ok_53_10, ok_53_11, ok_53_12, trivial⟩
theorem ok_54_0 : pm_ok 54 0 (1, 0, 2, .null, []) := Or.inl ⟨0, by decide +kernel, rfl, rfl⟩
theorem ok_54_1 : pm_ok 54 1 (18, 5, 0, .null, []) := ⟨12, RX5, TX5, 2, by decide +kernel, rfl, rfl, by decide, pm_cw5, Or.inl (pm_tb 214 (by decide +kernel))⟩
theorem ok_54_2 : pm_ok 54 2 (1, 1, 0, .null, []) := Or.inl ⟨1, by decide +kernel, rfl, rfl⟩
theorem ok_54_3 : pm_ok 54 3 (1, 2, 0, .null, []) := Or.inl ⟨2, by decide +kernel, rfl, rfl⟩
theorem ok_54_4 : pm_ok 54 4 (25, 17, 3, .null, [1]) := ⟨31, by decide, rfl, Or.inr ⟨"GuardPacks", (pm_tb 233 (by decide +kernel))⟩, Or.inl ⟨by decide +kernel, 1, TX1, 9, rfl, rfl, by decide, by decide +kernel, (pm_tb 235 (by decide +kernel)), (pm_tp 9 (by decide +kernel))⟩⟩
theorem ok_54_5 : pm_ok 54 5 (15, 11, 0, .null, []) := ⟨12, by decide +kernel, by decide +kernel, rfl⟩
theorem ok_54_6 : pm_ok 54 6 (1, 3, 0, .null, []) := Or.inl ⟨3, by decide +kernel, rfl, rfl⟩
theorem ok_54_7 : pm_ok 54 7 (0, 0, 0, .int 0, []) := Or.inl ⟨0, by decide +kernel, rfl, rfl⟩
theorem ok_54_8 : pm_ok 54 8 (0, 0, 0, .int 1, []) := Or.inl ⟨1, by decide +kernel, rfl, rfl⟩
theorem ok_54_9 : pm_ok 54 9 (25, 67, 3, .null, []) := ⟨23, by decide, rfl, Or.inl (pm_tb 225 (by decide +kernel)), Or.inr (Or.inr ⟨by decide +kernel, rfl, by decide +kernel, (pm_tb 226 (by decide +kernel))⟩)⟩
theorem ok_54_10 : pm_ok 54 10 (15, 13, 1, .null, []) := ⟨6, by decide +kernel, by decide +kernel, rfl⟩
theorem ok_54_11 : pm_ok 54 11 (0, 0, 0, .int (-2), []) := Or.inr (Or.inl ⟨(-2), by decide +kernel, by decide +kernel, rfl⟩)
theorem ok_54_12 : pm_ok 54 12 (26, 1, 0, .null, []) := ⟨by decide +kernel, rfl⟩
theorem ok_54_13 : pm_ok 54 13 (1, 0, 2, .null, []) := Or.inl ⟨0, by decide +kernel, rfl, rfl⟩
theorem ok_54_14 : pm_ok 54 14 (18, 5, 0, .null, []) := ⟨12, RX5, TX5, 2, by decide +kernel, rfl, rfl, by decide, pm_cw5, Or.inl (pm_tb 214 (by decide +kernel))⟩
theorem ok_54_15 : pm_ok 54 15 (1, 3, 0, .null, []) := Or.inl ⟨3, by decide +kernel, rfl, rfl⟩
theorem ok_54_16 : pm_ok 54 16 (25, 19, 2, .null, [1]) := ⟨58, by decide, rfl, Or.inr ⟨"GuardPacks", (pm_tb 275 (by decide +kernel))⟩, Or.inl ⟨by decide +kernel, 1, TX1, 9, rfl, rfl, by decide, by decide +kernel, (pm_tb 277 (by decide +kernel)), (pm_tp 15 (by decide +kernel))⟩⟩
theorem ok_54_17 : pm_ok 54 17 (18, 3, 2, .null, []) := ⟨68, RX3, TX3, 6, by decide +kernel, rfl, rfl, by decide, pm_cw3, Or.inr ⟨"GuardPacks", (pm_tb 39 (by decide +kernel))⟩⟩
theorem ok_54_18 : pm_ok 54 18 (1, 0, 2, .null, []) := Or.inl ⟨0, by decide +kernel, rfl, rfl⟩
theorem ok_54_19 : pm_ok 54 19 (18, 5, 0, .null, []) := ⟨12, RX5, TX5, 2, by decide +kernel, rfl, rfl, by decide, pm_cw5, Or.inl (pm_tb 214 (by decide +kernel))⟩
theorem ok_54_20 : pm_ok 54 20 (1, 1, 0, .null, []) := Or.inl ⟨1, by decide +kernel, rfl, rfl⟩
theorem ok_54_21 : pm_ok 54 21 (1, 2, 0, .null, []) := Or.inl ⟨2, by decide +kernel, rfl, rfl⟩
theorem ok_54_22 : pm_ok 54 22 (25, 18, 3, .null, [1]) := ⟨35, by decide, rfl, Or.inr ⟨"GuardPacks", (pm_tb 238 (by decide +kernel))⟩, Or.inl ⟨by decide +kernel, 1, TX1, 9, rfl, rfl, by decide, by decide +kernel, (pm_tb 127 (by decide +kernel)), (pm_tp 4 (by decide +kernel))⟩⟩
theorem ok_54_23 : pm_ok 54 23 (20, 0, 0, .null, []) := ⟨by decide +kernel, rfl⟩
theorem ok_54_24 : pm_ok 54 24 (26, 1, 0, .null, []) := ⟨by decide +kernel, rfl⟩
set_option maxRecDepth 100000 in
theorem ok_54 : pm_oks 54 0 cd_X5_run := ⟨ok_54_0, ok_54_1, ok_54_2, ok_54_3, ok_54_4, ok_54_5, ok_54_6, ok_54_7, ok_54_8, ok_54_9, ok_54_10, ok_54_11, ok_54_12, ok_54_13, ok_54_14, ok_54_15, ok_54_16, ok_54_17, ok_54_18, ok_54_19, ok_54_20, ok_54_21, ok_54_22, ok_54_23, ok_54_24, trivial⟩
theorem ok_55_0 : pm_ok 55 0 (1, 0, 2, .null, []) := Or.inl ⟨0, by decide +kernel, rfl, rfl⟩
theorem ok_55_1 : pm_ok 55 1 (18, 5, 0, .null, []) := ⟨12, RX5, TX5, 2, by decide +kernel, rfl, rfl, by decide, pm_cw5, Or.inl (pm_tb 214 (by decide +kernel))⟩
theorem ok_55_2 : pm_ok 55 2 (1, 1, 0, .null, []) := Or.inl ⟨1, by decide +kernel, rfl, rfl⟩
theorem ok_55_3 : pm_ok 55 3 (1, 2, 0, .null, []) := Or.inl ⟨2, by decide +kernel, rfl, rfl⟩
theorem ok_55_4 : pm_ok 55 4 (25, 17, 3, .null, [1]) := ⟨31, by decide, rfl, Or.inr ⟨"GuardPacks", (pm_tb 233 (by decide +kernel))⟩, Or.inl ⟨by decide +kernel, 1, TX1, 9, rfl, rfl, by decide, by decide +kernel, (pm_tb 235 (by decide +kernel)), (pm_tp 9 (by decide +kernel))⟩⟩
theorem ok_55_5 : pm_ok 55 5 (15, 8, 1, .null, []) := ⟨6, by decide +kernel, by decide +kernel, rfl⟩
theorem ok_55_6 : pm_ok 55 6 (0, 0, 0, .int (-2), []) := Or.inr (Or.inl ⟨(-2), by decide +kernel, by decide +kernel, rfl⟩)
theorem ok_55_7 : pm_ok 55 7 (26, 1, 0, .null, []) := ⟨by decide +kernel, rfl⟩
theorem ok_55_8 : pm_ok 55 8 (1, 0, 2, .null, []) := Or.inl ⟨0, by decide +kernel, rfl, rfl⟩
theorem ok_55_9 : pm_ok 55 9 (18, 5, 0, .null, []) := ⟨12, RX5, TX5, 2, by decide +kernel, rfl, rfl, by decide, pm_cw5, Or.inl (pm_tb 214 (by decide +kernel))⟩
theorem ok_55_10 : pm_ok 55 10 (1, 0, 2, .null, []) := Or.inl ⟨0, by decide +kernel, rfl, rfl⟩
theorem ok_55_11 : pm_ok 55 11 (18, 5, 0, .null, []) := ⟨12, RX5, TX5, 2, by decide +kernel, rfl, rfl, by decide, pm_cw5, Or.inl (pm_tb 214 (by decide +kernel))⟩
theorem ok_55_12 : pm_ok 55 12 (1, 1, 0, .null, []) := Or.inl ⟨1, by decide +kernel, rfl, rfl⟩
theorem ok_55_13 : pm_ok 55 13 (1, 2, 0, .null, []) := Or.inl ⟨2, by decide +kernel, rfl, rfl⟩
theorem ok_55_14 : pm_ok 55 14 (25, 18, 3, .null, [1]) := ⟨35, by decide, rfl, Or.inr ⟨"GuardPacks", (pm_tb 238 (by decide +kernel))⟩, Or.inl ⟨by decide +kernel, 1, TX1, 9, rfl, rfl, by decide, by decide +kernel, (pm_tb 127 (by decide +kernel)), (pm_tp 4 (by decide +kernel))⟩⟩
theorem ok_55_15 : pm_ok 55 15 (25, 26, 2, .null, [1]) := ⟨72, by decide, rfl, Or.inr ⟨"GuardPacks", (pm_tb 287 (by decide +kernel))⟩, Or.inl ⟨by decide +kernel, 1, TX1, 9, rfl, rfl, by decide, by decide +kernel, (pm_tb 289 (by decide +kernel)), (pm_tp 16 (by decide +kernel))⟩⟩
theorem ok_55_16 : pm_ok 55 16 (26, 1, 0, .null, []) := ⟨by decide +kernel, rfl⟩
set_option maxRecDepth 100000 in
theorem ok_55 : pm_oks 55 0 cd_X5_sees := ⟨ok_55_0, ok_55_1, ok_55_2, ok_55_3, ok_55_4, ok_55_5, ok_55_6, ok_55_7, ok_55_8, ok_55_9, ok_55_10, ok_55_11, ok_55_12, ok_55_13, ok_55_14, ok_55_15, ok_55_16, trivial⟩
theorem ok_56_0 : pm_ok 56 0 (1, 0, 2, .null, []) := Or.inl ⟨0, by decide +kernel, rfl, rfl⟩
theorem ok_56_1 : pm_ok 56 1 (18, 5, 0, .null, []) := ⟨12, RX5, TX5, 2, by decide +kernel, rfl, rfl, by decide, pm_cw5, Or.inl (pm_tb 214 (by decide +kernel))⟩
theorem ok_56_2 : pm_ok 56 2 (25, 27, 1, .null, [1]) := ⟨75, by decide, rfl, Or.inr ⟨"GuardPacks", (pm_tb 299 (by decide +kernel))⟩, Or.inl ⟨by decide +kernel, 1, TX1, 9, rfl, rfl, by decide, by decide +kernel, (pm_tb 301 (by decide +kernel)), (pm_tp 18 (by decide +kernel))⟩⟩
theorem ok_56_3 : pm_ok 56 3 (26, 1, 0, .null, []) := ⟨by decide +kernel, rfl⟩
set_option maxRecDepth 100000 in
theorem ok_56 : pm_oks 56 0 cd_X5_seen := ⟨ok_56_0, ok_56_1, ok_56_2, ok_56_3, trivial⟩
theorem ok_57_0 : pm_ok 57 0 (1, 0, 2, .null, []) := Or.inl ⟨0, by decide +kernel, rfl, rfl⟩
theorem ok_57_1 : pm_ok 57 1 (18, 5, 0, .null, []) := ⟨12, RX5, TX5, 2, by decide +kernel, rfl, rfl, by decide, pm_cw5, Or.inl (pm_tb 214 (by decide +kernel))⟩
theorem ok_57_2 : pm_ok 57 2 (1, 1, 0, .null, []) := Or.inl ⟨1, by decide +kernel, rfl, rfl⟩
theorem ok_57_3 : pm_ok 57 3 (25, 28, 2, .null, [1]) := ⟨79, by decide, rfl, Or.inr ⟨"GuardPacks", (pm_tb 307 (by decide +kernel))⟩, Or.inl ⟨by decide +kernel, 1, TX1, 9, rfl, rfl, by decide, by decide +kernel, (pm_tb 309 (by decide +kernel)), (pm_tp 19 (by decide +kernel))⟩⟩
theorem ok_57_4 : pm_ok 57 4 (26, 1, 0, .null, []) := ⟨by decide +kernel, rfl⟩
set_option maxRecDepth 100000 in
theorem ok_57 : pm_oks 57 0 cd_X5_missed := ⟨ok_57_0, ok_57_1, ok_57_2, ok_57_3, ok_57_4, trivial⟩
theorem ok_58_0 : pm_ok 58 0 (1, 0, 2, .null, []) := Or.inl ⟨0, by decide +kernel, rfl, rfl⟩
theorem ok_58_1 : pm_ok 58 1 (18, 5, 0, .null, []) := ⟨12, RX5, TX5, 2, by decide +kernel, rfl, rfl, by decide, pm_cw5, Or.inl (pm_tb 214 (by decide +kernel))⟩
theorem ok_58_2 : pm_ok 58 2 (25, 29, 1, .null, [1]) := ⟨82, by decide, rfl, Or.inr ⟨"GuardPacks", (pm_tb 315 (by decide +kernel))⟩, Or.inl ⟨by decide +kernel, 1, TX1, 9, rfl, rfl, by decide, by decide +kernel, (pm_tb 317 (by decide +kernel)), (pm_tp 20 (by decide +kernel))⟩⟩
theorem ok_58_3 : pm_ok 58 3 (26, 1, 0, .null, []) := ⟨by decide +kernel, rfl⟩
set_option maxRecDepth 100000 in
theorem ok_58 : pm_oks 58 0 cd_X5_more := ⟨ok_58_0, ok_58_1, ok_58_2, ok_58_3, trivial⟩
theorem ok_59_0 : pm_ok 59 0 (1, 0, 2, .null, []) := Or.inl ⟨0, by decide +kernel, rfl, rfl⟩
theorem ok_59_1 : pm_ok 59 1 (18, 5, 0, .null, []) := ⟨12, RX5, TX5, 2, by decide +kernel, rfl, rfl, by decide, pm_cw5, Or.inl (pm_tb 214 (by decide +kernel))⟩
theorem ok_59_2 : pm_ok 59 2 (25, 30, 1, .null, [1]) := ⟨85, by decide, rfl, Or.inr ⟨"GuardPacks", (pm_tb 362 (by decide +kernel))⟩, Or.inl ⟨by decide +kernel, 1, TX1, 9, rfl, rfl, by decide, by decide +kernel, (pm_tb 364 (by decide +kernel)), (pm_tp 28 (by decide +kernel))⟩⟩
theorem ok_59_3 : pm_ok 59 3 (26, 1, 0, .null, []) := ⟨by decide +kernel, rfl⟩
set_option maxRecDepth 100000 in
theorem ok_59 : pm_oks 59 0 cd_X5_peace := ⟨ok_59_0, ok_59_1, ok_59_2, ok_59_3, trivial⟩
theorem ok_60_0 : pm_ok 60 0 (1, 1, 0, .null, []) := Or.inl ⟨1, by decide +kernel, rfl, rfl⟩
theorem ok_60_1 : pm_ok 60 1 (0, 0, 0, .int 1, []) := Or.inl ⟨1, by decide +kernel, rfl, rfl⟩
theorem ok_60_2 : pm_ok 60 2 (0, 0, 0, .int 12, []) := Or.inr (Or.inl ⟨12, by decide +kernel, by decide +kernel, rfl⟩)
theorem ok_60_3 : pm_ok 60 3 (25, 67, 3, .null, []) := ⟨23, by decide, rfl, Or.inl (pm_tb 225 (by decide +kernel)), Or.inr (Or.inr ⟨by decide +kernel, rfl, by decide +kernel, (pm_tb 226 (by decide +kernel))⟩)⟩
theorem ok_60_4 : pm_ok 60 4 (15, 10, 0, .null, []) := ⟨13, by decide +kernel, by decide +kernel, rfl⟩
theorem ok_60_5 : pm_ok 60 5 (1, 2, 0, .null, []) := Or.inl ⟨2, by decide +kernel, rfl, rfl⟩
theorem ok_60_6 : pm_ok 60 6 (0, 0, 0, .int 1, []) := Or.inl ⟨1, by decide +kernel, rfl, rfl⟩
theorem ok_60_7 : pm_ok 60 7 (0, 0, 0, .int 12, []) := Or.inr (Or.inl ⟨12, by decide +kernel, by decide +kernel, rfl⟩)
theorem ok_60_8 : pm_ok 60 8 (25, 67, 3, .null, []) := ⟨23, by decide, rfl, Or.inl (pm_tb 225 (by decide +kernel)), Or.inr (Or.inr ⟨by decide +kernel, rfl, by decide +kernel, (pm_tb 226 (by decide +kernel))⟩)⟩
theorem ok_60_9 : pm_ok 60 9 (15, 12, 1, .null, []) := ⟨6, by decide +kernel, by decide +kernel, rfl⟩
theorem ok_60_10 : pm_ok 60 10 (0, 0, 0, .int (-2), []) := Or.inr (Or.inl ⟨(-2), by decide +kernel, by decide +kernel, rfl⟩)
theorem ok_60_11 : pm_ok 60 11 (26, 1, 0, .null, []) := ⟨by decide +kernel, rfl⟩
theorem ok_60_12 : pm_ok 60 12 (1, 0, 2, .null, []) := Or.inl ⟨0, by decide +kernel, rfl, rfl⟩
theorem ok_60_13 : pm_ok 60 13 (18, 5, 1, .null, []) := ⟨19, RX5, TX5, 2, by decide +kernel, rfl, rfl, by decide, pm_cw5, Or.inl (pm_tb 215 (by decide +kernel))⟩
theorem ok_60_14 : pm_ok 60 14 (1, 1, 0, .null, []) := Or.inl ⟨1, by decide +kernel, rfl, rfl⟩
theorem ok_60_15 : pm_ok 60 15 (1, 2, 0, .null, []) := Or.inl ⟨2, by decide +kernel, rfl, rfl⟩
theorem ok_60_16 : pm_ok 60 16 (25, 1, 3, .null, [0]) := ⟨88, by decide, rfl, Or.inr ⟨"GuardPacks", (pm_tb 372 (by decide +kernel))⟩, Or.inl ⟨by decide +kernel, 0, TX0, 9, rfl, rfl, by decide, by decide +kernel, (pm_tb 179 (by decide +kernel)), (pm_tp 8 (by decide +kernel))⟩⟩
theorem ok_60_17 : pm_ok 60 17 (1, 1, 0, .null, []) := Or.inl ⟨1, by decide +kernel, rfl, rfl⟩
theorem ok_60_18 : pm_ok 60 18 (1, 2, 0, .null, []) := Or.inl ⟨2, by decide +kernel, rfl, rfl⟩
theorem ok_60_19 : pm_ok 60 19 (4, 0, 2, .null, []) := ⟨by decide +kernel, rfl⟩
theorem ok_60_20 : pm_ok 60 20 (26, 1, 0, .null, []) := ⟨by decide +kernel, rfl⟩
set_option maxRecDepth 100000 in
theorem ok_60 : pm_oks 60 0 cd_X5_box := ⟨ok_60_0, ok_60_1, ok_60_2, ok_60_3, ok_60_4, ok_60_5, ok_60_6, ok_60_7, ok_60_8, ok_60_9, ok_60_10, ok_60_11, ok_60_12, ok_60_13, ok_60_14, ok_60_15, ok_60_16, ok_60_17, ok_60_18, ok_60_19, ok_60_20, trivial⟩
theorem ok_61_0 : pm_ok 61 0 (1, 1, 0, .null, []) := Or.inl ⟨1, by decide +kernel, rfl, rfl⟩
theorem ok_61_1 : pm_ok 61 1 (0, 0, 0, .int 1, []) := Or.inl ⟨1, by decide +kernel, rfl, rfl⟩
theorem ok_61_2 : pm_ok 61 2 (0, 0, 0, .int 12, []) := Or.inr (Or.inl ⟨12, by decide +kernel, by decide +kernel, rfl⟩)
theorem ok_61_3 : pm_ok 61 3 (25, 67, 3, .null, []) := ⟨23, by decide, rfl, Or.inl (pm_tb 225 (by decide +kernel)), Or.inr (Or.inr ⟨by decide +kernel, rfl, by decide +kernel, (pm_tb 226 (by decide +kernel))⟩)⟩
theorem ok_61_4 : pm_ok 61 4 (15, 7, 1, .null, []) := ⟨6, by decide +kernel, by decide +kernel, rfl⟩
theorem ok_61_5 : pm_ok 61 5 (0, 0, 0, .int (-2), []) := Or.inr (Or.inl ⟨(-2), by decide +kernel, by decide +kernel, rfl⟩)
theorem ok_61_6 : pm_ok 61 6 (26, 1, 0, .null, []) := ⟨by decide +kernel, rfl⟩
theorem ok_61_7 : pm_ok 61 7 (1, 0, 2, .null, []) := Or.inl ⟨0, by decide +kernel, rfl, rfl⟩
theorem ok_61_8 : pm_ok 61 8 (18, 5, 1, .null, []) := ⟨19, RX5, TX5, 2, by decide +kernel, rfl, rfl, by decide, pm_cw5, Or.inl (pm_tb 215 (by decide +kernel))⟩
theorem ok_61_9 : pm_ok 61 9 (18, 0, 2, .null, []) := ⟨89, RX0, TX0, 9, by decide +kernel, rfl, rfl, by decide, pm_cw0, Or.inr ⟨"GuardPacks", (pm_tb 184 (by decide +kernel))⟩⟩
theorem ok_61_10 : pm_ok 61 10 (0, 0, 0, .int 8, []) := Or.inr (Or.inl ⟨8, by decide +kernel, by decide +kernel, rfl⟩)
theorem ok_61_11 : pm_ok 61 11 (16, 14, 2, .null, []) := ⟨6, by decide +kernel, by decide +kernel, rfl⟩
theorem ok_61_12 : pm_ok 61 12 (0, 0, 0, .int (-4), []) := Or.inr (Or.inl ⟨(-4), by decide +kernel, by decide +kernel, rfl⟩)
theorem ok_61_13 : pm_ok 61 13 (26, 1, 0, .null, []) := ⟨by decide +kernel, rfl⟩
theorem ok_61_14 : pm_ok 61 14 (1, 0, 2, .null, []) := Or.inl ⟨0, by decide +kernel, rfl, rfl⟩
theorem ok_61_15 : pm_ok 61 15 (18, 5, 1, .null, []) := ⟨19, RX5, TX5, 2, by decide +kernel, rfl, rfl, by decide, pm_cw5, Or.inl (pm_tb 215 (by decide +kernel))⟩
theorem ok_61_16 : pm_ok 61 16 (1, 1, 0, .null, []) := Or.inl ⟨1, by decide +kernel, rfl, rfl⟩
theorem ok_61_17 : pm_ok 61 17 (25, 2, 2, .null, [0]) := ⟨90, by decide, rfl, Or.inr ⟨"GuardPacks", (pm_tb 377 (by decide +kernel))⟩, Or.inl ⟨by decide +kernel, 0, TX0, 9, rfl, rfl, by decide, by decide +kernel, (pm_tb 379 (by decide +kernel)), (pm_tp 29 (by decide +kernel))⟩⟩
theorem ok_61_18 : pm_ok 61 18 (26, 1, 0, .null, []) := ⟨by decide +kernel, rfl⟩
set_option maxRecDepth 100000 in
theorem ok_61 : pm_oks 61 0 cd_X5_square := ⟨ok_61_0, ok_61_1, ok_61_2, ok_61_3, ok_61_4, ok_61_5, ok_61_6, ok_61_7, ok_61_8, ok_61_9, ok_61_10, ok_61_11, ok_61_12, ok_61_13, ok_61_14, ok_61_15, ok_61_16, ok_61_17, ok_61_18, trivial⟩
theorem ok_62_0 : pm_ok 62 0 (1, 0, 2, .null, []) := Or.inl ⟨0, by decide +kernel, rfl, rfl⟩
theorem ok_62_1 : pm_ok 62 1 (18, 5, 1, .null, []) := ⟨19, RX5, TX5, 2, by decide +kernel, rfl, rfl, by decide, pm_cw5, Or.inl (pm_tb 215 (by decide +kernel))⟩
theorem ok_62_2 : pm_ok 62 2 (18, 0, 2, .null, []) := ⟨89, RX0, TX0, 9, by decide +kernel, rfl, rfl, by decide, pm_cw0, Or.inr ⟨"GuardPacks", (pm_tb 184 (by decide +kernel))⟩⟩
theorem ok_62_3 : pm_ok 62 3 (15, 6, 4, .null, []) := ⟨6, by decide +kernel, by decide +kernel, rfl⟩
theorem ok_62_4 : pm_ok 62 4 (0, 0, 0, .int (-3), []) := Or.inr (Or.inl ⟨(-3), by decide +kernel, by decide +kernel, rfl⟩)
theorem ok_62_5 : pm_ok 62 5 (26, 1, 0, .null, []) := ⟨by decide +kernel, rfl⟩
theorem ok_62_6 : pm_ok 62 6 (1, 0, 2, .null, []) := Or.inl ⟨0, by decide +kernel, rfl, rfl⟩
theorem ok_62_7 : pm_ok 62 7 (18, 5, 1, .null, []) := ⟨19, RX5, TX5, 2, by decide +kernel, rfl, rfl, by decide, pm_cw5, Or.inl (pm_tb 215 (by decide +kernel))⟩
theorem ok_62_8 : pm_ok 62 8 (25, 3, 1, .null, [0]) := ⟨93, by decide, rfl, Or.inr ⟨"GuardPacks", (pm_tb 385 (by decide +kernel))⟩, Or.inl ⟨by decide +kernel, 0, TX0, 9, rfl, rfl, by decide, by decide +kernel, (pm_tb 387 (by decide +kernel)), (pm_tp 30 (by decide +kernel))⟩⟩
theorem ok_62_9 : pm_ok 62 9 (26, 1, 0, .null, []) := ⟨by decide +kernel, rfl⟩
set_option maxRecDepth 100000 in
theorem ok_62 : pm_oks 62 0 cd_X5_drop := ⟨ok_62_0, ok_62_1, ok_62_2, ok_62_3, ok_62_4, ok_62_5, ok_62_6, ok_62_7, ok_62_8, ok_62_9, trivial⟩
theorem ok_63_0 : pm_ok 63 0 (1, 1, 0, .null, []) := Or.inl ⟨1, by decide +kernel, rfl, rfl⟩
theorem ok_63_1 : pm_ok 63 1 (0, 0, 0, .int 0, []) := Or.inl ⟨0, by decide +kernel, rfl, rfl⟩
theorem ok_63_2 : pm_ok 63 2 (0, 0, 0, .int 100000, []) := Or.inr (Or.inr (Or.inr (Or.inr (Or.inl ⟨96, 100000, by decide +kernel, (pm_tb 393 (by decide +kernel)), rfl, rfl⟩))))
theorem ok_63_3 : pm_ok 63 3 (25, 67, 3, .null, []) := ⟨23, by decide, rfl, Or.inl (pm_tb 225 (by decide +kernel)), Or.inr (Or.inr ⟨by decide +kernel, rfl, by decide +kernel, (pm_tb 226 (by decide +kernel))⟩)⟩
theorem ok_63_4 : pm_ok 63 4 (15, 7, 1, .null, []) := ⟨6, by decide +kernel, by decide +kernel, rfl⟩
theorem ok_63_5 : pm_ok 63 5 (0, 0, 0, .int (-2), []) := Or.inr (Or.inl ⟨(-2), by decide +kernel, by decide +kernel, rfl⟩)
theorem ok_63_6 : pm_ok 63 6 (26, 1, 0, .null, []) := ⟨by decide +kernel, rfl⟩
theorem ok_63_7 : pm_ok 63 7 (1, 0, 2, .null, []) := Or.inl ⟨0, by decide +kernel, rfl, rfl⟩
theorem ok_63_8 : pm_ok 63 8 (18, 5, 1, .null, []) := ⟨19, RX5, TX5, 2, by decide +kernel, rfl, rfl, by decide, pm_cw5, Or.inl (pm_tb 215 (by decide +kernel))⟩
theorem ok_63_9 : pm_ok 63 9 (1, 1, 0, .null, []) := Or.inl ⟨1, by decide +kernel, rfl, rfl⟩
theorem ok_63_10 : pm_ok 63 10 (25, 5, 2, .null, [0]) := ⟨97, by decide, rfl, Or.inr ⟨"GuardPacks", (pm_tb 394 (by decide +kernel))⟩, Or.inl ⟨by decide +kernel, 0, TX0, 9, rfl, rfl, by decide, by decide +kernel, (pm_tb 396 (by decide +kernel)), (pm_tp 31 (by decide +kernel))⟩⟩
theorem ok_63_11 : pm_ok 63 11 (26, 1, 0, .null, []) := ⟨by decide +kernel, rfl⟩
set_option maxRecDepth 100000 in
theorem ok_63 : pm_oks 63 0 cd_X5_pack := ⟨ok_63_0, ok_63_1, ok_63_2, ok_63_3, ok_63_4, ok_63_5, ok_63_6, ok_63_7, ok_63_8, ok_63_9, ok_63_10, ok_63_11, trivial⟩
theorem ok_64_0 : pm_ok 64 0 (1, 0, 2, .null, []) := Or.inl ⟨0, by decide +kernel, rfl, rfl⟩
theorem ok_64_1 : pm_ok 64 1 (18, 5, 1, .null, []) := ⟨19, RX5, TX5, 2, by decide +kernel, rfl, rfl, by decide, pm_cw5, Or.inl (pm_tb 215 (by decide +kernel))⟩
theorem ok_64_2 : pm_ok 64 2 (18, 0, 3, .null, []) := ⟨100, RX0, TX0, 9, by decide +kernel, rfl, rfl, by decide, pm_cw0, Or.inr ⟨"GuardPacks", (pm_tb 186 (by decide +kernel))⟩⟩
theorem ok_64_3 : pm_ok 64 3 (26, 1, 0, .null, []) := ⟨by decide +kernel, rfl⟩
set_option maxRecDepth 100000 in
theorem ok_64 : pm_oks 64 0 cd_X5_tried := ⟨ok_64_0, ok_64_1, ok_64_2, ok_64_3, trivial⟩
theorem ok_65_0 : pm_ok 65 0 (1, 2, 0, .null, []) := Or.inl ⟨2, by decide +kernel, rfl, rfl⟩
theorem ok_65_1 : pm_ok 65 1 (0, 0, 0, .int 0, []) := Or.inl ⟨0, by decide +kernel, rfl, rfl⟩
theorem ok_65_2 : pm_ok 65 2 (0, 0, 0, .int 1, []) := Or.inl ⟨1, by decide +kernel, rfl, rfl⟩
theorem ok_65_3 : pm_ok 65 3 (25, 67, 3, .null, []) := ⟨23, by decide, rfl, Or.inl (pm_tb 225 (by decide +kernel)), Or.inr (Or.inr ⟨by decide +kernel, rfl, by decide +kernel, (pm_tb 226 (by decide +kernel))⟩)⟩
theorem ok_65_4 : pm_ok 65 4 (15, 7, 1, .null, []) := ⟨6, by decide +kernel, by decide +kernel, rfl⟩
theorem ok_65_5 : pm_ok 65 5 (0, 0, 0, .int (-2), []) := Or.inr (Or.inl ⟨(-2), by decide +kernel, by decide +kernel, rfl⟩)
theorem ok_65_6 : pm_ok 65 6 (26, 1, 0, .null, []) := ⟨by decide +kernel, rfl⟩
theorem ok_65_7 : pm_ok 65 7 (1, 0, 2, .null, []) := Or.inl ⟨0, by decide +kernel, rfl, rfl⟩
theorem ok_65_8 : pm_ok 65 8 (18, 5, 1, .null, []) := ⟨19, RX5, TX5, 2, by decide +kernel, rfl, rfl, by decide, pm_cw5, Or.inl (pm_tb 215 (by decide +kernel))⟩
theorem ok_65_9 : pm_ok 65 9 (18, 0, 4, .null, []) := ⟨103, RX0, TX0, 9, by decide +kernel, rfl, rfl, by decide, pm_cw0, Or.inr ⟨"GuardPacks", (pm_tb 188 (by decide +kernel))⟩⟩
theorem ok_65_10 : pm_ok 65 10 (15, 20, 0, .null, []) := ⟨20, by decide +kernel, by decide +kernel, rfl⟩
theorem ok_65_11 : pm_ok 65 11 (1, 1, 0, .null, []) := Or.inl ⟨1, by decide +kernel, rfl, rfl⟩
theorem ok_65_12 : pm_ok 65 12 (0, 0, 0, .int 0, []) := Or.inl ⟨0, by decide +kernel, rfl, rfl⟩
theorem ok_65_13 : pm_ok 65 13 (1, 0, 2, .null, []) := Or.inl ⟨0, by decide +kernel, rfl, rfl⟩
theorem ok_65_14 : pm_ok 65 14 (18, 5, 1, .null, []) := ⟨19, RX5, TX5, 2, by decide +kernel, rfl, rfl, by decide, pm_cw5, Or.inl (pm_tb 215 (by decide +kernel))⟩
theorem ok_65_15 : pm_ok 65 15 (18, 0, 2, .null, []) := ⟨89, RX0, TX0, 9, by decide +kernel, rfl, rfl, by decide, pm_cw0, Or.inr ⟨"GuardPacks", (pm_tb 184 (by decide +kernel))⟩⟩
theorem ok_65_16 : pm_ok 65 16 (0, 0, 0, .int 1, []) := Or.inl ⟨1, by decide +kernel, rfl, rfl⟩
theorem ok_65_17 : pm_ok 65 17 (4, 0, 1, .null, []) := ⟨by decide +kernel, rfl⟩
theorem ok_65_18 : pm_ok 65 18 (25, 67, 3, .null, []) := ⟨23, by decide, rfl, Or.inl (pm_tb 225 (by decide +kernel)), Or.inr (Or.inr ⟨by decide +kernel, rfl, by decide +kernel, (pm_tb 226 (by decide +kernel))⟩)⟩
theorem ok_65_19 : pm_ok 65 19 (15, 22, 1, .null, []) := ⟨5, by decide +kernel, by decide +kernel, rfl⟩
theorem ok_65_20 : pm_ok 65 20 (0, 0, 0, .int (-1), []) := Or.inl ⟨(-1), by decide +kernel, rfl, rfl⟩
theorem ok_65_21 : pm_ok 65 21 (26, 1, 0, .null, []) := ⟨by decide +kernel, rfl⟩
theorem ok_65_22 : pm_ok 65 22 (1, 2, 0, .null, []) := Or.inl ⟨2, by decide +kernel, rfl, rfl⟩
theorem ok_65_23 : pm_ok 65 23 (15, 30, 1, .null, []) := ⟨15, by decide +kernel, by decide +kernel, rfl⟩
theorem ok_65_24 : pm_ok 65 24 (1, 0, 2, .null, []) := Or.inl ⟨0, by decide +kernel, rfl, rfl⟩
theorem ok_65_25 : pm_ok 65 25 (18, 5, 1, .null, []) := ⟨19, RX5, TX5, 2, by decide +kernel, rfl, rfl, by decide, pm_cw5, Or.inl (pm_tb 215 (by decide +kernel))⟩
theorem ok_65_26 : pm_ok 65 26 (18, 0, 6, .null, []) := ⟨107, RX0, TX0, 9, by decide +kernel, rfl, rfl, by decide, pm_cw0, Or.inr ⟨"GuardPacks", (pm_tb 191 (by decide +kernel))⟩⟩
theorem ok_65_27 : pm_ok 65 27 (1, 1, 0, .null, []) := Or.inl ⟨1, by decide +kernel, rfl, rfl⟩
theorem ok_65_28 : pm_ok 65 28 (20, 0, 0, .null, []) := ⟨by decide +kernel, rfl⟩
theorem ok_65_29 : pm_ok 65 29 (17, 35, 0, .null, []) := ⟨12, by decide +kernel, by decide +kernel⟩
theorem ok_65_30 : pm_ok 65 30 (1, 0, 2, .null, []) := Or.inl ⟨0, by decide +kernel, rfl, rfl⟩
theorem ok_65_31 : pm_ok 65 31 (18, 5, 1, .null, []) := ⟨19, RX5, TX5, 2, by decide +kernel, rfl, rfl, by decide, pm_cw5, Or.inl (pm_tb 215 (by decide +kernel))⟩
theorem ok_65_32 : pm_ok 65 32 (18, 0, 7, .null, []) := ⟨110, RX0, TX0, 9, by decide +kernel, rfl, rfl, by decide, pm_cw0, Or.inr ⟨"GuardPacks", (pm_tb 193 (by decide +kernel))⟩⟩
theorem ok_65_33 : pm_ok 65 33 (1, 1, 0, .null, []) := Or.inl ⟨1, by decide +kernel, rfl, rfl⟩
theorem ok_65_34 : pm_ok 65 34 (20, 0, 0, .null, []) := ⟨by decide +kernel, rfl⟩
theorem ok_65_35 : pm_ok 65 35 (26, 1, 0, .null, []) := ⟨by decide +kernel, rfl⟩
set_option maxRecDepth 100000 in
theorem ok_65 : pm_oks 65 0 cd_X5_place := ⟨ok_65_0, ok_65_1, ok_65_2, ok_65_3, ok_65_4, ok_65_5, ok_65_6, ok_65_7, ok_65_8, ok_65_9, ok_65_10, ok_65_11, ok_65_12, ok_65_13, ok_65_14, ok_65_15, ok_65_16, ok_65_17, ok_65_18, ok_65_19, ok_65_20, ok_65_21, ok_65_22, ok_65_23, ok_65_24, ok_65_25, ok_65_26, ok_65_27, ok_65_28, ok_65_29, ok_65_30, ok_65_31, ok_65_32, ok_65_33, ok_65_34, ok_65_35, trivial⟩
theorem ok_66_0 : pm_ok 66 0 (1, 0, 2, .null, []) := Or.inl ⟨0, by decide +kernel, rfl, rfl⟩
theorem ok_66_1 : pm_ok 66 1 (18, 5, 1, .null, []) := ⟨19, RX5, TX5, 2, by decide +kernel, rfl, rfl, by decide, pm_cw5, Or.inl (pm_tb 215 (by decide +kernel))⟩
theorem ok_66_2 : pm_ok 66 2 (25, 4, 1, .null, [0]) := ⟨113, by decide, rfl, Or.inr ⟨"GuardPacks", (pm_tb 448 (by decide +kernel))⟩, Or.inl ⟨by decide +kernel, 0, TX0, 9, rfl, rfl, by decide, by decide +kernel, (pm_tb 450 (by decide +kernel)), (pm_tp 41 (by decide +kernel))⟩⟩
theorem ok_66_3 : pm_ok 66 3 (26, 1, 0, .null, []) := ⟨by decide +kernel, rfl⟩
set_option maxRecDepth 100000 in
theorem ok_66 : pm_oks 66 0 cd_X5_left := ⟨ok_66_0, ok_66_1, ok_66_2, ok_66_3, trivial⟩
theorem ok_67_0 : pm_ok 67 0 (1, 0, 0, .null, []) := Or.inl ⟨0, by decide +kernel, rfl, rfl⟩
theorem ok_67_1 : pm_ok 67 1 (1, 1, 0, .null, []) := Or.inl ⟨1, by decide +kernel, rfl, rfl⟩
theorem ok_67_2 : pm_ok 67 2 (16, 8, 2, .null, []) := ⟨12, by decide +kernel, by decide +kernel, rfl⟩
theorem ok_67_3 : pm_ok 67 3 (1, 0, 0, .null, []) := Or.inl ⟨0, by decide +kernel, rfl, rfl⟩
theorem ok_67_4 : pm_ok 67 4 (1, 2, 0, .null, []) := Or.inl ⟨2, by decide +kernel, rfl, rfl⟩
theorem ok_67_5 : pm_ok 67 5 (16, 8, 4, .null, []) := ⟨7, by decide +kernel, by decide +kernel, rfl⟩
theorem ok_67_6 : pm_ok 67 6 (0, 0, 0, .int 1, []) := Or.inl ⟨1, by decide +kernel, rfl, rfl⟩
theorem ok_67_7 : pm_ok 67 7 (17, 9, 0, .null, []) := ⟨4, by decide +kernel, by decide +kernel⟩
theorem ok_67_8 : pm_ok 67 8 (0, 0, 0, .int 0, []) := Or.inl ⟨0, by decide +kernel, rfl, rfl⟩
theorem ok_67_9 : pm_ok 67 9 (26, 2, 0, .null, []) := ⟨by decide +kernel, rfl⟩
set_option maxRecDepth 100000 in
theorem ok_67 : pm_oks 67 0 cd_X5_isWithin := ⟨ok_67_0, ok_67_1, ok_67_2, ok_67_3, ok_67_4, ok_67_5, ok_67_6, ok_67_7, ok_67_8, ok_67_9, trivial⟩
theorem ok_68_0 : pm_ok 68 0 (1, 0, 2, .null, []) := Or.inl ⟨0, by decide +kernel, rfl, rfl⟩
theorem ok_68_1 : pm_ok 68 1 (28, 0, 0, .null, []) := ⟨1, by decide +kernel, rfl, (pm_tb 457 (by decide +kernel)), (pm_tb 16 (by decide +kernel)), (pm_tb 17 (by decide +kernel))⟩
theorem ok_68_2 : pm_ok 68 2 (1, 0, 2, .null, []) := Or.inl ⟨0, by decide +kernel, rfl, rfl⟩
theorem ok_68_3 : pm_ok 68 3 (0, 0, 0, .int 1, []) := Or.inl ⟨1, by decide +kernel, rfl, rfl⟩
theorem ok_68_4 : pm_ok 68 4 (19, 6, 0, .null, [0]) := ⟨7, RX6, TX6, 22, tyX6, by decide +kernel, rfl, rfl, by decide, pm_cw6, tyX6_ok, nmX6, by decide +kernel, Or.inl ⟨rfl, Or.inl (pm_tb 458 (by decide +kernel))⟩⟩
theorem ok_68_5 : pm_ok 68 5 (1, 0, 2, .null, []) := Or.inl ⟨0, by decide +kernel, rfl, rfl⟩
theorem ok_68_6 : pm_ok 68 6 (0, 0, 0, .int 1, []) := Or.inl ⟨1, by decide +kernel, rfl, rfl⟩
theorem ok_68_7 : pm_ok 68 7 (19, 6, 1, .null, [0]) := ⟨13, RX6, TX6, 22, tyX6, by decide +kernel, rfl, rfl, by decide, pm_cw6, tyX6_ok, nmX6, by decide +kernel, Or.inl ⟨rfl, Or.inl (pm_tb 459 (by decide +kernel))⟩⟩
theorem ok_68_8 : pm_ok 68 8 (1, 0, 2, .null, []) := Or.inl ⟨0, by decide +kernel, rfl, rfl⟩
theorem ok_68_9 : pm_ok 68 9 (0, 0, 0, .int 64, []) := Or.inr (Or.inl ⟨64, by decide +kernel, by decide +kernel, rfl⟩)
theorem ok_68_10 : pm_ok 68 10 (24, 1, 64, .null, []) := ⟨by decide, by decide +kernel, rfl, (pm_tb 59 (by decide +kernel))⟩
theorem ok_68_11 : pm_ok 68 11 (19, 6, 2, .null, [2]) := ⟨16, RX6, TX6, 22, tyX6, by decide +kernel, rfl, rfl, by decide, pm_cw6, tyX6_ok, nmX6, by decide +kernel, Or.inr ⟨rfl, rfl, rfl, (pm_tb 460 (by decide +kernel))⟩⟩
theorem ok_68_12 : pm_ok 68 12 (1, 0, 2, .null, []) := Or.inl ⟨0, by decide +kernel, rfl, rfl⟩
theorem ok_68_13 : pm_ok 68 13 (0, 0, 0, .int 64, []) := Or.inr (Or.inl ⟨64, by decide +kernel, by decide +kernel, rfl⟩)
theorem ok_68_14 : pm_ok 68 14 (24, 1, 64, .null, []) := ⟨by decide, by decide +kernel, rfl, (pm_tb 59 (by decide +kernel))⟩
theorem ok_68_15 : pm_ok 68 15 (19, 6, 3, .null, [2]) := ⟨20, RX6, TX6, 22, tyX6, by decide +kernel, rfl, rfl, by decide, pm_cw6, tyX6_ok, nmX6, by decide +kernel, Or.inr ⟨rfl, rfl, rfl, (pm_tb 461 (by decide +kernel))⟩⟩
theorem ok_68_16 : pm_ok 68 16 (1, 0, 2, .null, []) := Or.inl ⟨0, by decide +kernel, rfl, rfl⟩
theorem ok_68_17 : pm_ok 68 17 (0, 0, 0, .int 128, []) := Or.inr (Or.inr (Or.inl ⟨128, by decide +kernel, by decide +kernel, rfl⟩))
theorem ok_68_18 : pm_ok 68 18 (24, 0, 128, .null, []) := ⟨by decide, by decide +kernel, rfl, (pm_tb 60 (by decide +kernel))⟩
theorem ok_68_19 : pm_ok 68 19 (19, 6, 5, .null, [2]) := ⟨23, RX6, TX6, 22, tyX6, by decide +kernel, rfl, rfl, by decide, pm_cw6, tyX6_ok, nmX6, by decide +kernel, Or.inr ⟨rfl, rfl, rfl, (pm_tb 463 (by decide +kernel))⟩⟩
theorem ok_68_20 : pm_ok 68 20 (1, 0, 2, .null, []) := Or.inl ⟨0, by decide +kernel, rfl, rfl⟩
theorem ok_68_21 : pm_ok 68 21 (0, 0, 0, .int 2, []) := Or.inl ⟨2, by decide +kernel, rfl, rfl⟩
theorem ok_68_22 : pm_ok 68 22 (24, 0, 2, .null, []) := ⟨by decide, by decide +kernel, rfl, (pm_tb 60 (by decide +kernel))⟩
theorem ok_68_23 : pm_ok 68 23 (19, 6, 6, .null, [2]) := ⟨27, RX6, TX6, 22, tyX6, by decide +kernel, rfl, rfl, by decide, pm_cw6, tyX6_ok, nmX6, by decide +kernel, Or.inr ⟨rfl, rfl, rfl, (pm_tb 464 (by decide +kernel))⟩⟩
theorem ok_68_24 : pm_ok 68 24 (1, 0, 2, .null, []) := Or.inl ⟨0, by decide +kernel, rfl, rfl⟩
theorem ok_68_25 : pm_ok 68 25 (0, 0, 0, .int 64, []) := Or.inr (Or.inl ⟨64, by decide +kernel, by decide +kernel, rfl⟩)
theorem ok_68_26 : pm_ok 68 26 (24, 0, 64, .null, []) := ⟨by decide, by decide +kernel, rfl, (pm_tb 60 (by decide +kernel))⟩
theorem ok_68_27 : pm_ok 68 27 (19, 6, 7, .null, [2]) := ⟨30, RX6, TX6, 22, tyX6, by decide +kernel, rfl, rfl, by decide, pm_cw6, tyX6_ok, nmX6, by decide +kernel, Or.inr ⟨rfl, rfl, rfl, (pm_tb 465 (by decide +kernel))⟩⟩
theorem ok_68_28 : pm_ok 68 28 (1, 0, 2, .null, []) := Or.inl ⟨0, by decide +kernel, rfl, rfl⟩
theorem ok_68_29 : pm_ok 68 29 (0, 0, 0, .int 1, []) := Or.inl ⟨1, by decide +kernel, rfl, rfl⟩
theorem ok_68_30 : pm_ok 68 30 (19, 6, 9, .null, [0]) := ⟨33, RX6, TX6, 22, tyX6, by decide +kernel, rfl, rfl, by decide, pm_cw6, tyX6_ok, nmX6, by decide +kernel, Or.inl ⟨rfl, Or.inl (pm_tb 467 (by decide +kernel))⟩⟩
theorem ok_68_31 : pm_ok 68 31 (1, 0, 2, .null, []) := Or.inl ⟨0, by decide +kernel, rfl, rfl⟩
theorem ok_68_32 : pm_ok 68 32 (0, 0, 0, .int 1, []) := Or.inl ⟨1, by decide +kernel, rfl, rfl⟩
theorem ok_68_33 : pm_ok 68 33 (19, 6, 10, .null, [0]) := ⟨36, RX6, TX6, 22, tyX6, by decide +kernel, rfl, rfl, by decide, pm_cw6, tyX6_ok, nmX6, by decide +kernel, Or.inl ⟨rfl, Or.inl (pm_tb 468 (by decide +kernel))⟩⟩
theorem ok_68_34 : pm_ok 68 34 (1, 0, 2, .null, []) := Or.inl ⟨0, by decide +kernel, rfl, rfl⟩
theorem ok_68_35 : pm_ok 68 35 (0, 0, 0, .int 8, []) := Or.inr (Or.inl ⟨8, by decide +kernel, by decide +kernel, rfl⟩)
theorem ok_68_36 : pm_ok 68 36 (24, 0, 8, .null, []) := ⟨by decide, by decide +kernel, rfl, (pm_tb 60 (by decide +kernel))⟩
theorem ok_68_37 : pm_ok 68 37 (19, 6, 12, .null, [2]) := ⟨39, RX6, TX6, 22, tyX6, by decide +kernel, rfl, rfl, by decide, pm_cw6, tyX6_ok, nmX6, by decide +kernel, Or.inr ⟨rfl, rfl, rfl, (pm_tb 470 (by decide +kernel))⟩⟩
theorem ok_68_38 : pm_ok 68 38 (1, 0, 2, .null, []) := Or.inl ⟨0, by decide +kernel, rfl, rfl⟩
theorem ok_68_39 : pm_ok 68 39 (0, 0, 0, .int 8, []) := Or.inr (Or.inl ⟨8, by decide +kernel, by decide +kernel, rfl⟩)
theorem ok_68_40 : pm_ok 68 40 (24, 0, 8, .null, []) := ⟨by decide, by decide +kernel, rfl, (pm_tb 60 (by decide +kernel))⟩
theorem ok_68_41 : pm_ok 68 41 (19, 6, 13, .null, [2]) := ⟨42, RX6, TX6, 22, tyX6, by decide +kernel, rfl, rfl, by decide, pm_cw6, tyX6_ok, nmX6, by decide +kernel, Or.inr ⟨rfl, rfl, rfl, (pm_tb 471 (by decide +kernel))⟩⟩
theorem ok_68_42 : pm_ok 68 42 (1, 0, 2, .null, []) := Or.inl ⟨0, by decide +kernel, rfl, rfl⟩
theorem ok_68_43 : pm_ok 68 43 (0, 0, 0, .int 8, []) := Or.inr (Or.inl ⟨8, by decide +kernel, by decide +kernel, rfl⟩)
theorem ok_68_44 : pm_ok 68 44 (24, 0, 8, .null, []) := ⟨by decide, by decide +kernel, rfl, (pm_tb 60 (by decide +kernel))⟩
theorem ok_68_45 : pm_ok 68 45 (19, 6, 14, .null, [2]) := ⟨45, RX6, TX6, 22, tyX6, by decide +kernel, rfl, rfl, by decide, pm_cw6, tyX6_ok, nmX6, by decide +kernel, Or.inr ⟨rfl, rfl, rfl, (pm_tb 472 (by decide +kernel))⟩⟩
theorem ok_68_46 : pm_ok 68 46 (1, 0, 2, .null, []) := Or.inl ⟨0, by decide +kernel, rfl, rfl⟩
theorem ok_68_47 : pm_ok 68 47 (0, 0, 0, .int 256, []) := Or.inr (Or.inr (Or.inl ⟨256, by decide +kernel, by decide +kernel, rfl⟩))
theorem ok_68_48 : pm_ok 68 48 (24, 0, 256, .null, []) := ⟨by decide, by decide +kernel, rfl, (pm_tb 60 (by decide +kernel))⟩
theorem ok_68_49 : pm_ok 68 49 (19, 6, 17, .null, [2]) := ⟨48, RX6, TX6, 22, tyX6, by decide +kernel, rfl, rfl, by decide, pm_cw6, tyX6_ok, nmX6, by decide +kernel, Or.inr ⟨rfl, rfl, rfl, (pm_tb 475 (by decide +kernel))⟩⟩
theorem ok_68_50 : pm_ok 68 50 (1, 0, 2, .null, []) := Or.inl ⟨0, by decide +kernel, rfl, rfl⟩
theorem ok_68_51 : pm_ok 68 51 (0, 0, 0, .int 4096, []) := Or.inr (Or.inr (Or.inl ⟨4096, by decide +kernel, by decide +kernel, rfl⟩))
theorem ok_68_52 : pm_ok 68 52 (24, 2, 4096, .null, []) := ⟨by decide, by decide +kernel, rfl, (pm_tb 108 (by decide +kernel))⟩
theorem ok_68_53 : pm_ok 68 53 (19, 6, 18, .null, [2]) := ⟨51, RX6, TX6, 22, tyX6, by decide +kernel, rfl, rfl, by decide, pm_cw6, tyX6_ok, nmX6, by decide +kernel, Or.inr ⟨rfl, rfl, rfl, (pm_tb 476 (by decide +kernel))⟩⟩
theorem ok_68_54 : pm_ok 68 54 (1, 0, 2, .null, []) := Or.inl ⟨0, by decide +kernel, rfl, rfl⟩
theorem ok_68_55 : pm_ok 68 55 (0, 0, 0, .int 32, []) := Or.inr (Or.inl ⟨32, by decide +kernel, by decide +kernel, rfl⟩)
theorem ok_68_56 : pm_ok 68 56 (24, 0, 32, .null, []) := ⟨by decide, by decide +kernel, rfl, (pm_tb 60 (by decide +kernel))⟩
theorem ok_68_57 : pm_ok 68 57 (19, 6, 19, .null, [2]) := ⟨55, RX6, TX6, 22, tyX6, by decide +kernel, rfl, rfl, by decide, pm_cw6, tyX6_ok, nmX6, by decide +kernel, Or.inr ⟨rfl, rfl, rfl, (pm_tb 477 (by decide +kernel))⟩⟩
theorem ok_68_58 : pm_ok 68 58 (1, 0, 2, .null, []) := Or.inl ⟨0, by decide +kernel, rfl, rfl⟩
theorem ok_68_59 : pm_ok 68 59 (0, 0, 0, .int 32, []) := Or.inr (Or.inl ⟨32, by decide +kernel, by decide +kernel, rfl⟩)
theorem ok_68_60 : pm_ok 68 60 (24, 0, 32, .null, []) := ⟨by decide, by decide +kernel, rfl, (pm_tb 60 (by decide +kernel))⟩
theorem ok_68_61 : pm_ok 68 61 (19, 6, 20, .null, [2]) := ⟨58, RX6, TX6, 22, tyX6, by decide +kernel, rfl, rfl, by decide, pm_cw6, tyX6_ok, nmX6, by decide +kernel, Or.inr ⟨rfl, rfl, rfl, (pm_tb 478 (by decide +kernel))⟩⟩
theorem ok_68_62 : pm_ok 68 62 (1, 0, 2, .null, []) := Or.inl ⟨0, by decide +kernel, rfl, rfl⟩
theorem ok_68_63 : pm_ok 68 63 (0, 0, 0, .int 32, []) := Or.inr (Or.inl ⟨32, by decide +kernel, by decide +kernel, rfl⟩)
theorem ok_68_64 : pm_ok 68 64 (24, 0, 32, .null, []) := ⟨by decide, by decide +kernel, rfl, (pm_tb 60 (by decide +kernel))⟩
theorem ok_68_65 : pm_ok 68 65 (19, 6, 21, .null, [2]) := ⟨61, RX6, TX6, 22, tyX6, by decide +kernel, rfl, rfl, by decide, pm_cw6, tyX6_ok, nmX6, by decide +kernel, Or.inr ⟨rfl, rfl, rfl, (pm_tb 479 (by decide +kernel))⟩⟩
theorem ok_68_66 : pm_ok 68 66 (0, 0, 0, .int 1, []) := Or.inl ⟨1, by decide +kernel, rfl, rfl⟩
theorem ok_68_67 : pm_ok 68 67 (2, 1, 0, .null, []) := Or.inl ⟨1, by decide +kernel, rfl, rfl⟩
theorem ok_68_68 : pm_ok 68 68 (1, 1, 0, .null, []) := Or.inl ⟨1, by decide +kernel, rfl, rfl⟩
theorem ok_68_69 : pm_ok 68 69 (0, 0, 0, .int 256, []) := Or.inr (Or.inr (Or.inl ⟨256, by decide +kernel, by decide +kernel, rfl⟩))
theorem ok_68_70 : pm_ok 68 70 (16, 87, 3, .null, []) := ⟨27, by decide +kernel, by decide +kernel, rfl⟩
theorem ok_68_71 : pm_ok 68 71 (1, 0, 2, .null, []) := Or.inl ⟨0, by decide +kernel, rfl, rfl⟩
theorem ok_68_72 : pm_ok 68 72 (18, 6, 17, .null, []) := ⟨48, RX6, TX6, 22, by decide +kernel, rfl, rfl, by decide, pm_cw6, Or.inl (pm_tb 475 (by decide +kernel))⟩
theorem ok_68_73 : pm_ok 68 73 (1, 1, 0, .null, []) := Or.inl ⟨1, by decide +kernel, rfl, rfl⟩
theorem ok_68_74 : pm_ok 68 74 (1, 0, 2, .null, []) := Or.inl ⟨0, by decide +kernel, rfl, rfl⟩
theorem ok_68_75 : pm_ok 68 75 (18, 6, 17, .null, []) := ⟨48, RX6, TX6, 22, by decide +kernel, rfl, rfl, by decide, pm_cw6, Or.inl (pm_tb 475 (by decide +kernel))⟩
theorem ok_68_76 : pm_ok 68 76 (1, 1, 0, .null, []) := Or.inl ⟨1, by decide +kernel, rfl, rfl⟩
theorem ok_68_77 : pm_ok 68 77 (0, 0, 0, .int 2, []) := Or.inl ⟨2, by decide +kernel, rfl, rfl⟩
theorem ok_68_78 : pm_ok 68 78 (31, 0, 0, .null, []) := ⟨by decide +kernel, rfl⟩
theorem ok_68_79 : pm_ok 68 79 (20, 0, 0, .null, []) := ⟨by decide +kernel, rfl⟩
theorem ok_68_80 : pm_ok 68 80 (1, 1, 0, .null, []) := Or.inl ⟨1, by decide +kernel, rfl, rfl⟩
theorem ok_68_81 : pm_ok 68 81 (0, 0, 0, .int 2, []) := Or.inl ⟨2, by decide +kernel, rfl, rfl⟩
theorem ok_68_82 : pm_ok 68 82 (32, 0, 0, .null, []) := ⟨by decide +kernel, rfl⟩
theorem ok_68_83 : pm_ok 68 83 (4, 0, 0, .null, []) := ⟨by decide +kernel, rfl⟩
theorem ok_68_84 : pm_ok 68 84 (21, 0, 0, .null, []) := ⟨by decide +kernel, rfl⟩
theorem ok_68_85 : pm_ok 68 85 (3, 1, 0, .int 1, []) := ⟨1, by decide +kernel, rfl, rfl⟩
theorem ok_68_86 : pm_ok 68 86 (17, 68, 0, .null, []) := ⟨(-28), by decide +kernel, by decide +kernel⟩
theorem ok_68_87 : pm_ok 68 87 (26, 0, 0, .null, []) := ⟨by decide +kernel, rfl⟩
set_option maxRecDepth 100000 in
theorem ok_68 : pm_oks 68 0 cd_X6_init := ⟨ok_68_0, ok_68_1, ok_68_2, ok_68_3, ok_68_4, ok_68_5, ok_68_6, ok_68_7, ok_68_8, ok_68_9, ok_68_10, ok_68_11, ok_68_12, ok_68_13, ok_68_14, ok_68_15, ok_68_16, ok_68_17, ok_68_18, ok_68_19, ok_68_20, ok_68_21, ok_68_22, ok_68_23, ok_68_24, ok_68_25, ok_68_26, ok_68_27, ok_68_28, ok_68_29, ok_68_30, ok_68_31, ok_68_32, ok_68_33, ok_68_34, ok_68_35, ok_68_36, ok_68_37, ok_68_38, ok_68_39, ok_68_40, ok_68_41, ok_68_42, ok_68_43, ok_68_44, ok_68_45, ok_68_46, ok_68_47, ok_68_48, ok_68_49, ok_68_50, ok_68_51, ok_68_52, ok_68_53, ok_68_54, ok_68_55, ok_68_56, ok_68_57, ok_68_58, ok_68_59, ok_68_60, ok_68_61, ok_68_62, ok_68_63, ok_68_64, ok_68_65, ok_68_66, ok_68_67, ok_68_68, ok_68_69, ok_68_70, ok_68_71, ok_68_72, ok_68_73, ok_68_74, ok_68_75, ok_68_76, ok_68_77, ok_68_78, ok_68_79, ok_68_80, ok_68_81, ok_68_82, ok_68_83, ok_68_84, ok_68_85, ok_68_86, ok_68_87, trivial⟩
theorem ok_69_0 : pm_ok 69 0 (1, 0, 0, .null, []) := Or.inl ⟨0, by decide +kernel, rfl, rfl⟩
theorem ok_69_1 : pm_ok 69 1 (1, 1, 0, .null, []) := Or.inl ⟨1, by decide +kernel, rfl, rfl⟩
theorem ok_69_2 : pm_ok 69 2 (16, 8, 2, .null, []) := ⟨12, by decide +kernel, by decide +kernel, rfl⟩
theorem ok_69_3 : pm_ok 69 3 (1, 0, 0, .null, []) := Or.inl ⟨0, by decide +kernel, rfl, rfl⟩
theorem ok_69_4 : pm_ok 69 4 (1, 2, 0, .null, []) := Or.inl ⟨2, by decide +kernel, rfl, rfl⟩
theorem ok_69_5 : pm_ok 69 5 (16, 8, 4, .null, []) := ⟨7, by decide +kernel, by decide +kernel, rfl⟩
theorem ok_69_6 : pm_ok 69 6 (0, 0, 0, .int 1, []) := Or.inl ⟨1, by decide +kernel, rfl, rfl⟩
theorem ok_69_7 : pm_ok 69 7 (17, 9, 0, .null, []) := ⟨4, by decide +kernel, by decide +kernel⟩
theorem ok_69_8 : pm_ok 69 8 (0, 0, 0, .int 0, []) := Or.inl ⟨0, by decide +kernel, rfl, rfl⟩
theorem ok_69_9 : pm_ok 69 9 (26, 2, 0, .null, []) := ⟨by decide +kernel, rfl⟩
set_option maxRecDepth 100000 in
theorem ok_69 : pm_oks 69 0 cd_X6_within := ⟨ok_69_0, ok_69_1, ok_69_2, ok_69_3, ok_69_4, ok_69_5, ok_69_6, ok_69_7, ok_69_8, ok_69_9, trivial⟩
theorem ok_70_0 : pm_ok 70 0 (1, 1, 0, .null, []) := Or.inl ⟨1, by decide +kernel, rfl, rfl⟩
theorem ok_70_1 : pm_ok 70 1 (0, 0, 0, .int 1, []) := Or.inl ⟨1, by decide +kernel, rfl, rfl⟩
theorem ok_70_2 : pm_ok 70 2 (0, 0, 0, .int 8, []) := Or.inr (Or.inl ⟨8, by decide +kernel, by decide +kernel, rfl⟩)
theorem ok_70_3 : pm_ok 70 3 (25, 69, 3, .null, []) := ⟨64, by decide, rfl, Or.inl (pm_tb 529 (by decide +kernel)), Or.inr (Or.inr ⟨by decide +kernel, rfl, by decide +kernel, (pm_tb 530 (by decide +kernel))⟩)⟩
theorem ok_70_4 : pm_ok 70 4 (15, 10, 0, .null, []) := ⟨13, by decide +kernel, by decide +kernel, rfl⟩
theorem ok_70_5 : pm_ok 70 5 (1, 2, 0, .null, []) := Or.inl ⟨2, by decide +kernel, rfl, rfl⟩
theorem ok_70_6 : pm_ok 70 6 (0, 0, 0, .int 1, []) := Or.inl ⟨1, by decide +kernel, rfl, rfl⟩
theorem ok_70_7 : pm_ok 70 7 (0, 0, 0, .int 8, []) := Or.inr (Or.inl ⟨8, by decide +kernel, by decide +kernel, rfl⟩)
theorem ok_70_8 : pm_ok 70 8 (25, 69, 3, .null, []) := ⟨64, by decide, rfl, Or.inl (pm_tb 529 (by decide +kernel)), Or.inr (Or.inr ⟨by decide +kernel, rfl, by decide +kernel, (pm_tb 530 (by decide +kernel))⟩)⟩
theorem ok_70_9 : pm_ok 70 9 (15, 12, 1, .null, []) := ⟨6, by decide +kernel, by decide +kernel, rfl⟩
theorem ok_70_10 : pm_ok 70 10 (0, 0, 0, .int (-2), []) := Or.inr (Or.inl ⟨(-2), by decide +kernel, by decide +kernel, rfl⟩)
theorem ok_70_11 : pm_ok 70 11 (26, 1, 0, .null, []) := ⟨by decide +kernel, rfl⟩
theorem ok_70_12 : pm_ok 70 12 (1, 0, 2, .null, []) := Or.inl ⟨0, by decide +kernel, rfl, rfl⟩
theorem ok_70_13 : pm_ok 70 13 (1, 1, 0, .null, []) := Or.inl ⟨1, by decide +kernel, rfl, rfl⟩
theorem ok_70_14 : pm_ok 70 14 (19, 6, 0, .null, [0]) := ⟨7, RX6, TX6, 22, tyX6, by decide +kernel, rfl, rfl, by decide, pm_cw6, tyX6_ok, nmX6, by decide +kernel, Or.inl ⟨rfl, Or.inl (pm_tb 458 (by decide +kernel))⟩⟩
theorem ok_70_15 : pm_ok 70 15 (1, 0, 2, .null, []) := Or.inl ⟨0, by decide +kernel, rfl, rfl⟩
theorem ok_70_16 : pm_ok 70 16 (1, 2, 0, .null, []) := Or.inl ⟨2, by decide +kernel, rfl, rfl⟩
theorem ok_70_17 : pm_ok 70 17 (19, 6, 1, .null, [0]) := ⟨13, RX6, TX6, 22, tyX6, by decide +kernel, rfl, rfl, by decide, pm_cw6, tyX6_ok, nmX6, by decide +kernel, Or.inl ⟨rfl, Or.inl (pm_tb 459 (by decide +kernel))⟩⟩
theorem ok_70_18 : pm_ok 70 18 (1, 0, 2, .null, []) := Or.inl ⟨0, by decide +kernel, rfl, rfl⟩
theorem ok_70_19 : pm_ok 70 19 (0, 0, 0, .int 0, []) := Or.inl ⟨0, by decide +kernel, rfl, rfl⟩
theorem ok_70_20 : pm_ok 70 20 (19, 6, 4, .null, [0]) := ⟨68, RX6, TX6, 22, tyX6, by decide +kernel, rfl, rfl, by decide, pm_cw6, tyX6_ok, nmX6, by decide +kernel, Or.inl ⟨rfl, Or.inl (pm_tb 462 (by decide +kernel))⟩⟩
theorem ok_70_21 : pm_ok 70 21 (0, 0, 0, .int 0, []) := Or.inl ⟨0, by decide +kernel, rfl, rfl⟩
theorem ok_70_22 : pm_ok 70 22 (2, 3, 0, .null, []) := Or.inl ⟨3, by decide +kernel, rfl, rfl⟩
theorem ok_70_23 : pm_ok 70 23 (1, 3, 0, .null, []) := Or.inl ⟨3, by decide +kernel, rfl, rfl⟩
theorem ok_70_24 : pm_ok 70 24 (0, 0, 0, .int 64, []) := Or.inr (Or.inl ⟨64, by decide +kernel, by decide +kernel, rfl⟩)
theorem ok_70_25 : pm_ok 70 25 (16, 38, 3, .null, []) := ⟨23, by decide +kernel, by decide +kernel, rfl⟩
theorem ok_70_26 : pm_ok 70 26 (1, 0, 2, .null, []) := Or.inl ⟨0, by decide +kernel, rfl, rfl⟩
theorem ok_70_27 : pm_ok 70 27 (18, 6, 2, .null, []) := ⟨16, RX6, TX6, 22, by decide +kernel, rfl, rfl, by decide, pm_cw6, Or.inl (pm_tb 460 (by decide +kernel))⟩
theorem ok_70_28 : pm_ok 70 28 (1, 3, 0, .null, []) := Or.inl ⟨3, by decide +kernel, rfl, rfl⟩
theorem ok_70_29 : pm_ok 70 29 (0, 0, 0, .int 0, []) := Or.inl ⟨0, by decide +kernel, rfl, rfl⟩
theorem ok_70_30 : pm_ok 70 30 (21, 0, 1, .null, []) := ⟨by decide +kernel, rfl⟩
theorem ok_70_31 : pm_ok 70 31 (1, 0, 2, .null, []) := Or.inl ⟨0, by decide +kernel, rfl, rfl⟩
theorem ok_70_32 : pm_ok 70 32 (18, 6, 3, .null, []) := ⟨20, RX6, TX6, 22, by decide +kernel, rfl, rfl, by decide, pm_cw6, Or.inl (pm_tb 461 (by decide +kernel))⟩
theorem ok_70_33 : pm_ok 70 33 (1, 3, 0, .null, []) := Or.inl ⟨3, by decide +kernel, rfl, rfl⟩
theorem ok_70_34 : pm_ok 70 34 (0, 0, 0, .int 0, []) := Or.inl ⟨0, by decide +kernel, rfl, rfl⟩
theorem ok_70_35 : pm_ok 70 35 (21, 0, 1, .null, []) := ⟨by decide +kernel, rfl⟩
theorem ok_70_36 : pm_ok 70 36 (3, 3, 0, .int 1, []) := ⟨1, by decide +kernel, rfl, rfl⟩
theorem ok_70_37 : pm_ok 70 37 (17, 23, 0, .null, []) := ⟨(-23), by decide +kernel, by decide +kernel⟩
theorem ok_70_38 : pm_ok 70 38 (1, 0, 2, .null, []) := Or.inl ⟨0, by decide +kernel, rfl, rfl⟩
theorem ok_70_39 : pm_ok 70 39 (0, 0, 0, .int 0, []) := Or.inl ⟨0, by decide +kernel, rfl, rfl⟩
theorem ok_70_40 : pm_ok 70 40 (19, 6, 8, .null, [3]) := ⟨71, RX6, TX6, 22, tyX6, by decide +kernel, rfl, rfl, by decide, pm_cw6, tyX6_ok, nmX6, by decide +kernel, Or.inl ⟨rfl, Or.inl (pm_tb 466 (by decide +kernel))⟩⟩
theorem ok_70_41 : pm_ok 70 41 (1, 1, 0, .null, []) := Or.inl ⟨1, by decide +kernel, rfl, rfl⟩
theorem ok_70_42 : pm_ok 70 42 (1, 2, 0, .null, []) := Or.inl ⟨2, by decide +kernel, rfl, rfl⟩
theorem ok_70_43 : pm_ok 70 43 (4, 0, 2, .null, []) := ⟨by decide +kernel, rfl⟩
theorem ok_70_44 : pm_ok 70 44 (26, 1, 0, .null, []) := ⟨by decide +kernel, rfl⟩
set_option maxRecDepth 100000 in
theorem ok_70 : pm_oks 70 0 cd_X6_hall := ⟨ok_70_0, ok_70_1, ok_70_2, ok_70_3, ok_70_4, ok_70_5, ok_70_6, ok_70_7, ok_70_8, ok_70_9, ok_70_10, ok_70_11, ok_70_12, ok_70_13, ok_70_14, ok_70_15, ok_70_16, ok_70_17, ok_70_18, ok_70_19, ok_70_20, ok_70_21, ok_70_22, ok_70_23, ok_70_24, ok_70_25, ok_70_26, ok_70_27, ok_70_28, ok_70_29, ok_70_30, ok_70_31, ok_70_32, ok_70_33, ok_70_34, ok_70_35, ok_70_36, ok_70_37, ok_70_38, ok_70_39, ok_70_40, ok_70_41, ok_70_42, ok_70_43, ok_70_44, trivial⟩
theorem ok_71_0 : pm_ok 71 0 (1, 1, 0, .null, []) := Or.inl ⟨1, by decide +kernel, rfl, rfl⟩
theorem ok_71_1 : pm_ok 71 1 (0, 0, 0, .int 0, []) := Or.inl ⟨0, by decide +kernel, rfl, rfl⟩
theorem ok_71_2 : pm_ok 71 2 (1, 0, 2, .null, []) := Or.inl ⟨0, by decide +kernel, rfl, rfl⟩
theorem ok_71_3 : pm_ok 71 3 (18, 6, 0, .null, []) := ⟨7, RX6, TX6, 22, by decide +kernel, rfl, rfl, by decide, pm_cw6, Or.inl (pm_tb 458 (by decide +kernel))⟩
theorem ok_71_4 : pm_ok 71 4 (0, 0, 0, .int 1, []) := Or.inl ⟨1, by decide +kernel, rfl, rfl⟩
theorem ok_71_5 : pm_ok 71 5 (4, 0, 1, .null, []) := ⟨by decide +kernel, rfl⟩
theorem ok_71_6 : pm_ok 71 6 (25, 69, 3, .null, []) := ⟨64, by decide, rfl, Or.inl (pm_tb 529 (by decide +kernel)), Or.inr (Or.inr ⟨by decide +kernel, rfl, by decide +kernel, (pm_tb 530 (by decide +kernel))⟩)⟩
theorem ok_71_7 : pm_ok 71 7 (15, 18, 0, .null, []) := ⟨21, by decide +kernel, by decide +kernel, rfl⟩
theorem ok_71_8 : pm_ok 71 8 (1, 2, 0, .null, []) := Or.inl ⟨2, by decide +kernel, rfl, rfl⟩
theorem ok_71_9 : pm_ok 71 9 (0, 0, 0, .int 0, []) := Or.inl ⟨0, by decide +kernel, rfl, rfl⟩
theorem ok_71_10 : pm_ok 71 10 (1, 0, 2, .null, []) := Or.inl ⟨0, by decide +kernel, rfl, rfl⟩
theorem ok_71_11 : pm_ok 71 11 (18, 6, 1, .null, []) := ⟨13, RX6, TX6, 22, by decide +kernel, rfl, rfl, by decide, pm_cw6, Or.inl (pm_tb 459 (by decide +kernel))⟩
theorem ok_71_12 : pm_ok 71 12 (0, 0, 0, .int 1, []) := Or.inl ⟨1, by decide +kernel, rfl, rfl⟩
theorem ok_71_13 : pm_ok 71 13 (4, 0, 1, .null, []) := ⟨by decide +kernel, rfl⟩
theorem ok_71_14 : pm_ok 71 14 (25, 69, 3, .null, []) := ⟨64, by decide, rfl, Or.inl (pm_tb 529 (by decide +kernel)), Or.inr (Or.inr ⟨by decide +kernel, rfl, by decide +kernel, (pm_tb 530 (by decide +kernel))⟩)⟩
theorem ok_71_15 : pm_ok 71 15 (15, 18, 0, .null, []) := ⟨7, by decide +kernel, by decide +kernel, rfl⟩
theorem ok_71_16 : pm_ok 71 16 (0, 0, 0, .int 1, []) := Or.inl ⟨1, by decide +kernel, rfl, rfl⟩
theorem ok_71_17 : pm_ok 71 17 (17, 19, 0, .null, []) := ⟨4, by decide +kernel, by decide +kernel⟩
theorem ok_71_18 : pm_ok 71 18 (0, 0, 0, .int 0, []) := Or.inl ⟨0, by decide +kernel, rfl, rfl⟩
theorem ok_71_19 : pm_ok 71 19 (26, 2, 0, .null, []) := ⟨by decide +kernel, rfl⟩
set_option maxRecDepth 100000 in
theorem ok_71 : pm_oks 71 0 cd_X6_isCell := ⟨ok_71_0, ok_71_1, ok_71_2, ok_71_3, ok_71_4, ok_71_5, ok_71_6, ok_71_7, ok_71_8, ok_71_9, ok_71_10, ok_71_11, ok_71_12, ok_71_13, ok_71_14, ok_71_15, ok_71_16, ok_71_17, ok_71_18, ok_71_19, trivial⟩
theorem ok_72_0 : pm_ok 72 0 (1, 0, 2, .null, []) := Or.inl ⟨0, by decide +kernel, rfl, rfl⟩
theorem ok_72_1 : pm_ok 72 1 (1, 1, 0, .null, []) := Or.inl ⟨1, by decide +kernel, rfl, rfl⟩
theorem ok_72_2 : pm_ok 72 2 (1, 2, 0, .null, []) := Or.inl ⟨2, by decide +kernel, rfl, rfl⟩
theorem ok_72_3 : pm_ok 72 3 (25, 71, 3, .null, [6]) := ⟨75, by decide, rfl, Or.inl (pm_tb 536 (by decide +kernel)), Or.inl ⟨by decide +kernel, 6, TX6, 22, rfl, rfl, by decide, by decide +kernel, (pm_tb 538 (by decide +kernel)), (pm_tp 42 (by decide +kernel))⟩⟩
theorem ok_72_4 : pm_ok 72 4 (15, 7, 1, .null, []) := ⟨6, by decide +kernel, by decide +kernel, rfl⟩
theorem ok_72_5 : pm_ok 72 5 (0, 0, 0, .int (-2), []) := Or.inr (Or.inl ⟨(-2), by decide +kernel, by decide +kernel, rfl⟩)
theorem ok_72_6 : pm_ok 72 6 (26, 1, 0, .null, []) := ⟨by decide +kernel, rfl⟩
theorem ok_72_7 : pm_ok 72 7 (1, 2, 0, .null, []) := Or.inl ⟨2, by decide +kernel, rfl, rfl⟩
theorem ok_72_8 : pm_ok 72 8 (1, 0, 2, .null, []) := Or.inl ⟨0, by decide +kernel, rfl, rfl⟩
theorem ok_72_9 : pm_ok 72 9 (18, 6, 0, .null, []) := ⟨7, RX6, TX6, 22, by decide +kernel, rfl, rfl, by decide, pm_cw6, Or.inl (pm_tb 458 (by decide +kernel))⟩
theorem ok_72_10 : pm_ok 72 10 (4, 0, 2, .null, []) := ⟨by decide +kernel, rfl⟩
theorem ok_72_11 : pm_ok 72 11 (1, 1, 0, .null, []) := Or.inl ⟨1, by decide +kernel, rfl, rfl⟩
theorem ok_72_12 : pm_ok 72 12 (4, 0, 0, .null, []) := ⟨by decide +kernel, rfl⟩
theorem ok_72_13 : pm_ok 72 13 (2, 4, 0, .null, []) := Or.inr ⟨by decide +kernel, rfl⟩
theorem ok_72_14 : pm_ok 72 14 (1, 0, 2, .null, []) := Or.inl ⟨0, by decide +kernel, rfl, rfl⟩
theorem ok_72_15 : pm_ok 72 15 (18, 6, 3, .null, []) := ⟨20, RX6, TX6, 22, by decide +kernel, rfl, rfl, by decide, pm_cw6, Or.inl (pm_tb 461 (by decide +kernel))⟩
theorem ok_72_16 : pm_ok 72 16 (1, 4, 0, .null, []) := Or.inr ⟨by decide +kernel, rfl⟩
theorem ok_72_17 : pm_ok 72 17 (20, 0, 1, .null, []) := ⟨by decide +kernel, rfl⟩
theorem ok_72_18 : pm_ok 72 18 (15, 21, 0, .null, []) := ⟨6, by decide +kernel, by decide +kernel, rfl⟩
theorem ok_72_19 : pm_ok 72 19 (0, 0, 0, .int (-3), []) := Or.inr (Or.inl ⟨(-3), by decide +kernel, by decide +kernel, rfl⟩)
theorem ok_72_20 : pm_ok 72 20 (26, 1, 0, .null, []) := ⟨by decide +kernel, rfl⟩
theorem ok_72_21 : pm_ok 72 21 (1, 0, 2, .null, []) := Or.inl ⟨0, by decide +kernel, rfl, rfl⟩
theorem ok_72_22 : pm_ok 72 22 (18, 6, 2, .null, []) := ⟨16, RX6, TX6, 22, by decide +kernel, rfl, rfl, by decide, pm_cw6, Or.inl (pm_tb 460 (by decide +kernel))⟩
theorem ok_72_23 : pm_ok 72 23 (1, 4, 0, .null, []) := Or.inr ⟨by decide +kernel, rfl⟩
theorem ok_72_24 : pm_ok 72 24 (20, 0, 1, .null, []) := ⟨by decide +kernel, rfl⟩
theorem ok_72_25 : pm_ok 72 25 (1, 3, 0, .null, []) := Or.inl ⟨3, by decide +kernel, rfl, rfl⟩
theorem ok_72_26 : pm_ok 72 26 (16, 29, 1, .null, []) := ⟨7, by decide +kernel, by decide +kernel, rfl⟩
theorem ok_72_27 : pm_ok 72 27 (0, 0, 0, .int 1, []) := Or.inl ⟨1, by decide +kernel, rfl, rfl⟩
theorem ok_72_28 : pm_ok 72 28 (17, 30, 0, .null, []) := ⟨4, by decide +kernel, by decide +kernel⟩
theorem ok_72_29 : pm_ok 72 29 (0, 0, 0, .int 0, []) := Or.inl ⟨0, by decide +kernel, rfl, rfl⟩
theorem ok_72_30 : pm_ok 72 30 (2, 5, 0, .null, []) := Or.inr ⟨by decide +kernel, rfl⟩
theorem ok_72_31 : pm_ok 72 31 (1, 0, 2, .null, []) := Or.inl ⟨0, by decide +kernel, rfl, rfl⟩
theorem ok_72_32 : pm_ok 72 32 (18, 6, 2, .null, []) := ⟨16, RX6, TX6, 22, by decide +kernel, rfl, rfl, by decide, pm_cw6, Or.inl (pm_tb 460 (by decide +kernel))⟩
theorem ok_72_33 : pm_ok 72 33 (1, 4, 0, .null, []) := Or.inr ⟨by decide +kernel, rfl⟩
theorem ok_72_34 : pm_ok 72 34 (1, 3, 0, .null, []) := Or.inl ⟨3, by decide +kernel, rfl, rfl⟩
theorem ok_72_35 : pm_ok 72 35 (15, 38, 1, .null, []) := ⟨7, by decide +kernel, by decide +kernel, rfl⟩
theorem ok_72_36 : pm_ok 72 36 (0, 0, 0, .int 1, []) := Or.inl ⟨1, by decide +kernel, rfl, rfl⟩
theorem ok_72_37 : pm_ok 72 37 (17, 39, 0, .null, []) := ⟨4, by decide +kernel, by decide +kernel⟩
theorem ok_72_38 : pm_ok 72 38 (0, 0, 0, .int 0, []) := Or.inl ⟨0, by decide +kernel, rfl, rfl⟩
theorem ok_72_39 : pm_ok 72 39 (21, 0, 1, .null, []) := ⟨by decide +kernel, rfl⟩
theorem ok_72_40 : pm_ok 72 40 (1, 0, 2, .null, []) := Or.inl ⟨0, by decide +kernel, rfl, rfl⟩
theorem ok_72_41 : pm_ok 72 41 (0, 0, 0, .int 0, []) := Or.inl ⟨0, by decide +kernel, rfl, rfl⟩
theorem ok_72_42 : pm_ok 72 42 (19, 6, 8, .null, [3]) := ⟨71, RX6, TX6, 22, tyX6, by decide +kernel, rfl, rfl, by decide, pm_cw6, tyX6_ok, nmX6, by decide +kernel, Or.inl ⟨rfl, Or.inl (pm_tb 466 (by decide +kernel))⟩⟩
theorem ok_72_43 : pm_ok 72 43 (1, 5, 0, .null, []) := Or.inr ⟨by decide +kernel, rfl⟩
theorem ok_72_44 : pm_ok 72 44 (26, 1, 0, .null, []) := ⟨by decide +kernel, rfl⟩
set_option maxRecDepth 100000 in
theorem ok_72 : pm_oks 72 0 cd_X6_wall := ⟨ok_72_0, ok_72_1, ok_72_2, ok_72_3, ok_72_4, ok_72_5, ok_72_6, ok_72_7, ok_72_8, ok_72_9, ok_72_10, ok_72_11, ok_72_12, ok_72_13, ok_72_14, ok_72_15, ok_72_16, ok_72_17, ok_72_18, ok_72_19, ok_72_20, ok_72_21, ok_72_22, ok_72_23, ok_72_24, ok_72_25, ok_72_26, ok_72_27, ok_72_28, ok_72_29, ok_72_30, ok_72_31, ok_72_32, ok_72_33, ok_72_34, ok_72_35, ok_72_36, ok_72_37, ok_72_38, ok_72_39, ok_72_40, ok_72_41, ok_72_42, ok_72_43, ok_72_44, trivial⟩
theorem ok_73_0 : pm_ok 73 0 (1, 0, 2, .null, []) := Or.inl ⟨0, by decide +kernel, rfl, rfl⟩
theorem ok_73_1 : pm_ok 73 1 (1, 1, 0, .null, []) := Or.inl ⟨1, by decide +kernel, rfl, rfl⟩
theorem ok_73_2 : pm_ok 73 2 (1, 2, 0, .null, []) := Or.inl ⟨2, by decide +kernel, rfl, rfl⟩
theorem ok_73_3 : pm_ok 73 3 (25, 71, 3, .null, [6]) := ⟨75, by decide, rfl, Or.inl (pm_tb 536 (by decide +kernel)), Or.inl ⟨by decide +kernel, 6, TX6, 22, rfl, rfl, by decide, by decide +kernel, (pm_tb 538 (by decide +kernel)), (pm_tp 42 (by decide +kernel))⟩⟩
theorem ok_73_4 : pm_ok 73 4 (15, 7, 1, .null, []) := ⟨6, by decide +kernel, by decide +kernel, rfl⟩
theorem ok_73_5 : pm_ok 73 5 (0, 0, 0, .int (-2), []) := Or.inr (Or.inl ⟨(-2), by decide +kernel, by decide +kernel, rfl⟩)
theorem ok_73_6 : pm_ok 73 6 (26, 1, 0, .null, []) := ⟨by decide +kernel, rfl⟩
theorem ok_73_7 : pm_ok 73 7 (1, 2, 0, .null, []) := Or.inl ⟨2, by decide +kernel, rfl, rfl⟩
theorem ok_73_8 : pm_ok 73 8 (1, 0, 2, .null, []) := Or.inl ⟨0, by decide +kernel, rfl, rfl⟩
theorem ok_73_9 : pm_ok 73 9 (18, 6, 0, .null, []) := ⟨7, RX6, TX6, 22, by decide +kernel, rfl, rfl, by decide, pm_cw6, Or.inl (pm_tb 458 (by decide +kernel))⟩
theorem ok_73_10 : pm_ok 73 10 (4, 0, 2, .null, []) := ⟨by decide +kernel, rfl⟩
theorem ok_73_11 : pm_ok 73 11 (1, 1, 0, .null, []) := Or.inl ⟨1, by decide +kernel, rfl, rfl⟩
theorem ok_73_12 : pm_ok 73 12 (4, 0, 0, .null, []) := ⟨by decide +kernel, rfl⟩
theorem ok_73_13 : pm_ok 73 13 (2, 3, 0, .null, []) := Or.inl ⟨3, by decide +kernel, rfl, rfl⟩
theorem ok_73_14 : pm_ok 73 14 (1, 0, 2, .null, []) := Or.inl ⟨0, by decide +kernel, rfl, rfl⟩
theorem ok_73_15 : pm_ok 73 15 (18, 6, 2, .null, []) := ⟨16, RX6, TX6, 22, by decide +kernel, rfl, rfl, by decide, pm_cw6, Or.inl (pm_tb 460 (by decide +kernel))⟩
theorem ok_73_16 : pm_ok 73 16 (1, 3, 0, .null, []) := Or.inl ⟨3, by decide +kernel, rfl, rfl⟩
theorem ok_73_17 : pm_ok 73 17 (20, 0, 1, .null, []) := ⟨by decide +kernel, rfl⟩
theorem ok_73_18 : pm_ok 73 18 (15, 24, 1, .null, []) := ⟨12, by decide +kernel, by decide +kernel, rfl⟩
theorem ok_73_19 : pm_ok 73 19 (1, 0, 2, .null, []) := Or.inl ⟨0, by decide +kernel, rfl, rfl⟩
theorem ok_73_20 : pm_ok 73 20 (18, 6, 3, .null, []) := ⟨20, RX6, TX6, 22, by decide +kernel, rfl, rfl, by decide, pm_cw6, Or.inl (pm_tb 461 (by decide +kernel))⟩
theorem ok_73_21 : pm_ok 73 21 (1, 3, 0, .null, []) := Or.inl ⟨3, by decide +kernel, rfl, rfl⟩
theorem ok_73_22 : pm_ok 73 22 (20, 0, 1, .null, []) := ⟨by decide +kernel, rfl⟩
theorem ok_73_23 : pm_ok 73 23 (15, 26, 0, .null, []) := ⟨6, by decide +kernel, by decide +kernel, rfl⟩
theorem ok_73_24 : pm_ok 73 24 (0, 0, 0, .int (-3), []) := Or.inr (Or.inl ⟨(-3), by decide +kernel, by decide +kernel, rfl⟩)
theorem ok_73_25 : pm_ok 73 25 (26, 1, 0, .null, []) := ⟨by decide +kernel, rfl⟩
theorem ok_73_26 : pm_ok 73 26 (1, 0, 2, .null, []) := Or.inl ⟨0, by decide +kernel, rfl, rfl⟩
theorem ok_73_27 : pm_ok 73 27 (18, 6, 3, .null, []) := ⟨20, RX6, TX6, 22, by decide +kernel, rfl, rfl, by decide, pm_cw6, Or.inl (pm_tb 461 (by decide +kernel))⟩
theorem ok_73_28 : pm_ok 73 28 (1, 3, 0, .null, []) := Or.inl ⟨3, by decide +kernel, rfl, rfl⟩
theorem ok_73_29 : pm_ok 73 29 (0, 0, 0, .int 1, []) := Or.inl ⟨1, by decide +kernel, rfl, rfl⟩
theorem ok_73_30 : pm_ok 73 30 (21, 0, 1, .null, []) := ⟨by decide +kernel, rfl⟩
theorem ok_73_31 : pm_ok 73 31 (1, 0, 2, .null, []) := Or.inl ⟨0, by decide +kernel, rfl, rfl⟩
theorem ok_73_32 : pm_ok 73 32 (11, 0, 0, .null, []) := ⟨by decide +kernel, rfl⟩
theorem ok_73_33 : pm_ok 73 33 (18, 6, 4, .null, []) := ⟨68, RX6, TX6, 22, by decide +kernel, rfl, rfl, by decide, pm_cw6, Or.inl (pm_tb 462 (by decide +kernel))⟩
theorem ok_73_34 : pm_ok 73 34 (0, 0, 0, .int 1, []) := Or.inl ⟨1, by decide +kernel, rfl, rfl⟩
theorem ok_73_35 : pm_ok 73 35 (4, 0, 0, .null, []) := ⟨by decide +kernel, rfl⟩
theorem ok_73_36 : pm_ok 73 36 (19, 6, 4, .null, [0]) := ⟨68, RX6, TX6, 22, tyX6, by decide +kernel, rfl, rfl, by decide, pm_cw6, tyX6_ok, nmX6, by decide +kernel, Or.inl ⟨rfl, Or.inl (pm_tb 462 (by decide +kernel))⟩⟩
theorem ok_73_37 : pm_ok 73 37 (1, 0, 2, .null, []) := Or.inl ⟨0, by decide +kernel, rfl, rfl⟩
theorem ok_73_38 : pm_ok 73 38 (18, 6, 4, .null, []) := ⟨68, RX6, TX6, 22, by decide +kernel, rfl, rfl, by decide, pm_cw6, Or.inl (pm_tb 462 (by decide +kernel))⟩
theorem ok_73_39 : pm_ok 73 39 (26, 1, 0, .null, []) := ⟨by decide +kernel, rfl⟩
set_option maxRecDepth 100000 in
theorem ok_73 : pm_oks 73 0 cd_X6_guard := ⟨ok_73_0, ok_73_1, ok_73_2, ok_73_3, ok_73_4, ok_73_5, ok_73_6, ok_73_7, ok_73_8, ok_73_9, ok_73_10, ok_73_11, ok_73_12, ok_73_13, ok_73_14, ok_73_15, ok_73_16, ok_73_17, ok_73_18, ok_73_19, ok_73_20, ok_73_21, ok_73_22, ok_73_23, ok_73_24, ok_73_25, ok_73_26, ok_73_27, ok_73_28, ok_73_29, ok_73_30, ok_73_31, ok_73_32, ok_73_33, ok_73_34, ok_73_35, ok_73_36, ok_73_37, ok_73_38, ok_73_39, trivial⟩
end
section
theorem ok_74_0 : pm_ok 74 0 (1, 0, 2, .null, []) := Or.inl ⟨0, by decide +kernel, rfl, rfl⟩
theorem ok_74_1 : pm_ok 74 1 (1, 1, 0, .null, []) := Or.inl ⟨1, by decide +kernel, rfl, rfl⟩
theorem ok_74_2 : pm_ok 74 2 (1, 2, 0, .null, []) := Or.inl ⟨2, by decide +kernel, rfl, rfl⟩
theorem ok_74_3 : pm_ok 74 3 (25, 71, 3, .null, [6]) := ⟨75, by decide, rfl, Or.inl (pm_tb 536 (by decide +kernel)), Or.inl ⟨by decide +kernel, 6, TX6, 22, rfl, rfl, by decide, by decide +kernel, (pm_tb 538 (by decide +kernel)), (pm_tp 42 (by decide +kernel))⟩⟩
theorem ok_74_4 : pm_ok 74 4 (15, 7, 1, .null, []) := ⟨6, by decide +kernel, by decide +kernel, rfl⟩
theorem ok_74_5 : pm_ok 74 5 (0, 0, 0, .int (-2), []) := Or.inr (Or.inl ⟨(-2), by decide +kernel, by decide +kernel, rfl⟩)
theorem ok_74_6 : pm_ok 74 6 (26, 1, 0, .null, []) := ⟨by decide +kernel, rfl⟩
theorem ok_74_7 : pm_ok 74 7 (1, 2, 0, .null, []) := Or.inl ⟨2, by decide +kernel, rfl, rfl⟩
theorem ok_74_8 : pm_ok 74 8 (1, 0, 2, .null, []) := Or.inl ⟨0, by decide +kernel, rfl, rfl⟩
theorem ok_74_9 : pm_ok 74 9 (18, 6, 0, .null, []) := ⟨7, RX6, TX6, 22, by decide +kernel, rfl, rfl, by decide, pm_cw6, Or.inl (pm_tb 458 (by decide +kernel))⟩
theorem ok_74_10 : pm_ok 74 10 (4, 0, 2, .null, []) := ⟨by decide +kernel, rfl⟩
theorem ok_74_11 : pm_ok 74 11 (1, 1, 0, .null, []) := Or.inl ⟨1, by decide +kernel, rfl, rfl⟩
theorem ok_74_12 : pm_ok 74 12 (4, 0, 0, .null, []) := ⟨by decide +kernel, rfl⟩
theorem ok_74_13 : pm_ok 74 13 (2, 3, 0, .null, []) := Or.inl ⟨3, by decide +kernel, rfl, rfl⟩
theorem ok_74_14 : pm_ok 74 14 (1, 0, 2, .null, []) := Or.inl ⟨0, by decide +kernel, rfl, rfl⟩
theorem ok_74_15 : pm_ok 74 15 (18, 6, 3, .null, []) := ⟨20, RX6, TX6, 22, by decide +kernel, rfl, rfl, by decide, pm_cw6, Or.inl (pm_tb 461 (by decide +kernel))⟩
theorem ok_74_16 : pm_ok 74 16 (1, 3, 0, .null, []) := Or.inl ⟨3, by decide +kernel, rfl, rfl⟩
theorem ok_74_17 : pm_ok 74 17 (20, 0, 1, .null, []) := ⟨by decide +kernel, rfl⟩
theorem ok_74_18 : pm_ok 74 18 (15, 21, 1, .null, []) := ⟨6, by decide +kernel, by decide +kernel, rfl⟩
theorem ok_74_19 : pm_ok 74 19 (0, 0, 0, .int (-3), []) := Or.inr (Or.inl ⟨(-3), by decide +kernel, by decide +kernel, rfl⟩)
theorem ok_74_20 : pm_ok 74 20 (26, 1, 0, .null, []) := ⟨by decide +kernel, rfl⟩
theorem ok_74_21 : pm_ok 74 21 (1, 0, 2, .null, []) := Or.inl ⟨0, by decide +kernel, rfl, rfl⟩
theorem ok_74_22 : pm_ok 74 22 (18, 6, 3, .null, []) := ⟨20, RX6, TX6, 22, by decide +kernel, rfl, rfl, by decide, pm_cw6, Or.inl (pm_tb 461 (by decide +kernel))⟩
theorem ok_74_23 : pm_ok 74 23 (1, 3, 0, .null, []) := Or.inl ⟨3, by decide +kernel, rfl, rfl⟩
theorem ok_74_24 : pm_ok 74 24 (0, 0, 0, .int 0, []) := Or.inl ⟨0, by decide +kernel, rfl, rfl⟩
theorem ok_74_25 : pm_ok 74 25 (21, 0, 1, .null, []) := ⟨by decide +kernel, rfl⟩
theorem ok_74_26 : pm_ok 74 26 (1, 0, 2, .null, []) := Or.inl ⟨0, by decide +kernel, rfl, rfl⟩
theorem ok_74_27 : pm_ok 74 27 (11, 0, 0, .null, []) := ⟨by decide +kernel, rfl⟩
theorem ok_74_28 : pm_ok 74 28 (18, 6, 4, .null, []) := ⟨68, RX6, TX6, 22, by decide +kernel, rfl, rfl, by decide, pm_cw6, Or.inl (pm_tb 462 (by decide +kernel))⟩
theorem ok_74_29 : pm_ok 74 29 (0, 0, 0, .int 1, []) := Or.inl ⟨1, by decide +kernel, rfl, rfl⟩
theorem ok_74_30 : pm_ok 74 30 (4, 0, 1, .null, []) := ⟨by decide +kernel, rfl⟩
theorem ok_74_31 : pm_ok 74 31 (19, 6, 4, .null, [0]) := ⟨68, RX6, TX6, 22, tyX6, by decide +kernel, rfl, rfl, by decide, pm_cw6, tyX6_ok, nmX6, by decide +kernel, Or.inl ⟨rfl, Or.inl (pm_tb 462 (by decide +kernel))⟩⟩
theorem ok_74_32 : pm_ok 74 32 (1, 0, 2, .null, []) := Or.inl ⟨0, by decide +kernel, rfl, rfl⟩
theorem ok_74_33 : pm_ok 74 33 (18, 6, 4, .null, []) := ⟨68, RX6, TX6, 22, by decide +kernel, rfl, rfl, by decide, pm_cw6, Or.inl (pm_tb 462 (by decide +kernel))⟩
theorem ok_74_34 : pm_ok 74 34 (26, 1, 0, .null, []) := ⟨by decide +kernel, rfl⟩
set_option maxRecDepth 100000 in
theorem ok_74 : pm_oks 74 0 cd_X6_leave := ⟨ok_74_0, ok_74_1, ok_74_2, ok_74_3, ok_74_4, ok_74_5, ok_74_6, ok_74_7, ok_74_8, ok_74_9, ok_74_10, ok_74_11, ok_74_12, ok_74_13, ok_74_14, ok_74_15, ok_74_16, ok_74_17, ok_74_18, ok_74_19, ok_74_20, ok_74_21, ok_74_22, ok_74_23, ok_74_24, ok_74_25, ok_74_26, ok_74_27, ok_74_28, ok_74_29, ok_74_30, ok_74_31, ok_74_32, ok_74_33, ok_74_34, trivial⟩
theorem ok_75_0 : pm_ok 75 0 (1, 0, 2, .null, []) := Or.inl ⟨0, by decide +kernel, rfl, rfl⟩
theorem ok_75_1 : pm_ok 75 1 (1, 1, 0, .null, []) := Or.inl ⟨1, by decide +kernel, rfl, rfl⟩
theorem ok_75_2 : pm_ok 75 2 (1, 2, 0, .null, []) := Or.inl ⟨2, by decide +kernel, rfl, rfl⟩
theorem ok_75_3 : pm_ok 75 3 (25, 71, 3, .null, [6]) := ⟨75, by decide, rfl, Or.inl (pm_tb 536 (by decide +kernel)), Or.inl ⟨by decide +kernel, 6, TX6, 22, rfl, rfl, by decide, by decide +kernel, (pm_tb 538 (by decide +kernel)), (pm_tp 42 (by decide +kernel))⟩⟩
theorem ok_75_4 : pm_ok 75 4 (15, 17, 0, .null, []) := ⟨23, by decide +kernel, by decide +kernel, rfl⟩
theorem ok_75_5 : pm_ok 75 5 (1, 0, 2, .null, []) := Or.inl ⟨0, by decide +kernel, rfl, rfl⟩
theorem ok_75_6 : pm_ok 75 6 (18, 6, 2, .null, []) := ⟨16, RX6, TX6, 22, by decide +kernel, rfl, rfl, by decide, pm_cw6, Or.inl (pm_tb 460 (by decide +kernel))⟩
theorem ok_75_7 : pm_ok 75 7 (1, 2, 0, .null, []) := Or.inl ⟨2, by decide +kernel, rfl, rfl⟩
theorem ok_75_8 : pm_ok 75 8 (1, 0, 2, .null, []) := Or.inl ⟨0, by decide +kernel, rfl, rfl⟩
theorem ok_75_9 : pm_ok 75 9 (18, 6, 0, .null, []) := ⟨7, RX6, TX6, 22, by decide +kernel, rfl, rfl, by decide, pm_cw6, Or.inl (pm_tb 458 (by decide +kernel))⟩
theorem ok_75_10 : pm_ok 75 10 (4, 0, 2, .null, []) := ⟨by decide +kernel, rfl⟩
theorem ok_75_11 : pm_ok 75 11 (1, 1, 0, .null, []) := Or.inl ⟨1, by decide +kernel, rfl, rfl⟩
theorem ok_75_12 : pm_ok 75 12 (4, 0, 0, .null, []) := ⟨by decide +kernel, rfl⟩
theorem ok_75_13 : pm_ok 75 13 (20, 0, 1, .null, []) := ⟨by decide +kernel, rfl⟩
theorem ok_75_14 : pm_ok 75 14 (15, 17, 1, .null, []) := ⟨7, by decide +kernel, by decide +kernel, rfl⟩
theorem ok_75_15 : pm_ok 75 15 (0, 0, 0, .int 1, []) := Or.inl ⟨1, by decide +kernel, rfl, rfl⟩
theorem ok_75_16 : pm_ok 75 16 (17, 18, 0, .null, []) := ⟨4, by decide +kernel, by decide +kernel⟩
theorem ok_75_17 : pm_ok 75 17 (0, 0, 0, .int 0, []) := Or.inl ⟨0, by decide +kernel, rfl, rfl⟩
theorem ok_75_18 : pm_ok 75 18 (26, 2, 0, .null, []) := ⟨by decide +kernel, rfl⟩
set_option maxRecDepth 100000 in
theorem ok_75 : pm_oks 75 0 cd_X6_isOpen := ⟨ok_75_0, ok_75_1, ok_75_2, ok_75_3, ok_75_4, ok_75_5, ok_75_6, ok_75_7, ok_75_8, ok_75_9, ok_75_10, ok_75_11, ok_75_12, ok_75_13, ok_75_14, ok_75_15, ok_75_16, ok_75_17, ok_75_18, trivial⟩
theorem ok_76_0 : pm_ok 76 0 (1, 0, 2, .null, []) := Or.inl ⟨0, by decide +kernel, rfl, rfl⟩
theorem ok_76_1 : pm_ok 76 1 (18, 6, 8, .null, []) := ⟨71, RX6, TX6, 22, by decide +kernel, rfl, rfl, by decide, pm_cw6, Or.inl (pm_tb 466 (by decide +kernel))⟩
theorem ok_76_2 : pm_ok 76 2 (15, 4, 0, .null, []) := ⟨4, by decide +kernel, by decide +kernel, rfl⟩
theorem ok_76_3 : pm_ok 76 3 (26, 0, 0, .null, []) := ⟨by decide +kernel, rfl⟩
theorem ok_76_4 : pm_ok 76 4 (1, 0, 2, .null, []) := Or.inl ⟨0, by decide +kernel, rfl, rfl⟩
theorem ok_76_5 : pm_ok 76 5 (0, 0, 0, .int 1, []) := Or.inl ⟨1, by decide +kernel, rfl, rfl⟩
theorem ok_76_6 : pm_ok 76 6 (19, 6, 8, .null, [3]) := ⟨71, RX6, TX6, 22, tyX6, by decide +kernel, rfl, rfl, by decide, pm_cw6, tyX6_ok, nmX6, by decide +kernel, Or.inl ⟨rfl, Or.inl (pm_tb 466 (by decide +kernel))⟩⟩
theorem ok_76_7 : pm_ok 76 7 (1, 0, 2, .null, []) := Or.inl ⟨0, by decide +kernel, rfl, rfl⟩
theorem ok_76_8 : pm_ok 76 8 (18, 6, 6, .null, []) := ⟨27, RX6, TX6, 22, by decide +kernel, rfl, rfl, by decide, pm_cw6, Or.inl (pm_tb 464 (by decide +kernel))⟩
theorem ok_76_9 : pm_ok 76 9 (0, 0, 0, .int 0, []) := Or.inl ⟨0, by decide +kernel, rfl, rfl⟩
theorem ok_76_10 : pm_ok 76 10 (0, 0, 0, .int 0, []) := Or.inl ⟨0, by decide +kernel, rfl, rfl⟩
theorem ok_76_11 : pm_ok 76 11 (21, 0, 0, .null, []) := ⟨by decide +kernel, rfl⟩
theorem ok_76_12 : pm_ok 76 12 (1, 0, 2, .null, []) := Or.inl ⟨0, by decide +kernel, rfl, rfl⟩
theorem ok_76_13 : pm_ok 76 13 (18, 6, 6, .null, []) := ⟨27, RX6, TX6, 22, by decide +kernel, rfl, rfl, by decide, pm_cw6, Or.inl (pm_tb 464 (by decide +kernel))⟩
theorem ok_76_14 : pm_ok 76 14 (0, 0, 0, .int 1, []) := Or.inl ⟨1, by decide +kernel, rfl, rfl⟩
theorem ok_76_15 : pm_ok 76 15 (0, 0, 0, .int 0, []) := Or.inl ⟨0, by decide +kernel, rfl, rfl⟩
theorem ok_76_16 : pm_ok 76 16 (21, 0, 0, .null, []) := ⟨by decide +kernel, rfl⟩
theorem ok_76_17 : pm_ok 76 17 (0, 0, 0, .int 0, []) := Or.inl ⟨0, by decide +kernel, rfl, rfl⟩
theorem ok_76_18 : pm_ok 76 18 (2, 1, 0, .null, []) := Or.inl ⟨1, by decide +kernel, rfl, rfl⟩
theorem ok_76_19 : pm_ok 76 19 (1, 1, 0, .null, []) := Or.inl ⟨1, by decide +kernel, rfl, rfl⟩
theorem ok_76_20 : pm_ok 76 20 (0, 0, 0, .int 64, []) := Or.inr (Or.inl ⟨64, by decide +kernel, by decide +kernel, rfl⟩)
theorem ok_76_21 : pm_ok 76 21 (16, 29, 3, .null, []) := ⟨16, by decide +kernel, by decide +kernel, rfl⟩
theorem ok_76_22 : pm_ok 76 22 (1, 0, 2, .null, []) := Or.inl ⟨0, by decide +kernel, rfl, rfl⟩
theorem ok_76_23 : pm_ok 76 23 (18, 6, 7, .null, []) := ⟨30, RX6, TX6, 22, by decide +kernel, rfl, rfl, by decide, pm_cw6, Or.inl (pm_tb 465 (by decide +kernel))⟩
theorem ok_76_24 : pm_ok 76 24 (1, 1, 0, .null, []) := Or.inl ⟨1, by decide +kernel, rfl, rfl⟩
theorem ok_76_25 : pm_ok 76 25 (0, 0, 0, .int 0, []) := Or.inl ⟨0, by decide +kernel, rfl, rfl⟩
theorem ok_76_26 : pm_ok 76 26 (21, 0, 0, .null, []) := ⟨by decide +kernel, rfl⟩
theorem ok_76_27 : pm_ok 76 27 (3, 1, 0, .int 1, []) := ⟨1, by decide +kernel, rfl, rfl⟩
theorem ok_76_28 : pm_ok 76 28 (17, 19, 0, .null, []) := ⟨(-16), by decide +kernel, by decide +kernel⟩
theorem ok_76_29 : pm_ok 76 29 (0, 0, 0, .int 0, []) := Or.inl ⟨0, by decide +kernel, rfl, rfl⟩
theorem ok_76_30 : pm_ok 76 30 (2, 1, 0, .null, []) := Or.inl ⟨1, by decide +kernel, rfl, rfl⟩
theorem ok_76_31 : pm_ok 76 31 (1, 1, 0, .null, []) := Or.inl ⟨1, by decide +kernel, rfl, rfl⟩
theorem ok_76_32 : pm_ok 76 32 (1, 0, 2, .null, []) := Or.inl ⟨0, by decide +kernel, rfl, rfl⟩
theorem ok_76_33 : pm_ok 76 33 (18, 6, 1, .null, []) := ⟨13, RX6, TX6, 22, by decide +kernel, rfl, rfl, by decide, pm_cw6, Or.inl (pm_tb 459 (by decide +kernel))⟩
theorem ok_76_34 : pm_ok 76 34 (16, 57, 3, .null, []) := ⟨45, by decide +kernel, by decide +kernel, rfl⟩
theorem ok_76_35 : pm_ok 76 35 (0, 0, 0, .int 0, []) := Or.inl ⟨0, by decide +kernel, rfl, rfl⟩
theorem ok_76_36 : pm_ok 76 36 (2, 2, 0, .null, []) := Or.inl ⟨2, by decide +kernel, rfl, rfl⟩
theorem ok_76_37 : pm_ok 76 37 (1, 2, 0, .null, []) := Or.inl ⟨2, by decide +kernel, rfl, rfl⟩
theorem ok_76_38 : pm_ok 76 38 (1, 0, 2, .null, []) := Or.inl ⟨0, by decide +kernel, rfl, rfl⟩
theorem ok_76_39 : pm_ok 76 39 (18, 6, 0, .null, []) := ⟨7, RX6, TX6, 22, by decide +kernel, rfl, rfl, by decide, pm_cw6, Or.inl (pm_tb 458 (by decide +kernel))⟩
theorem ok_76_40 : pm_ok 76 40 (16, 55, 3, .null, []) := ⟨29, by decide +kernel, by decide +kernel, rfl⟩
theorem ok_76_41 : pm_ok 76 41 (0, 0, 0, .int 0, []) := Or.inl ⟨0, by decide +kernel, rfl, rfl⟩
theorem ok_76_42 : pm_ok 76 42 (2, 3, 0, .null, []) := Or.inl ⟨3, by decide +kernel, rfl, rfl⟩
theorem ok_76_43 : pm_ok 76 43 (1, 3, 0, .null, []) := Or.inl ⟨3, by decide +kernel, rfl, rfl⟩
theorem ok_76_44 : pm_ok 76 44 (0, 0, 0, .int 2, []) := Or.inl ⟨2, by decide +kernel, rfl, rfl⟩
theorem ok_76_45 : pm_ok 76 45 (16, 53, 3, .null, []) := ⟨16, by decide +kernel, by decide +kernel, rfl⟩
theorem ok_76_46 : pm_ok 76 46 (1, 0, 2, .null, []) := Or.inl ⟨0, by decide +kernel, rfl, rfl⟩
theorem ok_76_47 : pm_ok 76 47 (1, 2, 0, .null, []) := Or.inl ⟨2, by decide +kernel, rfl, rfl⟩
theorem ok_76_48 : pm_ok 76 48 (1, 1, 0, .null, []) := Or.inl ⟨1, by decide +kernel, rfl, rfl⟩
theorem ok_76_49 : pm_ok 76 49 (1, 3, 0, .null, []) := Or.inl ⟨3, by decide +kernel, rfl, rfl⟩
theorem ok_76_50 : pm_ok 76 50 (25, 77, 4, .null, [6]) := ⟨79, by decide, rfl, Or.inl (pm_tb 556 (by decide +kernel)), Or.inl ⟨by decide +kernel, 6, TX6, 22, rfl, rfl, by decide, by decide +kernel, (pm_tb 558 (by decide +kernel)), (pm_tp 44 (by decide +kernel))⟩⟩
theorem ok_76_51 : pm_ok 76 51 (3, 3, 0, .int 1, []) := ⟨1, by decide +kernel, rfl, rfl⟩
theorem ok_76_52 : pm_ok 76 52 (17, 43, 0, .null, []) := ⟨(-15), by decide +kernel, by decide +kernel⟩
theorem ok_76_53 : pm_ok 76 53 (3, 2, 0, .int 1, []) := ⟨1, by decide +kernel, rfl, rfl⟩
theorem ok_76_54 : pm_ok 76 54 (17, 37, 0, .null, []) := ⟨(-31), by decide +kernel, by decide +kernel⟩
theorem ok_76_55 : pm_ok 76 55 (3, 1, 0, .int 1, []) := ⟨1, by decide +kernel, rfl, rfl⟩
theorem ok_76_56 : pm_ok 76 56 (17, 31, 0, .null, []) := ⟨(-47), by decide +kernel, by decide +kernel⟩
theorem ok_76_57 : pm_ok 76 57 (26, 0, 0, .null, []) := ⟨by decide +kernel, rfl⟩
set_option maxRecDepth 100000 in
theorem ok_76 : pm_oks 76 0 cd_X6_part := ⟨ok_76_0, ok_76_1, ok_76_2, ok_76_3, ok_76_4, ok_76_5, ok_76_6, ok_76_7, ok_76_8, ok_76_9, ok_76_10, ok_76_11, ok_76_12, ok_76_13, ok_76_14, ok_76_15, ok_76_16, ok_76_17, ok_76_18, ok_76_19, ok_76_20, ok_76_21, ok_76_22, ok_76_23, ok_76_24, ok_76_25, ok_76_26, ok_76_27, ok_76_28, ok_76_29, ok_76_30, ok_76_31, ok_76_32, ok_76_33, ok_76_34, ok_76_35, ok_76_36, ok_76_37, ok_76_38, ok_76_39, ok_76_40, ok_76_41, ok_76_42, ok_76_43, ok_76_44, ok_76_45, ok_76_46, ok_76_47, ok_76_48, ok_76_49, ok_76_50, ok_76_51, ok_76_52, ok_76_53, ok_76_54, ok_76_55, ok_76_56, ok_76_57, trivial⟩
theorem ok_77_0 : pm_ok 77 0 (1, 2, 0, .null, []) := Or.inl ⟨2, by decide +kernel, rfl, rfl⟩
theorem ok_77_1 : pm_ok 77 1 (1, 0, 2, .null, []) := Or.inl ⟨0, by decide +kernel, rfl, rfl⟩
theorem ok_77_2 : pm_ok 77 2 (18, 6, 0, .null, []) := ⟨7, RX6, TX6, 22, by decide +kernel, rfl, rfl, by decide, pm_cw6, Or.inl (pm_tb 458 (by decide +kernel))⟩
theorem ok_77_3 : pm_ok 77 3 (4, 0, 2, .null, []) := ⟨by decide +kernel, rfl⟩
theorem ok_77_4 : pm_ok 77 4 (1, 1, 0, .null, []) := Or.inl ⟨1, by decide +kernel, rfl, rfl⟩
theorem ok_77_5 : pm_ok 77 5 (4, 0, 0, .null, []) := ⟨by decide +kernel, rfl⟩
theorem ok_77_6 : pm_ok 77 6 (2, 4, 0, .null, []) := Or.inr ⟨by decide +kernel, rfl⟩
theorem ok_77_7 : pm_ok 77 7 (0, 0, 0, .int (-1), []) := Or.inl ⟨(-1), by decide +kernel, rfl, rfl⟩
theorem ok_77_8 : pm_ok 77 8 (2, 5, 0, .null, []) := Or.inr ⟨by decide +kernel, rfl⟩
theorem ok_77_9 : pm_ok 77 9 (1, 0, 2, .null, []) := Or.inl ⟨0, by decide +kernel, rfl, rfl⟩
theorem ok_77_10 : pm_ok 77 10 (18, 6, 2, .null, []) := ⟨16, RX6, TX6, 22, by decide +kernel, rfl, rfl, by decide, pm_cw6, Or.inl (pm_tb 460 (by decide +kernel))⟩
theorem ok_77_11 : pm_ok 77 11 (1, 4, 0, .null, []) := Or.inr ⟨by decide +kernel, rfl⟩
theorem ok_77_12 : pm_ok 77 12 (20, 0, 1, .null, []) := ⟨by decide +kernel, rfl⟩
theorem ok_77_13 : pm_ok 77 13 (15, 76, 1, .null, []) := ⟨100, by decide +kernel, by decide +kernel, rfl⟩
theorem ok_77_14 : pm_ok 77 14 (1, 3, 0, .null, []) := Or.inl ⟨3, by decide +kernel, rfl, rfl⟩
theorem ok_77_15 : pm_ok 77 15 (15, 23, 1, .null, []) := ⟨14, by decide +kernel, by decide +kernel, rfl⟩
theorem ok_77_16 : pm_ok 77 16 (1, 0, 2, .null, []) := Or.inl ⟨0, by decide +kernel, rfl, rfl⟩
theorem ok_77_17 : pm_ok 77 17 (1, 1, 0, .null, []) := Or.inl ⟨1, by decide +kernel, rfl, rfl⟩
theorem ok_77_18 : pm_ok 77 18 (0, 0, 0, .int 1, []) := Or.inl ⟨1, by decide +kernel, rfl, rfl⟩
theorem ok_77_19 : pm_ok 77 19 (4, 0, 1, .null, []) := ⟨by decide +kernel, rfl⟩
theorem ok_77_20 : pm_ok 77 20 (1, 2, 0, .null, []) := Or.inl ⟨2, by decide +kernel, rfl, rfl⟩
theorem ok_77_21 : pm_ok 77 21 (25, 75, 3, .null, [6]) := ⟨83, by decide, rfl, Or.inl (pm_tb 560 (by decide +kernel)), Or.inl ⟨by decide +kernel, 6, TX6, 22, rfl, rfl, by decide, by decide +kernel, (pm_tb 562 (by decide +kernel)), (pm_tp 45 (by decide +kernel))⟩⟩
theorem ok_77_22 : pm_ok 77 22 (17, 29, 0, .null, []) := ⟨11, by decide +kernel, by decide +kernel⟩
theorem ok_77_23 : pm_ok 77 23 (1, 0, 2, .null, []) := Or.inl ⟨0, by decide +kernel, rfl, rfl⟩
theorem ok_77_24 : pm_ok 77 24 (1, 1, 0, .null, []) := Or.inl ⟨1, by decide +kernel, rfl, rfl⟩
theorem ok_77_25 : pm_ok 77 25 (1, 2, 0, .null, []) := Or.inl ⟨2, by decide +kernel, rfl, rfl⟩
theorem ok_77_26 : pm_ok 77 26 (0, 0, 0, .int 1, []) := Or.inl ⟨1, by decide +kernel, rfl, rfl⟩
theorem ok_77_27 : pm_ok 77 27 (4, 0, 1, .null, []) := ⟨by decide +kernel, rfl⟩
theorem ok_77_28 : pm_ok 77 28 (25, 75, 3, .null, [6]) := ⟨83, by decide, rfl, Or.inl (pm_tb 560 (by decide +kernel)), Or.inl ⟨by decide +kernel, 6, TX6, 22, rfl, rfl, by decide, by decide +kernel, (pm_tb 562 (by decide +kernel)), (pm_tp 45 (by decide +kernel))⟩⟩
theorem ok_77_29 : pm_ok 77 29 (2, 6, 0, .null, []) := Or.inr ⟨by decide +kernel, rfl⟩
theorem ok_77_30 : pm_ok 77 30 (1, 6, 0, .null, []) := Or.inr ⟨by decide +kernel, rfl⟩
theorem ok_77_31 : pm_ok 77 31 (15, 51, 0, .null, []) := ⟨36, by decide +kernel, by decide +kernel, rfl⟩
theorem ok_77_32 : pm_ok 77 32 (1, 0, 2, .null, []) := Or.inl ⟨0, by decide +kernel, rfl, rfl⟩
theorem ok_77_33 : pm_ok 77 33 (18, 6, 5, .null, []) := ⟨23, RX6, TX6, 22, by decide +kernel, rfl, rfl, by decide, pm_cw6, Or.inl (pm_tb 463 (by decide +kernel))⟩
theorem ok_77_34 : pm_ok 77 34 (0, 0, 0, .int 64, []) := Or.inr (Or.inl ⟨64, by decide +kernel, by decide +kernel, rfl⟩)
theorem ok_77_35 : pm_ok 77 35 (1, 3, 0, .null, []) := Or.inl ⟨3, by decide +kernel, rfl, rfl⟩
theorem ok_77_36 : pm_ok 77 36 (4, 0, 2, .null, []) := ⟨by decide +kernel, rfl⟩
theorem ok_77_37 : pm_ok 77 37 (1, 3, 0, .null, []) := Or.inl ⟨3, by decide +kernel, rfl, rfl⟩
theorem ok_77_38 : pm_ok 77 38 (15, 43, 1, .null, []) := ⟨10, by decide +kernel, by decide +kernel, rfl⟩
theorem ok_77_39 : pm_ok 77 39 (1, 4, 0, .null, []) := Or.inr ⟨by decide +kernel, rfl⟩
theorem ok_77_40 : pm_ok 77 40 (0, 0, 0, .int 1, []) := Or.inl ⟨1, by decide +kernel, rfl, rfl⟩
theorem ok_77_41 : pm_ok 77 41 (4, 0, 1, .null, []) := ⟨by decide +kernel, rfl⟩
theorem ok_77_42 : pm_ok 77 42 (17, 47, 0, .null, []) := ⟨10, by decide +kernel, by decide +kernel⟩
theorem ok_77_43 : pm_ok 77 43 (1, 4, 0, .null, []) := Or.inr ⟨by decide +kernel, rfl⟩
theorem ok_77_44 : pm_ok 77 44 (1, 0, 2, .null, []) := Or.inl ⟨0, by decide +kernel, rfl, rfl⟩
theorem ok_77_45 : pm_ok 77 45 (18, 6, 0, .null, []) := ⟨7, RX6, TX6, 22, by decide +kernel, rfl, rfl, by decide, pm_cw6, Or.inl (pm_tb 458 (by decide +kernel))⟩
theorem ok_77_46 : pm_ok 77 46 (4, 0, 1, .null, []) := ⟨by decide +kernel, rfl⟩
theorem ok_77_47 : pm_ok 77 47 (4, 0, 0, .null, []) := ⟨by decide +kernel, rfl⟩
theorem ok_77_48 : pm_ok 77 48 (20, 0, 0, .null, []) := ⟨by decide +kernel, rfl⟩
theorem ok_77_49 : pm_ok 77 49 (2, 5, 0, .null, []) := Or.inr ⟨by decide +kernel, rfl⟩
theorem ok_77_50 : pm_ok 77 50 (17, 64, 0, .null, []) := ⟨21, by decide +kernel, by decide +kernel⟩
theorem ok_77_51 : pm_ok 77 51 (1, 0, 2, .null, []) := Or.inl ⟨0, by decide +kernel, rfl, rfl⟩
theorem ok_77_52 : pm_ok 77 52 (18, 6, 6, .null, []) := ⟨27, RX6, TX6, 22, by decide +kernel, rfl, rfl, by decide, pm_cw6, Or.inl (pm_tb 464 (by decide +kernel))⟩
theorem ok_77_53 : pm_ok 77 53 (1, 3, 0, .null, []) := Or.inl ⟨3, by decide +kernel, rfl, rfl⟩
theorem ok_77_54 : pm_ok 77 54 (20, 0, 0, .null, []) := ⟨by decide +kernel, rfl⟩
theorem ok_77_55 : pm_ok 77 55 (2, 5, 0, .null, []) := Or.inr ⟨by decide +kernel, rfl⟩
theorem ok_77_56 : pm_ok 77 56 (1, 0, 2, .null, []) := Or.inl ⟨0, by decide +kernel, rfl, rfl⟩
theorem ok_77_57 : pm_ok 77 57 (18, 6, 6, .null, []) := ⟨27, RX6, TX6, 22, by decide +kernel, rfl, rfl, by decide, pm_cw6, Or.inl (pm_tb 464 (by decide +kernel))⟩
theorem ok_77_58 : pm_ok 77 58 (1, 3, 0, .null, []) := Or.inl ⟨3, by decide +kernel, rfl, rfl⟩
theorem ok_77_59 : pm_ok 77 59 (13, 0, 0, .null, []) := ⟨by decide +kernel, rfl⟩
theorem ok_77_60 : pm_ok 77 60 (20, 0, 0, .null, []) := ⟨by decide +kernel, rfl⟩
theorem ok_77_61 : pm_ok 77 61 (0, 0, 0, .int 1, []) := Or.inl ⟨1, by decide +kernel, rfl, rfl⟩
theorem ok_77_62 : pm_ok 77 62 (4, 0, 0, .null, []) := ⟨by decide +kernel, rfl⟩
theorem ok_77_63 : pm_ok 77 63 (21, 0, 0, .null, []) := ⟨by decide +kernel, rfl⟩
theorem ok_77_64 : pm_ok 77 64 (1, 0, 2, .null, []) := Or.inl ⟨0, by decide +kernel, rfl, rfl⟩
theorem ok_77_65 : pm_ok 77 65 (18, 6, 7, .null, []) := ⟨30, RX6, TX6, 22, by decide +kernel, rfl, rfl, by decide, pm_cw6, Or.inl (pm_tb 465 (by decide +kernel))⟩
theorem ok_77_66 : pm_ok 77 66 (0, 0, 0, .int 32, []) := Or.inr (Or.inl ⟨32, by decide +kernel, by decide +kernel, rfl⟩)
theorem ok_77_67 : pm_ok 77 67 (1, 3, 0, .null, []) := Or.inl ⟨3, by decide +kernel, rfl, rfl⟩
theorem ok_77_68 : pm_ok 77 68 (4, 0, 2, .null, []) := ⟨by decide +kernel, rfl⟩
theorem ok_77_69 : pm_ok 77 69 (1, 5, 0, .null, []) := Or.inr ⟨by decide +kernel, rfl⟩
theorem ok_77_70 : pm_ok 77 70 (4, 0, 0, .null, []) := ⟨by decide +kernel, rfl⟩
theorem ok_77_71 : pm_ok 77 71 (13, 0, 0, .null, []) := ⟨by decide +kernel, rfl⟩
theorem ok_77_72 : pm_ok 77 72 (20, 0, 0, .null, []) := ⟨by decide +kernel, rfl⟩
theorem ok_77_73 : pm_ok 77 73 (0, 0, 0, .int 1, []) := Or.inl ⟨1, by decide +kernel, rfl, rfl⟩
theorem ok_77_74 : pm_ok 77 74 (4, 0, 0, .null, []) := ⟨by decide +kernel, rfl⟩
theorem ok_77_75 : pm_ok 77 75 (21, 0, 0, .null, []) := ⟨by decide +kernel, rfl⟩
theorem ok_77_76 : pm_ok 77 76 (1, 0, 2, .null, []) := Or.inl ⟨0, by decide +kernel, rfl, rfl⟩
theorem ok_77_77 : pm_ok 77 77 (18, 6, 5, .null, []) := ⟨23, RX6, TX6, 22, by decide +kernel, rfl, rfl, by decide, pm_cw6, Or.inl (pm_tb 463 (by decide +kernel))⟩
theorem ok_77_78 : pm_ok 77 78 (0, 0, 0, .int 64, []) := Or.inr (Or.inl ⟨64, by decide +kernel, by decide +kernel, rfl⟩)
theorem ok_77_79 : pm_ok 77 79 (1, 3, 0, .null, []) := Or.inl ⟨3, by decide +kernel, rfl, rfl⟩
theorem ok_77_80 : pm_ok 77 80 (4, 0, 2, .null, []) := ⟨by decide +kernel, rfl⟩
theorem ok_77_81 : pm_ok 77 81 (1, 4, 0, .null, []) := Or.inr ⟨by decide +kernel, rfl⟩
theorem ok_77_82 : pm_ok 77 82 (4, 0, 0, .null, []) := ⟨by decide +kernel, rfl⟩
theorem ok_77_83 : pm_ok 77 83 (1, 5, 0, .null, []) := Or.inr ⟨by decide +kernel, rfl⟩
theorem ok_77_84 : pm_ok 77 84 (21, 0, 0, .null, []) := ⟨by decide +kernel, rfl⟩
theorem ok_77_85 : pm_ok 77 85 (26, 0, 0, .null, []) := ⟨by decide +kernel, rfl⟩
set_option maxRecDepth 100000 in
theorem ok_77 : pm_oks 77 0 cd_X6_partCell := ⟨ok_77_0, ok_77_1, ok_77_2, ok_77_3, ok_77_4, ok_77_5, ok_77_6, ok_77_7, ok_77_8, ok_77_9, ok_77_10, ok_77_11, ok_77_12, ok_77_13, ok_77_14, ok_77_15, ok_77_16, ok_77_17, ok_77_18, ok_77_19, ok_77_20, ok_77_21, ok_77_22, ok_77_23, ok_77_24, ok_77_25, ok_77_26, ok_77_27, ok_77_28, ok_77_29, ok_77_30, ok_77_31, ok_77_32, ok_77_33, ok_77_34, ok_77_35, ok_77_36, ok_77_37, ok_77_38, ok_77_39, ok_77_40, ok_77_41, ok_77_42, ok_77_43, ok_77_44, ok_77_45, ok_77_46, ok_77_47, ok_77_48, ok_77_49, ok_77_50, ok_77_51, ok_77_52, ok_77_53, ok_77_54, ok_77_55, ok_77_56, ok_77_57, ok_77_58, ok_77_59, ok_77_60, ok_77_61, ok_77_62, ok_77_63, ok_77_64, ok_77_65, ok_77_66, ok_77_67, ok_77_68, ok_77_69, ok_77_70, ok_77_71, ok_77_72, ok_77_73, ok_77_74, ok_77_75, ok_77_76, ok_77_77, ok_77_78, ok_77_79, ok_77_80, ok_77_81, ok_77_82, ok_77_83, ok_77_84, ok_77_85, trivial⟩
theorem ok_78_0 : pm_ok 78 0 (0, 0, 0, .int 0, []) := Or.inl ⟨0, by decide +kernel, rfl, rfl⟩
theorem ok_78_1 : pm_ok 78 1 (2, 3, 0, .null, []) := Or.inl ⟨3, by decide +kernel, rfl, rfl⟩
theorem ok_78_2 : pm_ok 78 2 (0, 0, 0, .int 0, []) := Or.inl ⟨0, by decide +kernel, rfl, rfl⟩
theorem ok_78_3 : pm_ok 78 3 (2, 4, 0, .null, []) := Or.inr ⟨by decide +kernel, rfl⟩
theorem ok_78_4 : pm_ok 78 4 (1, 4, 0, .null, []) := Or.inr ⟨by decide +kernel, rfl⟩
theorem ok_78_5 : pm_ok 78 5 (1, 0, 2, .null, []) := Or.inl ⟨0, by decide +kernel, rfl, rfl⟩
theorem ok_78_6 : pm_ok 78 6 (18, 6, 0, .null, []) := ⟨7, RX6, TX6, 22, by decide +kernel, rfl, rfl, by decide, pm_cw6, Or.inl (pm_tb 458 (by decide +kernel))⟩
theorem ok_78_7 : pm_ok 78 7 (1, 0, 2, .null, []) := Or.inl ⟨0, by decide +kernel, rfl, rfl⟩
theorem ok_78_8 : pm_ok 78 8 (18, 6, 1, .null, []) := ⟨13, RX6, TX6, 22, by decide +kernel, rfl, rfl, by decide, pm_cw6, Or.inl (pm_tb 459 (by decide +kernel))⟩
theorem ok_78_9 : pm_ok 78 9 (4, 0, 2, .null, []) := ⟨by decide +kernel, rfl⟩
theorem ok_78_10 : pm_ok 78 10 (16, 34, 3, .null, []) := ⟨45, by decide +kernel, by decide +kernel, rfl⟩
theorem ok_78_11 : pm_ok 78 11 (1, 3, 0, .null, []) := Or.inl ⟨3, by decide +kernel, rfl, rfl⟩
theorem ok_78_12 : pm_ok 78 12 (15, 28, 1, .null, []) := ⟨29, by decide +kernel, by decide +kernel, rfl⟩
theorem ok_78_13 : pm_ok 78 13 (1, 0, 2, .null, []) := Or.inl ⟨0, by decide +kernel, rfl, rfl⟩
theorem ok_78_14 : pm_ok 78 14 (18, 6, 3, .null, []) := ⟨20, RX6, TX6, 22, by decide +kernel, rfl, rfl, by decide, pm_cw6, Or.inl (pm_tb 461 (by decide +kernel))⟩
theorem ok_78_15 : pm_ok 78 15 (1, 4, 0, .null, []) := Or.inr ⟨by decide +kernel, rfl⟩
theorem ok_78_16 : pm_ok 78 16 (20, 0, 1, .null, []) := ⟨by decide +kernel, rfl⟩
theorem ok_78_17 : pm_ok 78 17 (15, 30, 0, .null, []) := ⟨23, by decide +kernel, by decide +kernel, rfl⟩
theorem ok_78_18 : pm_ok 78 18 (1, 0, 2, .null, []) := Or.inl ⟨0, by decide +kernel, rfl, rfl⟩
theorem ok_78_19 : pm_ok 78 19 (18, 6, 5, .null, []) := ⟨23, RX6, TX6, 22, by decide +kernel, rfl, rfl, by decide, pm_cw6, Or.inl (pm_tb 463 (by decide +kernel))⟩
theorem ok_78_20 : pm_ok 78 20 (0, 0, 0, .int 64, []) := Or.inr (Or.inl ⟨64, by decide +kernel, by decide +kernel, rfl⟩)
theorem ok_78_21 : pm_ok 78 21 (1, 1, 0, .null, []) := Or.inl ⟨1, by decide +kernel, rfl, rfl⟩
theorem ok_78_22 : pm_ok 78 22 (4, 0, 2, .null, []) := ⟨by decide +kernel, rfl⟩
theorem ok_78_23 : pm_ok 78 23 (1, 4, 0, .null, []) := Or.inr ⟨by decide +kernel, rfl⟩
theorem ok_78_24 : pm_ok 78 24 (4, 0, 0, .null, []) := ⟨by decide +kernel, rfl⟩
theorem ok_78_25 : pm_ok 78 25 (20, 0, 0, .null, []) := ⟨by decide +kernel, rfl⟩
theorem ok_78_26 : pm_ok 78 26 (1, 2, 0, .null, []) := Or.inl ⟨2, by decide +kernel, rfl, rfl⟩
theorem ok_78_27 : pm_ok 78 27 (16, 30, 1, .null, []) := ⟨7, by decide +kernel, by decide +kernel, rfl⟩
theorem ok_78_28 : pm_ok 78 28 (0, 0, 0, .int 1, []) := Or.inl ⟨1, by decide +kernel, rfl, rfl⟩
theorem ok_78_29 : pm_ok 78 29 (17, 31, 0, .null, []) := ⟨4, by decide +kernel, by decide +kernel⟩
theorem ok_78_30 : pm_ok 78 30 (0, 0, 0, .int 0, []) := Or.inl ⟨0, by decide +kernel, rfl, rfl⟩
theorem ok_78_31 : pm_ok 78 31 (2, 3, 0, .null, []) := Or.inl ⟨3, by decide +kernel, rfl, rfl⟩
theorem ok_78_32 : pm_ok 78 32 (3, 4, 0, .int 1, []) := ⟨1, by decide +kernel, rfl, rfl⟩
theorem ok_78_33 : pm_ok 78 33 (17, 4, 0, .null, []) := ⟨(-53), by decide +kernel, by decide +kernel⟩
theorem ok_78_34 : pm_ok 78 34 (1, 3, 0, .null, []) := Or.inl ⟨3, by decide +kernel, rfl, rfl⟩
theorem ok_78_35 : pm_ok 78 35 (26, 2, 0, .null, []) := ⟨by decide +kernel, rfl⟩
set_option maxRecDepth 100000 in
theorem ok_78 : pm_oks 78 0 cd_X6_isTouched := ⟨ok_78_0, ok_78_1, ok_78_2, ok_78_3, ok_78_4, ok_78_5, ok_78_6, ok_78_7, ok_78_8, ok_78_9, ok_78_10, ok_78_11, ok_78_12, ok_78_13, ok_78_14, ok_78_15, ok_78_16, ok_78_17, ok_78_18, ok_78_19, ok_78_20, ok_78_21, ok_78_22, ok_78_23, ok_78_24, ok_78_25, ok_78_26, ok_78_27, ok_78_28, ok_78_29, ok_78_30, ok_78_31, ok_78_32, ok_78_33, ok_78_34, ok_78_35, trivial⟩
theorem ok_79_0 : pm_ok 79 0 (1, 0, 2, .null, []) := Or.inl ⟨0, by decide +kernel, rfl, rfl⟩
theorem ok_79_1 : pm_ok 79 1 (18, 6, 2, .null, []) := ⟨16, RX6, TX6, 22, by decide +kernel, rfl, rfl, by decide, pm_cw6, Or.inl (pm_tb 460 (by decide +kernel))⟩
theorem ok_79_2 : pm_ok 79 2 (1, 1, 0, .null, []) := Or.inl ⟨1, by decide +kernel, rfl, rfl⟩
theorem ok_79_3 : pm_ok 79 3 (20, 0, 1, .null, []) := ⟨by decide +kernel, rfl⟩
theorem ok_79_4 : pm_ok 79 4 (15, 25, 1, .null, []) := ⟨38, by decide +kernel, by decide +kernel, rfl⟩
theorem ok_79_5 : pm_ok 79 5 (1, 0, 2, .null, []) := Or.inl ⟨0, by decide +kernel, rfl, rfl⟩
theorem ok_79_6 : pm_ok 79 6 (0, 0, 0, .int 0, []) := Or.inl ⟨0, by decide +kernel, rfl, rfl⟩
theorem ok_79_7 : pm_ok 79 7 (1, 0, 2, .null, []) := Or.inl ⟨0, by decide +kernel, rfl, rfl⟩
theorem ok_79_8 : pm_ok 79 8 (18, 6, 5, .null, []) := ⟨23, RX6, TX6, 22, by decide +kernel, rfl, rfl, by decide, pm_cw6, Or.inl (pm_tb 463 (by decide +kernel))⟩
theorem ok_79_9 : pm_ok 79 9 (1, 1, 0, .null, []) := Or.inl ⟨1, by decide +kernel, rfl, rfl⟩
theorem ok_79_10 : pm_ok 79 10 (20, 0, 0, .null, []) := ⟨by decide +kernel, rfl⟩
theorem ok_79_11 : pm_ok 79 11 (25, 78, 3, .null, [6]) := ⟨86, by decide, rfl, Or.inl (pm_tb 568 (by decide +kernel)), Or.inl ⟨by decide +kernel, 6, TX6, 22, rfl, rfl, by decide, by decide +kernel, (pm_tb 570 (by decide +kernel)), (pm_tp 47 (by decide +kernel))⟩⟩
theorem ok_79_12 : pm_ok 79 12 (15, 23, 1, .null, []) := ⟨20, by decide +kernel, by decide +kernel, rfl⟩
theorem ok_79_13 : pm_ok 79 13 (1, 0, 2, .null, []) := Or.inl ⟨0, by decide +kernel, rfl, rfl⟩
theorem ok_79_14 : pm_ok 79 14 (0, 0, 0, .int 1, []) := Or.inl ⟨1, by decide +kernel, rfl, rfl⟩
theorem ok_79_15 : pm_ok 79 15 (1, 0, 2, .null, []) := Or.inl ⟨0, by decide +kernel, rfl, rfl⟩
theorem ok_79_16 : pm_ok 79 16 (18, 6, 5, .null, []) := ⟨23, RX6, TX6, 22, by decide +kernel, rfl, rfl, by decide, pm_cw6, Or.inl (pm_tb 463 (by decide +kernel))⟩
theorem ok_79_17 : pm_ok 79 17 (0, 0, 0, .int 64, []) := Or.inr (Or.inl ⟨64, by decide +kernel, by decide +kernel, rfl⟩)
theorem ok_79_18 : pm_ok 79 18 (1, 1, 0, .null, []) := Or.inl ⟨1, by decide +kernel, rfl, rfl⟩
theorem ok_79_19 : pm_ok 79 19 (4, 0, 0, .null, []) := ⟨by decide +kernel, rfl⟩
theorem ok_79_20 : pm_ok 79 20 (20, 0, 0, .null, []) := ⟨by decide +kernel, rfl⟩
theorem ok_79_21 : pm_ok 79 21 (25, 78, 3, .null, [6]) := ⟨86, by decide, rfl, Or.inl (pm_tb 568 (by decide +kernel)), Or.inl ⟨by decide +kernel, 6, TX6, 22, rfl, rfl, by decide, by decide +kernel, (pm_tb 570 (by decide +kernel)), (pm_tp 47 (by decide +kernel))⟩⟩
theorem ok_79_22 : pm_ok 79 22 (15, 25, 0, .null, []) := ⟨7, by decide +kernel, by decide +kernel, rfl⟩
theorem ok_79_23 : pm_ok 79 23 (0, 0, 0, .int 1, []) := Or.inl ⟨1, by decide +kernel, rfl, rfl⟩
theorem ok_79_24 : pm_ok 79 24 (17, 26, 0, .null, []) := ⟨4, by decide +kernel, by decide +kernel⟩
theorem ok_79_25 : pm_ok 79 25 (0, 0, 0, .int 0, []) := Or.inl ⟨0, by decide +kernel, rfl, rfl⟩
theorem ok_79_26 : pm_ok 79 26 (26, 2, 0, .null, []) := ⟨by decide +kernel, rfl⟩
set_option maxRecDepth 100000 in
theorem ok_79 : pm_oks 79 0 cd_X6_isSeen := ⟨ok_79_0, ok_79_1, ok_79_2, ok_79_3, ok_79_4, ok_79_5, ok_79_6, ok_79_7, ok_79_8, ok_79_9, ok_79_10, ok_79_11, ok_79_12, ok_79_13, ok_79_14, ok_79_15, ok_79_16, ok_79_17, ok_79_18, ok_79_19, ok_79_20, ok_79_21, ok_79_22, ok_79_23, ok_79_24, ok_79_25, ok_79_26, trivial⟩
theorem ok_80_0 : pm_ok 80 0 (1, 0, 2, .null, []) := Or.inl ⟨0, by decide +kernel, rfl, rfl⟩
theorem ok_80_1 : pm_ok 80 1 (1, 1, 0, .null, []) := Or.inl ⟨1, by decide +kernel, rfl, rfl⟩
theorem ok_80_2 : pm_ok 80 2 (1, 2, 0, .null, []) := Or.inl ⟨2, by decide +kernel, rfl, rfl⟩
theorem ok_80_3 : pm_ok 80 3 (25, 71, 3, .null, [6]) := ⟨75, by decide, rfl, Or.inl (pm_tb 536 (by decide +kernel)), Or.inl ⟨by decide +kernel, 6, TX6, 22, rfl, rfl, by decide, by decide +kernel, (pm_tb 538 (by decide +kernel)), (pm_tp 42 (by decide +kernel))⟩⟩
theorem ok_80_4 : pm_ok 80 4 (15, 7, 1, .null, []) := ⟨6, by decide +kernel, by decide +kernel, rfl⟩
theorem ok_80_5 : pm_ok 80 5 (0, 0, 0, .int (-2), []) := Or.inr (Or.inl ⟨(-2), by decide +kernel, by decide +kernel, rfl⟩)
theorem ok_80_6 : pm_ok 80 6 (26, 1, 0, .null, []) := ⟨by decide +kernel, rfl⟩
theorem ok_80_7 : pm_ok 80 7 (1, 0, 2, .null, []) := Or.inl ⟨0, by decide +kernel, rfl, rfl⟩
theorem ok_80_8 : pm_ok 80 8 (25, 76, 1, .null, [6]) := ⟨89, by decide, rfl, Or.inl (pm_tb 552 (by decide +kernel)), Or.inl ⟨by decide +kernel, 6, TX6, 22, rfl, rfl, by decide, by decide +kernel, (pm_tb 554 (by decide +kernel)), (pm_tp 43 (by decide +kernel))⟩⟩
theorem ok_80_9 : pm_ok 80 9 (1, 2, 0, .null, []) := Or.inl ⟨2, by decide +kernel, rfl, rfl⟩
theorem ok_80_10 : pm_ok 80 10 (1, 0, 2, .null, []) := Or.inl ⟨0, by decide +kernel, rfl, rfl⟩
theorem ok_80_11 : pm_ok 80 11 (18, 6, 0, .null, []) := ⟨7, RX6, TX6, 22, by decide +kernel, rfl, rfl, by decide, pm_cw6, Or.inl (pm_tb 458 (by decide +kernel))⟩
theorem ok_80_12 : pm_ok 80 12 (4, 0, 2, .null, []) := ⟨by decide +kernel, rfl⟩
theorem ok_80_13 : pm_ok 80 13 (1, 1, 0, .null, []) := Or.inl ⟨1, by decide +kernel, rfl, rfl⟩
theorem ok_80_14 : pm_ok 80 14 (4, 0, 0, .null, []) := ⟨by decide +kernel, rfl⟩
theorem ok_80_15 : pm_ok 80 15 (2, 3, 0, .null, []) := Or.inl ⟨3, by decide +kernel, rfl, rfl⟩
theorem ok_80_16 : pm_ok 80 16 (1, 0, 2, .null, []) := Or.inl ⟨0, by decide +kernel, rfl, rfl⟩
theorem ok_80_17 : pm_ok 80 17 (18, 6, 2, .null, []) := ⟨16, RX6, TX6, 22, by decide +kernel, rfl, rfl, by decide, pm_cw6, Or.inl (pm_tb 460 (by decide +kernel))⟩
theorem ok_80_18 : pm_ok 80 18 (1, 3, 0, .null, []) := Or.inl ⟨3, by decide +kernel, rfl, rfl⟩
theorem ok_80_19 : pm_ok 80 19 (20, 0, 1, .null, []) := ⟨by decide +kernel, rfl⟩
theorem ok_80_20 : pm_ok 80 20 (15, 23, 0, .null, []) := ⟨5, by decide +kernel, by decide +kernel, rfl⟩
theorem ok_80_21 : pm_ok 80 21 (0, 0, 0, .int 0, []) := Or.inl ⟨0, by decide +kernel, rfl, rfl⟩
theorem ok_80_22 : pm_ok 80 22 (26, 1, 0, .null, []) := ⟨by decide +kernel, rfl⟩
theorem ok_80_23 : pm_ok 80 23 (1, 0, 2, .null, []) := Or.inl ⟨0, by decide +kernel, rfl, rfl⟩
theorem ok_80_24 : pm_ok 80 24 (18, 6, 3, .null, []) := ⟨20, RX6, TX6, 22, by decide +kernel, rfl, rfl, by decide, pm_cw6, Or.inl (pm_tb 461 (by decide +kernel))⟩
theorem ok_80_25 : pm_ok 80 25 (1, 3, 0, .null, []) := Or.inl ⟨3, by decide +kernel, rfl, rfl⟩
theorem ok_80_26 : pm_ok 80 26 (20, 0, 1, .null, []) := ⟨by decide +kernel, rfl⟩
theorem ok_80_27 : pm_ok 80 27 (15, 30, 0, .null, []) := ⟨7, by decide +kernel, by decide +kernel, rfl⟩
theorem ok_80_28 : pm_ok 80 28 (0, 0, 0, .int 3, []) := Or.inl ⟨3, by decide +kernel, rfl, rfl⟩
theorem ok_80_29 : pm_ok 80 29 (17, 37, 0, .null, []) := ⟨16, by decide +kernel, by decide +kernel⟩
theorem ok_80_30 : pm_ok 80 30 (1, 0, 2, .null, []) := Or.inl ⟨0, by decide +kernel, rfl, rfl⟩
theorem ok_80_31 : pm_ok 80 31 (1, 3, 0, .null, []) := Or.inl ⟨3, by decide +kernel, rfl, rfl⟩
theorem ok_80_32 : pm_ok 80 32 (25, 79, 2, .null, [6]) := ⟨92, by decide, rfl, Or.inl (pm_tb 564 (by decide +kernel)), Or.inl ⟨by decide +kernel, 6, TX6, 22, rfl, rfl, by decide, by decide +kernel, (pm_tb 566 (by decide +kernel)), (pm_tp 46 (by decide +kernel))⟩⟩
theorem ok_80_33 : pm_ok 80 33 (15, 36, 0, .null, []) := ⟨7, by decide +kernel, by decide +kernel, rfl⟩
theorem ok_80_34 : pm_ok 80 34 (0, 0, 0, .int 2, []) := Or.inl ⟨2, by decide +kernel, rfl, rfl⟩
theorem ok_80_35 : pm_ok 80 35 (17, 37, 0, .null, []) := ⟨4, by decide +kernel, by decide +kernel⟩
theorem ok_80_36 : pm_ok 80 36 (0, 0, 0, .int 1, []) := Or.inl ⟨1, by decide +kernel, rfl, rfl⟩
theorem ok_80_37 : pm_ok 80 37 (26, 1, 0, .null, []) := ⟨by decide +kernel, rfl⟩
set_option maxRecDepth 100000 in
theorem ok_80 : pm_oks 80 0 cd_X6_cell := ⟨ok_80_0, ok_80_1, ok_80_2, ok_80_3, ok_80_4, ok_80_5, ok_80_6, ok_80_7, ok_80_8, ok_80_9, ok_80_10, ok_80_11, ok_80_12, ok_80_13, ok_80_14, ok_80_15, ok_80_16, ok_80_17, ok_80_18, ok_80_19, ok_80_20, ok_80_21, ok_80_22, ok_80_23, ok_80_24, ok_80_25, ok_80_26, ok_80_27, ok_80_28, ok_80_29, ok_80_30, ok_80_31, ok_80_32, ok_80_33, ok_80_34, ok_80_35, ok_80_36, ok_80_37, trivial⟩
theorem ok_81_0 : pm_ok 81 0 (1, 1, 0, .null, []) := Or.inl ⟨1, by decide +kernel, rfl, rfl⟩
theorem ok_81_1 : pm_ok 81 1 (0, 0, 0, .int 0, []) := Or.inl ⟨0, by decide +kernel, rfl, rfl⟩
theorem ok_81_2 : pm_ok 81 2 (0, 0, 0, .int 1, []) := Or.inl ⟨1, by decide +kernel, rfl, rfl⟩
theorem ok_81_3 : pm_ok 81 3 (25, 69, 3, .null, []) := ⟨64, by decide, rfl, Or.inl (pm_tb 529 (by decide +kernel)), Or.inr (Or.inr ⟨by decide +kernel, rfl, by decide +kernel, (pm_tb 530 (by decide +kernel))⟩)⟩
theorem ok_81_4 : pm_ok 81 4 (15, 7, 1, .null, []) := ⟨6, by decide +kernel, by decide +kernel, rfl⟩
theorem ok_81_5 : pm_ok 81 5 (0, 0, 0, .int (-2), []) := Or.inr (Or.inl ⟨(-2), by decide +kernel, by decide +kernel, rfl⟩)
theorem ok_81_6 : pm_ok 81 6 (26, 1, 0, .null, []) := ⟨by decide +kernel, rfl⟩
theorem ok_81_7 : pm_ok 81 7 (1, 0, 2, .null, []) := Or.inl ⟨0, by decide +kernel, rfl, rfl⟩
theorem ok_81_8 : pm_ok 81 8 (25, 76, 1, .null, [6]) := ⟨89, by decide, rfl, Or.inl (pm_tb 552 (by decide +kernel)), Or.inl ⟨by decide +kernel, 6, TX6, 22, rfl, rfl, by decide, by decide +kernel, (pm_tb 554 (by decide +kernel)), (pm_tp 43 (by decide +kernel))⟩⟩
theorem ok_81_9 : pm_ok 81 9 (1, 0, 2, .null, []) := Or.inl ⟨0, by decide +kernel, rfl, rfl⟩
theorem ok_81_10 : pm_ok 81 10 (18, 6, 6, .null, []) := ⟨27, RX6, TX6, 22, by decide +kernel, rfl, rfl, by decide, pm_cw6, Or.inl (pm_tb 464 (by decide +kernel))⟩
theorem ok_81_11 : pm_ok 81 11 (1, 1, 0, .null, []) := Or.inl ⟨1, by decide +kernel, rfl, rfl⟩
theorem ok_81_12 : pm_ok 81 12 (20, 0, 0, .null, []) := ⟨by decide +kernel, rfl⟩
theorem ok_81_13 : pm_ok 81 13 (26, 1, 0, .null, []) := ⟨by decide +kernel, rfl⟩
set_option maxRecDepth 100000 in
theorem ok_81 : pm_oks 81 0 cd_X6_runs := ⟨ok_81_0, ok_81_1, ok_81_2, ok_81_3, ok_81_4, ok_81_5, ok_81_6, ok_81_7, ok_81_8, ok_81_9, ok_81_10, ok_81_11, ok_81_12, ok_81_13, trivial⟩
theorem ok_82_0 : pm_ok 82 0 (1, 0, 2, .null, []) := Or.inl ⟨0, by decide +kernel, rfl, rfl⟩
theorem ok_82_1 : pm_ok 82 1 (1, 1, 0, .null, []) := Or.inl ⟨1, by decide +kernel, rfl, rfl⟩
theorem ok_82_2 : pm_ok 82 2 (1, 2, 0, .null, []) := Or.inl ⟨2, by decide +kernel, rfl, rfl⟩
theorem ok_82_3 : pm_ok 82 3 (25, 71, 3, .null, [6]) := ⟨75, by decide, rfl, Or.inl (pm_tb 536 (by decide +kernel)), Or.inl ⟨by decide +kernel, 6, TX6, 22, rfl, rfl, by decide, by decide +kernel, (pm_tb 538 (by decide +kernel)), (pm_tp 42 (by decide +kernel))⟩⟩
theorem ok_82_4 : pm_ok 82 4 (15, 10, 0, .null, []) := ⟨12, by decide +kernel, by decide +kernel, rfl⟩
theorem ok_82_5 : pm_ok 82 5 (1, 3, 0, .null, []) := Or.inl ⟨3, by decide +kernel, rfl, rfl⟩
theorem ok_82_6 : pm_ok 82 6 (0, 0, 0, .int 0, []) := Or.inl ⟨0, by decide +kernel, rfl, rfl⟩
theorem ok_82_7 : pm_ok 82 7 (0, 0, 0, .int 1, []) := Or.inl ⟨1, by decide +kernel, rfl, rfl⟩
theorem ok_82_8 : pm_ok 82 8 (25, 69, 3, .null, []) := ⟨64, by decide, rfl, Or.inl (pm_tb 529 (by decide +kernel)), Or.inr (Or.inr ⟨by decide +kernel, rfl, by decide +kernel, (pm_tb 530 (by decide +kernel))⟩)⟩
theorem ok_82_9 : pm_ok 82 9 (15, 12, 1, .null, []) := ⟨6, by decide +kernel, by decide +kernel, rfl⟩
theorem ok_82_10 : pm_ok 82 10 (0, 0, 0, .int (-2), []) := Or.inr (Or.inl ⟨(-2), by decide +kernel, by decide +kernel, rfl⟩)
theorem ok_82_11 : pm_ok 82 11 (26, 1, 0, .null, []) := ⟨by decide +kernel, rfl⟩
theorem ok_82_12 : pm_ok 82 12 (1, 0, 2, .null, []) := Or.inl ⟨0, by decide +kernel, rfl, rfl⟩
theorem ok_82_13 : pm_ok 82 13 (25, 76, 1, .null, [6]) := ⟨89, by decide, rfl, Or.inl (pm_tb 552 (by decide +kernel)), Or.inl ⟨by decide +kernel, 6, TX6, 22, rfl, rfl, by decide, by decide +kernel, (pm_tb 554 (by decide +kernel)), (pm_tp 43 (by decide +kernel))⟩⟩
theorem ok_82_14 : pm_ok 82 14 (1, 0, 2, .null, []) := Or.inl ⟨0, by decide +kernel, rfl, rfl⟩
theorem ok_82_15 : pm_ok 82 15 (18, 6, 5, .null, []) := ⟨23, RX6, TX6, 22, by decide +kernel, rfl, rfl, by decide, pm_cw6, Or.inl (pm_tb 463 (by decide +kernel))⟩
theorem ok_82_16 : pm_ok 82 16 (0, 0, 0, .int 64, []) := Or.inr (Or.inl ⟨64, by decide +kernel, by decide +kernel, rfl⟩)
theorem ok_82_17 : pm_ok 82 17 (1, 3, 0, .null, []) := Or.inl ⟨3, by decide +kernel, rfl, rfl⟩
theorem ok_82_18 : pm_ok 82 18 (4, 0, 2, .null, []) := ⟨by decide +kernel, rfl⟩
theorem ok_82_19 : pm_ok 82 19 (1, 2, 0, .null, []) := Or.inl ⟨2, by decide +kernel, rfl, rfl⟩
theorem ok_82_20 : pm_ok 82 20 (1, 0, 2, .null, []) := Or.inl ⟨0, by decide +kernel, rfl, rfl⟩
theorem ok_82_21 : pm_ok 82 21 (18, 6, 0, .null, []) := ⟨7, RX6, TX6, 22, by decide +kernel, rfl, rfl, by decide, pm_cw6, Or.inl (pm_tb 458 (by decide +kernel))⟩
theorem ok_82_22 : pm_ok 82 22 (4, 0, 2, .null, []) := ⟨by decide +kernel, rfl⟩
theorem ok_82_23 : pm_ok 82 23 (4, 0, 0, .null, []) := ⟨by decide +kernel, rfl⟩
theorem ok_82_24 : pm_ok 82 24 (1, 1, 0, .null, []) := Or.inl ⟨1, by decide +kernel, rfl, rfl⟩
theorem ok_82_25 : pm_ok 82 25 (4, 0, 0, .null, []) := ⟨by decide +kernel, rfl⟩
theorem ok_82_26 : pm_ok 82 26 (20, 0, 0, .null, []) := ⟨by decide +kernel, rfl⟩
theorem ok_82_27 : pm_ok 82 27 (26, 1, 0, .null, []) := ⟨by decide +kernel, rfl⟩
set_option maxRecDepth 100000 in
theorem ok_82 : pm_oks 82 0 cd_X6_run := ⟨ok_82_0, ok_82_1, ok_82_2, ok_82_3, ok_82_4, ok_82_5, ok_82_6, ok_82_7, ok_82_8, ok_82_9, ok_82_10, ok_82_11, ok_82_12, ok_82_13, ok_82_14, ok_82_15, ok_82_16, ok_82_17, ok_82_18, ok_82_19, ok_82_20, ok_82_21, ok_82_22, ok_82_23, ok_82_24, ok_82_25, ok_82_26, ok_82_27, trivial⟩
theorem ok_83_0 : pm_ok 83 0 (1, 0, 2, .null, []) := Or.inl ⟨0, by decide +kernel, rfl, rfl⟩
theorem ok_83_1 : pm_ok 83 1 (1, 1, 0, .null, []) := Or.inl ⟨1, by decide +kernel, rfl, rfl⟩
theorem ok_83_2 : pm_ok 83 2 (1, 2, 0, .null, []) := Or.inl ⟨2, by decide +kernel, rfl, rfl⟩
theorem ok_83_3 : pm_ok 83 3 (25, 71, 3, .null, [6]) := ⟨75, by decide, rfl, Or.inl (pm_tb 536 (by decide +kernel)), Or.inl ⟨by decide +kernel, 6, TX6, 22, rfl, rfl, by decide, by decide +kernel, (pm_tb 538 (by decide +kernel)), (pm_tp 42 (by decide +kernel))⟩⟩
theorem ok_83_4 : pm_ok 83 4 (15, 7, 1, .null, []) := ⟨6, by decide +kernel, by decide +kernel, rfl⟩
theorem ok_83_5 : pm_ok 83 5 (0, 0, 0, .int (-2), []) := Or.inr (Or.inl ⟨(-2), by decide +kernel, by decide +kernel, rfl⟩)
theorem ok_83_6 : pm_ok 83 6 (26, 1, 0, .null, []) := ⟨by decide +kernel, rfl⟩
theorem ok_83_7 : pm_ok 83 7 (1, 0, 2, .null, []) := Or.inl ⟨0, by decide +kernel, rfl, rfl⟩
theorem ok_83_8 : pm_ok 83 8 (25, 76, 1, .null, [6]) := ⟨89, by decide, rfl, Or.inl (pm_tb 552 (by decide +kernel)), Or.inl ⟨by decide +kernel, 6, TX6, 22, rfl, rfl, by decide, by decide +kernel, (pm_tb 554 (by decide +kernel)), (pm_tp 43 (by decide +kernel))⟩⟩
theorem ok_83_9 : pm_ok 83 9 (1, 2, 0, .null, []) := Or.inl ⟨2, by decide +kernel, rfl, rfl⟩
theorem ok_83_10 : pm_ok 83 10 (1, 0, 2, .null, []) := Or.inl ⟨0, by decide +kernel, rfl, rfl⟩
theorem ok_83_11 : pm_ok 83 11 (18, 6, 0, .null, []) := ⟨7, RX6, TX6, 22, by decide +kernel, rfl, rfl, by decide, pm_cw6, Or.inl (pm_tb 458 (by decide +kernel))⟩
theorem ok_83_12 : pm_ok 83 12 (4, 0, 2, .null, []) := ⟨by decide +kernel, rfl⟩
theorem ok_83_13 : pm_ok 83 13 (1, 1, 0, .null, []) := Or.inl ⟨1, by decide +kernel, rfl, rfl⟩
theorem ok_83_14 : pm_ok 83 14 (4, 0, 0, .null, []) := ⟨by decide +kernel, rfl⟩
theorem ok_83_15 : pm_ok 83 15 (2, 3, 0, .null, []) := Or.inl ⟨3, by decide +kernel, rfl, rfl⟩
theorem ok_83_16 : pm_ok 83 16 (1, 0, 2, .null, []) := Or.inl ⟨0, by decide +kernel, rfl, rfl⟩
theorem ok_83_17 : pm_ok 83 17 (18, 6, 2, .null, []) := ⟨16, RX6, TX6, 22, by decide +kernel, rfl, rfl, by decide, pm_cw6, Or.inl (pm_tb 460 (by decide +kernel))⟩
theorem ok_83_18 : pm_ok 83 18 (1, 3, 0, .null, []) := Or.inl ⟨3, by decide +kernel, rfl, rfl⟩
theorem ok_83_19 : pm_ok 83 19 (20, 0, 1, .null, []) := ⟨by decide +kernel, rfl⟩
theorem ok_83_20 : pm_ok 83 20 (15, 23, 0, .null, []) := ⟨7, by decide +kernel, by decide +kernel, rfl⟩
theorem ok_83_21 : pm_ok 83 21 (0, 0, 0, .int 0, []) := Or.inl ⟨0, by decide +kernel, rfl, rfl⟩
theorem ok_83_22 : pm_ok 83 22 (17, 44, 0, .null, []) := ⟨34, by decide +kernel, by decide +kernel⟩
theorem ok_83_23 : pm_ok 83 23 (1, 0, 2, .null, []) := Or.inl ⟨0, by decide +kernel, rfl, rfl⟩
theorem ok_83_24 : pm_ok 83 24 (18, 6, 7, .null, []) := ⟨30, RX6, TX6, 22, by decide +kernel, rfl, rfl, by decide, pm_cw6, Or.inl (pm_tb 465 (by decide +kernel))⟩
theorem ok_83_25 : pm_ok 83 25 (1, 0, 2, .null, []) := Or.inl ⟨0, by decide +kernel, rfl, rfl⟩
theorem ok_83_26 : pm_ok 83 26 (18, 6, 5, .null, []) := ⟨23, RX6, TX6, 22, by decide +kernel, rfl, rfl, by decide, pm_cw6, Or.inl (pm_tb 463 (by decide +kernel))⟩
theorem ok_83_27 : pm_ok 83 27 (1, 3, 0, .null, []) := Or.inl ⟨3, by decide +kernel, rfl, rfl⟩
theorem ok_83_28 : pm_ok 83 28 (20, 0, 0, .null, []) := ⟨by decide +kernel, rfl⟩
theorem ok_83_29 : pm_ok 83 29 (20, 0, 0, .null, []) := ⟨by decide +kernel, rfl⟩
theorem ok_83_30 : pm_ok 83 30 (1, 0, 2, .null, []) := Or.inl ⟨0, by decide +kernel, rfl, rfl⟩
theorem ok_83_31 : pm_ok 83 31 (18, 6, 7, .null, []) := ⟨30, RX6, TX6, 22, by decide +kernel, rfl, rfl, by decide, pm_cw6, Or.inl (pm_tb 465 (by decide +kernel))⟩
theorem ok_83_32 : pm_ok 83 32 (0, 0, 0, .int 32, []) := Or.inr (Or.inl ⟨32, by decide +kernel, by decide +kernel, rfl⟩)
theorem ok_83_33 : pm_ok 83 33 (1, 0, 2, .null, []) := Or.inl ⟨0, by decide +kernel, rfl, rfl⟩
theorem ok_83_34 : pm_ok 83 34 (18, 6, 5, .null, []) := ⟨23, RX6, TX6, 22, by decide +kernel, rfl, rfl, by decide, pm_cw6, Or.inl (pm_tb 463 (by decide +kernel))⟩
theorem ok_83_35 : pm_ok 83 35 (0, 0, 0, .int 64, []) := Or.inr (Or.inl ⟨64, by decide +kernel, by decide +kernel, rfl⟩)
theorem ok_83_36 : pm_ok 83 36 (1, 3, 0, .null, []) := Or.inl ⟨3, by decide +kernel, rfl, rfl⟩
theorem ok_83_37 : pm_ok 83 37 (4, 0, 0, .null, []) := ⟨by decide +kernel, rfl⟩
theorem ok_83_38 : pm_ok 83 38 (20, 0, 0, .null, []) := ⟨by decide +kernel, rfl⟩
theorem ok_83_39 : pm_ok 83 39 (4, 0, 0, .null, []) := ⟨by decide +kernel, rfl⟩
theorem ok_83_40 : pm_ok 83 40 (20, 0, 0, .null, []) := ⟨by decide +kernel, rfl⟩
theorem ok_83_41 : pm_ok 83 41 (4, 0, 0, .null, []) := ⟨by decide +kernel, rfl⟩
theorem ok_83_42 : pm_ok 83 42 (0, 0, 0, .int 1, []) := Or.inl ⟨1, by decide +kernel, rfl, rfl⟩
theorem ok_83_43 : pm_ok 83 43 (4, 0, 1, .null, []) := ⟨by decide +kernel, rfl⟩
theorem ok_83_44 : pm_ok 83 44 (26, 1, 0, .null, []) := ⟨by decide +kernel, rfl⟩
set_option maxRecDepth 100000 in
theorem ok_83 : pm_oks 83 0 cd_X6_sees := ⟨ok_83_0, ok_83_1, ok_83_2, ok_83_3, ok_83_4, ok_83_5, ok_83_6, ok_83_7, ok_83_8, ok_83_9, ok_83_10, ok_83_11, ok_83_12, ok_83_13, ok_83_14, ok_83_15, ok_83_16, ok_83_17, ok_83_18, ok_83_19, ok_83_20, ok_83_21, ok_83_22, ok_83_23, ok_83_24, ok_83_25, ok_83_26, ok_83_27, ok_83_28, ok_83_29, ok_83_30, ok_83_31, ok_83_32, ok_83_33, ok_83_34, ok_83_35, ok_83_36, ok_83_37, ok_83_38, ok_83_39, ok_83_40, ok_83_41, ok_83_42, ok_83_43, ok_83_44, trivial⟩
theorem ok_84_0 : pm_ok 84 0 (1, 0, 2, .null, []) := Or.inl ⟨0, by decide +kernel, rfl, rfl⟩
theorem ok_84_1 : pm_ok 84 1 (25, 76, 1, .null, [6]) := ⟨89, by decide, rfl, Or.inl (pm_tb 552 (by decide +kernel)), Or.inl ⟨by decide +kernel, 6, TX6, 22, rfl, rfl, by decide, by decide +kernel, (pm_tb 554 (by decide +kernel)), (pm_tp 43 (by decide +kernel))⟩⟩
theorem ok_84_2 : pm_ok 84 2 (0, 0, 0, .int 0, []) := Or.inl ⟨0, by decide +kernel, rfl, rfl⟩
theorem ok_84_3 : pm_ok 84 3 (2, 1, 0, .null, []) := Or.inl ⟨1, by decide +kernel, rfl, rfl⟩
theorem ok_84_4 : pm_ok 84 4 (0, 0, 0, .int 0, []) := Or.inl ⟨0, by decide +kernel, rfl, rfl⟩
theorem ok_84_5 : pm_ok 84 5 (2, 2, 0, .null, []) := Or.inl ⟨2, by decide +kernel, rfl, rfl⟩
theorem ok_84_6 : pm_ok 84 6 (1, 2, 0, .null, []) := Or.inl ⟨2, by decide +kernel, rfl, rfl⟩
theorem ok_84_7 : pm_ok 84 7 (1, 0, 2, .null, []) := Or.inl ⟨0, by decide +kernel, rfl, rfl⟩
theorem ok_84_8 : pm_ok 84 8 (18, 6, 0, .null, []) := ⟨7, RX6, TX6, 22, by decide +kernel, rfl, rfl, by decide, pm_cw6, Or.inl (pm_tb 458 (by decide +kernel))⟩
theorem ok_84_9 : pm_ok 84 9 (1, 0, 2, .null, []) := Or.inl ⟨0, by decide +kernel, rfl, rfl⟩
theorem ok_84_10 : pm_ok 84 10 (18, 6, 1, .null, []) := ⟨13, RX6, TX6, 22, by decide +kernel, rfl, rfl, by decide, pm_cw6, Or.inl (pm_tb 459 (by decide +kernel))⟩
theorem ok_84_11 : pm_ok 84 11 (4, 0, 2, .null, []) := ⟨by decide +kernel, rfl⟩
theorem ok_84_12 : pm_ok 84 12 (16, 25, 3, .null, []) := ⟨25, by decide +kernel, by decide +kernel, rfl⟩
theorem ok_84_13 : pm_ok 84 13 (1, 1, 0, .null, []) := Or.inl ⟨1, by decide +kernel, rfl, rfl⟩
theorem ok_84_14 : pm_ok 84 14 (1, 0, 2, .null, []) := Or.inl ⟨0, by decide +kernel, rfl, rfl⟩
theorem ok_84_15 : pm_ok 84 15 (1, 2, 0, .null, []) := Or.inl ⟨2, by decide +kernel, rfl, rfl⟩
theorem ok_84_16 : pm_ok 84 16 (25, 79, 2, .null, [6]) := ⟨92, by decide, rfl, Or.inl (pm_tb 564 (by decide +kernel)), Or.inl ⟨by decide +kernel, 6, TX6, 22, rfl, rfl, by decide, by decide +kernel, (pm_tb 566 (by decide +kernel)), (pm_tp 46 (by decide +kernel))⟩⟩
theorem ok_84_17 : pm_ok 84 17 (15, 20, 0, .null, []) := ⟨7, by decide +kernel, by decide +kernel, rfl⟩
theorem ok_84_18 : pm_ok 84 18 (0, 0, 0, .int 1, []) := Or.inl ⟨1, by decide +kernel, rfl, rfl⟩
theorem ok_84_19 : pm_ok 84 19 (17, 21, 0, .null, []) := ⟨4, by decide +kernel, by decide +kernel⟩
theorem ok_84_20 : pm_ok 84 20 (0, 0, 0, .int 0, []) := Or.inl ⟨0, by decide +kernel, rfl, rfl⟩
theorem ok_84_21 : pm_ok 84 21 (4, 0, 0, .null, []) := ⟨by decide +kernel, rfl⟩
theorem ok_84_22 : pm_ok 84 22 (2, 1, 0, .null, []) := Or.inl ⟨1, by decide +kernel, rfl, rfl⟩
theorem ok_84_23 : pm_ok 84 23 (3, 2, 0, .int 1, []) := ⟨1, by decide +kernel, rfl, rfl⟩
theorem ok_84_24 : pm_ok 84 24 (17, 6, 0, .null, []) := ⟨(-32), by decide +kernel, by decide +kernel⟩
theorem ok_84_25 : pm_ok 84 25 (1, 1, 0, .null, []) := Or.inl ⟨1, by decide +kernel, rfl, rfl⟩
theorem ok_84_26 : pm_ok 84 26 (26, 1, 0, .null, []) := ⟨by decide +kernel, rfl⟩
set_option maxRecDepth 100000 in
theorem ok_84 : pm_oks 84 0 cd_X6_seen := ⟨ok_84_0, ok_84_1, ok_84_2, ok_84_3, ok_84_4, ok_84_5, ok_84_6, ok_84_7, ok_84_8, ok_84_9, ok_84_10, ok_84_11, ok_84_12, ok_84_13, ok_84_14, ok_84_15, ok_84_16, ok_84_17, ok_84_18, ok_84_19, ok_84_20, ok_84_21, ok_84_22, ok_84_23, ok_84_24, ok_84_25, ok_84_26, trivial⟩
theorem ok_85_0 : pm_ok 85 0 (1, 0, 2, .null, []) := Or.inl ⟨0, by decide +kernel, rfl, rfl⟩
theorem ok_85_1 : pm_ok 85 1 (25, 76, 1, .null, [6]) := ⟨89, by decide, rfl, Or.inl (pm_tb 552 (by decide +kernel)), Or.inl ⟨by decide +kernel, 6, TX6, 22, rfl, rfl, by decide, by decide +kernel, (pm_tb 554 (by decide +kernel)), (pm_tp 43 (by decide +kernel))⟩⟩
theorem ok_85_2 : pm_ok 85 2 (0, 0, 0, .int 0, []) := Or.inl ⟨0, by decide +kernel, rfl, rfl⟩
theorem ok_85_3 : pm_ok 85 3 (2, 2, 0, .null, []) := Or.inl ⟨2, by decide +kernel, rfl, rfl⟩
theorem ok_85_4 : pm_ok 85 4 (0, 0, 0, .int 0, []) := Or.inl ⟨0, by decide +kernel, rfl, rfl⟩
theorem ok_85_5 : pm_ok 85 5 (2, 3, 0, .null, []) := Or.inl ⟨3, by decide +kernel, rfl, rfl⟩
theorem ok_85_6 : pm_ok 85 6 (1, 3, 0, .null, []) := Or.inl ⟨3, by decide +kernel, rfl, rfl⟩
theorem ok_85_7 : pm_ok 85 7 (1, 0, 2, .null, []) := Or.inl ⟨0, by decide +kernel, rfl, rfl⟩
theorem ok_85_8 : pm_ok 85 8 (18, 6, 0, .null, []) := ⟨7, RX6, TX6, 22, by decide +kernel, rfl, rfl, by decide, pm_cw6, Or.inl (pm_tb 458 (by decide +kernel))⟩
theorem ok_85_9 : pm_ok 85 9 (1, 0, 2, .null, []) := Or.inl ⟨0, by decide +kernel, rfl, rfl⟩
theorem ok_85_10 : pm_ok 85 10 (18, 6, 1, .null, []) := ⟨13, RX6, TX6, 22, by decide +kernel, rfl, rfl, by decide, pm_cw6, Or.inl (pm_tb 459 (by decide +kernel))⟩
theorem ok_85_11 : pm_ok 85 11 (4, 0, 2, .null, []) := ⟨by decide +kernel, rfl⟩
theorem ok_85_12 : pm_ok 85 12 (16, 30, 3, .null, []) := ⟨36, by decide +kernel, by decide +kernel, rfl⟩
theorem ok_85_13 : pm_ok 85 13 (1, 0, 2, .null, []) := Or.inl ⟨0, by decide +kernel, rfl, rfl⟩
theorem ok_85_14 : pm_ok 85 14 (18, 6, 2, .null, []) := ⟨16, RX6, TX6, 22, by decide +kernel, rfl, rfl, by decide, pm_cw6, Or.inl (pm_tb 460 (by decide +kernel))⟩
theorem ok_85_15 : pm_ok 85 15 (1, 3, 0, .null, []) := Or.inl ⟨3, by decide +kernel, rfl, rfl⟩
theorem ok_85_16 : pm_ok 85 16 (20, 0, 1, .null, []) := ⟨by decide +kernel, rfl⟩
theorem ok_85_17 : pm_ok 85 17 (15, 28, 1, .null, []) := ⟨21, by decide +kernel, by decide +kernel, rfl⟩
theorem ok_85_18 : pm_ok 85 18 (1, 0, 2, .null, []) := Or.inl ⟨0, by decide +kernel, rfl, rfl⟩
theorem ok_85_19 : pm_ok 85 19 (1, 3, 0, .null, []) := Or.inl ⟨3, by decide +kernel, rfl, rfl⟩
theorem ok_85_20 : pm_ok 85 20 (25, 79, 2, .null, [6]) := ⟨92, by decide, rfl, Or.inl (pm_tb 564 (by decide +kernel)), Or.inl ⟨by decide +kernel, 6, TX6, 22, rfl, rfl, by decide, by decide +kernel, (pm_tb 566 (by decide +kernel)), (pm_tp 46 (by decide +kernel))⟩⟩
theorem ok_85_21 : pm_ok 85 21 (15, 28, 1, .null, []) := ⟨13, by decide +kernel, by decide +kernel, rfl⟩
theorem ok_85_22 : pm_ok 85 22 (1, 2, 0, .null, []) := Or.inl ⟨2, by decide +kernel, rfl, rfl⟩
theorem ok_85_23 : pm_ok 85 23 (1, 1, 0, .null, []) := Or.inl ⟨1, by decide +kernel, rfl, rfl⟩
theorem ok_85_24 : pm_ok 85 24 (16, 27, 1, .null, []) := ⟨5, by decide +kernel, by decide +kernel, rfl⟩
theorem ok_85_25 : pm_ok 85 25 (1, 3, 0, .null, []) := Or.inl ⟨3, by decide +kernel, rfl, rfl⟩
theorem ok_85_26 : pm_ok 85 26 (26, 1, 0, .null, []) := ⟨by decide +kernel, rfl⟩
theorem ok_85_27 : pm_ok 85 27 (3, 2, 0, .int 1, []) := ⟨1, by decide +kernel, rfl, rfl⟩
theorem ok_85_28 : pm_ok 85 28 (3, 3, 0, .int 1, []) := ⟨1, by decide +kernel, rfl, rfl⟩
theorem ok_85_29 : pm_ok 85 29 (17, 6, 0, .null, []) := ⟨(-43), by decide +kernel, by decide +kernel⟩
theorem ok_85_30 : pm_ok 85 30 (0, 0, 0, .int (-1), []) := Or.inl ⟨(-1), by decide +kernel, rfl, rfl⟩
theorem ok_85_31 : pm_ok 85 31 (26, 1, 0, .null, []) := ⟨by decide +kernel, rfl⟩
set_option maxRecDepth 100000 in
theorem ok_85 : pm_oks 85 0 cd_X6_missed := ⟨ok_85_0, ok_85_1, ok_85_2, ok_85_3, ok_85_4, ok_85_5, ok_85_6, ok_85_7, ok_85_8, ok_85_9, ok_85_10, ok_85_11, ok_85_12, ok_85_13, ok_85_14, ok_85_15, ok_85_16, ok_85_17, ok_85_18, ok_85_19, ok_85_20, ok_85_21, ok_85_22, ok_85_23, ok_85_24, ok_85_25, ok_85_26, ok_85_27, ok_85_28, ok_85_29, ok_85_30, ok_85_31, trivial⟩
theorem ok_86_0 : pm_ok 86 0 (0, 0, 0, .int 0, []) := Or.inl ⟨0, by decide +kernel, rfl, rfl⟩
theorem ok_86_1 : pm_ok 86 1 (2, 3, 0, .null, []) := Or.inl ⟨3, by decide +kernel, rfl, rfl⟩
theorem ok_86_2 : pm_ok 86 2 (1, 1, 1, .null, []) := Or.inl ⟨1, by decide +kernel, rfl, rfl⟩
theorem ok_86_3 : pm_ok 86 3 (2, 4, 1, .null, []) := Or.inr ⟨by decide +kernel, rfl⟩
theorem ok_86_4 : pm_ok 86 4 (1, 4, 1, .null, []) := Or.inr ⟨by decide +kernel, rfl⟩
theorem ok_86_5 : pm_ok 86 5 (0, 0, 0, .long 0, []) := Or.inr (Or.inr (Or.inr (Or.inl ⟨0, by decide +kernel, by decide +kernel, rfl⟩)))
theorem ok_86_6 : pm_ok 86 6 (10, 0, 0, .null, []) := ⟨by decide +kernel, rfl⟩
theorem ok_86_7 : pm_ok 86 7 (15, 23, 0, .null, []) := ⟨28, by decide +kernel, by decide +kernel, rfl⟩
theorem ok_86_8 : pm_ok 86 8 (1, 3, 0, .null, []) := Or.inl ⟨3, by decide +kernel, rfl, rfl⟩
theorem ok_86_9 : pm_ok 86 9 (1, 0, 2, .null, []) := Or.inl ⟨0, by decide +kernel, rfl, rfl⟩
theorem ok_86_10 : pm_ok 86 10 (18, 6, 17, .null, []) := ⟨48, RX6, TX6, 22, by decide +kernel, rfl, rfl, by decide, pm_cw6, Or.inl (pm_tb 475 (by decide +kernel))⟩
theorem ok_86_11 : pm_ok 86 11 (1, 4, 1, .null, []) := Or.inr ⟨by decide +kernel, rfl⟩
theorem ok_86_12 : pm_ok 86 12 (0, 0, 0, .long 255, []) := Or.inr (Or.inr (Or.inr (Or.inr (Or.inr ⟨96, 255, by decide +kernel, (pm_tb 609 (by decide +kernel)), rfl, rfl⟩))))
theorem ok_86_13 : pm_ok 86 13 (6, 0, 3, .null, []) := ⟨by decide +kernel, rfl⟩
theorem ok_86_14 : pm_ok 86 14 (9, 0, 0, .null, []) := ⟨by decide +kernel, rfl⟩
theorem ok_86_15 : pm_ok 86 15 (20, 0, 0, .null, []) := ⟨by decide +kernel, rfl⟩
theorem ok_86_16 : pm_ok 86 16 (4, 0, 0, .null, []) := ⟨by decide +kernel, rfl⟩
theorem ok_86_17 : pm_ok 86 17 (2, 3, 0, .null, []) := Or.inl ⟨3, by decide +kernel, rfl, rfl⟩
theorem ok_86_18 : pm_ok 86 18 (1, 4, 1, .null, []) := Or.inr ⟨by decide +kernel, rfl⟩
theorem ok_86_19 : pm_ok 86 19 (0, 0, 0, .int 8, []) := Or.inr (Or.inl ⟨8, by decide +kernel, by decide +kernel, rfl⟩)
theorem ok_86_20 : pm_ok 86 20 (7, 0, 2, .null, []) := ⟨by decide +kernel, rfl⟩
theorem ok_86_21 : pm_ok 86 21 (2, 4, 1, .null, []) := Or.inr ⟨by decide +kernel, rfl⟩
theorem ok_86_22 : pm_ok 86 22 (17, 4, 0, .null, []) := ⟨(-29), by decide +kernel, by decide +kernel⟩
theorem ok_86_23 : pm_ok 86 23 (1, 3, 0, .null, []) := Or.inl ⟨3, by decide +kernel, rfl, rfl⟩
theorem ok_86_24 : pm_ok 86 24 (26, 1, 0, .null, []) := ⟨by decide +kernel, rfl⟩
set_option maxRecDepth 100000 in
theorem ok_86 : pm_oks 86 0 cd_X6_count := ⟨ok_86_0, ok_86_1, ok_86_2, ok_86_3, ok_86_4, ok_86_5, ok_86_6, ok_86_7, ok_86_8, ok_86_9, ok_86_10, ok_86_11, ok_86_12, ok_86_13, ok_86_14, ok_86_15, ok_86_16, ok_86_17, ok_86_18, ok_86_19, ok_86_20, ok_86_21, ok_86_22, ok_86_23, ok_86_24, trivial⟩
end
section
theorem ok_87_0 : pm_ok 87 0 (1, 0, 2, .null, []) := Or.inl ⟨0, by decide +kernel, rfl, rfl⟩
theorem ok_87_1 : pm_ok 87 1 (18, 6, 18, .null, []) := ⟨51, RX6, TX6, 22, by decide +kernel, rfl, rfl, by decide, pm_cw6, Or.inl (pm_tb 476 (by decide +kernel))⟩
theorem ok_87_2 : pm_ok 87 2 (0, 0, 0, .int 0, []) := Or.inl ⟨0, by decide +kernel, rfl, rfl⟩
theorem ok_87_3 : pm_ok 87 3 (0, 0, 0, .long 0, []) := Or.inr (Or.inr (Or.inr (Or.inl ⟨0, by decide +kernel, by decide +kernel, rfl⟩)))
theorem ok_87_4 : pm_ok 87 4 (21, 0, 2, .null, []) := ⟨by decide +kernel, rfl⟩
theorem ok_87_5 : pm_ok 87 5 (0, 0, 0, .int 0, []) := Or.inl ⟨0, by decide +kernel, rfl, rfl⟩
theorem ok_87_6 : pm_ok 87 6 (2, 2, 0, .null, []) := Or.inl ⟨2, by decide +kernel, rfl, rfl⟩
theorem ok_87_7 : pm_ok 87 7 (1, 2, 0, .null, []) := Or.inl ⟨2, by decide +kernel, rfl, rfl⟩
theorem ok_87_8 : pm_ok 87 8 (1, 0, 2, .null, []) := Or.inl ⟨0, by decide +kernel, rfl, rfl⟩
theorem ok_87_9 : pm_ok 87 9 (18, 6, 6, .null, []) := ⟨27, RX6, TX6, 22, by decide +kernel, rfl, rfl, by decide, pm_cw6, Or.inl (pm_tb 464 (by decide +kernel))⟩
theorem ok_87_10 : pm_ok 87 10 (1, 1, 0, .null, []) := Or.inl ⟨1, by decide +kernel, rfl, rfl⟩
theorem ok_87_11 : pm_ok 87 11 (20, 0, 0, .null, []) := ⟨by decide +kernel, rfl⟩
theorem ok_87_12 : pm_ok 87 12 (16, 76, 3, .null, []) := ⟨106, by decide +kernel, by decide +kernel, rfl⟩
theorem ok_87_13 : pm_ok 87 13 (0, 0, 0, .long 0, []) := Or.inr (Or.inr (Or.inr (Or.inl ⟨0, by decide +kernel, by decide +kernel, rfl⟩)))
theorem ok_87_14 : pm_ok 87 14 (2, 3, 1, .null, []) := Or.inl ⟨3, by decide +kernel, rfl, rfl⟩
theorem ok_87_15 : pm_ok 87 15 (0, 0, 0, .int 0, []) := Or.inl ⟨0, by decide +kernel, rfl, rfl⟩
theorem ok_87_16 : pm_ok 87 16 (2, 5, 0, .null, []) := Or.inr ⟨by decide +kernel, rfl⟩
theorem ok_87_17 : pm_ok 87 17 (1, 5, 0, .null, []) := Or.inr ⟨by decide +kernel, rfl⟩
theorem ok_87_18 : pm_ok 87 18 (1, 0, 2, .null, []) := Or.inl ⟨0, by decide +kernel, rfl, rfl⟩
theorem ok_87_19 : pm_ok 87 19 (18, 6, 0, .null, []) := ⟨7, RX6, TX6, 22, by decide +kernel, rfl, rfl, by decide, pm_cw6, Or.inl (pm_tb 458 (by decide +kernel))⟩
theorem ok_87_20 : pm_ok 87 20 (1, 0, 2, .null, []) := Or.inl ⟨0, by decide +kernel, rfl, rfl⟩
theorem ok_87_21 : pm_ok 87 21 (18, 6, 1, .null, []) := ⟨13, RX6, TX6, 22, by decide +kernel, rfl, rfl, by decide, pm_cw6, Or.inl (pm_tb 459 (by decide +kernel))⟩
theorem ok_87_22 : pm_ok 87 22 (4, 0, 2, .null, []) := ⟨by decide +kernel, rfl⟩
theorem ok_87_23 : pm_ok 87 23 (16, 51, 3, .null, []) := ⟨44, by decide +kernel, by decide +kernel, rfl⟩
theorem ok_87_24 : pm_ok 87 24 (1, 0, 2, .null, []) := Or.inl ⟨0, by decide +kernel, rfl, rfl⟩
theorem ok_87_25 : pm_ok 87 25 (18, 6, 5, .null, []) := ⟨23, RX6, TX6, 22, by decide +kernel, rfl, rfl, by decide, pm_cw6, Or.inl (pm_tb 463 (by decide +kernel))⟩
theorem ok_87_26 : pm_ok 87 26 (0, 0, 0, .int 64, []) := Or.inr (Or.inl ⟨64, by decide +kernel, by decide +kernel, rfl⟩)
theorem ok_87_27 : pm_ok 87 27 (1, 1, 0, .null, []) := Or.inl ⟨1, by decide +kernel, rfl, rfl⟩
theorem ok_87_28 : pm_ok 87 28 (4, 0, 2, .null, []) := ⟨by decide +kernel, rfl⟩
theorem ok_87_29 : pm_ok 87 29 (1, 5, 0, .null, []) := Or.inr ⟨by decide +kernel, rfl⟩
theorem ok_87_30 : pm_ok 87 30 (4, 0, 0, .null, []) := ⟨by decide +kernel, rfl⟩
theorem ok_87_31 : pm_ok 87 31 (20, 0, 0, .null, []) := ⟨by decide +kernel, rfl⟩
theorem ok_87_32 : pm_ok 87 32 (1, 2, 0, .null, []) := Or.inl ⟨2, by decide +kernel, rfl, rfl⟩
theorem ok_87_33 : pm_ok 87 33 (16, 49, 1, .null, []) := ⟨22, by decide +kernel, by decide +kernel, rfl⟩
theorem ok_87_34 : pm_ok 87 34 (1, 3, 1, .null, []) := Or.inl ⟨3, by decide +kernel, rfl, rfl⟩
theorem ok_87_35 : pm_ok 87 35 (0, 0, 0, .long 1, []) := Or.inr (Or.inr (Or.inr (Or.inl ⟨1, by decide +kernel, by decide +kernel, rfl⟩)))
theorem ok_87_36 : pm_ok 87 36 (1, 0, 2, .null, []) := Or.inl ⟨0, by decide +kernel, rfl, rfl⟩
theorem ok_87_37 : pm_ok 87 37 (18, 6, 5, .null, []) := ⟨23, RX6, TX6, 22, by decide +kernel, rfl, rfl, by decide, pm_cw6, Or.inl (pm_tb 463 (by decide +kernel))⟩
theorem ok_87_38 : pm_ok 87 38 (0, 0, 0, .int 64, []) := Or.inr (Or.inl ⟨64, by decide +kernel, by decide +kernel, rfl⟩)
theorem ok_87_39 : pm_ok 87 39 (0, 0, 0, .int 1, []) := Or.inl ⟨1, by decide +kernel, rfl, rfl⟩
theorem ok_87_40 : pm_ok 87 40 (1, 1, 0, .null, []) := Or.inl ⟨1, by decide +kernel, rfl, rfl⟩
theorem ok_87_41 : pm_ok 87 41 (4, 0, 1, .null, []) := ⟨by decide +kernel, rfl⟩
theorem ok_87_42 : pm_ok 87 42 (4, 0, 2, .null, []) := ⟨by decide +kernel, rfl⟩
theorem ok_87_43 : pm_ok 87 43 (1, 5, 0, .null, []) := Or.inr ⟨by decide +kernel, rfl⟩
theorem ok_87_44 : pm_ok 87 44 (4, 0, 0, .null, []) := ⟨by decide +kernel, rfl⟩
theorem ok_87_45 : pm_ok 87 45 (20, 0, 0, .null, []) := ⟨by decide +kernel, rfl⟩
theorem ok_87_46 : pm_ok 87 46 (7, 0, 0, .null, []) := ⟨by decide +kernel, rfl⟩
theorem ok_87_47 : pm_ok 87 47 (6, 0, 4, .null, []) := ⟨by decide +kernel, rfl⟩
theorem ok_87_48 : pm_ok 87 48 (2, 3, 1, .null, []) := Or.inl ⟨3, by decide +kernel, rfl, rfl⟩
theorem ok_87_49 : pm_ok 87 49 (3, 5, 0, .int 1, []) := ⟨1, by decide +kernel, rfl, rfl⟩
theorem ok_87_50 : pm_ok 87 50 (17, 17, 0, .null, []) := ⟨(-52), by decide +kernel, by decide +kernel⟩
theorem ok_87_51 : pm_ok 87 51 (0, 0, 0, .int 0, []) := Or.inl ⟨0, by decide +kernel, rfl, rfl⟩
theorem ok_87_52 : pm_ok 87 52 (2, 5, 0, .null, []) := Or.inr ⟨by decide +kernel, rfl⟩
theorem ok_87_53 : pm_ok 87 53 (1, 5, 0, .null, []) := Or.inr ⟨by decide +kernel, rfl⟩
theorem ok_87_54 : pm_ok 87 54 (0, 0, 0, .int 1, []) := Or.inl ⟨1, by decide +kernel, rfl, rfl⟩
theorem ok_87_55 : pm_ok 87 55 (1, 2, 0, .null, []) := Or.inl ⟨2, by decide +kernel, rfl, rfl⟩
theorem ok_87_56 : pm_ok 87 56 (4, 0, 6, .null, []) := ⟨by decide +kernel, rfl⟩
theorem ok_87_57 : pm_ok 87 57 (16, 74, 3, .null, []) := ⟨29, by decide +kernel, by decide +kernel, rfl⟩
theorem ok_87_58 : pm_ok 87 58 (1, 0, 2, .null, []) := Or.inl ⟨0, by decide +kernel, rfl, rfl⟩
theorem ok_87_59 : pm_ok 87 59 (18, 6, 18, .null, []) := ⟨51, RX6, TX6, 22, by decide +kernel, rfl, rfl, by decide, pm_cw6, Or.inl (pm_tb 476 (by decide +kernel))⟩
theorem ok_87_60 : pm_ok 87 60 (1, 5, 0, .null, []) := Or.inr ⟨by decide +kernel, rfl⟩
theorem ok_87_61 : pm_ok 87 61 (0, 0, 0, .int 1, []) := Or.inl ⟨1, by decide +kernel, rfl, rfl⟩
theorem ok_87_62 : pm_ok 87 62 (1, 2, 0, .null, []) := Or.inl ⟨2, by decide +kernel, rfl, rfl⟩
theorem ok_87_63 : pm_ok 87 63 (4, 0, 6, .null, []) := ⟨by decide +kernel, rfl⟩
theorem ok_87_64 : pm_ok 87 64 (4, 0, 4, .null, []) := ⟨by decide +kernel, rfl⟩
theorem ok_87_65 : pm_ok 87 65 (1, 0, 2, .null, []) := Or.inl ⟨0, by decide +kernel, rfl, rfl⟩
theorem ok_87_66 : pm_ok 87 66 (18, 6, 18, .null, []) := ⟨51, RX6, TX6, 22, by decide +kernel, rfl, rfl, by decide, pm_cw6, Or.inl (pm_tb 476 (by decide +kernel))⟩
theorem ok_87_67 : pm_ok 87 67 (1, 5, 0, .null, []) := Or.inr ⟨by decide +kernel, rfl⟩
theorem ok_87_68 : pm_ok 87 68 (20, 0, 2, .null, []) := ⟨by decide +kernel, rfl⟩
theorem ok_87_69 : pm_ok 87 69 (1, 3, 1, .null, []) := Or.inl ⟨3, by decide +kernel, rfl, rfl⟩
theorem ok_87_70 : pm_ok 87 70 (6, 0, 4, .null, []) := ⟨by decide +kernel, rfl⟩
theorem ok_87_71 : pm_ok 87 71 (21, 0, 2, .null, []) := ⟨by decide +kernel, rfl⟩
theorem ok_87_72 : pm_ok 87 72 (3, 5, 0, .int 1, []) := ⟨1, by decide +kernel, rfl, rfl⟩
theorem ok_87_73 : pm_ok 87 73 (17, 53, 0, .null, []) := ⟨(-31), by decide +kernel, by decide +kernel⟩
theorem ok_87_74 : pm_ok 87 74 (3, 2, 0, .int 1, []) := ⟨1, by decide +kernel, rfl, rfl⟩
theorem ok_87_75 : pm_ok 87 75 (17, 7, 0, .null, []) := ⟨(-110), by decide +kernel, by decide +kernel⟩
theorem ok_87_76 : pm_ok 87 76 (26, 0, 0, .null, []) := ⟨by decide +kernel, rfl⟩
set_option maxRecDepth 100000 in
theorem ok_87 : pm_oks 87 0 cd_X6_cross := ⟨ok_87_0, ok_87_1, ok_87_2, ok_87_3, ok_87_4, ok_87_5, ok_87_6, ok_87_7, ok_87_8, ok_87_9, ok_87_10, ok_87_11, ok_87_12, ok_87_13, ok_87_14, ok_87_15, ok_87_16, ok_87_17, ok_87_18, ok_87_19, ok_87_20, ok_87_21, ok_87_22, ok_87_23, ok_87_24, ok_87_25, ok_87_26, ok_87_27, ok_87_28, ok_87_29, ok_87_30, ok_87_31, ok_87_32, ok_87_33, ok_87_34, ok_87_35, ok_87_36, ok_87_37, ok_87_38, ok_87_39, ok_87_40, ok_87_41, ok_87_42, ok_87_43, ok_87_44, ok_87_45, ok_87_46, ok_87_47, ok_87_48, ok_87_49, ok_87_50, ok_87_51, ok_87_52, ok_87_53, ok_87_54, ok_87_55, ok_87_56, ok_87_57, ok_87_58, ok_87_59, ok_87_60, ok_87_61, ok_87_62, ok_87_63, ok_87_64, ok_87_65, ok_87_66, ok_87_67, ok_87_68, ok_87_69, ok_87_70, ok_87_71, ok_87_72, ok_87_73, ok_87_74, ok_87_75, ok_87_76, trivial⟩
theorem ok_88_0 : pm_ok 88 0 (0, 0, 0, .long 0, []) := Or.inr (Or.inr (Or.inr (Or.inl ⟨0, by decide +kernel, by decide +kernel, rfl⟩)))
theorem ok_88_1 : pm_ok 88 1 (2, 2, 1, .null, []) := Or.inl ⟨2, by decide +kernel, rfl, rfl⟩
theorem ok_88_2 : pm_ok 88 2 (0, 0, 0, .int 0, []) := Or.inl ⟨0, by decide +kernel, rfl, rfl⟩
theorem ok_88_3 : pm_ok 88 3 (2, 4, 0, .null, []) := Or.inr ⟨by decide +kernel, rfl⟩
theorem ok_88_4 : pm_ok 88 4 (1, 4, 0, .null, []) := Or.inr ⟨by decide +kernel, rfl⟩
theorem ok_88_5 : pm_ok 88 5 (1, 0, 2, .null, []) := Or.inl ⟨0, by decide +kernel, rfl, rfl⟩
theorem ok_88_6 : pm_ok 88 6 (18, 6, 0, .null, []) := ⟨7, RX6, TX6, 22, by decide +kernel, rfl, rfl, by decide, pm_cw6, Or.inl (pm_tb 458 (by decide +kernel))⟩
theorem ok_88_7 : pm_ok 88 7 (1, 0, 2, .null, []) := Or.inl ⟨0, by decide +kernel, rfl, rfl⟩
theorem ok_88_8 : pm_ok 88 8 (18, 6, 1, .null, []) := ⟨13, RX6, TX6, 22, by decide +kernel, rfl, rfl, by decide, pm_cw6, Or.inl (pm_tb 459 (by decide +kernel))⟩
theorem ok_88_9 : pm_ok 88 9 (4, 0, 2, .null, []) := ⟨by decide +kernel, rfl⟩
theorem ok_88_10 : pm_ok 88 10 (16, 31, 3, .null, []) := ⟨36, by decide +kernel, by decide +kernel, rfl⟩
theorem ok_88_11 : pm_ok 88 11 (1, 0, 2, .null, []) := Or.inl ⟨0, by decide +kernel, rfl, rfl⟩
theorem ok_88_12 : pm_ok 88 12 (18, 6, 3, .null, []) := ⟨20, RX6, TX6, 22, by decide +kernel, rfl, rfl, by decide, pm_cw6, Or.inl (pm_tb 461 (by decide +kernel))⟩
theorem ok_88_13 : pm_ok 88 13 (1, 4, 0, .null, []) := Or.inr ⟨by decide +kernel, rfl⟩
theorem ok_88_14 : pm_ok 88 14 (20, 0, 1, .null, []) := ⟨by decide +kernel, rfl⟩
theorem ok_88_15 : pm_ok 88 15 (15, 29, 0, .null, []) := ⟨20, by decide +kernel, by decide +kernel, rfl⟩
theorem ok_88_16 : pm_ok 88 16 (1, 2, 1, .null, []) := Or.inl ⟨2, by decide +kernel, rfl, rfl⟩
theorem ok_88_17 : pm_ok 88 17 (0, 0, 0, .long 1, []) := Or.inr (Or.inr (Or.inr (Or.inl ⟨1, by decide +kernel, by decide +kernel, rfl⟩)))
theorem ok_88_18 : pm_ok 88 18 (1, 0, 2, .null, []) := Or.inl ⟨0, by decide +kernel, rfl, rfl⟩
theorem ok_88_19 : pm_ok 88 19 (18, 6, 5, .null, []) := ⟨23, RX6, TX6, 22, by decide +kernel, rfl, rfl, by decide, pm_cw6, Or.inl (pm_tb 463 (by decide +kernel))⟩
theorem ok_88_20 : pm_ok 88 20 (0, 0, 0, .int 64, []) := Or.inr (Or.inl ⟨64, by decide +kernel, by decide +kernel, rfl⟩)
theorem ok_88_21 : pm_ok 88 21 (1, 1, 0, .null, []) := Or.inl ⟨1, by decide +kernel, rfl, rfl⟩
theorem ok_88_22 : pm_ok 88 22 (4, 0, 2, .null, []) := ⟨by decide +kernel, rfl⟩
theorem ok_88_23 : pm_ok 88 23 (1, 4, 0, .null, []) := Or.inr ⟨by decide +kernel, rfl⟩
theorem ok_88_24 : pm_ok 88 24 (4, 0, 0, .null, []) := ⟨by decide +kernel, rfl⟩
theorem ok_88_25 : pm_ok 88 25 (20, 0, 0, .null, []) := ⟨by decide +kernel, rfl⟩
theorem ok_88_26 : pm_ok 88 26 (7, 0, 0, .null, []) := ⟨by decide +kernel, rfl⟩
theorem ok_88_27 : pm_ok 88 27 (6, 0, 4, .null, []) := ⟨by decide +kernel, rfl⟩
theorem ok_88_28 : pm_ok 88 28 (2, 2, 1, .null, []) := Or.inl ⟨2, by decide +kernel, rfl, rfl⟩
theorem ok_88_29 : pm_ok 88 29 (3, 4, 0, .int 1, []) := ⟨1, by decide +kernel, rfl, rfl⟩
theorem ok_88_30 : pm_ok 88 30 (17, 4, 0, .null, []) := ⟨(-44), by decide +kernel, by decide +kernel⟩
theorem ok_88_31 : pm_ok 88 31 (1, 2, 1, .null, []) := Or.inl ⟨2, by decide +kernel, rfl, rfl⟩
theorem ok_88_32 : pm_ok 88 32 (26, 3, 0, .null, []) := ⟨by decide +kernel, rfl⟩
set_option maxRecDepth 100000 in
theorem ok_88 : pm_oks 88 0 cd_X6_touched := ⟨ok_88_0, ok_88_1, ok_88_2, ok_88_3, ok_88_4, ok_88_5, ok_88_6, ok_88_7, ok_88_8, ok_88_9, ok_88_10, ok_88_11, ok_88_12, ok_88_13, ok_88_14, ok_88_15, ok_88_16, ok_88_17, ok_88_18, ok_88_19, ok_88_20, ok_88_21, ok_88_22, ok_88_23, ok_88_24, ok_88_25, ok_88_26, ok_88_27, ok_88_28, ok_88_29, ok_88_30, ok_88_31, ok_88_32, trivial⟩
theorem ok_89_0 : pm_ok 89 0 (1, 0, 2, .null, []) := Or.inl ⟨0, by decide +kernel, rfl, rfl⟩
theorem ok_89_1 : pm_ok 89 1 (25, 76, 1, .null, [6]) := ⟨89, by decide, rfl, Or.inl (pm_tb 552 (by decide +kernel)), Or.inl ⟨by decide +kernel, 6, TX6, 22, rfl, rfl, by decide, by decide +kernel, (pm_tb 554 (by decide +kernel)), (pm_tp 43 (by decide +kernel))⟩⟩
theorem ok_89_2 : pm_ok 89 2 (1, 0, 2, .null, []) := Or.inl ⟨0, by decide +kernel, rfl, rfl⟩
theorem ok_89_3 : pm_ok 89 3 (18, 6, 6, .null, []) := ⟨27, RX6, TX6, 22, by decide +kernel, rfl, rfl, by decide, pm_cw6, Or.inl (pm_tb 464 (by decide +kernel))⟩
theorem ok_89_4 : pm_ok 89 4 (0, 0, 0, .int 0, []) := Or.inl ⟨0, by decide +kernel, rfl, rfl⟩
theorem ok_89_5 : pm_ok 89 5 (20, 0, 0, .null, []) := ⟨by decide +kernel, rfl⟩
theorem ok_89_6 : pm_ok 89 6 (0, 0, 0, .int 12, []) := Or.inr (Or.inl ⟨12, by decide +kernel, by decide +kernel, rfl⟩)
theorem ok_89_7 : pm_ok 89 7 (16, 10, 4, .null, []) := ⟨7, by decide +kernel, by decide +kernel, rfl⟩
theorem ok_89_8 : pm_ok 89 8 (0, 0, 0, .int 0, []) := Or.inl ⟨0, by decide +kernel, rfl, rfl⟩
theorem ok_89_9 : pm_ok 89 9 (17, 11, 0, .null, []) := ⟨4, by decide +kernel, by decide +kernel⟩
theorem ok_89_10 : pm_ok 89 10 (0, 0, 0, .int 1, []) := Or.inl ⟨1, by decide +kernel, rfl, rfl⟩
theorem ok_89_11 : pm_ok 89 11 (2, 1, 0, .null, []) := Or.inl ⟨1, by decide +kernel, rfl, rfl⟩
theorem ok_89_12 : pm_ok 89 12 (1, 0, 2, .null, []) := Or.inl ⟨0, by decide +kernel, rfl, rfl⟩
theorem ok_89_13 : pm_ok 89 13 (18, 6, 6, .null, []) := ⟨27, RX6, TX6, 22, by decide +kernel, rfl, rfl, by decide, pm_cw6, Or.inl (pm_tb 464 (by decide +kernel))⟩
theorem ok_89_14 : pm_ok 89 14 (1, 1, 0, .null, []) := Or.inl ⟨1, by decide +kernel, rfl, rfl⟩
theorem ok_89_15 : pm_ok 89 15 (20, 0, 0, .null, []) := ⟨by decide +kernel, rfl⟩
theorem ok_89_16 : pm_ok 89 16 (0, 0, 0, .int 12, []) := Or.inr (Or.inl ⟨12, by decide +kernel, by decide +kernel, rfl⟩)
theorem ok_89_17 : pm_ok 89 17 (16, 20, 5, .null, []) := ⟨6, by decide +kernel, by decide +kernel, rfl⟩
theorem ok_89_18 : pm_ok 89 18 (0, 0, 0, .int (-5), []) := Or.inr (Or.inl ⟨(-5), by decide +kernel, by decide +kernel, rfl⟩)
theorem ok_89_19 : pm_ok 89 19 (26, 1, 0, .null, []) := ⟨by decide +kernel, rfl⟩
theorem ok_89_20 : pm_ok 89 20 (1, 0, 2, .null, []) := Or.inl ⟨0, by decide +kernel, rfl, rfl⟩
theorem ok_89_21 : pm_ok 89 21 (1, 1, 0, .null, []) := Or.inl ⟨1, by decide +kernel, rfl, rfl⟩
theorem ok_89_22 : pm_ok 89 22 (25, 87, 2, .null, [6]) := ⟨98, by decide, rfl, Or.inl (pm_tb 596 (by decide +kernel)), Or.inl ⟨by decide +kernel, 6, TX6, 22, rfl, rfl, by decide, by decide +kernel, (pm_tb 598 (by decide +kernel)), (pm_tp 48 (by decide +kernel))⟩⟩
theorem ok_89_23 : pm_ok 89 23 (0, 0, 0, .int 1, []) := Or.inl ⟨1, by decide +kernel, rfl, rfl⟩
theorem ok_89_24 : pm_ok 89 24 (1, 0, 2, .null, []) := Or.inl ⟨0, by decide +kernel, rfl, rfl⟩
theorem ok_89_25 : pm_ok 89 25 (18, 6, 6, .null, []) := ⟨27, RX6, TX6, 22, by decide +kernel, rfl, rfl, by decide, pm_cw6, Or.inl (pm_tb 464 (by decide +kernel))⟩
theorem ok_89_26 : pm_ok 89 26 (1, 1, 0, .null, []) := Or.inl ⟨1, by decide +kernel, rfl, rfl⟩
theorem ok_89_27 : pm_ok 89 27 (20, 0, 0, .null, []) := ⟨by decide +kernel, rfl⟩
theorem ok_89_28 : pm_ok 89 28 (4, 0, 6, .null, []) := ⟨by decide +kernel, rfl⟩
theorem ok_89_29 : pm_ok 89 29 (0, 0, 0, .int 1, []) := Or.inl ⟨1, by decide +kernel, rfl, rfl⟩
theorem ok_89_30 : pm_ok 89 30 (4, 0, 1, .null, []) := ⟨by decide +kernel, rfl⟩
theorem ok_89_31 : pm_ok 89 31 (2, 2, 0, .null, []) := Or.inl ⟨2, by decide +kernel, rfl, rfl⟩
theorem ok_89_32 : pm_ok 89 32 (1, 0, 2, .null, []) := Or.inl ⟨0, by decide +kernel, rfl, rfl⟩
theorem ok_89_33 : pm_ok 89 33 (1, 1, 0, .null, []) := Or.inl ⟨1, by decide +kernel, rfl, rfl⟩
theorem ok_89_34 : pm_ok 89 34 (25, 88, 2, .null, [6]) := ⟨102, by decide, rfl, Or.inl (pm_tb 600 (by decide +kernel)), Or.inl ⟨by decide +kernel, 6, TX6, 22, rfl, rfl, by decide, by decide +kernel, (pm_tb 602 (by decide +kernel)), (pm_tp 49 (by decide +kernel))⟩⟩
theorem ok_89_35 : pm_ok 89 35 (9, 0, 0, .null, []) := ⟨by decide +kernel, rfl⟩
theorem ok_89_36 : pm_ok 89 36 (2, 3, 0, .null, []) := Or.inl ⟨3, by decide +kernel, rfl, rfl⟩
theorem ok_89_37 : pm_ok 89 37 (1, 0, 2, .null, []) := Or.inl ⟨0, by decide +kernel, rfl, rfl⟩
theorem ok_89_38 : pm_ok 89 38 (0, 0, 0, .int 1, []) := Or.inl ⟨1, by decide +kernel, rfl, rfl⟩
theorem ok_89_39 : pm_ok 89 39 (1, 1, 0, .null, []) := Or.inl ⟨1, by decide +kernel, rfl, rfl⟩
theorem ok_89_40 : pm_ok 89 40 (4, 0, 1, .null, []) := ⟨by decide +kernel, rfl⟩
theorem ok_89_41 : pm_ok 89 41 (25, 88, 2, .null, [6]) := ⟨102, by decide, rfl, Or.inl (pm_tb 600 (by decide +kernel)), Or.inl ⟨by decide +kernel, 6, TX6, 22, rfl, rfl, by decide, by decide +kernel, (pm_tb 602 (by decide +kernel)), (pm_tp 49 (by decide +kernel))⟩⟩
theorem ok_89_42 : pm_ok 89 42 (2, 4, 1, .null, []) := Or.inr ⟨by decide +kernel, rfl⟩
theorem ok_89_43 : pm_ok 89 43 (0, 0, 0, .int (-1), []) := Or.inl ⟨(-1), by decide +kernel, rfl, rfl⟩
theorem ok_89_44 : pm_ok 89 44 (2, 6, 0, .null, []) := Or.inr ⟨by decide +kernel, rfl⟩
theorem ok_89_45 : pm_ok 89 45 (0, 0, 0, .int 0, []) := Or.inl ⟨0, by decide +kernel, rfl, rfl⟩
theorem ok_89_46 : pm_ok 89 46 (2, 7, 0, .null, []) := Or.inr ⟨by decide +kernel, rfl⟩
theorem ok_89_47 : pm_ok 89 47 (1, 7, 0, .null, []) := Or.inr ⟨by decide +kernel, rfl⟩
theorem ok_89_48 : pm_ok 89 48 (1, 2, 0, .null, []) := Or.inl ⟨2, by decide +kernel, rfl, rfl⟩
theorem ok_89_49 : pm_ok 89 49 (16, 104, 4, .null, []) := ⟨99, by decide +kernel, by decide +kernel, rfl⟩
theorem ok_89_50 : pm_ok 89 50 (1, 7, 0, .null, []) := Or.inr ⟨by decide +kernel, rfl⟩
theorem ok_89_51 : pm_ok 89 51 (1, 3, 0, .null, []) := Or.inl ⟨3, by decide +kernel, rfl, rfl⟩
theorem ok_89_52 : pm_ok 89 52 (4, 0, 3, .null, []) := ⟨by decide +kernel, rfl⟩
theorem ok_89_53 : pm_ok 89 53 (1, 3, 0, .null, []) := Or.inl ⟨3, by decide +kernel, rfl, rfl⟩
theorem ok_89_54 : pm_ok 89 54 (16, 102, 1, .null, []) := ⟨85, by decide +kernel, by decide +kernel, rfl⟩
theorem ok_89_55 : pm_ok 89 55 (1, 0, 2, .null, []) := Or.inl ⟨0, by decide +kernel, rfl, rfl⟩
theorem ok_89_56 : pm_ok 89 56 (18, 6, 18, .null, []) := ⟨51, RX6, TX6, 22, by decide +kernel, rfl, rfl, by decide, pm_cw6, Or.inl (pm_tb 476 (by decide +kernel))⟩
theorem ok_89_57 : pm_ok 89 57 (1, 2, 0, .null, []) := Or.inl ⟨2, by decide +kernel, rfl, rfl⟩
theorem ok_89_58 : pm_ok 89 58 (1, 7, 0, .null, []) := Or.inr ⟨by decide +kernel, rfl⟩
theorem ok_89_59 : pm_ok 89 59 (0, 0, 0, .int (-1), []) := Or.inl ⟨(-1), by decide +kernel, rfl, rfl⟩
theorem ok_89_60 : pm_ok 89 60 (4, 0, 5, .null, []) := ⟨by decide +kernel, rfl⟩
theorem ok_89_61 : pm_ok 89 61 (4, 0, 3, .null, []) := ⟨by decide +kernel, rfl⟩
theorem ok_89_62 : pm_ok 89 62 (20, 0, 2, .null, []) := ⟨by decide +kernel, rfl⟩
theorem ok_89_63 : pm_ok 89 63 (1, 4, 1, .null, []) := Or.inr ⟨by decide +kernel, rfl⟩
theorem ok_89_64 : pm_ok 89 64 (0, 0, 0, .long (-1), []) := Or.inr (Or.inr (Or.inr (Or.inr (Or.inr ⟨106, (-1), by decide +kernel, (pm_tb 604 (by decide +kernel)), rfl, rfl⟩))))
theorem ok_89_65 : pm_ok 89 65 (6, 0, 5, .null, []) := ⟨by decide +kernel, rfl⟩
theorem ok_89_66 : pm_ok 89 66 (6, 0, 3, .null, []) := ⟨by decide +kernel, rfl⟩
theorem ok_89_67 : pm_ok 89 67 (2, 8, 1, .null, []) := Or.inr ⟨by decide +kernel, rfl⟩
theorem ok_89_68 : pm_ok 89 68 (1, 8, 1, .null, []) := Or.inr ⟨by decide +kernel, rfl⟩
theorem ok_89_69 : pm_ok 89 69 (1, 0, 2, .null, []) := Or.inl ⟨0, by decide +kernel, rfl, rfl⟩
theorem ok_89_70 : pm_ok 89 70 (18, 6, 18, .null, []) := ⟨51, RX6, TX6, 22, by decide +kernel, rfl, rfl, by decide, pm_cw6, Or.inl (pm_tb 476 (by decide +kernel))⟩
theorem ok_89_71 : pm_ok 89 71 (1, 7, 0, .null, []) := Or.inr ⟨by decide +kernel, rfl⟩
theorem ok_89_72 : pm_ok 89 72 (20, 0, 2, .null, []) := ⟨by decide +kernel, rfl⟩
theorem ok_89_73 : pm_ok 89 73 (0, 0, 0, .long (-1), []) := Or.inr (Or.inr (Or.inr (Or.inr (Or.inr ⟨106, (-1), by decide +kernel, (pm_tb 604 (by decide +kernel)), rfl, rfl⟩))))
theorem ok_89_74 : pm_ok 89 74 (6, 0, 5, .null, []) := ⟨by decide +kernel, rfl⟩
theorem ok_89_75 : pm_ok 89 75 (6, 0, 3, .null, []) := ⟨by decide +kernel, rfl⟩
theorem ok_89_76 : pm_ok 89 76 (0, 0, 0, .long 0, []) := Or.inr (Or.inr (Or.inr (Or.inl ⟨0, by decide +kernel, by decide +kernel, rfl⟩)))
theorem ok_89_77 : pm_ok 89 77 (10, 0, 0, .null, []) := ⟨by decide +kernel, rfl⟩
theorem ok_89_78 : pm_ok 89 78 (15, 102, 1, .null, []) := ⟨46, by decide +kernel, by decide +kernel, rfl⟩
theorem ok_89_79 : pm_ok 89 79 (1, 0, 2, .null, []) := Or.inl ⟨0, by decide +kernel, rfl, rfl⟩
theorem ok_89_80 : pm_ok 89 80 (1, 8, 1, .null, []) := Or.inr ⟨by decide +kernel, rfl⟩
theorem ok_89_81 : pm_ok 89 81 (25, 86, 2, .null, [6]) := ⟨108, by decide, rfl, Or.inl (pm_tb 605 (by decide +kernel)), Or.inl ⟨by decide +kernel, 6, TX6, 22, rfl, rfl, by decide, by decide +kernel, (pm_tb 607 (by decide +kernel)), (pm_tp 50 (by decide +kernel))⟩⟩
theorem ok_89_82 : pm_ok 89 82 (1, 0, 2, .null, []) := Or.inl ⟨0, by decide +kernel, rfl, rfl⟩
theorem ok_89_83 : pm_ok 89 83 (1, 7, 0, .null, []) := Or.inr ⟨by decide +kernel, rfl⟩
theorem ok_89_84 : pm_ok 89 84 (1, 3, 0, .null, []) := Or.inl ⟨3, by decide +kernel, rfl, rfl⟩
theorem ok_89_85 : pm_ok 89 85 (0, 0, 0, .int (-1), []) := Or.inl ⟨(-1), by decide +kernel, rfl, rfl⟩
theorem ok_89_86 : pm_ok 89 86 (4, 0, 5, .null, []) := ⟨by decide +kernel, rfl⟩
theorem ok_89_87 : pm_ok 89 87 (4, 0, 3, .null, []) := ⟨by decide +kernel, rfl⟩
theorem ok_89_88 : pm_ok 89 88 (1, 8, 1, .null, []) := Or.inr ⟨by decide +kernel, rfl⟩
theorem ok_89_89 : pm_ok 89 89 (25, 90, 3, .null, [6]) := ⟨112, by decide, rfl, Or.inl (pm_tb 610 (by decide +kernel)), Or.inl ⟨by decide +kernel, 6, TX6, 22, rfl, rfl, by decide, by decide +kernel, (pm_tb 612 (by decide +kernel)), (pm_tp 51 (by decide +kernel))⟩⟩
theorem ok_89_90 : pm_ok 89 90 (4, 0, 0, .null, []) := ⟨by decide +kernel, rfl⟩
theorem ok_89_91 : pm_ok 89 91 (2, 10, 0, .null, []) := Or.inr ⟨by decide +kernel, rfl⟩
theorem ok_89_92 : pm_ok 89 92 (1, 6, 0, .null, []) := Or.inr ⟨by decide +kernel, rfl⟩
theorem ok_89_93 : pm_ok 89 93 (0, 0, 0, .int (-1), []) := Or.inl ⟨(-1), by decide +kernel, rfl, rfl⟩
theorem ok_89_94 : pm_ok 89 94 (16, 98, 0, .null, []) := ⟨10, by decide +kernel, by decide +kernel, rfl⟩
theorem ok_89_95 : pm_ok 89 95 (1, 10, 0, .null, []) := Or.inr ⟨by decide +kernel, rfl⟩
theorem ok_89_96 : pm_ok 89 96 (1, 6, 0, .null, []) := Or.inr ⟨by decide +kernel, rfl⟩
theorem ok_89_97 : pm_ok 89 97 (16, 100, 3, .null, []) := ⟨8, by decide +kernel, by decide +kernel, rfl⟩
theorem ok_89_98 : pm_ok 89 98 (1, 10, 0, .null, []) := Or.inr ⟨by decide +kernel, rfl⟩
theorem ok_89_99 : pm_ok 89 99 (17, 101, 0, .null, []) := ⟨5, by decide +kernel, by decide +kernel⟩
theorem ok_89_100 : pm_ok 89 100 (1, 6, 0, .null, []) := Or.inr ⟨by decide +kernel, rfl⟩
theorem ok_89_101 : pm_ok 89 101 (2, 6, 0, .null, []) := Or.inr ⟨by decide +kernel, rfl⟩
theorem ok_89_102 : pm_ok 89 102 (3, 7, 0, .int 1, []) := ⟨1, by decide +kernel, rfl, rfl⟩
theorem ok_89_103 : pm_ok 89 103 (17, 47, 0, .null, []) := ⟨(-99), by decide +kernel, by decide +kernel⟩
theorem ok_89_104 : pm_ok 89 104 (1, 6, 0, .null, []) := Or.inr ⟨by decide +kernel, rfl⟩
theorem ok_89_105 : pm_ok 89 105 (26, 1, 0, .null, []) := ⟨by decide +kernel, rfl⟩
set_option maxRecDepth 100000 in
theorem ok_89 : pm_oks 89 0 cd_X6_more := ⟨ok_89_0, ok_89_1, ok_89_2, ok_89_3, ok_89_4, ok_89_5, ok_89_6, ok_89_7, ok_89_8, ok_89_9, ok_89_10, ok_89_11, ok_89_12, ok_89_13, ok_89_14, ok_89_15, ok_89_16, ok_89_17, ok_89_18, ok_89_19, ok_89_20, ok_89_21, ok_89_22, ok_89_23, ok_89_24, ok_89_25, ok_89_26, ok_89_27, ok_89_28, ok_89_29, ok_89_30, ok_89_31, ok_89_32, ok_89_33, ok_89_34, ok_89_35, ok_89_36, ok_89_37, ok_89_38, ok_89_39, ok_89_40, ok_89_41, ok_89_42, ok_89_43, ok_89_44, ok_89_45, ok_89_46, ok_89_47, ok_89_48, ok_89_49, ok_89_50, ok_89_51, ok_89_52, ok_89_53, ok_89_54, ok_89_55, ok_89_56, ok_89_57, ok_89_58, ok_89_59, ok_89_60, ok_89_61, ok_89_62, ok_89_63, ok_89_64, ok_89_65, ok_89_66, ok_89_67, ok_89_68, ok_89_69, ok_89_70, ok_89_71, ok_89_72, ok_89_73, ok_89_74, ok_89_75, ok_89_76, ok_89_77, ok_89_78, ok_89_79, ok_89_80, ok_89_81, ok_89_82, ok_89_83, ok_89_84, ok_89_85, ok_89_86, ok_89_87, ok_89_88, ok_89_89, ok_89_90, ok_89_91, ok_89_92, ok_89_93, ok_89_94, ok_89_95, ok_89_96, ok_89_97, ok_89_98, ok_89_99, ok_89_100, ok_89_101, ok_89_102, ok_89_103, ok_89_104, ok_89_105, trivial⟩
theorem ok_90_0 : pm_ok 90 0 (0, 0, 0, .int 0, []) := Or.inl ⟨0, by decide +kernel, rfl, rfl⟩
theorem ok_90_1 : pm_ok 90 1 (2, 4, 0, .null, []) := Or.inr ⟨by decide +kernel, rfl⟩
theorem ok_90_2 : pm_ok 90 2 (1, 1, 0, .null, []) := Or.inl ⟨1, by decide +kernel, rfl, rfl⟩
theorem ok_90_3 : pm_ok 90 3 (2, 5, 0, .null, []) := Or.inr ⟨by decide +kernel, rfl⟩
theorem ok_90_4 : pm_ok 90 4 (1, 5, 0, .null, []) := Or.inr ⟨by decide +kernel, rfl⟩
theorem ok_90_5 : pm_ok 90 5 (15, 34, 5, .null, []) := ⟨53, by decide +kernel, by decide +kernel, rfl⟩
theorem ok_90_6 : pm_ok 90 6 (1, 0, 2, .null, []) := Or.inl ⟨0, by decide +kernel, rfl, rfl⟩
theorem ok_90_7 : pm_ok 90 7 (1, 5, 0, .null, []) := Or.inr ⟨by decide +kernel, rfl⟩
theorem ok_90_8 : pm_ok 90 8 (8, 0, 0, .null, []) := ⟨by decide +kernel, rfl⟩
theorem ok_90_9 : pm_ok 90 9 (25, 86, 2, .null, [6]) := ⟨108, by decide, rfl, Or.inl (pm_tb 605 (by decide +kernel)), Or.inl ⟨by decide +kernel, 6, TX6, 22, rfl, rfl, by decide, by decide +kernel, (pm_tb 607 (by decide +kernel)), (pm_tp 50 (by decide +kernel))⟩⟩
theorem ok_90_10 : pm_ok 90 10 (1, 0, 2, .null, []) := Or.inl ⟨0, by decide +kernel, rfl, rfl⟩
theorem ok_90_11 : pm_ok 90 11 (1, 0, 2, .null, []) := Or.inl ⟨0, by decide +kernel, rfl, rfl⟩
theorem ok_90_12 : pm_ok 90 12 (18, 6, 18, .null, []) := ⟨51, RX6, TX6, 22, by decide +kernel, rfl, rfl, by decide, pm_cw6, Or.inl (pm_tb 476 (by decide +kernel))⟩
theorem ok_90_13 : pm_ok 90 13 (1, 5, 0, .null, []) := Or.inr ⟨by decide +kernel, rfl⟩
theorem ok_90_14 : pm_ok 90 14 (20, 0, 2, .null, []) := ⟨by decide +kernel, rfl⟩
theorem ok_90_15 : pm_ok 90 15 (1, 2, 1, .null, []) := Or.inl ⟨2, by decide +kernel, rfl, rfl⟩
theorem ok_90_16 : pm_ok 90 16 (6, 0, 3, .null, []) := ⟨by decide +kernel, rfl⟩
theorem ok_90_17 : pm_ok 90 17 (25, 86, 2, .null, [6]) := ⟨108, by decide, rfl, Or.inl (pm_tb 605 (by decide +kernel)), Or.inl ⟨by decide +kernel, 6, TX6, 22, rfl, rfl, by decide, by decide +kernel, (pm_tb 607 (by decide +kernel)), (pm_tp 50 (by decide +kernel))⟩⟩
theorem ok_90_18 : pm_ok 90 18 (4, 0, 1, .null, []) := ⟨by decide +kernel, rfl⟩
theorem ok_90_19 : pm_ok 90 19 (2, 6, 0, .null, []) := Or.inr ⟨by decide +kernel, rfl⟩
theorem ok_90_20 : pm_ok 90 20 (1, 6, 0, .null, []) := Or.inr ⟨by decide +kernel, rfl⟩
theorem ok_90_21 : pm_ok 90 21 (1, 4, 0, .null, []) := Or.inr ⟨by decide +kernel, rfl⟩
theorem ok_90_22 : pm_ok 90 22 (16, 25, 5, .null, []) := ⟨8, by decide +kernel, by decide +kernel, rfl⟩
theorem ok_90_23 : pm_ok 90 23 (1, 6, 0, .null, []) := Or.inr ⟨by decide +kernel, rfl⟩
theorem ok_90_24 : pm_ok 90 24 (17, 26, 0, .null, []) := ⟨5, by decide +kernel, by decide +kernel⟩
theorem ok_90_25 : pm_ok 90 25 (1, 4, 0, .null, []) := Or.inr ⟨by decide +kernel, rfl⟩
theorem ok_90_26 : pm_ok 90 26 (2, 4, 0, .null, []) := Or.inr ⟨by decide +kernel, rfl⟩
theorem ok_90_27 : pm_ok 90 27 (1, 5, 0, .null, []) := Or.inr ⟨by decide +kernel, rfl⟩
theorem ok_90_28 : pm_ok 90 28 (0, 0, 0, .int 1, []) := Or.inl ⟨1, by decide +kernel, rfl, rfl⟩
theorem ok_90_29 : pm_ok 90 29 (4, 0, 1, .null, []) := ⟨by decide +kernel, rfl⟩
theorem ok_90_30 : pm_ok 90 30 (1, 1, 0, .null, []) := Or.inl ⟨1, by decide +kernel, rfl, rfl⟩
theorem ok_90_31 : pm_ok 90 31 (4, 0, 3, .null, []) := ⟨by decide +kernel, rfl⟩
theorem ok_90_32 : pm_ok 90 32 (2, 5, 0, .null, []) := Or.inr ⟨by decide +kernel, rfl⟩
theorem ok_90_33 : pm_ok 90 33 (17, 4, 0, .null, []) := ⟨(-52), by decide +kernel, by decide +kernel⟩
theorem ok_90_34 : pm_ok 90 34 (1, 4, 0, .null, []) := Or.inr ⟨by decide +kernel, rfl⟩
theorem ok_90_35 : pm_ok 90 35 (26, 1, 0, .null, []) := ⟨by decide +kernel, rfl⟩
set_option maxRecDepth 100000 in
theorem ok_90 : pm_oks 90 0 cd_X6_most := ⟨ok_90_0, ok_90_1, ok_90_2, ok_90_3, ok_90_4, ok_90_5, ok_90_6, ok_90_7, ok_90_8, ok_90_9, ok_90_10, ok_90_11, ok_90_12, ok_90_13, ok_90_14, ok_90_15, ok_90_16, ok_90_17, ok_90_18, ok_90_19, ok_90_20, ok_90_21, ok_90_22, ok_90_23, ok_90_24, ok_90_25, ok_90_26, ok_90_27, ok_90_28, ok_90_29, ok_90_30, ok_90_31, ok_90_32, ok_90_33, ok_90_34, ok_90_35, trivial⟩
theorem ok_91_0 : pm_ok 91 0 (1, 0, 2, .null, []) := Or.inl ⟨0, by decide +kernel, rfl, rfl⟩
theorem ok_91_1 : pm_ok 91 1 (25, 76, 1, .null, [6]) := ⟨89, by decide, rfl, Or.inl (pm_tb 552 (by decide +kernel)), Or.inl ⟨by decide +kernel, 6, TX6, 22, rfl, rfl, by decide, by decide +kernel, (pm_tb 554 (by decide +kernel)), (pm_tp 43 (by decide +kernel))⟩⟩
theorem ok_91_2 : pm_ok 91 2 (0, 0, 0, .int 0, []) := Or.inl ⟨0, by decide +kernel, rfl, rfl⟩
theorem ok_91_3 : pm_ok 91 3 (2, 1, 0, .null, []) := Or.inl ⟨1, by decide +kernel, rfl, rfl⟩
theorem ok_91_4 : pm_ok 91 4 (1, 1, 0, .null, []) := Or.inl ⟨1, by decide +kernel, rfl, rfl⟩
theorem ok_91_5 : pm_ok 91 5 (0, 0, 0, .int 32, []) := Or.inr (Or.inl ⟨32, by decide +kernel, by decide +kernel, rfl⟩)
theorem ok_91_6 : pm_ok 91 6 (16, 14, 3, .null, []) := ⟨16, by decide +kernel, by decide +kernel, rfl⟩
theorem ok_91_7 : pm_ok 91 7 (1, 0, 2, .null, []) := Or.inl ⟨0, by decide +kernel, rfl, rfl⟩
theorem ok_91_8 : pm_ok 91 8 (18, 6, 19, .null, []) := ⟨55, RX6, TX6, 22, by decide +kernel, rfl, rfl, by decide, pm_cw6, Or.inl (pm_tb 477 (by decide +kernel))⟩
theorem ok_91_9 : pm_ok 91 9 (1, 1, 0, .null, []) := Or.inl ⟨1, by decide +kernel, rfl, rfl⟩
theorem ok_91_10 : pm_ok 91 10 (0, 0, 0, .int (-1), []) := Or.inl ⟨(-1), by decide +kernel, rfl, rfl⟩
theorem ok_91_11 : pm_ok 91 11 (21, 0, 0, .null, []) := ⟨by decide +kernel, rfl⟩
theorem ok_91_12 : pm_ok 91 12 (3, 1, 0, .int 1, []) := ⟨1, by decide +kernel, rfl, rfl⟩
theorem ok_91_13 : pm_ok 91 13 (17, 4, 0, .null, []) := ⟨(-16), by decide +kernel, by decide +kernel⟩
theorem ok_91_14 : pm_ok 91 14 (0, 0, 0, .int 0, []) := Or.inl ⟨0, by decide +kernel, rfl, rfl⟩
theorem ok_91_15 : pm_ok 91 15 (2, 1, 0, .null, []) := Or.inl ⟨1, by decide +kernel, rfl, rfl⟩
theorem ok_91_16 : pm_ok 91 16 (0, 0, 0, .int 0, []) := Or.inl ⟨0, by decide +kernel, rfl, rfl⟩
theorem ok_91_17 : pm_ok 91 17 (2, 2, 0, .null, []) := Or.inl ⟨2, by decide +kernel, rfl, rfl⟩
theorem ok_91_18 : pm_ok 91 18 (1, 2, 0, .null, []) := Or.inl ⟨2, by decide +kernel, rfl, rfl⟩
theorem ok_91_19 : pm_ok 91 19 (1, 0, 2, .null, []) := Or.inl ⟨0, by decide +kernel, rfl, rfl⟩
theorem ok_91_20 : pm_ok 91 20 (18, 6, 6, .null, []) := ⟨27, RX6, TX6, 22, by decide +kernel, rfl, rfl, by decide, pm_cw6, Or.inl (pm_tb 464 (by decide +kernel))⟩
theorem ok_91_21 : pm_ok 91 21 (0, 0, 0, .int 0, []) := Or.inl ⟨0, by decide +kernel, rfl, rfl⟩
theorem ok_91_22 : pm_ok 91 22 (20, 0, 0, .null, []) := ⟨by decide +kernel, rfl⟩
theorem ok_91_23 : pm_ok 91 23 (16, 36, 3, .null, []) := ⟨25, by decide +kernel, by decide +kernel, rfl⟩
theorem ok_91_24 : pm_ok 91 24 (1, 1, 0, .null, []) := Or.inl ⟨1, by decide +kernel, rfl, rfl⟩
theorem ok_91_25 : pm_ok 91 25 (1, 0, 2, .null, []) := Or.inl ⟨0, by decide +kernel, rfl, rfl⟩
theorem ok_91_26 : pm_ok 91 26 (1, 2, 0, .null, []) := Or.inl ⟨2, by decide +kernel, rfl, rfl⟩
theorem ok_91_27 : pm_ok 91 27 (25, 93, 2, .null, [6]) := ⟨116, by decide, rfl, Or.inl (pm_tb 618 (by decide +kernel)), Or.inl ⟨by decide +kernel, 6, TX6, 22, rfl, rfl, by decide, by decide +kernel, (pm_tb 620 (by decide +kernel)), (pm_tp 52 (by decide +kernel))⟩⟩
theorem ok_91_28 : pm_ok 91 28 (15, 31, 0, .null, []) := ⟨7, by decide +kernel, by decide +kernel, rfl⟩
theorem ok_91_29 : pm_ok 91 29 (0, 0, 0, .int 1, []) := Or.inl ⟨1, by decide +kernel, rfl, rfl⟩
theorem ok_91_30 : pm_ok 91 30 (17, 32, 0, .null, []) := ⟨4, by decide +kernel, by decide +kernel⟩
theorem ok_91_31 : pm_ok 91 31 (0, 0, 0, .int 0, []) := Or.inl ⟨0, by decide +kernel, rfl, rfl⟩
theorem ok_91_32 : pm_ok 91 32 (4, 0, 0, .null, []) := ⟨by decide +kernel, rfl⟩
theorem ok_91_33 : pm_ok 91 33 (2, 1, 0, .null, []) := Or.inl ⟨1, by decide +kernel, rfl, rfl⟩
theorem ok_91_34 : pm_ok 91 34 (3, 2, 0, .int 1, []) := ⟨1, by decide +kernel, rfl, rfl⟩
theorem ok_91_35 : pm_ok 91 35 (17, 18, 0, .null, []) := ⟨(-29), by decide +kernel, by decide +kernel⟩
theorem ok_91_36 : pm_ok 91 36 (1, 1, 0, .null, []) := Or.inl ⟨1, by decide +kernel, rfl, rfl⟩
theorem ok_91_37 : pm_ok 91 37 (26, 1, 0, .null, []) := ⟨by decide +kernel, rfl⟩
set_option maxRecDepth 100000 in
theorem ok_91 : pm_oks 91 0 cd_X6_peace := ⟨ok_91_0, ok_91_1, ok_91_2, ok_91_3, ok_91_4, ok_91_5, ok_91_6, ok_91_7, ok_91_8, ok_91_9, ok_91_10, ok_91_11, ok_91_12, ok_91_13, ok_91_14, ok_91_15, ok_91_16, ok_91_17, ok_91_18, ok_91_19, ok_91_20, ok_91_21, ok_91_22, ok_91_23, ok_91_24, ok_91_25, ok_91_26, ok_91_27, ok_91_28, ok_91_29, ok_91_30, ok_91_31, ok_91_32, ok_91_33, ok_91_34, ok_91_35, ok_91_36, ok_91_37, trivial⟩
theorem ok_92_0 : pm_ok 92 0 (0, 0, 0, .int 0, []) := Or.inl ⟨0, by decide +kernel, rfl, rfl⟩
theorem ok_92_1 : pm_ok 92 1 (2, 3, 0, .null, []) := Or.inl ⟨3, by decide +kernel, rfl, rfl⟩
theorem ok_92_2 : pm_ok 92 2 (0, 0, 0, .int 0, []) := Or.inl ⟨0, by decide +kernel, rfl, rfl⟩
theorem ok_92_3 : pm_ok 92 3 (2, 4, 0, .null, []) := Or.inr ⟨by decide +kernel, rfl⟩
theorem ok_92_4 : pm_ok 92 4 (1, 4, 0, .null, []) := Or.inr ⟨by decide +kernel, rfl⟩
theorem ok_92_5 : pm_ok 92 5 (1, 0, 2, .null, []) := Or.inl ⟨0, by decide +kernel, rfl, rfl⟩
theorem ok_92_6 : pm_ok 92 6 (18, 6, 0, .null, []) := ⟨7, RX6, TX6, 22, by decide +kernel, rfl, rfl, by decide, pm_cw6, Or.inl (pm_tb 458 (by decide +kernel))⟩
theorem ok_92_7 : pm_ok 92 7 (1, 0, 2, .null, []) := Or.inl ⟨0, by decide +kernel, rfl, rfl⟩
theorem ok_92_8 : pm_ok 92 8 (18, 6, 1, .null, []) := ⟨13, RX6, TX6, 22, by decide +kernel, rfl, rfl, by decide, pm_cw6, Or.inl (pm_tb 459 (by decide +kernel))⟩
theorem ok_92_9 : pm_ok 92 9 (4, 0, 2, .null, []) := ⟨by decide +kernel, rfl⟩
theorem ok_92_10 : pm_ok 92 10 (16, 33, 3, .null, []) := ⟨44, by decide +kernel, by decide +kernel, rfl⟩
theorem ok_92_11 : pm_ok 92 11 (1, 3, 0, .null, []) := Or.inl ⟨3, by decide +kernel, rfl, rfl⟩
theorem ok_92_12 : pm_ok 92 12 (15, 27, 1, .null, []) := ⟨28, by decide +kernel, by decide +kernel, rfl⟩
theorem ok_92_13 : pm_ok 92 13 (1, 0, 2, .null, []) := Or.inl ⟨0, by decide +kernel, rfl, rfl⟩
theorem ok_92_14 : pm_ok 92 14 (18, 6, 5, .null, []) := ⟨23, RX6, TX6, 22, by decide +kernel, rfl, rfl, by decide, pm_cw6, Or.inl (pm_tb 463 (by decide +kernel))⟩
theorem ok_92_15 : pm_ok 92 15 (1, 4, 0, .null, []) := Or.inr ⟨by decide +kernel, rfl⟩
theorem ok_92_16 : pm_ok 92 16 (20, 0, 0, .null, []) := ⟨by decide +kernel, rfl⟩
theorem ok_92_17 : pm_ok 92 17 (1, 1, 0, .null, []) := Or.inl ⟨1, by decide +kernel, rfl, rfl⟩
theorem ok_92_18 : pm_ok 92 18 (16, 29, 1, .null, []) := ⟨21, by decide +kernel, by decide +kernel, rfl⟩
theorem ok_92_19 : pm_ok 92 19 (1, 0, 2, .null, []) := Or.inl ⟨0, by decide +kernel, rfl, rfl⟩
theorem ok_92_20 : pm_ok 92 20 (18, 6, 5, .null, []) := ⟨23, RX6, TX6, 22, by decide +kernel, rfl, rfl, by decide, pm_cw6, Or.inl (pm_tb 463 (by decide +kernel))⟩
theorem ok_92_21 : pm_ok 92 21 (0, 0, 0, .int 64, []) := Or.inr (Or.inl ⟨64, by decide +kernel, by decide +kernel, rfl⟩)
theorem ok_92_22 : pm_ok 92 22 (1, 4, 0, .null, []) := Or.inr ⟨by decide +kernel, rfl⟩
theorem ok_92_23 : pm_ok 92 23 (4, 0, 0, .null, []) := ⟨by decide +kernel, rfl⟩
theorem ok_92_24 : pm_ok 92 24 (20, 0, 0, .null, []) := ⟨by decide +kernel, rfl⟩
theorem ok_92_25 : pm_ok 92 25 (1, 2, 0, .null, []) := Or.inl ⟨2, by decide +kernel, rfl, rfl⟩
theorem ok_92_26 : pm_ok 92 26 (16, 29, 1, .null, []) := ⟨7, by decide +kernel, by decide +kernel, rfl⟩
theorem ok_92_27 : pm_ok 92 27 (0, 0, 0, .int 1, []) := Or.inl ⟨1, by decide +kernel, rfl, rfl⟩
theorem ok_92_28 : pm_ok 92 28 (17, 30, 0, .null, []) := ⟨4, by decide +kernel, by decide +kernel⟩
theorem ok_92_29 : pm_ok 92 29 (0, 0, 0, .int 0, []) := Or.inl ⟨0, by decide +kernel, rfl, rfl⟩
theorem ok_92_30 : pm_ok 92 30 (2, 3, 0, .null, []) := Or.inl ⟨3, by decide +kernel, rfl, rfl⟩
theorem ok_92_31 : pm_ok 92 31 (3, 4, 0, .int 1, []) := ⟨1, by decide +kernel, rfl, rfl⟩
theorem ok_92_32 : pm_ok 92 32 (17, 4, 0, .null, []) := ⟨(-52), by decide +kernel, by decide +kernel⟩
theorem ok_92_33 : pm_ok 92 33 (1, 3, 0, .null, []) := Or.inl ⟨3, by decide +kernel, rfl, rfl⟩
theorem ok_92_34 : pm_ok 92 34 (26, 2, 0, .null, []) := ⟨by decide +kernel, rfl⟩
set_option maxRecDepth 100000 in
theorem ok_92 : pm_oks 92 0 cd_X6_doCross := ⟨ok_92_0, ok_92_1, ok_92_2, ok_92_3, ok_92_4, ok_92_5, ok_92_6, ok_92_7, ok_92_8, ok_92_9, ok_92_10, ok_92_11, ok_92_12, ok_92_13, ok_92_14, ok_92_15, ok_92_16, ok_92_17, ok_92_18, ok_92_19, ok_92_20, ok_92_21, ok_92_22, ok_92_23, ok_92_24, ok_92_25, ok_92_26, ok_92_27, ok_92_28, ok_92_29, ok_92_30, ok_92_31, ok_92_32, ok_92_33, ok_92_34, trivial⟩
theorem ok_93_0 : pm_ok 93 0 (0, 0, 0, .int 0, []) := Or.inl ⟨0, by decide +kernel, rfl, rfl⟩
theorem ok_93_1 : pm_ok 93 1 (2, 2, 0, .null, []) := Or.inl ⟨2, by decide +kernel, rfl, rfl⟩
theorem ok_93_2 : pm_ok 93 2 (1, 2, 0, .null, []) := Or.inl ⟨2, by decide +kernel, rfl, rfl⟩
theorem ok_93_3 : pm_ok 93 3 (0, 0, 0, .int 32, []) := Or.inr (Or.inl ⟨32, by decide +kernel, by decide +kernel, rfl⟩)
theorem ok_93_4 : pm_ok 93 4 (16, 12, 3, .null, []) := ⟨16, by decide +kernel, by decide +kernel, rfl⟩
theorem ok_93_5 : pm_ok 93 5 (1, 0, 2, .null, []) := Or.inl ⟨0, by decide +kernel, rfl, rfl⟩
theorem ok_93_6 : pm_ok 93 6 (18, 6, 20, .null, []) := ⟨58, RX6, TX6, 22, by decide +kernel, rfl, rfl, by decide, pm_cw6, Or.inl (pm_tb 478 (by decide +kernel))⟩
theorem ok_93_7 : pm_ok 93 7 (1, 2, 0, .null, []) := Or.inl ⟨2, by decide +kernel, rfl, rfl⟩
theorem ok_93_8 : pm_ok 93 8 (0, 0, 0, .int (-1), []) := Or.inl ⟨(-1), by decide +kernel, rfl, rfl⟩
theorem ok_93_9 : pm_ok 93 9 (21, 0, 0, .null, []) := ⟨by decide +kernel, rfl⟩
theorem ok_93_10 : pm_ok 93 10 (3, 2, 0, .int 1, []) := ⟨1, by decide +kernel, rfl, rfl⟩
theorem ok_93_11 : pm_ok 93 11 (17, 2, 0, .null, []) := ⟨(-16), by decide +kernel, by decide +kernel⟩
theorem ok_93_12 : pm_ok 93 12 (0, 0, 0, .int 1, []) := Or.inl ⟨1, by decide +kernel, rfl, rfl⟩
theorem ok_93_13 : pm_ok 93 13 (2, 2, 0, .null, []) := Or.inl ⟨2, by decide +kernel, rfl, rfl⟩
theorem ok_93_14 : pm_ok 93 14 (1, 0, 2, .null, []) := Or.inl ⟨0, by decide +kernel, rfl, rfl⟩
theorem ok_93_15 : pm_ok 93 15 (18, 6, 21, .null, []) := ⟨61, RX6, TX6, 22, by decide +kernel, rfl, rfl, by decide, pm_cw6, Or.inl (pm_tb 479 (by decide +kernel))⟩
theorem ok_93_16 : pm_ok 93 16 (0, 0, 0, .int 0, []) := Or.inl ⟨0, by decide +kernel, rfl, rfl⟩
theorem ok_93_17 : pm_ok 93 17 (1, 1, 0, .null, []) := Or.inl ⟨1, by decide +kernel, rfl, rfl⟩
theorem ok_93_18 : pm_ok 93 18 (21, 0, 0, .null, []) := ⟨by decide +kernel, rfl⟩
theorem ok_93_19 : pm_ok 93 19 (0, 0, 0, .int 0, []) := Or.inl ⟨0, by decide +kernel, rfl, rfl⟩
theorem ok_93_20 : pm_ok 93 20 (2, 3, 0, .null, []) := Or.inl ⟨3, by decide +kernel, rfl, rfl⟩
theorem ok_93_21 : pm_ok 93 21 (1, 3, 0, .null, []) := Or.inl ⟨3, by decide +kernel, rfl, rfl⟩
theorem ok_93_22 : pm_ok 93 22 (1, 2, 0, .null, []) := Or.inl ⟨2, by decide +kernel, rfl, rfl⟩
theorem ok_93_23 : pm_ok 93 23 (16, 78, 3, .null, []) := ⟨104, by decide +kernel, by decide +kernel, rfl⟩
theorem ok_93_24 : pm_ok 93 24 (1, 0, 2, .null, []) := Or.inl ⟨0, by decide +kernel, rfl, rfl⟩
theorem ok_93_25 : pm_ok 93 25 (18, 6, 21, .null, []) := ⟨61, RX6, TX6, 22, by decide +kernel, rfl, rfl, by decide, pm_cw6, Or.inl (pm_tb 479 (by decide +kernel))⟩
theorem ok_93_26 : pm_ok 93 26 (1, 3, 0, .null, []) := Or.inl ⟨3, by decide +kernel, rfl, rfl⟩
theorem ok_93_27 : pm_ok 93 27 (20, 0, 0, .null, []) := ⟨by decide +kernel, rfl⟩
theorem ok_93_28 : pm_ok 93 28 (2, 4, 0, .null, []) := Or.inr ⟨by decide +kernel, rfl⟩
theorem ok_93_29 : pm_ok 93 29 (0, 0, 0, .int 0, []) := Or.inl ⟨0, by decide +kernel, rfl, rfl⟩
theorem ok_93_30 : pm_ok 93 30 (2, 5, 0, .null, []) := Or.inr ⟨by decide +kernel, rfl⟩
theorem ok_93_31 : pm_ok 93 31 (1, 5, 0, .null, []) := Or.inr ⟨by decide +kernel, rfl⟩
theorem ok_93_32 : pm_ok 93 32 (1, 0, 2, .null, []) := Or.inl ⟨0, by decide +kernel, rfl, rfl⟩
theorem ok_93_33 : pm_ok 93 33 (18, 6, 6, .null, []) := ⟨27, RX6, TX6, 22, by decide +kernel, rfl, rfl, by decide, pm_cw6, Or.inl (pm_tb 464 (by decide +kernel))⟩
theorem ok_93_34 : pm_ok 93 34 (0, 0, 0, .int 1, []) := Or.inl ⟨1, by decide +kernel, rfl, rfl⟩
theorem ok_93_35 : pm_ok 93 35 (20, 0, 0, .null, []) := ⟨by decide +kernel, rfl⟩
theorem ok_93_36 : pm_ok 93 36 (16, 76, 3, .null, []) := ⟨76, by decide +kernel, by decide +kernel, rfl⟩
theorem ok_93_37 : pm_ok 93 37 (1, 0, 2, .null, []) := Or.inl ⟨0, by decide +kernel, rfl, rfl⟩
theorem ok_93_38 : pm_ok 93 38 (18, 6, 20, .null, []) := ⟨58, RX6, TX6, 22, by decide +kernel, rfl, rfl, by decide, pm_cw6, Or.inl (pm_tb 478 (by decide +kernel))⟩
theorem ok_93_39 : pm_ok 93 39 (1, 5, 0, .null, []) := Or.inr ⟨by decide +kernel, rfl⟩
theorem ok_93_40 : pm_ok 93 40 (20, 0, 0, .null, []) := ⟨by decide +kernel, rfl⟩
theorem ok_93_41 : pm_ok 93 41 (0, 0, 0, .int (-1), []) := Or.inl ⟨(-1), by decide +kernel, rfl, rfl⟩
theorem ok_93_42 : pm_ok 93 42 (16, 74, 1, .null, []) := ⟨59, by decide +kernel, by decide +kernel, rfl⟩
theorem ok_93_43 : pm_ok 93 43 (1, 0, 2, .null, []) := Or.inl ⟨0, by decide +kernel, rfl, rfl⟩
theorem ok_93_44 : pm_ok 93 44 (1, 4, 0, .null, []) := Or.inr ⟨by decide +kernel, rfl⟩
theorem ok_93_45 : pm_ok 93 45 (1, 5, 0, .null, []) := Or.inr ⟨by decide +kernel, rfl⟩
theorem ok_93_46 : pm_ok 93 46 (25, 92, 3, .null, [6]) := ⟨119, by decide, rfl, Or.inl (pm_tb 622 (by decide +kernel)), Or.inl ⟨by decide +kernel, 6, TX6, 22, rfl, rfl, by decide, by decide +kernel, (pm_tb 624 (by decide +kernel)), (pm_tp 53 (by decide +kernel))⟩⟩
theorem ok_93_47 : pm_ok 93 47 (15, 74, 0, .null, []) := ⟨48, by decide +kernel, by decide +kernel, rfl⟩
theorem ok_93_48 : pm_ok 93 48 (1, 0, 2, .null, []) := Or.inl ⟨0, by decide +kernel, rfl, rfl⟩
theorem ok_93_49 : pm_ok 93 49 (18, 6, 20, .null, []) := ⟨58, RX6, TX6, 22, by decide +kernel, rfl, rfl, by decide, pm_cw6, Or.inl (pm_tb 478 (by decide +kernel))⟩
theorem ok_93_50 : pm_ok 93 50 (1, 5, 0, .null, []) := Or.inr ⟨by decide +kernel, rfl⟩
theorem ok_93_51 : pm_ok 93 51 (1, 4, 0, .null, []) := Or.inr ⟨by decide +kernel, rfl⟩
theorem ok_93_52 : pm_ok 93 52 (21, 0, 0, .null, []) := ⟨by decide +kernel, rfl⟩
theorem ok_93_53 : pm_ok 93 53 (1, 0, 2, .null, []) := Or.inl ⟨0, by decide +kernel, rfl, rfl⟩
theorem ok_93_54 : pm_ok 93 54 (18, 6, 19, .null, []) := ⟨55, RX6, TX6, 22, by decide +kernel, rfl, rfl, by decide, pm_cw6, Or.inl (pm_tb 477 (by decide +kernel))⟩
theorem ok_93_55 : pm_ok 93 55 (1, 5, 0, .null, []) := Or.inr ⟨by decide +kernel, rfl⟩
theorem ok_93_56 : pm_ok 93 56 (20, 0, 0, .null, []) := ⟨by decide +kernel, rfl⟩
theorem ok_93_57 : pm_ok 93 57 (0, 0, 0, .int (-1), []) := Or.inl ⟨(-1), by decide +kernel, rfl, rfl⟩
theorem ok_93_58 : pm_ok 93 58 (16, 65, 1, .null, []) := ⟨12, by decide +kernel, by decide +kernel, rfl⟩
theorem ok_93_59 : pm_ok 93 59 (1, 0, 2, .null, []) := Or.inl ⟨0, by decide +kernel, rfl, rfl⟩
theorem ok_93_60 : pm_ok 93 60 (1, 5, 0, .null, []) := Or.inr ⟨by decide +kernel, rfl⟩
theorem ok_93_61 : pm_ok 93 61 (1, 1, 0, .null, []) := Or.inl ⟨1, by decide +kernel, rfl, rfl⟩
theorem ok_93_62 : pm_ok 93 62 (25, 94, 3, .null, [6]) := ⟨122, by decide, rfl, Or.inl (pm_tb 626 (by decide +kernel)), Or.inl ⟨by decide +kernel, 6, TX6, 22, rfl, rfl, by decide, by decide +kernel, (pm_tb 628 (by decide +kernel)), (pm_tp 54 (by decide +kernel))⟩⟩
theorem ok_93_63 : pm_ok 93 63 (0, 0, 0, .int 1, []) := Or.inl ⟨1, by decide +kernel, rfl, rfl⟩
theorem ok_93_64 : pm_ok 93 64 (26, 2, 0, .null, []) := ⟨by decide +kernel, rfl⟩
theorem ok_93_65 : pm_ok 93 65 (1, 0, 2, .null, []) := Or.inl ⟨0, by decide +kernel, rfl, rfl⟩
theorem ok_93_66 : pm_ok 93 66 (18, 6, 21, .null, []) := ⟨61, RX6, TX6, 22, by decide +kernel, rfl, rfl, by decide, pm_cw6, Or.inl (pm_tb 479 (by decide +kernel))⟩
theorem ok_93_67 : pm_ok 93 67 (1, 2, 0, .null, []) := Or.inl ⟨2, by decide +kernel, rfl, rfl⟩
theorem ok_93_68 : pm_ok 93 68 (1, 0, 2, .null, []) := Or.inl ⟨0, by decide +kernel, rfl, rfl⟩
theorem ok_93_69 : pm_ok 93 69 (18, 6, 19, .null, []) := ⟨55, RX6, TX6, 22, by decide +kernel, rfl, rfl, by decide, pm_cw6, Or.inl (pm_tb 477 (by decide +kernel))⟩
theorem ok_93_70 : pm_ok 93 70 (1, 5, 0, .null, []) := Or.inr ⟨by decide +kernel, rfl⟩
theorem ok_93_71 : pm_ok 93 71 (20, 0, 0, .null, []) := ⟨by decide +kernel, rfl⟩
theorem ok_93_72 : pm_ok 93 72 (21, 0, 0, .null, []) := ⟨by decide +kernel, rfl⟩
theorem ok_93_73 : pm_ok 93 73 (3, 2, 0, .int 1, []) := ⟨1, by decide +kernel, rfl, rfl⟩
theorem ok_93_74 : pm_ok 93 74 (3, 5, 0, .int 1, []) := ⟨1, by decide +kernel, rfl, rfl⟩
theorem ok_93_75 : pm_ok 93 75 (17, 31, 0, .null, []) := ⟨(-81), by decide +kernel, by decide +kernel⟩
theorem ok_93_76 : pm_ok 93 76 (3, 3, 0, .int 1, []) := ⟨1, by decide +kernel, rfl, rfl⟩
theorem ok_93_77 : pm_ok 93 77 (17, 21, 0, .null, []) := ⟨(-103), by decide +kernel, by decide +kernel⟩
theorem ok_93_78 : pm_ok 93 78 (0, 0, 0, .int 0, []) := Or.inl ⟨0, by decide +kernel, rfl, rfl⟩
theorem ok_93_79 : pm_ok 93 79 (26, 2, 0, .null, []) := ⟨by decide +kernel, rfl⟩
set_option maxRecDepth 100000 in
theorem ok_93 : pm_oks 93 0 cd_X6_finds := ⟨ok_93_0, ok_93_1, ok_93_2, ok_93_3, ok_93_4, ok_93_5, ok_93_6, ok_93_7, ok_93_8, ok_93_9, ok_93_10, ok_93_11, ok_93_12, ok_93_13, ok_93_14, ok_93_15, ok_93_16, ok_93_17, ok_93_18, ok_93_19, ok_93_20, ok_93_21, ok_93_22, ok_93_23, ok_93_24, ok_93_25, ok_93_26, ok_93_27, ok_93_28, ok_93_29, ok_93_30, ok_93_31, ok_93_32, ok_93_33, ok_93_34, ok_93_35, ok_93_36, ok_93_37, ok_93_38, ok_93_39, ok_93_40, ok_93_41, ok_93_42, ok_93_43, ok_93_44, ok_93_45, ok_93_46, ok_93_47, ok_93_48, ok_93_49, ok_93_50, ok_93_51, ok_93_52, ok_93_53, ok_93_54, ok_93_55, ok_93_56, ok_93_57, ok_93_58, ok_93_59, ok_93_60, ok_93_61, ok_93_62, ok_93_63, ok_93_64, ok_93_65, ok_93_66, ok_93_67, ok_93_68, ok_93_69, ok_93_70, ok_93_71, ok_93_72, ok_93_73, ok_93_74, ok_93_75, ok_93_76, ok_93_77, ok_93_78, ok_93_79, trivial⟩
theorem ok_94_0 : pm_ok 94 0 (1, 1, 0, .null, []) := Or.inl ⟨1, by decide +kernel, rfl, rfl⟩
theorem ok_94_1 : pm_ok 94 1 (2, 3, 0, .null, []) := Or.inl ⟨3, by decide +kernel, rfl, rfl⟩
theorem ok_94_2 : pm_ok 94 2 (0, 0, 0, .int 1, []) := Or.inl ⟨1, by decide +kernel, rfl, rfl⟩
theorem ok_94_3 : pm_ok 94 3 (2, 4, 0, .null, []) := Or.inr ⟨by decide +kernel, rfl⟩
theorem ok_94_4 : pm_ok 94 4 (1, 4, 0, .null, []) := Or.inr ⟨by decide +kernel, rfl⟩
theorem ok_94_5 : pm_ok 94 5 (15, 48, 0, .null, []) := ⟨82, by decide +kernel, by decide +kernel, rfl⟩
theorem ok_94_6 : pm_ok 94 6 (1, 0, 2, .null, []) := Or.inl ⟨0, by decide +kernel, rfl, rfl⟩
theorem ok_94_7 : pm_ok 94 7 (18, 6, 20, .null, []) := ⟨58, RX6, TX6, 22, by decide +kernel, rfl, rfl, by decide, pm_cw6, Or.inl (pm_tb 478 (by decide +kernel))⟩
theorem ok_94_8 : pm_ok 94 8 (1, 3, 0, .null, []) := Or.inl ⟨3, by decide +kernel, rfl, rfl⟩
theorem ok_94_9 : pm_ok 94 9 (20, 0, 0, .null, []) := ⟨by decide +kernel, rfl⟩
theorem ok_94_10 : pm_ok 94 10 (2, 5, 0, .null, []) := Or.inr ⟨by decide +kernel, rfl⟩
theorem ok_94_11 : pm_ok 94 11 (0, 0, 0, .int (-1), []) := Or.inl ⟨(-1), by decide +kernel, rfl, rfl⟩
theorem ok_94_12 : pm_ok 94 12 (2, 6, 0, .null, []) := Or.inr ⟨by decide +kernel, rfl⟩
theorem ok_94_13 : pm_ok 94 13 (0, 0, 0, .int 0, []) := Or.inl ⟨0, by decide +kernel, rfl, rfl⟩
theorem ok_94_14 : pm_ok 94 14 (2, 7, 0, .null, []) := Or.inr ⟨by decide +kernel, rfl⟩
theorem ok_94_15 : pm_ok 94 15 (1, 7, 0, .null, []) := Or.inr ⟨by decide +kernel, rfl⟩
theorem ok_94_16 : pm_ok 94 16 (1, 0, 2, .null, []) := Or.inl ⟨0, by decide +kernel, rfl, rfl⟩
theorem ok_94_17 : pm_ok 94 17 (18, 6, 6, .null, []) := ⟨27, RX6, TX6, 22, by decide +kernel, rfl, rfl, by decide, pm_cw6, Or.inl (pm_tb 464 (by decide +kernel))⟩
theorem ok_94_18 : pm_ok 94 18 (0, 0, 0, .int 1, []) := Or.inl ⟨1, by decide +kernel, rfl, rfl⟩
theorem ok_94_19 : pm_ok 94 19 (20, 0, 0, .null, []) := ⟨by decide +kernel, rfl⟩
theorem ok_94_20 : pm_ok 94 20 (16, 33, 3, .null, []) := ⟨30, by decide +kernel, by decide +kernel, rfl⟩
theorem ok_94_21 : pm_ok 94 21 (1, 0, 2, .null, []) := Or.inl ⟨0, by decide +kernel, rfl, rfl⟩
theorem ok_94_22 : pm_ok 94 22 (18, 6, 19, .null, []) := ⟨55, RX6, TX6, 22, by decide +kernel, rfl, rfl, by decide, pm_cw6, Or.inl (pm_tb 477 (by decide +kernel))⟩
theorem ok_94_23 : pm_ok 94 23 (1, 7, 0, .null, []) := Or.inr ⟨by decide +kernel, rfl⟩
theorem ok_94_24 : pm_ok 94 24 (20, 0, 0, .null, []) := ⟨by decide +kernel, rfl⟩
theorem ok_94_25 : pm_ok 94 25 (1, 5, 0, .null, []) := Or.inr ⟨by decide +kernel, rfl⟩
theorem ok_94_26 : pm_ok 94 26 (16, 29, 1, .null, []) := ⟨8, by decide +kernel, by decide +kernel, rfl⟩
theorem ok_94_27 : pm_ok 94 27 (1, 7, 0, .null, []) := Or.inr ⟨by decide +kernel, rfl⟩
theorem ok_94_28 : pm_ok 94 28 (17, 30, 0, .null, []) := ⟨5, by decide +kernel, by decide +kernel⟩
theorem ok_94_29 : pm_ok 94 29 (1, 6, 0, .null, []) := Or.inr ⟨by decide +kernel, rfl⟩
theorem ok_94_30 : pm_ok 94 30 (2, 6, 0, .null, []) := Or.inr ⟨by decide +kernel, rfl⟩
theorem ok_94_31 : pm_ok 94 31 (3, 7, 0, .int 1, []) := ⟨1, by decide +kernel, rfl, rfl⟩
theorem ok_94_32 : pm_ok 94 32 (17, 15, 0, .null, []) := ⟨(-35), by decide +kernel, by decide +kernel⟩
theorem ok_94_33 : pm_ok 94 33 (1, 0, 2, .null, []) := Or.inl ⟨0, by decide +kernel, rfl, rfl⟩
theorem ok_94_34 : pm_ok 94 34 (18, 6, 19, .null, []) := ⟨55, RX6, TX6, 22, by decide +kernel, rfl, rfl, by decide, pm_cw6, Or.inl (pm_tb 477 (by decide +kernel))⟩
theorem ok_94_35 : pm_ok 94 35 (1, 3, 0, .null, []) := Or.inl ⟨3, by decide +kernel, rfl, rfl⟩
theorem ok_94_36 : pm_ok 94 36 (1, 5, 0, .null, []) := Or.inr ⟨by decide +kernel, rfl⟩
theorem ok_94_37 : pm_ok 94 37 (21, 0, 0, .null, []) := ⟨by decide +kernel, rfl⟩
theorem ok_94_38 : pm_ok 94 38 (1, 5, 0, .null, []) := Or.inr ⟨by decide +kernel, rfl⟩
theorem ok_94_39 : pm_ok 94 39 (1, 2, 0, .null, []) := Or.inl ⟨2, by decide +kernel, rfl, rfl⟩
theorem ok_94_40 : pm_ok 94 40 (16, 43, 0, .null, []) := ⟨7, by decide +kernel, by decide +kernel, rfl⟩
theorem ok_94_41 : pm_ok 94 41 (0, 0, 0, .int 1, []) := Or.inl ⟨1, by decide +kernel, rfl, rfl⟩
theorem ok_94_42 : pm_ok 94 42 (17, 44, 0, .null, []) := ⟨4, by decide +kernel, by decide +kernel⟩
theorem ok_94_43 : pm_ok 94 43 (0, 0, 0, .int 0, []) := Or.inl ⟨0, by decide +kernel, rfl, rfl⟩
theorem ok_94_44 : pm_ok 94 44 (2, 4, 0, .null, []) := Or.inr ⟨by decide +kernel, rfl⟩
theorem ok_94_45 : pm_ok 94 45 (1, 6, 0, .null, []) := Or.inr ⟨by decide +kernel, rfl⟩
theorem ok_94_46 : pm_ok 94 46 (2, 3, 0, .null, []) := Or.inl ⟨3, by decide +kernel, rfl, rfl⟩
theorem ok_94_47 : pm_ok 94 47 (17, 4, 0, .null, []) := ⟨(-81), by decide +kernel, by decide +kernel⟩
theorem ok_94_48 : pm_ok 94 48 (26, 0, 0, .null, []) := ⟨by decide +kernel, rfl⟩
set_option maxRecDepth 100000 in
theorem ok_94 : pm_oks 94 0 cd_X6_turn := ⟨ok_94_0, ok_94_1, ok_94_2, ok_94_3, ok_94_4, ok_94_5, ok_94_6, ok_94_7, ok_94_8, ok_94_9, ok_94_10, ok_94_11, ok_94_12, ok_94_13, ok_94_14, ok_94_15, ok_94_16, ok_94_17, ok_94_18, ok_94_19, ok_94_20, ok_94_21, ok_94_22, ok_94_23, ok_94_24, ok_94_25, ok_94_26, ok_94_27, ok_94_28, ok_94_29, ok_94_30, ok_94_31, ok_94_32, ok_94_33, ok_94_34, ok_94_35, ok_94_36, ok_94_37, ok_94_38, ok_94_39, ok_94_40, ok_94_41, ok_94_42, ok_94_43, ok_94_44, ok_94_45, ok_94_46, ok_94_47, ok_94_48, trivial⟩
end
section
theorem ok_95_0 : pm_ok 95 0 (1, 1, 0, .null, []) := Or.inl ⟨1, by decide +kernel, rfl, rfl⟩
theorem ok_95_1 : pm_ok 95 1 (0, 0, 0, .int 1, []) := Or.inl ⟨1, by decide +kernel, rfl, rfl⟩
theorem ok_95_2 : pm_ok 95 2 (0, 0, 0, .int 12, []) := Or.inr (Or.inl ⟨12, by decide +kernel, by decide +kernel, rfl⟩)
theorem ok_95_3 : pm_ok 95 3 (25, 69, 3, .null, []) := ⟨64, by decide, rfl, Or.inl (pm_tb 529 (by decide +kernel)), Or.inr (Or.inr ⟨by decide +kernel, rfl, by decide +kernel, (pm_tb 530 (by decide +kernel))⟩)⟩
theorem ok_95_4 : pm_ok 95 4 (15, 10, 0, .null, []) := ⟨13, by decide +kernel, by decide +kernel, rfl⟩
theorem ok_95_5 : pm_ok 95 5 (1, 2, 0, .null, []) := Or.inl ⟨2, by decide +kernel, rfl, rfl⟩
theorem ok_95_6 : pm_ok 95 6 (0, 0, 0, .int 1, []) := Or.inl ⟨1, by decide +kernel, rfl, rfl⟩
theorem ok_95_7 : pm_ok 95 7 (0, 0, 0, .int 12, []) := Or.inr (Or.inl ⟨12, by decide +kernel, by decide +kernel, rfl⟩)
theorem ok_95_8 : pm_ok 95 8 (25, 69, 3, .null, []) := ⟨64, by decide, rfl, Or.inl (pm_tb 529 (by decide +kernel)), Or.inr (Or.inr ⟨by decide +kernel, rfl, by decide +kernel, (pm_tb 530 (by decide +kernel))⟩)⟩
theorem ok_95_9 : pm_ok 95 9 (15, 12, 1, .null, []) := ⟨6, by decide +kernel, by decide +kernel, rfl⟩
theorem ok_95_10 : pm_ok 95 10 (0, 0, 0, .int (-2), []) := Or.inr (Or.inl ⟨(-2), by decide +kernel, by decide +kernel, rfl⟩)
theorem ok_95_11 : pm_ok 95 11 (26, 1, 0, .null, []) := ⟨by decide +kernel, rfl⟩
theorem ok_95_12 : pm_ok 95 12 (1, 0, 2, .null, []) := Or.inl ⟨0, by decide +kernel, rfl, rfl⟩
theorem ok_95_13 : pm_ok 95 13 (1, 1, 0, .null, []) := Or.inl ⟨1, by decide +kernel, rfl, rfl⟩
theorem ok_95_14 : pm_ok 95 14 (19, 6, 9, .null, [0]) := ⟨33, RX6, TX6, 22, tyX6, by decide +kernel, rfl, rfl, by decide, pm_cw6, tyX6_ok, nmX6, by decide +kernel, Or.inl ⟨rfl, Or.inl (pm_tb 467 (by decide +kernel))⟩⟩
theorem ok_95_15 : pm_ok 95 15 (1, 0, 2, .null, []) := Or.inl ⟨0, by decide +kernel, rfl, rfl⟩
theorem ok_95_16 : pm_ok 95 16 (1, 2, 0, .null, []) := Or.inl ⟨2, by decide +kernel, rfl, rfl⟩
theorem ok_95_17 : pm_ok 95 17 (19, 6, 10, .null, [0]) := ⟨36, RX6, TX6, 22, tyX6, by decide +kernel, rfl, rfl, by decide, pm_cw6, tyX6_ok, nmX6, by decide +kernel, Or.inl ⟨rfl, Or.inl (pm_tb 468 (by decide +kernel))⟩⟩
theorem ok_95_18 : pm_ok 95 18 (1, 0, 2, .null, []) := Or.inl ⟨0, by decide +kernel, rfl, rfl⟩
theorem ok_95_19 : pm_ok 95 19 (0, 0, 0, .int 0, []) := Or.inl ⟨0, by decide +kernel, rfl, rfl⟩
theorem ok_95_20 : pm_ok 95 20 (19, 6, 11, .null, [0]) := ⟨126, RX6, TX6, 22, tyX6, by decide +kernel, rfl, rfl, by decide, pm_cw6, tyX6_ok, nmX6, by decide +kernel, Or.inl ⟨rfl, Or.inl (pm_tb 469 (by decide +kernel))⟩⟩
theorem ok_95_21 : pm_ok 95 21 (1, 0, 2, .null, []) := Or.inl ⟨0, by decide +kernel, rfl, rfl⟩
theorem ok_95_22 : pm_ok 95 22 (0, 0, 0, .int 0, []) := Or.inl ⟨0, by decide +kernel, rfl, rfl⟩
theorem ok_95_23 : pm_ok 95 23 (19, 6, 15, .null, [3]) := ⟨129, RX6, TX6, 22, tyX6, by decide +kernel, rfl, rfl, by decide, pm_cw6, tyX6_ok, nmX6, by decide +kernel, Or.inl ⟨rfl, Or.inl (pm_tb 473 (by decide +kernel))⟩⟩
theorem ok_95_24 : pm_ok 95 24 (1, 1, 0, .null, []) := Or.inl ⟨1, by decide +kernel, rfl, rfl⟩
theorem ok_95_25 : pm_ok 95 25 (1, 2, 0, .null, []) := Or.inl ⟨2, by decide +kernel, rfl, rfl⟩
theorem ok_95_26 : pm_ok 95 26 (4, 0, 2, .null, []) := ⟨by decide +kernel, rfl⟩
theorem ok_95_27 : pm_ok 95 27 (26, 1, 0, .null, []) := ⟨by decide +kernel, rfl⟩
set_option maxRecDepth 100000 in
theorem ok_95 : pm_oks 95 0 cd_X6_box := ⟨ok_95_0, ok_95_1, ok_95_2, ok_95_3, ok_95_4, ok_95_5, ok_95_6, ok_95_7, ok_95_8, ok_95_9, ok_95_10, ok_95_11, ok_95_12, ok_95_13, ok_95_14, ok_95_15, ok_95_16, ok_95_17, ok_95_18, ok_95_19, ok_95_20, ok_95_21, ok_95_22, ok_95_23, ok_95_24, ok_95_25, ok_95_26, ok_95_27, trivial⟩
theorem ok_96_0 : pm_ok 96 0 (1, 1, 0, .null, []) := Or.inl ⟨1, by decide +kernel, rfl, rfl⟩
theorem ok_96_1 : pm_ok 96 1 (0, 0, 0, .int 1, []) := Or.inl ⟨1, by decide +kernel, rfl, rfl⟩
theorem ok_96_2 : pm_ok 96 2 (0, 0, 0, .int 12, []) := Or.inr (Or.inl ⟨12, by decide +kernel, by decide +kernel, rfl⟩)
theorem ok_96_3 : pm_ok 96 3 (25, 69, 3, .null, []) := ⟨64, by decide, rfl, Or.inl (pm_tb 529 (by decide +kernel)), Or.inr (Or.inr ⟨by decide +kernel, rfl, by decide +kernel, (pm_tb 530 (by decide +kernel))⟩)⟩
theorem ok_96_4 : pm_ok 96 4 (15, 7, 1, .null, []) := ⟨6, by decide +kernel, by decide +kernel, rfl⟩
theorem ok_96_5 : pm_ok 96 5 (0, 0, 0, .int (-2), []) := Or.inr (Or.inl ⟨(-2), by decide +kernel, by decide +kernel, rfl⟩)
theorem ok_96_6 : pm_ok 96 6 (26, 1, 0, .null, []) := ⟨by decide +kernel, rfl⟩
theorem ok_96_7 : pm_ok 96 7 (1, 0, 2, .null, []) := Or.inl ⟨0, by decide +kernel, rfl, rfl⟩
theorem ok_96_8 : pm_ok 96 8 (18, 6, 11, .null, []) := ⟨126, RX6, TX6, 22, by decide +kernel, rfl, rfl, by decide, pm_cw6, Or.inl (pm_tb 469 (by decide +kernel))⟩
theorem ok_96_9 : pm_ok 96 9 (0, 0, 0, .int 8, []) := Or.inr (Or.inl ⟨8, by decide +kernel, by decide +kernel, rfl⟩)
theorem ok_96_10 : pm_ok 96 10 (16, 13, 1, .null, []) := ⟨6, by decide +kernel, by decide +kernel, rfl⟩
theorem ok_96_11 : pm_ok 96 11 (0, 0, 0, .int (-4), []) := Or.inr (Or.inl ⟨(-4), by decide +kernel, by decide +kernel, rfl⟩)
theorem ok_96_12 : pm_ok 96 12 (26, 1, 0, .null, []) := ⟨by decide +kernel, rfl⟩
theorem ok_96_13 : pm_ok 96 13 (1, 0, 2, .null, []) := Or.inl ⟨0, by decide +kernel, rfl, rfl⟩
theorem ok_96_14 : pm_ok 96 14 (18, 6, 12, .null, []) := ⟨39, RX6, TX6, 22, by decide +kernel, rfl, rfl, by decide, pm_cw6, Or.inl (pm_tb 470 (by decide +kernel))⟩
theorem ok_96_15 : pm_ok 96 15 (1, 0, 2, .null, []) := Or.inl ⟨0, by decide +kernel, rfl, rfl⟩
theorem ok_96_16 : pm_ok 96 16 (18, 6, 11, .null, []) := ⟨126, RX6, TX6, 22, by decide +kernel, rfl, rfl, by decide, pm_cw6, Or.inl (pm_tb 469 (by decide +kernel))⟩
theorem ok_96_17 : pm_ok 96 17 (1, 1, 0, .null, []) := Or.inl ⟨1, by decide +kernel, rfl, rfl⟩
theorem ok_96_18 : pm_ok 96 18 (21, 0, 0, .null, []) := ⟨by decide +kernel, rfl⟩
theorem ok_96_19 : pm_ok 96 19 (1, 0, 2, .null, []) := Or.inl ⟨0, by decide +kernel, rfl, rfl⟩
theorem ok_96_20 : pm_ok 96 20 (11, 0, 0, .null, []) := ⟨by decide +kernel, rfl⟩
theorem ok_96_21 : pm_ok 96 21 (18, 6, 11, .null, []) := ⟨126, RX6, TX6, 22, by decide +kernel, rfl, rfl, by decide, pm_cw6, Or.inl (pm_tb 469 (by decide +kernel))⟩
theorem ok_96_22 : pm_ok 96 22 (0, 0, 0, .int 1, []) := Or.inl ⟨1, by decide +kernel, rfl, rfl⟩
theorem ok_96_23 : pm_ok 96 23 (4, 0, 0, .null, []) := ⟨by decide +kernel, rfl⟩
theorem ok_96_24 : pm_ok 96 24 (19, 6, 11, .null, [0]) := ⟨126, RX6, TX6, 22, tyX6, by decide +kernel, rfl, rfl, by decide, pm_cw6, tyX6_ok, nmX6, by decide +kernel, Or.inl ⟨rfl, Or.inl (pm_tb 469 (by decide +kernel))⟩⟩
theorem ok_96_25 : pm_ok 96 25 (1, 0, 2, .null, []) := Or.inl ⟨0, by decide +kernel, rfl, rfl⟩
theorem ok_96_26 : pm_ok 96 26 (0, 0, 0, .int 0, []) := Or.inl ⟨0, by decide +kernel, rfl, rfl⟩
theorem ok_96_27 : pm_ok 96 27 (19, 6, 15, .null, [3]) := ⟨129, RX6, TX6, 22, tyX6, by decide +kernel, rfl, rfl, by decide, pm_cw6, tyX6_ok, nmX6, by decide +kernel, Or.inl ⟨rfl, Or.inl (pm_tb 473 (by decide +kernel))⟩⟩
theorem ok_96_28 : pm_ok 96 28 (1, 0, 2, .null, []) := Or.inl ⟨0, by decide +kernel, rfl, rfl⟩
theorem ok_96_29 : pm_ok 96 29 (18, 6, 11, .null, []) := ⟨126, RX6, TX6, 22, by decide +kernel, rfl, rfl, by decide, pm_cw6, Or.inl (pm_tb 469 (by decide +kernel))⟩
theorem ok_96_30 : pm_ok 96 30 (0, 0, 0, .int 1, []) := Or.inl ⟨1, by decide +kernel, rfl, rfl⟩
theorem ok_96_31 : pm_ok 96 31 (4, 0, 1, .null, []) := ⟨by decide +kernel, rfl⟩
theorem ok_96_32 : pm_ok 96 32 (26, 1, 0, .null, []) := ⟨by decide +kernel, rfl⟩
set_option maxRecDepth 100000 in
theorem ok_96 : pm_oks 96 0 cd_X6_square := ⟨ok_96_0, ok_96_1, ok_96_2, ok_96_3, ok_96_4, ok_96_5, ok_96_6, ok_96_7, ok_96_8, ok_96_9, ok_96_10, ok_96_11, ok_96_12, ok_96_13, ok_96_14, ok_96_15, ok_96_16, ok_96_17, ok_96_18, ok_96_19, ok_96_20, ok_96_21, ok_96_22, ok_96_23, ok_96_24, ok_96_25, ok_96_26, ok_96_27, ok_96_28, ok_96_29, ok_96_30, ok_96_31, ok_96_32, trivial⟩
theorem ok_97_0 : pm_ok 97 0 (1, 0, 2, .null, []) := Or.inl ⟨0, by decide +kernel, rfl, rfl⟩
theorem ok_97_1 : pm_ok 97 1 (18, 6, 11, .null, []) := ⟨126, RX6, TX6, 22, by decide +kernel, rfl, rfl, by decide, pm_cw6, Or.inl (pm_tb 469 (by decide +kernel))⟩
theorem ok_97_2 : pm_ok 97 2 (15, 5, 1, .null, []) := ⟨6, by decide +kernel, by decide +kernel, rfl⟩
theorem ok_97_3 : pm_ok 97 3 (0, 0, 0, .int (-3), []) := Or.inr (Or.inl ⟨(-3), by decide +kernel, by decide +kernel, rfl⟩)
theorem ok_97_4 : pm_ok 97 4 (26, 1, 0, .null, []) := ⟨by decide +kernel, rfl⟩
theorem ok_97_5 : pm_ok 97 5 (1, 0, 2, .null, []) := Or.inl ⟨0, by decide +kernel, rfl, rfl⟩
theorem ok_97_6 : pm_ok 97 6 (11, 0, 0, .null, []) := ⟨by decide +kernel, rfl⟩
theorem ok_97_7 : pm_ok 97 7 (18, 6, 11, .null, []) := ⟨126, RX6, TX6, 22, by decide +kernel, rfl, rfl, by decide, pm_cw6, Or.inl (pm_tb 469 (by decide +kernel))⟩
theorem ok_97_8 : pm_ok 97 8 (0, 0, 0, .int 1, []) := Or.inl ⟨1, by decide +kernel, rfl, rfl⟩
theorem ok_97_9 : pm_ok 97 9 (4, 0, 1, .null, []) := ⟨by decide +kernel, rfl⟩
theorem ok_97_10 : pm_ok 97 10 (19, 6, 11, .null, [0]) := ⟨126, RX6, TX6, 22, tyX6, by decide +kernel, rfl, rfl, by decide, pm_cw6, tyX6_ok, nmX6, by decide +kernel, Or.inl ⟨rfl, Or.inl (pm_tb 469 (by decide +kernel))⟩⟩
theorem ok_97_11 : pm_ok 97 11 (1, 0, 2, .null, []) := Or.inl ⟨0, by decide +kernel, rfl, rfl⟩
theorem ok_97_12 : pm_ok 97 12 (0, 0, 0, .int 0, []) := Or.inl ⟨0, by decide +kernel, rfl, rfl⟩
theorem ok_97_13 : pm_ok 97 13 (19, 6, 15, .null, [3]) := ⟨129, RX6, TX6, 22, tyX6, by decide +kernel, rfl, rfl, by decide, pm_cw6, tyX6_ok, nmX6, by decide +kernel, Or.inl ⟨rfl, Or.inl (pm_tb 473 (by decide +kernel))⟩⟩
theorem ok_97_14 : pm_ok 97 14 (1, 0, 2, .null, []) := Or.inl ⟨0, by decide +kernel, rfl, rfl⟩
theorem ok_97_15 : pm_ok 97 15 (18, 6, 11, .null, []) := ⟨126, RX6, TX6, 22, by decide +kernel, rfl, rfl, by decide, pm_cw6, Or.inl (pm_tb 469 (by decide +kernel))⟩
theorem ok_97_16 : pm_ok 97 16 (26, 1, 0, .null, []) := ⟨by decide +kernel, rfl⟩
set_option maxRecDepth 100000 in
theorem ok_97 : pm_oks 97 0 cd_X6_drop := ⟨ok_97_0, ok_97_1, ok_97_2, ok_97_3, ok_97_4, ok_97_5, ok_97_6, ok_97_7, ok_97_8, ok_97_9, ok_97_10, ok_97_11, ok_97_12, ok_97_13, ok_97_14, ok_97_15, ok_97_16, trivial⟩
theorem ok_98_0 : pm_ok 98 0 (1, 0, 2, .null, []) := Or.inl ⟨0, by decide +kernel, rfl, rfl⟩
theorem ok_98_1 : pm_ok 98 1 (18, 6, 13, .null, []) := ⟨42, RX6, TX6, 22, by decide +kernel, rfl, rfl, by decide, pm_cw6, Or.inl (pm_tb 471 (by decide +kernel))⟩
theorem ok_98_2 : pm_ok 98 2 (1, 1, 0, .null, []) := Or.inl ⟨1, by decide +kernel, rfl, rfl⟩
theorem ok_98_3 : pm_ok 98 3 (20, 0, 0, .null, []) := ⟨by decide +kernel, rfl⟩
theorem ok_98_4 : pm_ok 98 4 (1, 0, 2, .null, []) := Or.inl ⟨0, by decide +kernel, rfl, rfl⟩
theorem ok_98_5 : pm_ok 98 5 (18, 6, 13, .null, []) := ⟨42, RX6, TX6, 22, by decide +kernel, rfl, rfl, by decide, pm_cw6, Or.inl (pm_tb 471 (by decide +kernel))⟩
theorem ok_98_6 : pm_ok 98 6 (1, 2, 0, .null, []) := Or.inl ⟨2, by decide +kernel, rfl, rfl⟩
theorem ok_98_7 : pm_ok 98 7 (20, 0, 0, .null, []) := ⟨by decide +kernel, rfl⟩
theorem ok_98_8 : pm_ok 98 8 (1, 0, 2, .null, []) := Or.inl ⟨0, by decide +kernel, rfl, rfl⟩
theorem ok_98_9 : pm_ok 98 9 (18, 6, 12, .null, []) := ⟨39, RX6, TX6, 22, by decide +kernel, rfl, rfl, by decide, pm_cw6, Or.inl (pm_tb 470 (by decide +kernel))⟩
theorem ok_98_10 : pm_ok 98 10 (1, 2, 0, .null, []) := Or.inl ⟨2, by decide +kernel, rfl, rfl⟩
theorem ok_98_11 : pm_ok 98 11 (20, 0, 0, .null, []) := ⟨by decide +kernel, rfl⟩
theorem ok_98_12 : pm_ok 98 12 (4, 0, 0, .null, []) := ⟨by decide +kernel, rfl⟩
theorem ok_98_13 : pm_ok 98 13 (16, 56, 3, .null, []) := ⟨69, by decide +kernel, by decide +kernel, rfl⟩
theorem ok_98_14 : pm_ok 98 14 (1, 0, 2, .null, []) := Or.inl ⟨0, by decide +kernel, rfl, rfl⟩
theorem ok_98_15 : pm_ok 98 15 (18, 6, 13, .null, []) := ⟨42, RX6, TX6, 22, by decide +kernel, rfl, rfl, by decide, pm_cw6, Or.inl (pm_tb 471 (by decide +kernel))⟩
theorem ok_98_16 : pm_ok 98 16 (1, 2, 0, .null, []) := Or.inl ⟨2, by decide +kernel, rfl, rfl⟩
theorem ok_98_17 : pm_ok 98 17 (20, 0, 0, .null, []) := ⟨by decide +kernel, rfl⟩
theorem ok_98_18 : pm_ok 98 18 (1, 0, 2, .null, []) := Or.inl ⟨0, by decide +kernel, rfl, rfl⟩
theorem ok_98_19 : pm_ok 98 19 (18, 6, 13, .null, []) := ⟨42, RX6, TX6, 22, by decide +kernel, rfl, rfl, by decide, pm_cw6, Or.inl (pm_tb 471 (by decide +kernel))⟩
theorem ok_98_20 : pm_ok 98 20 (1, 1, 0, .null, []) := Or.inl ⟨1, by decide +kernel, rfl, rfl⟩
theorem ok_98_21 : pm_ok 98 21 (20, 0, 0, .null, []) := ⟨by decide +kernel, rfl⟩
theorem ok_98_22 : pm_ok 98 22 (1, 0, 2, .null, []) := Or.inl ⟨0, by decide +kernel, rfl, rfl⟩
theorem ok_98_23 : pm_ok 98 23 (18, 6, 12, .null, []) := ⟨39, RX6, TX6, 22, by decide +kernel, rfl, rfl, by decide, pm_cw6, Or.inl (pm_tb 470 (by decide +kernel))⟩
theorem ok_98_24 : pm_ok 98 24 (1, 1, 0, .null, []) := Or.inl ⟨1, by decide +kernel, rfl, rfl⟩
theorem ok_98_25 : pm_ok 98 25 (20, 0, 0, .null, []) := ⟨by decide +kernel, rfl⟩
theorem ok_98_26 : pm_ok 98 26 (4, 0, 0, .null, []) := ⟨by decide +kernel, rfl⟩
theorem ok_98_27 : pm_ok 98 27 (16, 56, 3, .null, []) := ⟨47, by decide +kernel, by decide +kernel, rfl⟩
theorem ok_98_28 : pm_ok 98 28 (1, 0, 2, .null, []) := Or.inl ⟨0, by decide +kernel, rfl, rfl⟩
theorem ok_98_29 : pm_ok 98 29 (18, 6, 14, .null, []) := ⟨45, RX6, TX6, 22, by decide +kernel, rfl, rfl, by decide, pm_cw6, Or.inl (pm_tb 472 (by decide +kernel))⟩
theorem ok_98_30 : pm_ok 98 30 (1, 1, 0, .null, []) := Or.inl ⟨1, by decide +kernel, rfl, rfl⟩
theorem ok_98_31 : pm_ok 98 31 (20, 0, 0, .null, []) := ⟨by decide +kernel, rfl⟩
theorem ok_98_32 : pm_ok 98 32 (1, 0, 2, .null, []) := Or.inl ⟨0, by decide +kernel, rfl, rfl⟩
theorem ok_98_33 : pm_ok 98 33 (18, 6, 14, .null, []) := ⟨45, RX6, TX6, 22, by decide +kernel, rfl, rfl, by decide, pm_cw6, Or.inl (pm_tb 472 (by decide +kernel))⟩
theorem ok_98_34 : pm_ok 98 34 (1, 2, 0, .null, []) := Or.inl ⟨2, by decide +kernel, rfl, rfl⟩
theorem ok_98_35 : pm_ok 98 35 (20, 0, 0, .null, []) := ⟨by decide +kernel, rfl⟩
theorem ok_98_36 : pm_ok 98 36 (1, 0, 2, .null, []) := Or.inl ⟨0, by decide +kernel, rfl, rfl⟩
theorem ok_98_37 : pm_ok 98 37 (18, 6, 12, .null, []) := ⟨39, RX6, TX6, 22, by decide +kernel, rfl, rfl, by decide, pm_cw6, Or.inl (pm_tb 470 (by decide +kernel))⟩
theorem ok_98_38 : pm_ok 98 38 (1, 2, 0, .null, []) := Or.inl ⟨2, by decide +kernel, rfl, rfl⟩
theorem ok_98_39 : pm_ok 98 39 (20, 0, 0, .null, []) := ⟨by decide +kernel, rfl⟩
theorem ok_98_40 : pm_ok 98 40 (4, 0, 0, .null, []) := ⟨by decide +kernel, rfl⟩
theorem ok_98_41 : pm_ok 98 41 (16, 56, 3, .null, []) := ⟨25, by decide +kernel, by decide +kernel, rfl⟩
theorem ok_98_42 : pm_ok 98 42 (1, 0, 2, .null, []) := Or.inl ⟨0, by decide +kernel, rfl, rfl⟩
theorem ok_98_43 : pm_ok 98 43 (18, 6, 14, .null, []) := ⟨45, RX6, TX6, 22, by decide +kernel, rfl, rfl, by decide, pm_cw6, Or.inl (pm_tb 472 (by decide +kernel))⟩
theorem ok_98_44 : pm_ok 98 44 (1, 2, 0, .null, []) := Or.inl ⟨2, by decide +kernel, rfl, rfl⟩
theorem ok_98_45 : pm_ok 98 45 (20, 0, 0, .null, []) := ⟨by decide +kernel, rfl⟩
theorem ok_98_46 : pm_ok 98 46 (1, 0, 2, .null, []) := Or.inl ⟨0, by decide +kernel, rfl, rfl⟩
theorem ok_98_47 : pm_ok 98 47 (18, 6, 14, .null, []) := ⟨45, RX6, TX6, 22, by decide +kernel, rfl, rfl, by decide, pm_cw6, Or.inl (pm_tb 472 (by decide +kernel))⟩
theorem ok_98_48 : pm_ok 98 48 (1, 1, 0, .null, []) := Or.inl ⟨1, by decide +kernel, rfl, rfl⟩
theorem ok_98_49 : pm_ok 98 49 (20, 0, 0, .null, []) := ⟨by decide +kernel, rfl⟩
theorem ok_98_50 : pm_ok 98 50 (1, 0, 2, .null, []) := Or.inl ⟨0, by decide +kernel, rfl, rfl⟩
theorem ok_98_51 : pm_ok 98 51 (18, 6, 12, .null, []) := ⟨39, RX6, TX6, 22, by decide +kernel, rfl, rfl, by decide, pm_cw6, Or.inl (pm_tb 470 (by decide +kernel))⟩
theorem ok_98_52 : pm_ok 98 52 (1, 1, 0, .null, []) := Or.inl ⟨1, by decide +kernel, rfl, rfl⟩
theorem ok_98_53 : pm_ok 98 53 (20, 0, 0, .null, []) := ⟨by decide +kernel, rfl⟩
theorem ok_98_54 : pm_ok 98 54 (4, 0, 0, .null, []) := ⟨by decide +kernel, rfl⟩
theorem ok_98_55 : pm_ok 98 55 (16, 58, 2, .null, []) := ⟨7, by decide +kernel, by decide +kernel, rfl⟩
theorem ok_98_56 : pm_ok 98 56 (0, 0, 0, .int 1, []) := Or.inl ⟨1, by decide +kernel, rfl, rfl⟩
theorem ok_98_57 : pm_ok 98 57 (17, 59, 0, .null, []) := ⟨4, by decide +kernel, by decide +kernel⟩
theorem ok_98_58 : pm_ok 98 58 (0, 0, 0, .int 0, []) := Or.inl ⟨0, by decide +kernel, rfl, rfl⟩
theorem ok_98_59 : pm_ok 98 59 (26, 2, 0, .null, []) := ⟨by decide +kernel, rfl⟩
set_option maxRecDepth 100000 in
theorem ok_98 : pm_oks 98 0 cd_X6_isApart := ⟨ok_98_0, ok_98_1, ok_98_2, ok_98_3, ok_98_4, ok_98_5, ok_98_6, ok_98_7, ok_98_8, ok_98_9, ok_98_10, ok_98_11, ok_98_12, ok_98_13, ok_98_14, ok_98_15, ok_98_16, ok_98_17, ok_98_18, ok_98_19, ok_98_20, ok_98_21, ok_98_22, ok_98_23, ok_98_24, ok_98_25, ok_98_26, ok_98_27, ok_98_28, ok_98_29, ok_98_30, ok_98_31, ok_98_32, ok_98_33, ok_98_34, ok_98_35, ok_98_36, ok_98_37, ok_98_38, ok_98_39, ok_98_40, ok_98_41, ok_98_42, ok_98_43, ok_98_44, ok_98_45, ok_98_46, ok_98_47, ok_98_48, ok_98_49, ok_98_50, ok_98_51, ok_98_52, ok_98_53, ok_98_54, ok_98_55, ok_98_56, ok_98_57, ok_98_58, ok_98_59, trivial⟩
theorem ok_99_0 : pm_ok 99 0 (0, 0, 0, .int 1, []) := Or.inl ⟨1, by decide +kernel, rfl, rfl⟩
theorem ok_99_1 : pm_ok 99 1 (2, 2, 0, .null, []) := Or.inl ⟨2, by decide +kernel, rfl, rfl⟩
theorem ok_99_2 : pm_ok 99 2 (0, 0, 0, .int 0, []) := Or.inl ⟨0, by decide +kernel, rfl, rfl⟩
theorem ok_99_3 : pm_ok 99 3 (2, 3, 0, .null, []) := Or.inl ⟨3, by decide +kernel, rfl, rfl⟩
theorem ok_99_4 : pm_ok 99 4 (1, 3, 0, .null, []) := Or.inl ⟨3, by decide +kernel, rfl, rfl⟩
theorem ok_99_5 : pm_ok 99 5 (1, 1, 0, .null, []) := Or.inl ⟨1, by decide +kernel, rfl, rfl⟩
theorem ok_99_6 : pm_ok 99 6 (16, 20, 3, .null, []) := ⟨28, by decide +kernel, by decide +kernel, rfl⟩
theorem ok_99_7 : pm_ok 99 7 (1, 2, 0, .null, []) := Or.inl ⟨2, by decide +kernel, rfl, rfl⟩
theorem ok_99_8 : pm_ok 99 8 (15, 16, 0, .null, []) := ⟨16, by decide +kernel, by decide +kernel, rfl⟩
theorem ok_99_9 : pm_ok 99 9 (1, 0, 2, .null, []) := Or.inl ⟨0, by decide +kernel, rfl, rfl⟩
theorem ok_99_10 : pm_ok 99 10 (1, 1, 0, .null, []) := Or.inl ⟨1, by decide +kernel, rfl, rfl⟩
theorem ok_99_11 : pm_ok 99 11 (1, 3, 0, .null, []) := Or.inl ⟨3, by decide +kernel, rfl, rfl⟩
theorem ok_99_12 : pm_ok 99 12 (25, 98, 3, .null, [6]) := ⟨132, by decide, rfl, Or.inl (pm_tb 655 (by decide +kernel)), Or.inl ⟨by decide +kernel, 6, TX6, 22, rfl, rfl, by decide, by decide +kernel, (pm_tb 657 (by decide +kernel)), (pm_tp 57 (by decide +kernel))⟩⟩
theorem ok_99_13 : pm_ok 99 13 (15, 16, 0, .null, []) := ⟨7, by decide +kernel, by decide +kernel, rfl⟩
theorem ok_99_14 : pm_ok 99 14 (0, 0, 0, .int 1, []) := Or.inl ⟨1, by decide +kernel, rfl, rfl⟩
theorem ok_99_15 : pm_ok 99 15 (17, 17, 0, .null, []) := ⟨4, by decide +kernel, by decide +kernel⟩
theorem ok_99_16 : pm_ok 99 16 (0, 0, 0, .int 0, []) := Or.inl ⟨0, by decide +kernel, rfl, rfl⟩
theorem ok_99_17 : pm_ok 99 17 (2, 2, 0, .null, []) := Or.inl ⟨2, by decide +kernel, rfl, rfl⟩
theorem ok_99_18 : pm_ok 99 18 (3, 3, 0, .int 1, []) := ⟨1, by decide +kernel, rfl, rfl⟩
theorem ok_99_19 : pm_ok 99 19 (17, 4, 0, .null, []) := ⟨(-27), by decide +kernel, by decide +kernel⟩
theorem ok_99_20 : pm_ok 99 20 (1, 2, 0, .null, []) := Or.inl ⟨2, by decide +kernel, rfl, rfl⟩
theorem ok_99_21 : pm_ok 99 21 (26, 2, 0, .null, []) := ⟨by decide +kernel, rfl⟩
set_option maxRecDepth 100000 in
theorem ok_99 : pm_oks 99 0 cd_X6_lies := ⟨ok_99_0, ok_99_1, ok_99_2, ok_99_3, ok_99_4, ok_99_5, ok_99_6, ok_99_7, ok_99_8, ok_99_9, ok_99_10, ok_99_11, ok_99_12, ok_99_13, ok_99_14, ok_99_15, ok_99_16, ok_99_17, ok_99_18, ok_99_19, ok_99_20, ok_99_21, trivial⟩
theorem ok_100_0 : pm_ok 100 0 (1, 0, 2, .null, []) := Or.inl ⟨0, by decide +kernel, rfl, rfl⟩
theorem ok_100_1 : pm_ok 100 1 (18, 6, 9, .null, []) := ⟨33, RX6, TX6, 22, by decide +kernel, rfl, rfl, by decide, pm_cw6, Or.inl (pm_tb 467 (by decide +kernel))⟩
theorem ok_100_2 : pm_ok 100 2 (1, 0, 2, .null, []) := Or.inl ⟨0, by decide +kernel, rfl, rfl⟩
theorem ok_100_3 : pm_ok 100 3 (18, 6, 12, .null, []) := ⟨39, RX6, TX6, 22, by decide +kernel, rfl, rfl, by decide, pm_cw6, Or.inl (pm_tb 470 (by decide +kernel))⟩
theorem ok_100_4 : pm_ok 100 4 (1, 1, 0, .null, []) := Or.inl ⟨1, by decide +kernel, rfl, rfl⟩
theorem ok_100_5 : pm_ok 100 5 (20, 0, 0, .null, []) := ⟨by decide +kernel, rfl⟩
theorem ok_100_6 : pm_ok 100 6 (4, 0, 1, .null, []) := ⟨by decide +kernel, rfl⟩
theorem ok_100_7 : pm_ok 100 7 (2, 2, 0, .null, []) := Or.inl ⟨2, by decide +kernel, rfl, rfl⟩
theorem ok_100_8 : pm_ok 100 8 (1, 0, 2, .null, []) := Or.inl ⟨0, by decide +kernel, rfl, rfl⟩
theorem ok_100_9 : pm_ok 100 9 (18, 6, 10, .null, []) := ⟨36, RX6, TX6, 22, by decide +kernel, rfl, rfl, by decide, pm_cw6, Or.inl (pm_tb 468 (by decide +kernel))⟩
theorem ok_100_10 : pm_ok 100 10 (1, 0, 2, .null, []) := Or.inl ⟨0, by decide +kernel, rfl, rfl⟩
theorem ok_100_11 : pm_ok 100 11 (18, 6, 12, .null, []) := ⟨39, RX6, TX6, 22, by decide +kernel, rfl, rfl, by decide, pm_cw6, Or.inl (pm_tb 470 (by decide +kernel))⟩
theorem ok_100_12 : pm_ok 100 12 (1, 1, 0, .null, []) := Or.inl ⟨1, by decide +kernel, rfl, rfl⟩
theorem ok_100_13 : pm_ok 100 13 (20, 0, 0, .null, []) := ⟨by decide +kernel, rfl⟩
theorem ok_100_14 : pm_ok 100 14 (4, 0, 1, .null, []) := ⟨by decide +kernel, rfl⟩
theorem ok_100_15 : pm_ok 100 15 (2, 3, 0, .null, []) := Or.inl ⟨3, by decide +kernel, rfl, rfl⟩
theorem ok_100_16 : pm_ok 100 16 (1, 0, 2, .null, []) := Or.inl ⟨0, by decide +kernel, rfl, rfl⟩
theorem ok_100_17 : pm_ok 100 17 (18, 6, 13, .null, []) := ⟨42, RX6, TX6, 22, by decide +kernel, rfl, rfl, by decide, pm_cw6, Or.inl (pm_tb 471 (by decide +kernel))⟩
theorem ok_100_18 : pm_ok 100 18 (1, 1, 0, .null, []) := Or.inl ⟨1, by decide +kernel, rfl, rfl⟩
theorem ok_100_19 : pm_ok 100 19 (13, 0, 0, .null, []) := ⟨by decide +kernel, rfl⟩
theorem ok_100_20 : pm_ok 100 20 (20, 0, 0, .null, []) := ⟨by decide +kernel, rfl⟩
theorem ok_100_21 : pm_ok 100 21 (0, 0, 0, .int 1, []) := Or.inl ⟨1, by decide +kernel, rfl, rfl⟩
theorem ok_100_22 : pm_ok 100 22 (4, 0, 0, .null, []) := ⟨by decide +kernel, rfl⟩
theorem ok_100_23 : pm_ok 100 23 (21, 0, 0, .null, []) := ⟨by decide +kernel, rfl⟩
theorem ok_100_24 : pm_ok 100 24 (1, 0, 2, .null, []) := Or.inl ⟨0, by decide +kernel, rfl, rfl⟩
theorem ok_100_25 : pm_ok 100 25 (18, 6, 13, .null, []) := ⟨42, RX6, TX6, 22, by decide +kernel, rfl, rfl, by decide, pm_cw6, Or.inl (pm_tb 471 (by decide +kernel))⟩
theorem ok_100_26 : pm_ok 100 26 (1, 1, 0, .null, []) := Or.inl ⟨1, by decide +kernel, rfl, rfl⟩
theorem ok_100_27 : pm_ok 100 27 (20, 0, 0, .null, []) := ⟨by decide +kernel, rfl⟩
theorem ok_100_28 : pm_ok 100 28 (1, 2, 0, .null, []) := Or.inl ⟨2, by decide +kernel, rfl, rfl⟩
theorem ok_100_29 : pm_ok 100 29 (16, 43, 5, .null, []) := ⟨20, by decide +kernel, by decide +kernel, rfl⟩
theorem ok_100_30 : pm_ok 100 30 (1, 0, 2, .null, []) := Or.inl ⟨0, by decide +kernel, rfl, rfl⟩
theorem ok_100_31 : pm_ok 100 31 (18, 6, 13, .null, []) := ⟨42, RX6, TX6, 22, by decide +kernel, rfl, rfl, by decide, pm_cw6, Or.inl (pm_tb 471 (by decide +kernel))⟩
theorem ok_100_32 : pm_ok 100 32 (1, 1, 0, .null, []) := Or.inl ⟨1, by decide +kernel, rfl, rfl⟩
theorem ok_100_33 : pm_ok 100 33 (0, 0, 0, .int 0, []) := Or.inl ⟨0, by decide +kernel, rfl, rfl⟩
theorem ok_100_34 : pm_ok 100 34 (21, 0, 0, .null, []) := ⟨by decide +kernel, rfl⟩
theorem ok_100_35 : pm_ok 100 35 (1, 0, 2, .null, []) := Or.inl ⟨0, by decide +kernel, rfl, rfl⟩
theorem ok_100_36 : pm_ok 100 36 (18, 6, 14, .null, []) := ⟨45, RX6, TX6, 22, by decide +kernel, rfl, rfl, by decide, pm_cw6, Or.inl (pm_tb 472 (by decide +kernel))⟩
theorem ok_100_37 : pm_ok 100 37 (1, 1, 0, .null, []) := Or.inl ⟨1, by decide +kernel, rfl, rfl⟩
theorem ok_100_38 : pm_ok 100 38 (13, 0, 0, .null, []) := ⟨by decide +kernel, rfl⟩
theorem ok_100_39 : pm_ok 100 39 (20, 0, 0, .null, []) := ⟨by decide +kernel, rfl⟩
theorem ok_100_40 : pm_ok 100 40 (0, 0, 0, .int 1, []) := Or.inl ⟨1, by decide +kernel, rfl, rfl⟩
theorem ok_100_41 : pm_ok 100 41 (4, 0, 0, .null, []) := ⟨by decide +kernel, rfl⟩
theorem ok_100_42 : pm_ok 100 42 (21, 0, 0, .null, []) := ⟨by decide +kernel, rfl⟩
theorem ok_100_43 : pm_ok 100 43 (1, 2, 0, .null, []) := Or.inl ⟨2, by decide +kernel, rfl, rfl⟩
theorem ok_100_44 : pm_ok 100 44 (15, 53, 2, .null, []) := ⟨17, by decide +kernel, by decide +kernel, rfl⟩
theorem ok_100_45 : pm_ok 100 45 (1, 0, 2, .null, []) := Or.inl ⟨0, by decide +kernel, rfl, rfl⟩
theorem ok_100_46 : pm_ok 100 46 (18, 6, 14, .null, []) := ⟨45, RX6, TX6, 22, by decide +kernel, rfl, rfl, by decide, pm_cw6, Or.inl (pm_tb 472 (by decide +kernel))⟩
theorem ok_100_47 : pm_ok 100 47 (1, 1, 0, .null, []) := Or.inl ⟨1, by decide +kernel, rfl, rfl⟩
theorem ok_100_48 : pm_ok 100 48 (20, 0, 0, .null, []) := ⟨by decide +kernel, rfl⟩
theorem ok_100_49 : pm_ok 100 49 (1, 3, 0, .null, []) := Or.inl ⟨3, by decide +kernel, rfl, rfl⟩
theorem ok_100_50 : pm_ok 100 50 (16, 53, 4, .null, []) := ⟨7, by decide +kernel, by decide +kernel, rfl⟩
theorem ok_100_51 : pm_ok 100 51 (0, 0, 0, .int 1, []) := Or.inl ⟨1, by decide +kernel, rfl, rfl⟩
theorem ok_100_52 : pm_ok 100 52 (17, 54, 0, .null, []) := ⟨4, by decide +kernel, by decide +kernel⟩
theorem ok_100_53 : pm_ok 100 53 (0, 0, 0, .int 0, []) := Or.inl ⟨0, by decide +kernel, rfl, rfl⟩
theorem ok_100_54 : pm_ok 100 54 (26, 2, 0, .null, []) := ⟨by decide +kernel, rfl⟩
set_option maxRecDepth 100000 in
theorem ok_100 : pm_oks 100 0 cd_X6_goesOn := ⟨ok_100_0, ok_100_1, ok_100_2, ok_100_3, ok_100_4, ok_100_5, ok_100_6, ok_100_7, ok_100_8, ok_100_9, ok_100_10, ok_100_11, ok_100_12, ok_100_13, ok_100_14, ok_100_15, ok_100_16, ok_100_17, ok_100_18, ok_100_19, ok_100_20, ok_100_21, ok_100_22, ok_100_23, ok_100_24, ok_100_25, ok_100_26, ok_100_27, ok_100_28, ok_100_29, ok_100_30, ok_100_31, ok_100_32, ok_100_33, ok_100_34, ok_100_35, ok_100_36, ok_100_37, ok_100_38, ok_100_39, ok_100_40, ok_100_41, ok_100_42, ok_100_43, ok_100_44, ok_100_45, ok_100_46, ok_100_47, ok_100_48, ok_100_49, ok_100_50, ok_100_51, ok_100_52, ok_100_53, ok_100_54, trivial⟩
theorem ok_101_0 : pm_ok 101 0 (1, 1, 0, .null, []) := Or.inl ⟨1, by decide +kernel, rfl, rfl⟩
theorem ok_101_1 : pm_ok 101 1 (0, 0, 0, .int 0, []) := Or.inl ⟨0, by decide +kernel, rfl, rfl⟩
theorem ok_101_2 : pm_ok 101 2 (0, 0, 0, .int 100000, []) := Or.inr (Or.inr (Or.inr (Or.inr (Or.inl ⟨135, 100000, by decide +kernel, (pm_tb 646 (by decide +kernel)), rfl, rfl⟩))))
theorem ok_101_3 : pm_ok 101 3 (25, 69, 3, .null, []) := ⟨64, by decide, rfl, Or.inl (pm_tb 529 (by decide +kernel)), Or.inr (Or.inr ⟨by decide +kernel, rfl, by decide +kernel, (pm_tb 530 (by decide +kernel))⟩)⟩
theorem ok_101_4 : pm_ok 101 4 (15, 7, 1, .null, []) := ⟨6, by decide +kernel, by decide +kernel, rfl⟩
theorem ok_101_5 : pm_ok 101 5 (0, 0, 0, .int (-2), []) := Or.inr (Or.inl ⟨(-2), by decide +kernel, by decide +kernel, rfl⟩)
theorem ok_101_6 : pm_ok 101 6 (26, 1, 0, .null, []) := ⟨by decide +kernel, rfl⟩
theorem ok_101_7 : pm_ok 101 7 (1, 0, 2, .null, []) := Or.inl ⟨0, by decide +kernel, rfl, rfl⟩
theorem ok_101_8 : pm_ok 101 8 (0, 0, 0, .int 0, []) := Or.inl ⟨0, by decide +kernel, rfl, rfl⟩
theorem ok_101_9 : pm_ok 101 9 (19, 6, 15, .null, [3]) := ⟨129, RX6, TX6, 22, tyX6, by decide +kernel, rfl, rfl, by decide, pm_cw6, tyX6_ok, nmX6, by decide +kernel, Or.inl ⟨rfl, Or.inl (pm_tb 473 (by decide +kernel))⟩⟩
theorem ok_101_10 : pm_ok 101 10 (1, 0, 2, .null, []) := Or.inl ⟨0, by decide +kernel, rfl, rfl⟩
theorem ok_101_11 : pm_ok 101 11 (0, 0, 0, .int 0, []) := Or.inl ⟨0, by decide +kernel, rfl, rfl⟩
theorem ok_101_12 : pm_ok 101 12 (19, 6, 16, .null, [0]) := ⟨136, RX6, TX6, 22, tyX6, by decide +kernel, rfl, rfl, by decide, pm_cw6, tyX6_ok, nmX6, by decide +kernel, Or.inl ⟨rfl, Or.inl (pm_tb 474 (by decide +kernel))⟩⟩
theorem ok_101_13 : pm_ok 101 13 (0, 0, 0, .int 0, []) := Or.inl ⟨0, by decide +kernel, rfl, rfl⟩
theorem ok_101_14 : pm_ok 101 14 (2, 2, 0, .null, []) := Or.inl ⟨2, by decide +kernel, rfl, rfl⟩
theorem ok_101_15 : pm_ok 101 15 (1, 0, 2, .null, []) := Or.inl ⟨0, by decide +kernel, rfl, rfl⟩
theorem ok_101_16 : pm_ok 101 16 (18, 6, 11, .null, []) := ⟨126, RX6, TX6, 22, by decide +kernel, rfl, rfl, by decide, pm_cw6, Or.inl (pm_tb 469 (by decide +kernel))⟩
theorem ok_101_17 : pm_ok 101 17 (15, 28, 5, .null, []) := ⟨17, by decide +kernel, by decide +kernel, rfl⟩
theorem ok_101_18 : pm_ok 101 18 (1, 0, 2, .null, []) := Or.inl ⟨0, by decide +kernel, rfl, rfl⟩
theorem ok_101_19 : pm_ok 101 19 (18, 6, 13, .null, []) := ⟨42, RX6, TX6, 22, by decide +kernel, rfl, rfl, by decide, pm_cw6, Or.inl (pm_tb 471 (by decide +kernel))⟩
theorem ok_101_20 : pm_ok 101 20 (0, 0, 0, .int 0, []) := Or.inl ⟨0, by decide +kernel, rfl, rfl⟩
theorem ok_101_21 : pm_ok 101 21 (0, 0, 0, .int (-1), []) := Or.inl ⟨(-1), by decide +kernel, rfl, rfl⟩
theorem ok_101_22 : pm_ok 101 22 (21, 0, 0, .null, []) := ⟨by decide +kernel, rfl⟩
theorem ok_101_23 : pm_ok 101 23 (1, 0, 2, .null, []) := Or.inl ⟨0, by decide +kernel, rfl, rfl⟩
theorem ok_101_24 : pm_ok 101 24 (18, 6, 14, .null, []) := ⟨45, RX6, TX6, 22, by decide +kernel, rfl, rfl, by decide, pm_cw6, Or.inl (pm_tb 472 (by decide +kernel))⟩
theorem ok_101_25 : pm_ok 101 25 (0, 0, 0, .int 0, []) := Or.inl ⟨0, by decide +kernel, rfl, rfl⟩
theorem ok_101_26 : pm_ok 101 26 (0, 0, 0, .int 0, []) := Or.inl ⟨0, by decide +kernel, rfl, rfl⟩
theorem ok_101_27 : pm_ok 101 27 (21, 0, 0, .null, []) := ⟨by decide +kernel, rfl⟩
theorem ok_101_28 : pm_ok 101 28 (1, 2, 0, .null, []) := Or.inl ⟨2, by decide +kernel, rfl, rfl⟩
theorem ok_101_29 : pm_ok 101 29 (15, 72, 2, .null, []) := ⟨81, by decide +kernel, by decide +kernel, rfl⟩
theorem ok_101_30 : pm_ok 101 30 (1, 2, 0, .null, []) := Or.inl ⟨2, by decide +kernel, rfl, rfl⟩
theorem ok_101_31 : pm_ok 101 31 (1, 0, 2, .null, []) := Or.inl ⟨0, by decide +kernel, rfl, rfl⟩
theorem ok_101_32 : pm_ok 101 32 (18, 6, 11, .null, []) := ⟨126, RX6, TX6, 22, by decide +kernel, rfl, rfl, by decide, pm_cw6, Or.inl (pm_tb 469 (by decide +kernel))⟩
theorem ok_101_33 : pm_ok 101 33 (16, 72, 3, .null, []) := ⟨73, by decide +kernel, by decide +kernel, rfl⟩
theorem ok_101_34 : pm_ok 101 34 (1, 0, 2, .null, []) := Or.inl ⟨0, by decide +kernel, rfl, rfl⟩
theorem ok_101_35 : pm_ok 101 35 (1, 2, 0, .null, []) := Or.inl ⟨2, by decide +kernel, rfl, rfl⟩
theorem ok_101_36 : pm_ok 101 36 (25, 100, 2, .null, [6]) := ⟨139, by decide, rfl, Or.inl (pm_tb 647 (by decide +kernel)), Or.inl ⟨by decide +kernel, 6, TX6, 22, rfl, rfl, by decide, by decide +kernel, (pm_tb 649 (by decide +kernel)), (pm_tp 55 (by decide +kernel))⟩⟩
theorem ok_101_37 : pm_ok 101 37 (15, 40, 1, .null, []) := ⟨9, by decide +kernel, by decide +kernel, rfl⟩
theorem ok_101_38 : pm_ok 101 38 (3, 2, 0, .int (-1), []) := ⟨(-1), by decide +kernel, rfl, rfl⟩
theorem ok_101_39 : pm_ok 101 39 (17, 28, 0, .null, []) := ⟨(-23), by decide +kernel, by decide +kernel⟩
theorem ok_101_40 : pm_ok 101 40 (1, 0, 2, .null, []) := Or.inl ⟨0, by decide +kernel, rfl, rfl⟩
theorem ok_101_41 : pm_ok 101 41 (18, 6, 16, .null, []) := ⟨136, RX6, TX6, 22, by decide +kernel, rfl, rfl, by decide, pm_cw6, Or.inl (pm_tb 474 (by decide +kernel))⟩
theorem ok_101_42 : pm_ok 101 42 (1, 1, 0, .null, []) := Or.inl ⟨1, by decide +kernel, rfl, rfl⟩
theorem ok_101_43 : pm_ok 101 43 (16, 46, 1, .null, []) := ⟨5, by decide +kernel, by decide +kernel, rfl⟩
theorem ok_101_44 : pm_ok 101 44 (0, 0, 0, .int 2, []) := Or.inl ⟨2, by decide +kernel, rfl, rfl⟩
theorem ok_101_45 : pm_ok 101 45 (26, 1, 0, .null, []) := ⟨by decide +kernel, rfl⟩
theorem ok_101_46 : pm_ok 101 46 (1, 0, 2, .null, []) := Or.inl ⟨0, by decide +kernel, rfl, rfl⟩
theorem ok_101_47 : pm_ok 101 47 (11, 0, 0, .null, []) := ⟨by decide +kernel, rfl⟩
theorem ok_101_48 : pm_ok 101 48 (18, 6, 16, .null, []) := ⟨136, RX6, TX6, 22, by decide +kernel, rfl, rfl, by decide, pm_cw6, Or.inl (pm_tb 474 (by decide +kernel))⟩
theorem ok_101_49 : pm_ok 101 49 (0, 0, 0, .int 1, []) := Or.inl ⟨1, by decide +kernel, rfl, rfl⟩
theorem ok_101_50 : pm_ok 101 50 (4, 0, 0, .null, []) := ⟨by decide +kernel, rfl⟩
theorem ok_101_51 : pm_ok 101 51 (19, 6, 16, .null, [0]) := ⟨136, RX6, TX6, 22, tyX6, by decide +kernel, rfl, rfl, by decide, pm_cw6, tyX6_ok, nmX6, by decide +kernel, Or.inl ⟨rfl, Or.inl (pm_tb 474 (by decide +kernel))⟩⟩
theorem ok_101_52 : pm_ok 101 52 (1, 0, 2, .null, []) := Or.inl ⟨0, by decide +kernel, rfl, rfl⟩
theorem ok_101_53 : pm_ok 101 53 (1, 2, 0, .null, []) := Or.inl ⟨2, by decide +kernel, rfl, rfl⟩
theorem ok_101_54 : pm_ok 101 54 (25, 99, 2, .null, [6]) := ⟨142, by decide, rfl, Or.inl (pm_tb 651 (by decide +kernel)), Or.inl ⟨by decide +kernel, 6, TX6, 22, rfl, rfl, by decide, by decide +kernel, (pm_tb 653 (by decide +kernel)), (pm_tp 56 (by decide +kernel))⟩⟩
theorem ok_101_55 : pm_ok 101 55 (15, 28, 0, .null, []) := ⟨(-51), by decide +kernel, by decide +kernel, rfl⟩
theorem ok_101_56 : pm_ok 101 56 (3, 2, 0, .int 1, []) := ⟨1, by decide +kernel, rfl, rfl⟩
theorem ok_101_57 : pm_ok 101 57 (1, 2, 0, .null, []) := Or.inl ⟨2, by decide +kernel, rfl, rfl⟩
theorem ok_101_58 : pm_ok 101 58 (1, 0, 2, .null, []) := Or.inl ⟨0, by decide +kernel, rfl, rfl⟩
theorem ok_101_59 : pm_ok 101 59 (18, 6, 11, .null, []) := ⟨126, RX6, TX6, 22, by decide +kernel, rfl, rfl, by decide, pm_cw6, Or.inl (pm_tb 469 (by decide +kernel))⟩
theorem ok_101_60 : pm_ok 101 60 (16, 28, 3, .null, []) := ⟨(-62), by decide +kernel, by decide +kernel, rfl⟩
theorem ok_101_61 : pm_ok 101 61 (1, 0, 2, .null, []) := Or.inl ⟨0, by decide +kernel, rfl, rfl⟩
theorem ok_101_62 : pm_ok 101 62 (18, 6, 13, .null, []) := ⟨42, RX6, TX6, 22, by decide +kernel, rfl, rfl, by decide, pm_cw6, Or.inl (pm_tb 471 (by decide +kernel))⟩
theorem ok_101_63 : pm_ok 101 63 (1, 2, 0, .null, []) := Or.inl ⟨2, by decide +kernel, rfl, rfl⟩
theorem ok_101_64 : pm_ok 101 64 (0, 0, 0, .int (-1), []) := Or.inl ⟨(-1), by decide +kernel, rfl, rfl⟩
theorem ok_101_65 : pm_ok 101 65 (21, 0, 0, .null, []) := ⟨by decide +kernel, rfl⟩
theorem ok_101_66 : pm_ok 101 66 (1, 0, 2, .null, []) := Or.inl ⟨0, by decide +kernel, rfl, rfl⟩
theorem ok_101_67 : pm_ok 101 67 (18, 6, 14, .null, []) := ⟨45, RX6, TX6, 22, by decide +kernel, rfl, rfl, by decide, pm_cw6, Or.inl (pm_tb 472 (by decide +kernel))⟩
theorem ok_101_68 : pm_ok 101 68 (1, 2, 0, .null, []) := Or.inl ⟨2, by decide +kernel, rfl, rfl⟩
theorem ok_101_69 : pm_ok 101 69 (0, 0, 0, .int 0, []) := Or.inl ⟨0, by decide +kernel, rfl, rfl⟩
theorem ok_101_70 : pm_ok 101 70 (21, 0, 0, .null, []) := ⟨by decide +kernel, rfl⟩
theorem ok_101_71 : pm_ok 101 71 (17, 28, 0, .null, []) := ⟨(-79), by decide +kernel, by decide +kernel⟩
theorem ok_101_72 : pm_ok 101 72 (1, 0, 2, .null, []) := Or.inl ⟨0, by decide +kernel, rfl, rfl⟩
theorem ok_101_73 : pm_ok 101 73 (1, 2, 0, .null, []) := Or.inl ⟨2, by decide +kernel, rfl, rfl⟩
theorem ok_101_74 : pm_ok 101 74 (15, 77, 2, .null, []) := ⟨7, by decide +kernel, by decide +kernel, rfl⟩
theorem ok_101_75 : pm_ok 101 75 (0, 0, 0, .int 1, []) := Or.inl ⟨1, by decide +kernel, rfl, rfl⟩
theorem ok_101_76 : pm_ok 101 76 (17, 78, 0, .null, []) := ⟨4, by decide +kernel, by decide +kernel⟩
theorem ok_101_77 : pm_ok 101 77 (0, 0, 0, .int 0, []) := Or.inl ⟨0, by decide +kernel, rfl, rfl⟩
theorem ok_101_78 : pm_ok 101 78 (19, 6, 15, .null, [3]) := ⟨129, RX6, TX6, 22, tyX6, by decide +kernel, rfl, rfl, by decide, pm_cw6, tyX6_ok, nmX6, by decide +kernel, Or.inl ⟨rfl, Or.inl (pm_tb 473 (by decide +kernel))⟩⟩
theorem ok_101_79 : pm_ok 101 79 (1, 0, 2, .null, []) := Or.inl ⟨0, by decide +kernel, rfl, rfl⟩
theorem ok_101_80 : pm_ok 101 80 (18, 6, 15, .null, []) := ⟨129, RX6, TX6, 22, by decide +kernel, rfl, rfl, by decide, pm_cw6, Or.inl (pm_tb 473 (by decide +kernel))⟩
theorem ok_101_81 : pm_ok 101 81 (15, 84, 0, .null, []) := ⟨7, by decide +kernel, by decide +kernel, rfl⟩
theorem ok_101_82 : pm_ok 101 82 (0, 0, 0, .int 1, []) := Or.inl ⟨1, by decide +kernel, rfl, rfl⟩
theorem ok_101_83 : pm_ok 101 83 (17, 85, 0, .null, []) := ⟨4, by decide +kernel, by decide +kernel⟩
theorem ok_101_84 : pm_ok 101 84 (0, 0, 0, .int 0, []) := Or.inl ⟨0, by decide +kernel, rfl, rfl⟩
theorem ok_101_85 : pm_ok 101 85 (26, 1, 0, .null, []) := ⟨by decide +kernel, rfl⟩
set_option maxRecDepth 100000 in
theorem ok_101 : pm_oks 101 0 cd_X6_pack := ⟨ok_101_0, ok_101_1, ok_101_2, ok_101_3, ok_101_4, ok_101_5, ok_101_6, ok_101_7, ok_101_8, ok_101_9, ok_101_10, ok_101_11, ok_101_12, ok_101_13, ok_101_14, ok_101_15, ok_101_16, ok_101_17, ok_101_18, ok_101_19, ok_101_20, ok_101_21, ok_101_22, ok_101_23, ok_101_24, ok_101_25, ok_101_26, ok_101_27, ok_101_28, ok_101_29, ok_101_30, ok_101_31, ok_101_32, ok_101_33, ok_101_34, ok_101_35, ok_101_36, ok_101_37, ok_101_38, ok_101_39, ok_101_40, ok_101_41, ok_101_42, ok_101_43, ok_101_44, ok_101_45, ok_101_46, ok_101_47, ok_101_48, ok_101_49, ok_101_50, ok_101_51, ok_101_52, ok_101_53, ok_101_54, ok_101_55, ok_101_56, ok_101_57, ok_101_58, ok_101_59, ok_101_60, ok_101_61, ok_101_62, ok_101_63, ok_101_64, ok_101_65, ok_101_66, ok_101_67, ok_101_68, ok_101_69, ok_101_70, ok_101_71, ok_101_72, ok_101_73, ok_101_74, ok_101_75, ok_101_76, ok_101_77, ok_101_78, ok_101_79, ok_101_80, ok_101_81, ok_101_82, ok_101_83, ok_101_84, ok_101_85, trivial⟩
theorem ok_102_0 : pm_ok 102 0 (1, 0, 2, .null, []) := Or.inl ⟨0, by decide +kernel, rfl, rfl⟩
theorem ok_102_1 : pm_ok 102 1 (18, 6, 16, .null, []) := ⟨136, RX6, TX6, 22, by decide +kernel, rfl, rfl, by decide, pm_cw6, Or.inl (pm_tb 474 (by decide +kernel))⟩
theorem ok_102_2 : pm_ok 102 2 (26, 1, 0, .null, []) := ⟨by decide +kernel, rfl⟩
set_option maxRecDepth 100000 in
theorem ok_102 : pm_oks 102 0 cd_X6_tried := ⟨ok_102_0, ok_102_1, ok_102_2, trivial⟩
theorem ok_103_0 : pm_ok 103 0 (1, 2, 0, .null, []) := Or.inl ⟨2, by decide +kernel, rfl, rfl⟩
theorem ok_103_1 : pm_ok 103 1 (0, 0, 0, .int 0, []) := Or.inl ⟨0, by decide +kernel, rfl, rfl⟩
theorem ok_103_2 : pm_ok 103 2 (0, 0, 0, .int 1, []) := Or.inl ⟨1, by decide +kernel, rfl, rfl⟩
theorem ok_103_3 : pm_ok 103 3 (25, 69, 3, .null, []) := ⟨64, by decide, rfl, Or.inl (pm_tb 529 (by decide +kernel)), Or.inr (Or.inr ⟨by decide +kernel, rfl, by decide +kernel, (pm_tb 530 (by decide +kernel))⟩)⟩
theorem ok_103_4 : pm_ok 103 4 (15, 7, 1, .null, []) := ⟨6, by decide +kernel, by decide +kernel, rfl⟩
theorem ok_103_5 : pm_ok 103 5 (0, 0, 0, .int (-2), []) := Or.inr (Or.inl ⟨(-2), by decide +kernel, by decide +kernel, rfl⟩)
theorem ok_103_6 : pm_ok 103 6 (26, 1, 0, .null, []) := ⟨by decide +kernel, rfl⟩
theorem ok_103_7 : pm_ok 103 7 (1, 0, 2, .null, []) := Or.inl ⟨0, by decide +kernel, rfl, rfl⟩
theorem ok_103_8 : pm_ok 103 8 (18, 6, 15, .null, []) := ⟨129, RX6, TX6, 22, by decide +kernel, rfl, rfl, by decide, pm_cw6, Or.inl (pm_tb 473 (by decide +kernel))⟩
theorem ok_103_9 : pm_ok 103 9 (15, 18, 0, .null, []) := ⟨17, by decide +kernel, by decide +kernel, rfl⟩
theorem ok_103_10 : pm_ok 103 10 (1, 1, 0, .null, []) := Or.inl ⟨1, by decide +kernel, rfl, rfl⟩
theorem ok_103_11 : pm_ok 103 11 (0, 0, 0, .int 0, []) := Or.inl ⟨0, by decide +kernel, rfl, rfl⟩
theorem ok_103_12 : pm_ok 103 12 (1, 0, 2, .null, []) := Or.inl ⟨0, by decide +kernel, rfl, rfl⟩
theorem ok_103_13 : pm_ok 103 13 (18, 6, 11, .null, []) := ⟨126, RX6, TX6, 22, by decide +kernel, rfl, rfl, by decide, pm_cw6, Or.inl (pm_tb 469 (by decide +kernel))⟩
theorem ok_103_14 : pm_ok 103 14 (0, 0, 0, .int 1, []) := Or.inl ⟨1, by decide +kernel, rfl, rfl⟩
theorem ok_103_15 : pm_ok 103 15 (4, 0, 1, .null, []) := ⟨by decide +kernel, rfl⟩
theorem ok_103_16 : pm_ok 103 16 (25, 69, 3, .null, []) := ⟨64, by decide, rfl, Or.inl (pm_tb 529 (by decide +kernel)), Or.inr (Or.inr ⟨by decide +kernel, rfl, by decide +kernel, (pm_tb 530 (by decide +kernel))⟩)⟩
theorem ok_103_17 : pm_ok 103 17 (15, 20, 1, .null, []) := ⟨5, by decide +kernel, by decide +kernel, rfl⟩
theorem ok_103_18 : pm_ok 103 18 (0, 0, 0, .int (-1), []) := Or.inl ⟨(-1), by decide +kernel, rfl, rfl⟩
theorem ok_103_19 : pm_ok 103 19 (26, 1, 0, .null, []) := ⟨by decide +kernel, rfl⟩
theorem ok_103_20 : pm_ok 103 20 (1, 2, 0, .null, []) := Or.inl ⟨2, by decide +kernel, rfl, rfl⟩
theorem ok_103_21 : pm_ok 103 21 (15, 27, 1, .null, []) := ⟨12, by decide +kernel, by decide +kernel, rfl⟩
theorem ok_103_22 : pm_ok 103 22 (1, 0, 2, .null, []) := Or.inl ⟨0, by decide +kernel, rfl, rfl⟩
theorem ok_103_23 : pm_ok 103 23 (18, 6, 13, .null, []) := ⟨42, RX6, TX6, 22, by decide +kernel, rfl, rfl, by decide, pm_cw6, Or.inl (pm_tb 471 (by decide +kernel))⟩
theorem ok_103_24 : pm_ok 103 24 (1, 1, 0, .null, []) := Or.inl ⟨1, by decide +kernel, rfl, rfl⟩
theorem ok_103_25 : pm_ok 103 25 (20, 0, 0, .null, []) := ⟨by decide +kernel, rfl⟩
theorem ok_103_26 : pm_ok 103 26 (17, 31, 0, .null, []) := ⟨9, by decide +kernel, by decide +kernel⟩
theorem ok_103_27 : pm_ok 103 27 (1, 0, 2, .null, []) := Or.inl ⟨0, by decide +kernel, rfl, rfl⟩
theorem ok_103_28 : pm_ok 103 28 (18, 6, 14, .null, []) := ⟨45, RX6, TX6, 22, by decide +kernel, rfl, rfl, by decide, pm_cw6, Or.inl (pm_tb 472 (by decide +kernel))⟩
theorem ok_103_29 : pm_ok 103 29 (1, 1, 0, .null, []) := Or.inl ⟨1, by decide +kernel, rfl, rfl⟩
theorem ok_103_30 : pm_ok 103 30 (20, 0, 0, .null, []) := ⟨by decide +kernel, rfl⟩
theorem ok_103_31 : pm_ok 103 31 (26, 1, 0, .null, []) := ⟨by decide +kernel, rfl⟩
set_option maxRecDepth 100000 in
theorem ok_103 : pm_oks 103 0 cd_X6_place := ⟨ok_103_0, ok_103_1, ok_103_2, ok_103_3, ok_103_4, ok_103_5, ok_103_6, ok_103_7, ok_103_8, ok_103_9, ok_103_10, ok_103_11, ok_103_12, ok_103_13, ok_103_14, ok_103_15, ok_103_16, ok_103_17, ok_103_18, ok_103_19, ok_103_20, ok_103_21, ok_103_22, ok_103_23, ok_103_24, ok_103_25, ok_103_26, ok_103_27, ok_103_28, ok_103_29, ok_103_30, ok_103_31, trivial⟩
theorem ok_104_0 : pm_ok 104 0 (1, 0, 2, .null, []) := Or.inl ⟨0, by decide +kernel, rfl, rfl⟩
theorem ok_104_1 : pm_ok 104 1 (18, 6, 9, .null, []) := ⟨33, RX6, TX6, 22, by decide +kernel, rfl, rfl, by decide, pm_cw6, Or.inl (pm_tb 467 (by decide +kernel))⟩
theorem ok_104_2 : pm_ok 104 2 (1, 0, 2, .null, []) := Or.inl ⟨0, by decide +kernel, rfl, rfl⟩
theorem ok_104_3 : pm_ok 104 3 (18, 6, 10, .null, []) := ⟨36, RX6, TX6, 22, by decide +kernel, rfl, rfl, by decide, pm_cw6, Or.inl (pm_tb 468 (by decide +kernel))⟩
theorem ok_104_4 : pm_ok 104 4 (4, 0, 2, .null, []) := ⟨by decide +kernel, rfl⟩
theorem ok_104_5 : pm_ok 104 5 (2, 1, 0, .null, []) := Or.inl ⟨1, by decide +kernel, rfl, rfl⟩
theorem ok_104_6 : pm_ok 104 6 (0, 0, 0, .int 0, []) := Or.inl ⟨0, by decide +kernel, rfl, rfl⟩
theorem ok_104_7 : pm_ok 104 7 (2, 2, 0, .null, []) := Or.inl ⟨2, by decide +kernel, rfl, rfl⟩
theorem ok_104_8 : pm_ok 104 8 (1, 2, 0, .null, []) := Or.inl ⟨2, by decide +kernel, rfl, rfl⟩
theorem ok_104_9 : pm_ok 104 9 (1, 0, 2, .null, []) := Or.inl ⟨0, by decide +kernel, rfl, rfl⟩
theorem ok_104_10 : pm_ok 104 10 (18, 6, 11, .null, []) := ⟨126, RX6, TX6, 22, by decide +kernel, rfl, rfl, by decide, pm_cw6, Or.inl (pm_tb 469 (by decide +kernel))⟩
theorem ok_104_11 : pm_ok 104 11 (16, 26, 3, .null, []) := ⟨25, by decide +kernel, by decide +kernel, rfl⟩
theorem ok_104_12 : pm_ok 104 12 (1, 1, 0, .null, []) := Or.inl ⟨1, by decide +kernel, rfl, rfl⟩
theorem ok_104_13 : pm_ok 104 13 (1, 0, 2, .null, []) := Or.inl ⟨0, by decide +kernel, rfl, rfl⟩
theorem ok_104_14 : pm_ok 104 14 (18, 6, 12, .null, []) := ⟨39, RX6, TX6, 22, by decide +kernel, rfl, rfl, by decide, pm_cw6, Or.inl (pm_tb 470 (by decide +kernel))⟩
theorem ok_104_15 : pm_ok 104 15 (1, 2, 0, .null, []) := Or.inl ⟨2, by decide +kernel, rfl, rfl⟩
theorem ok_104_16 : pm_ok 104 16 (20, 0, 0, .null, []) := ⟨by decide +kernel, rfl⟩
theorem ok_104_17 : pm_ok 104 17 (1, 0, 2, .null, []) := Or.inl ⟨0, by decide +kernel, rfl, rfl⟩
theorem ok_104_18 : pm_ok 104 18 (18, 6, 12, .null, []) := ⟨39, RX6, TX6, 22, by decide +kernel, rfl, rfl, by decide, pm_cw6, Or.inl (pm_tb 470 (by decide +kernel))⟩
theorem ok_104_19 : pm_ok 104 19 (1, 2, 0, .null, []) := Or.inl ⟨2, by decide +kernel, rfl, rfl⟩
theorem ok_104_20 : pm_ok 104 20 (20, 0, 0, .null, []) := ⟨by decide +kernel, rfl⟩
theorem ok_104_21 : pm_ok 104 21 (4, 0, 2, .null, []) := ⟨by decide +kernel, rfl⟩
theorem ok_104_22 : pm_ok 104 22 (4, 0, 1, .null, []) := ⟨by decide +kernel, rfl⟩
theorem ok_104_23 : pm_ok 104 23 (2, 1, 0, .null, []) := Or.inl ⟨1, by decide +kernel, rfl, rfl⟩
theorem ok_104_24 : pm_ok 104 24 (3, 2, 0, .int 1, []) := ⟨1, by decide +kernel, rfl, rfl⟩
theorem ok_104_25 : pm_ok 104 25 (17, 8, 0, .null, []) := ⟨(-27), by decide +kernel, by decide +kernel⟩
theorem ok_104_26 : pm_ok 104 26 (1, 1, 0, .null, []) := Or.inl ⟨1, by decide +kernel, rfl, rfl⟩
theorem ok_104_27 : pm_ok 104 27 (26, 1, 0, .null, []) := ⟨by decide +kernel, rfl⟩
set_option maxRecDepth 100000 in
theorem ok_104 : pm_oks 104 0 cd_X6_left := ⟨ok_104_0, ok_104_1, ok_104_2, ok_104_3, ok_104_4, ok_104_5, ok_104_6, ok_104_7, ok_104_8, ok_104_9, ok_104_10, ok_104_11, ok_104_12, ok_104_13, ok_104_14, ok_104_15, ok_104_16, ok_104_17, ok_104_18, ok_104_19, ok_104_20, ok_104_21, ok_104_22, ok_104_23, ok_104_24, ok_104_25, ok_104_26, ok_104_27, trivial⟩
theorem ok_105_0 : pm_ok 105 0 (1, 0, 1, .null, []) := Or.inl ⟨0, by decide +kernel, rfl, rfl⟩
theorem ok_105_1 : pm_ok 105 1 (1, 0, 1, .null, []) := Or.inl ⟨0, by decide +kernel, rfl, rfl⟩
theorem ok_105_2 : pm_ok 105 2 (0, 0, 0, .int 1, []) := Or.inl ⟨1, by decide +kernel, rfl, rfl⟩
theorem ok_105_3 : pm_ok 105 3 (7, 0, 2, .null, []) := ⟨by decide +kernel, rfl⟩
theorem ok_105_4 : pm_ok 105 4 (0, 0, 0, .long 6148914691236517205, []) := Or.inr (Or.inr (Or.inr (Or.inr (Or.inr ⟨314, 6148914691236517205, by decide +kernel, (pm_tb 338 (by decide +kernel)), rfl, rfl⟩))))
theorem ok_105_5 : pm_ok 105 5 (6, 0, 3, .null, []) := ⟨by decide +kernel, rfl⟩
theorem ok_105_6 : pm_ok 105 6 (6, 0, 1, .null, []) := ⟨by decide +kernel, rfl⟩
theorem ok_105_7 : pm_ok 105 7 (2, 0, 1, .null, []) := Or.inl ⟨0, by decide +kernel, rfl, rfl⟩
theorem ok_105_8 : pm_ok 105 8 (1, 0, 1, .null, []) := Or.inl ⟨0, by decide +kernel, rfl, rfl⟩
theorem ok_105_9 : pm_ok 105 9 (0, 0, 0, .long 3689348814741910323, []) := Or.inr (Or.inr (Or.inr (Or.inr (Or.inr ⟨316, 3689348814741910323, by decide +kernel, (pm_tb 339 (by decide +kernel)), rfl, rfl⟩))))
theorem ok_105_10 : pm_ok 105 10 (6, 0, 3, .null, []) := ⟨by decide +kernel, rfl⟩
theorem ok_105_11 : pm_ok 105 11 (1, 0, 1, .null, []) := Or.inl ⟨0, by decide +kernel, rfl, rfl⟩
theorem ok_105_12 : pm_ok 105 12 (0, 0, 0, .int 2, []) := Or.inl ⟨2, by decide +kernel, rfl, rfl⟩
theorem ok_105_13 : pm_ok 105 13 (7, 0, 2, .null, []) := ⟨by decide +kernel, rfl⟩
theorem ok_105_14 : pm_ok 105 14 (0, 0, 0, .long 3689348814741910323, []) := Or.inr (Or.inr (Or.inr (Or.inr (Or.inr ⟨316, 3689348814741910323, by decide +kernel, (pm_tb 339 (by decide +kernel)), rfl, rfl⟩))))
theorem ok_105_15 : pm_ok 105 15 (6, 0, 3, .null, []) := ⟨by decide +kernel, rfl⟩
theorem ok_105_16 : pm_ok 105 16 (6, 0, 0, .null, []) := ⟨by decide +kernel, rfl⟩
theorem ok_105_17 : pm_ok 105 17 (2, 0, 1, .null, []) := Or.inl ⟨0, by decide +kernel, rfl, rfl⟩
theorem ok_105_18 : pm_ok 105 18 (1, 0, 1, .null, []) := Or.inl ⟨0, by decide +kernel, rfl, rfl⟩
theorem ok_105_19 : pm_ok 105 19 (1, 0, 1, .null, []) := Or.inl ⟨0, by decide +kernel, rfl, rfl⟩
theorem ok_105_20 : pm_ok 105 20 (0, 0, 0, .int 4, []) := Or.inl ⟨4, by decide +kernel, rfl, rfl⟩
theorem ok_105_21 : pm_ok 105 21 (7, 0, 2, .null, []) := ⟨by decide +kernel, rfl⟩
theorem ok_105_22 : pm_ok 105 22 (6, 0, 0, .null, []) := ⟨by decide +kernel, rfl⟩
theorem ok_105_23 : pm_ok 105 23 (0, 0, 0, .long 1085102592571150095, []) := Or.inr (Or.inr (Or.inr (Or.inr (Or.inr ⟨318, 1085102592571150095, by decide +kernel, (pm_tb 340 (by decide +kernel)), rfl, rfl⟩))))
theorem ok_105_24 : pm_ok 105 24 (6, 0, 3, .null, []) := ⟨by decide +kernel, rfl⟩
theorem ok_105_25 : pm_ok 105 25 (2, 0, 1, .null, []) := Or.inl ⟨0, by decide +kernel, rfl, rfl⟩
theorem ok_105_26 : pm_ok 105 26 (1, 0, 1, .null, []) := Or.inl ⟨0, by decide +kernel, rfl, rfl⟩
theorem ok_105_27 : pm_ok 105 27 (1, 0, 1, .null, []) := Or.inl ⟨0, by decide +kernel, rfl, rfl⟩
theorem ok_105_28 : pm_ok 105 28 (0, 0, 0, .int 8, []) := Or.inr (Or.inl ⟨8, by decide +kernel, by decide +kernel, rfl⟩)
theorem ok_105_29 : pm_ok 105 29 (7, 0, 2, .null, []) := ⟨by decide +kernel, rfl⟩
theorem ok_105_30 : pm_ok 105 30 (6, 0, 0, .null, []) := ⟨by decide +kernel, rfl⟩
theorem ok_105_31 : pm_ok 105 31 (2, 0, 1, .null, []) := Or.inl ⟨0, by decide +kernel, rfl, rfl⟩
theorem ok_105_32 : pm_ok 105 32 (1, 0, 1, .null, []) := Or.inl ⟨0, by decide +kernel, rfl, rfl⟩
theorem ok_105_33 : pm_ok 105 33 (1, 0, 1, .null, []) := Or.inl ⟨0, by decide +kernel, rfl, rfl⟩
theorem ok_105_34 : pm_ok 105 34 (0, 0, 0, .int 16, []) := Or.inr (Or.inl ⟨16, by decide +kernel, by decide +kernel, rfl⟩)
theorem ok_105_35 : pm_ok 105 35 (7, 0, 2, .null, []) := ⟨by decide +kernel, rfl⟩
theorem ok_105_36 : pm_ok 105 36 (6, 0, 0, .null, []) := ⟨by decide +kernel, rfl⟩
theorem ok_105_37 : pm_ok 105 37 (2, 0, 1, .null, []) := Or.inl ⟨0, by decide +kernel, rfl, rfl⟩
theorem ok_105_38 : pm_ok 105 38 (1, 0, 1, .null, []) := Or.inl ⟨0, by decide +kernel, rfl, rfl⟩
theorem ok_105_39 : pm_ok 105 39 (1, 0, 1, .null, []) := Or.inl ⟨0, by decide +kernel, rfl, rfl⟩
theorem ok_105_40 : pm_ok 105 40 (0, 0, 0, .int 32, []) := Or.inr (Or.inl ⟨32, by decide +kernel, by decide +kernel, rfl⟩)
theorem ok_105_41 : pm_ok 105 41 (7, 0, 2, .null, []) := ⟨by decide +kernel, rfl⟩
theorem ok_105_42 : pm_ok 105 42 (6, 0, 0, .null, []) := ⟨by decide +kernel, rfl⟩
theorem ok_105_43 : pm_ok 105 43 (2, 0, 1, .null, []) := Or.inl ⟨0, by decide +kernel, rfl, rfl⟩
theorem ok_105_44 : pm_ok 105 44 (1, 0, 1, .null, []) := Or.inl ⟨0, by decide +kernel, rfl, rfl⟩
theorem ok_105_45 : pm_ok 105 45 (9, 0, 0, .null, []) := ⟨by decide +kernel, rfl⟩
theorem ok_105_46 : pm_ok 105 46 (0, 0, 0, .int 127, []) := Or.inr (Or.inl ⟨127, by decide +kernel, by decide +kernel, rfl⟩)
theorem ok_105_47 : pm_ok 105 47 (4, 0, 3, .null, []) := ⟨by decide +kernel, rfl⟩
theorem ok_105_48 : pm_ok 105 48 (26, 1, 0, .null, []) := ⟨by decide +kernel, rfl⟩
set_option maxRecDepth 100000 in
theorem ok_105 : pm_oks 105 0 cd_J13_bitCount_95d88 := ⟨ok_105_0, ok_105_1, ok_105_2, ok_105_3, ok_105_4, ok_105_5, ok_105_6, ok_105_7, ok_105_8, ok_105_9, ok_105_10, ok_105_11, ok_105_12, ok_105_13, ok_105_14, ok_105_15, ok_105_16, ok_105_17, ok_105_18, ok_105_19, ok_105_20, ok_105_21, ok_105_22, ok_105_23, ok_105_24, ok_105_25, ok_105_26, ok_105_27, ok_105_28, ok_105_29, ok_105_30, ok_105_31, ok_105_32, ok_105_33, ok_105_34, ok_105_35, ok_105_36, ok_105_37, ok_105_38, ok_105_39, ok_105_40, ok_105_41, ok_105_42, ok_105_43, ok_105_44, ok_105_45, ok_105_46, ok_105_47, ok_105_48, trivial⟩
theorem ok_106_0 : pm_ok 106 0 (23, 5, 0, .null, []) := ⟨7, RX5, TX5, 2, tyX5, by decide +kernel, rfl, rfl, pm_cw5, tyX5_ok, pm_dfX5, rfl, (pm_tb 10 (by decide +kernel)), (pm_tb 11 (by decide +kernel)), (pm_tb 1 (by decide +kernel))⟩
theorem ok_106_1 : pm_ok 106 1 (11, 0, 0, .null, []) := ⟨by decide +kernel, rfl⟩
theorem ok_106_2 : pm_ok 106 2 (25, 47, 1, .null, [5]) := ⟨9, by decide, rfl, Or.inl (pm_tb 12 (by decide +kernel)), Or.inr (Or.inl ⟨by decide +kernel, 5, rfl, rfl, rfl, by decide, by decide +kernel, (pm_tb 13 (by decide +kernel))⟩)⟩
theorem ok_106_3 : pm_ok 106 3 (2, 1, 2, .null, []) := Or.inl ⟨1, by decide +kernel, rfl, rfl⟩
theorem ok_106_4 : pm_ok 106 4 (23, 6, 0, .null, []) := ⟨10, RX6, TX6, 22, tyX6, by decide +kernel, rfl, rfl, pm_cw6, tyX6_ok, pm_dfX6, rfl, (pm_tb 452 (by decide +kernel)), (pm_tb 453 (by decide +kernel)), (pm_tb 7 (by decide +kernel))⟩
theorem ok_106_5 : pm_ok 106 5 (11, 0, 0, .null, []) := ⟨by decide +kernel, rfl⟩
theorem ok_106_6 : pm_ok 106 6 (25, 68, 1, .null, [6]) := ⟨12, by decide, rfl, Or.inl (pm_tb 454 (by decide +kernel)), Or.inr (Or.inl ⟨by decide +kernel, 6, rfl, rfl, rfl, by decide, by decide +kernel, (pm_tb 455 (by decide +kernel))⟩)⟩
theorem ok_106_7 : pm_ok 106 7 (2, 2, 2, .null, []) := Or.inl ⟨2, by decide +kernel, rfl, rfl⟩
theorem ok_106_8 : pm_ok 106 8 (0, 0, 0, .int 0, []) := Or.inl ⟨0, by decide +kernel, rfl, rfl⟩
theorem ok_106_9 : pm_ok 106 9 (2, 3, 0, .null, []) := Or.inl ⟨3, by decide +kernel, rfl, rfl⟩
theorem ok_106_10 : pm_ok 106 10 (1, 3, 0, .null, []) := Or.inl ⟨3, by decide +kernel, rfl, rfl⟩
theorem ok_106_11 : pm_ok 106 11 (1, 0, 2, .null, []) := Or.inl ⟨0, by decide +kernel, rfl, rfl⟩
theorem ok_106_12 : pm_ok 106 12 (22, 0, 0, .null, []) := ⟨by decide +kernel, rfl⟩
theorem ok_106_13 : pm_ok 106 13 (0, 0, 0, .int 4, []) := Or.inl ⟨4, by decide +kernel, rfl, rfl⟩
theorem ok_106_14 : pm_ok 106 14 (4, 0, 1, .null, []) := ⟨by decide +kernel, rfl⟩
theorem ok_106_15 : pm_ok 106 15 (16, 405, 4, .null, []) := ⟨610, by decide +kernel, by decide +kernel, rfl⟩
theorem ok_106_16 : pm_ok 106 16 (1, 0, 2, .null, []) := Or.inl ⟨0, by decide +kernel, rfl, rfl⟩
theorem ok_106_17 : pm_ok 106 17 (1, 3, 0, .null, []) := Or.inl ⟨3, by decide +kernel, rfl, rfl⟩
theorem ok_106_18 : pm_ok 106 18 (20, 0, 0, .null, []) := ⟨by decide +kernel, rfl⟩
theorem ok_106_19 : pm_ok 106 19 (0, 0, 0, .int 31, []) := Or.inr (Or.inl ⟨31, by decide +kernel, by decide +kernel, rfl⟩)
theorem ok_106_20 : pm_ok 106 20 (4, 0, 3, .null, []) := ⟨by decide +kernel, rfl⟩
theorem ok_106_21 : pm_ok 106 21 (29, 403, 0, .null, [22, 49, 94, 121, 148, 175, 192, 229, 256, 263, 280, 287, 294, 321, 338, 345, 362, 369, 396]) := ⟨595, 18, #[92, 125, 184, 217, 250, 283, 306, 349, 382, 395, 418, 431, 444, 477, 500, 513, 536, 549, 582], 92, by decide +kernel, by decide +kernel, by decide +kernel, by decide +kernel⟩
theorem ok_106_22 : pm_ok 106 22 (1, 1, 2, .null, []) := Or.inl ⟨1, by decide +kernel, rfl, rfl⟩
theorem ok_106_23 : pm_ok 106 23 (1, 0, 2, .null, []) := Or.inl ⟨0, by decide +kernel, rfl, rfl⟩
theorem ok_106_24 : pm_ok 106 24 (1, 3, 0, .null, []) := Or.inl ⟨3, by decide +kernel, rfl, rfl⟩
theorem ok_106_25 : pm_ok 106 25 (0, 0, 0, .int 1, []) := Or.inl ⟨1, by decide +kernel, rfl, rfl⟩
theorem ok_106_26 : pm_ok 106 26 (4, 0, 0, .null, []) := ⟨by decide +kernel, rfl⟩
theorem ok_106_27 : pm_ok 106 27 (20, 0, 0, .null, []) := ⟨by decide +kernel, rfl⟩
theorem ok_106_28 : pm_ok 106 28 (1, 0, 2, .null, []) := Or.inl ⟨0, by decide +kernel, rfl, rfl⟩
theorem ok_106_29 : pm_ok 106 29 (1, 3, 0, .null, []) := Or.inl ⟨3, by decide +kernel, rfl, rfl⟩
theorem ok_106_30 : pm_ok 106 30 (0, 0, 0, .int 2, []) := Or.inl ⟨2, by decide +kernel, rfl, rfl⟩
theorem ok_106_31 : pm_ok 106 31 (4, 0, 0, .null, []) := ⟨by decide +kernel, rfl⟩
theorem ok_106_32 : pm_ok 106 32 (20, 0, 0, .null, []) := ⟨by decide +kernel, rfl⟩
theorem ok_106_33 : pm_ok 106 33 (25, 48, 3, .null, [5]) := ⟨13, by decide, rfl, Or.inl (pm_tb 221 (by decide +kernel)), Or.inl ⟨by decide +kernel, 5, TX5, 2, rfl, rfl, by decide, by decide +kernel, (pm_tb 222 (by decide +kernel)), (pm_tb 223 (by decide +kernel))⟩⟩
theorem ok_106_34 : pm_ok 106 34 (1, 2, 2, .null, []) := Or.inl ⟨2, by decide +kernel, rfl, rfl⟩
theorem ok_106_35 : pm_ok 106 35 (1, 0, 2, .null, []) := Or.inl ⟨0, by decide +kernel, rfl, rfl⟩
theorem ok_106_36 : pm_ok 106 36 (1, 3, 0, .null, []) := Or.inl ⟨3, by decide +kernel, rfl, rfl⟩
theorem ok_106_37 : pm_ok 106 37 (0, 0, 0, .int 1, []) := Or.inl ⟨1, by decide +kernel, rfl, rfl⟩
theorem ok_106_38 : pm_ok 106 38 (4, 0, 0, .null, []) := ⟨by decide +kernel, rfl⟩
theorem ok_106_39 : pm_ok 106 39 (20, 0, 0, .null, []) := ⟨by decide +kernel, rfl⟩
theorem ok_106_40 : pm_ok 106 40 (1, 0, 2, .null, []) := Or.inl ⟨0, by decide +kernel, rfl, rfl⟩
theorem ok_106_41 : pm_ok 106 41 (1, 3, 0, .null, []) := Or.inl ⟨3, by decide +kernel, rfl, rfl⟩
theorem ok_106_42 : pm_ok 106 42 (0, 0, 0, .int 2, []) := Or.inl ⟨2, by decide +kernel, rfl, rfl⟩
theorem ok_106_43 : pm_ok 106 43 (4, 0, 0, .null, []) := ⟨by decide +kernel, rfl⟩
theorem ok_106_44 : pm_ok 106 44 (20, 0, 0, .null, []) := ⟨by decide +kernel, rfl⟩
theorem ok_106_45 : pm_ok 106 45 (25, 70, 3, .null, [6]) := ⟨17, by decide, rfl, Or.inl (pm_tb 525 (by decide +kernel)), Or.inl ⟨by decide +kernel, 6, TX6, 22, rfl, rfl, by decide, by decide +kernel, (pm_tb 526 (by decide +kernel)), (pm_tb 527 (by decide +kernel))⟩⟩
theorem ok_106_46 : pm_ok 106 46 (16, 403, 0, .null, []) := ⟨475, by decide +kernel, by decide +kernel, rfl⟩
theorem ok_106_47 : pm_ok 106 47 (0, 0, 0, .int 0, []) := Or.inl ⟨0, by decide +kernel, rfl, rfl⟩
theorem ok_106_48 : pm_ok 106 48 (26, 2, 0, .null, []) := ⟨by decide +kernel, rfl⟩
theorem ok_106_49 : pm_ok 106 49 (1, 1, 2, .null, []) := Or.inl ⟨1, by decide +kernel, rfl, rfl⟩
theorem ok_106_50 : pm_ok 106 50 (1, 0, 2, .null, []) := Or.inl ⟨0, by decide +kernel, rfl, rfl⟩
theorem ok_106_51 : pm_ok 106 51 (1, 3, 0, .null, []) := Or.inl ⟨3, by decide +kernel, rfl, rfl⟩
theorem ok_106_52 : pm_ok 106 52 (0, 0, 0, .int 1, []) := Or.inl ⟨1, by decide +kernel, rfl, rfl⟩
theorem ok_106_53 : pm_ok 106 53 (4, 0, 0, .null, []) := ⟨by decide +kernel, rfl⟩
theorem ok_106_54 : pm_ok 106 54 (20, 0, 0, .null, []) := ⟨by decide +kernel, rfl⟩
theorem ok_106_55 : pm_ok 106 55 (1, 0, 2, .null, []) := Or.inl ⟨0, by decide +kernel, rfl, rfl⟩
theorem ok_106_56 : pm_ok 106 56 (1, 3, 0, .null, []) := Or.inl ⟨3, by decide +kernel, rfl, rfl⟩
theorem ok_106_57 : pm_ok 106 57 (0, 0, 0, .int 2, []) := Or.inl ⟨2, by decide +kernel, rfl, rfl⟩
theorem ok_106_58 : pm_ok 106 58 (4, 0, 0, .null, []) := ⟨by decide +kernel, rfl⟩
theorem ok_106_59 : pm_ok 106 59 (20, 0, 0, .null, []) := ⟨by decide +kernel, rfl⟩
theorem ok_106_60 : pm_ok 106 60 (1, 0, 2, .null, []) := Or.inl ⟨0, by decide +kernel, rfl, rfl⟩
theorem ok_106_61 : pm_ok 106 61 (1, 3, 0, .null, []) := Or.inl ⟨3, by decide +kernel, rfl, rfl⟩
theorem ok_106_62 : pm_ok 106 62 (0, 0, 0, .int 3, []) := Or.inl ⟨3, by decide +kernel, rfl, rfl⟩
theorem ok_106_63 : pm_ok 106 63 (4, 0, 0, .null, []) := ⟨by decide +kernel, rfl⟩
theorem ok_106_64 : pm_ok 106 64 (20, 0, 0, .null, []) := ⟨by decide +kernel, rfl⟩
theorem ok_106_65 : pm_ok 106 65 (15, 68, 0, .null, []) := ⟨7, by decide +kernel, by decide +kernel, rfl⟩
theorem ok_106_66 : pm_ok 106 66 (0, 0, 0, .int 1, []) := Or.inl ⟨1, by decide +kernel, rfl, rfl⟩
theorem ok_106_67 : pm_ok 106 67 (17, 69, 0, .null, []) := ⟨4, by decide +kernel, by decide +kernel⟩
theorem ok_106_68 : pm_ok 106 68 (0, 0, 0, .int 0, []) := Or.inl ⟨0, by decide +kernel, rfl, rfl⟩
theorem ok_106_69 : pm_ok 106 69 (25, 49, 4, .null, [5]) := ⟨18, by decide, rfl, Or.inl (pm_tb 229 (by decide +kernel)), Or.inl ⟨by decide +kernel, 5, TX5, 2, rfl, rfl, by decide, by decide +kernel, (pm_tb 230 (by decide +kernel)), (pm_tb 231 (by decide +kernel))⟩⟩
theorem ok_106_70 : pm_ok 106 70 (1, 2, 2, .null, []) := Or.inl ⟨2, by decide +kernel, rfl, rfl⟩
theorem ok_106_71 : pm_ok 106 71 (1, 0, 2, .null, []) := Or.inl ⟨0, by decide +kernel, rfl, rfl⟩
theorem ok_106_72 : pm_ok 106 72 (1, 3, 0, .null, []) := Or.inl ⟨3, by decide +kernel, rfl, rfl⟩
theorem ok_106_73 : pm_ok 106 73 (0, 0, 0, .int 1, []) := Or.inl ⟨1, by decide +kernel, rfl, rfl⟩
theorem ok_106_74 : pm_ok 106 74 (4, 0, 0, .null, []) := ⟨by decide +kernel, rfl⟩
theorem ok_106_75 : pm_ok 106 75 (20, 0, 0, .null, []) := ⟨by decide +kernel, rfl⟩
theorem ok_106_76 : pm_ok 106 76 (1, 0, 2, .null, []) := Or.inl ⟨0, by decide +kernel, rfl, rfl⟩
theorem ok_106_77 : pm_ok 106 77 (1, 3, 0, .null, []) := Or.inl ⟨3, by decide +kernel, rfl, rfl⟩
theorem ok_106_78 : pm_ok 106 78 (0, 0, 0, .int 2, []) := Or.inl ⟨2, by decide +kernel, rfl, rfl⟩
theorem ok_106_79 : pm_ok 106 79 (4, 0, 0, .null, []) := ⟨by decide +kernel, rfl⟩
theorem ok_106_80 : pm_ok 106 80 (20, 0, 0, .null, []) := ⟨by decide +kernel, rfl⟩
theorem ok_106_81 : pm_ok 106 81 (1, 0, 2, .null, []) := Or.inl ⟨0, by decide +kernel, rfl, rfl⟩
theorem ok_106_82 : pm_ok 106 82 (1, 3, 0, .null, []) := Or.inl ⟨3, by decide +kernel, rfl, rfl⟩
theorem ok_106_83 : pm_ok 106 83 (0, 0, 0, .int 3, []) := Or.inl ⟨3, by decide +kernel, rfl, rfl⟩
theorem ok_106_84 : pm_ok 106 84 (4, 0, 0, .null, []) := ⟨by decide +kernel, rfl⟩
theorem ok_106_85 : pm_ok 106 85 (20, 0, 0, .null, []) := ⟨by decide +kernel, rfl⟩
theorem ok_106_86 : pm_ok 106 86 (15, 89, 0, .null, []) := ⟨7, by decide +kernel, by decide +kernel, rfl⟩
theorem ok_106_87 : pm_ok 106 87 (0, 0, 0, .int 1, []) := Or.inl ⟨1, by decide +kernel, rfl, rfl⟩
theorem ok_106_88 : pm_ok 106 88 (17, 90, 0, .null, []) := ⟨4, by decide +kernel, by decide +kernel⟩
theorem ok_106_89 : pm_ok 106 89 (0, 0, 0, .int 0, []) := Or.inl ⟨0, by decide +kernel, rfl, rfl⟩
theorem ok_106_90 : pm_ok 106 90 (25, 72, 4, .null, [6]) := ⟨22, by decide, rfl, Or.inl (pm_tb 532 (by decide +kernel)), Or.inl ⟨by decide +kernel, 6, TX6, 22, rfl, rfl, by decide, by decide +kernel, (pm_tb 533 (by decide +kernel)), (pm_tb 534 (by decide +kernel))⟩⟩
theorem ok_106_91 : pm_ok 106 91 (16, 403, 0, .null, []) := ⟨416, by decide +kernel, by decide +kernel, rfl⟩
theorem ok_106_92 : pm_ok 106 92 (0, 0, 0, .int 0, []) := Or.inl ⟨0, by decide +kernel, rfl, rfl⟩
theorem ok_106_93 : pm_ok 106 93 (26, 2, 0, .null, []) := ⟨by decide +kernel, rfl⟩
theorem ok_106_94 : pm_ok 106 94 (1, 1, 2, .null, []) := Or.inl ⟨1, by decide +kernel, rfl, rfl⟩
theorem ok_106_95 : pm_ok 106 95 (1, 0, 2, .null, []) := Or.inl ⟨0, by decide +kernel, rfl, rfl⟩
theorem ok_106_96 : pm_ok 106 96 (1, 3, 0, .null, []) := Or.inl ⟨3, by decide +kernel, rfl, rfl⟩
theorem ok_106_97 : pm_ok 106 97 (0, 0, 0, .int 1, []) := Or.inl ⟨1, by decide +kernel, rfl, rfl⟩
theorem ok_106_98 : pm_ok 106 98 (4, 0, 0, .null, []) := ⟨by decide +kernel, rfl⟩
theorem ok_106_99 : pm_ok 106 99 (20, 0, 0, .null, []) := ⟨by decide +kernel, rfl⟩
theorem ok_106_100 : pm_ok 106 100 (1, 0, 2, .null, []) := Or.inl ⟨0, by decide +kernel, rfl, rfl⟩
theorem ok_106_101 : pm_ok 106 101 (1, 3, 0, .null, []) := Or.inl ⟨3, by decide +kernel, rfl, rfl⟩
theorem ok_106_102 : pm_ok 106 102 (0, 0, 0, .int 2, []) := Or.inl ⟨2, by decide +kernel, rfl, rfl⟩
theorem ok_106_103 : pm_ok 106 103 (4, 0, 0, .null, []) := ⟨by decide +kernel, rfl⟩
theorem ok_106_104 : pm_ok 106 104 (20, 0, 0, .null, []) := ⟨by decide +kernel, rfl⟩
theorem ok_106_105 : pm_ok 106 105 (25, 50, 3, .null, [5]) := ⟨23, by decide, rfl, Or.inl (pm_tb 243 (by decide +kernel)), Or.inl ⟨by decide +kernel, 5, TX5, 2, rfl, rfl, by decide, by decide +kernel, (pm_tb 244 (by decide +kernel)), (pm_tb 245 (by decide +kernel))⟩⟩
theorem ok_106_106 : pm_ok 106 106 (1, 2, 2, .null, []) := Or.inl ⟨2, by decide +kernel, rfl, rfl⟩
theorem ok_106_107 : pm_ok 106 107 (1, 0, 2, .null, []) := Or.inl ⟨0, by decide +kernel, rfl, rfl⟩
theorem ok_106_108 : pm_ok 106 108 (1, 3, 0, .null, []) := Or.inl ⟨3, by decide +kernel, rfl, rfl⟩
theorem ok_106_109 : pm_ok 106 109 (0, 0, 0, .int 1, []) := Or.inl ⟨1, by decide +kernel, rfl, rfl⟩
theorem ok_106_110 : pm_ok 106 110 (4, 0, 0, .null, []) := ⟨by decide +kernel, rfl⟩
theorem ok_106_111 : pm_ok 106 111 (20, 0, 0, .null, []) := ⟨by decide +kernel, rfl⟩
theorem ok_106_112 : pm_ok 106 112 (1, 0, 2, .null, []) := Or.inl ⟨0, by decide +kernel, rfl, rfl⟩
theorem ok_106_113 : pm_ok 106 113 (1, 3, 0, .null, []) := Or.inl ⟨3, by decide +kernel, rfl, rfl⟩
theorem ok_106_114 : pm_ok 106 114 (0, 0, 0, .int 2, []) := Or.inl ⟨2, by decide +kernel, rfl, rfl⟩
theorem ok_106_115 : pm_ok 106 115 (4, 0, 0, .null, []) := ⟨by decide +kernel, rfl⟩
theorem ok_106_116 : pm_ok 106 116 (20, 0, 0, .null, []) := ⟨by decide +kernel, rfl⟩
theorem ok_106_117 : pm_ok 106 117 (25, 73, 3, .null, [6]) := ⟨26, by decide, rfl, Or.inl (pm_tb 540 (by decide +kernel)), Or.inl ⟨by decide +kernel, 6, TX6, 22, rfl, rfl, by decide, by decide +kernel, (pm_tb 541 (by decide +kernel)), (pm_tb 542 (by decide +kernel))⟩⟩
theorem ok_106_118 : pm_ok 106 118 (16, 403, 0, .null, []) := ⟨383, by decide +kernel, by decide +kernel, rfl⟩
theorem ok_106_119 : pm_ok 106 119 (0, 0, 0, .int 0, []) := Or.inl ⟨0, by decide +kernel, rfl, rfl⟩
theorem ok_106_120 : pm_ok 106 120 (26, 2, 0, .null, []) := ⟨by decide +kernel, rfl⟩
theorem ok_106_121 : pm_ok 106 121 (1, 1, 2, .null, []) := Or.inl ⟨1, by decide +kernel, rfl, rfl⟩
theorem ok_106_122 : pm_ok 106 122 (1, 0, 2, .null, []) := Or.inl ⟨0, by decide +kernel, rfl, rfl⟩
theorem ok_106_123 : pm_ok 106 123 (1, 3, 0, .null, []) := Or.inl ⟨3, by decide +kernel, rfl, rfl⟩
theorem ok_106_124 : pm_ok 106 124 (0, 0, 0, .int 1, []) := Or.inl ⟨1, by decide +kernel, rfl, rfl⟩
theorem ok_106_125 : pm_ok 106 125 (4, 0, 0, .null, []) := ⟨by decide +kernel, rfl⟩
theorem ok_106_126 : pm_ok 106 126 (20, 0, 0, .null, []) := ⟨by decide +kernel, rfl⟩
theorem ok_106_127 : pm_ok 106 127 (1, 0, 2, .null, []) := Or.inl ⟨0, by decide +kernel, rfl, rfl⟩
theorem ok_106_128 : pm_ok 106 128 (1, 3, 0, .null, []) := Or.inl ⟨3, by decide +kernel, rfl, rfl⟩
theorem ok_106_129 : pm_ok 106 129 (0, 0, 0, .int 2, []) := Or.inl ⟨2, by decide +kernel, rfl, rfl⟩
theorem ok_106_130 : pm_ok 106 130 (4, 0, 0, .null, []) := ⟨by decide +kernel, rfl⟩
theorem ok_106_131 : pm_ok 106 131 (20, 0, 0, .null, []) := ⟨by decide +kernel, rfl⟩
theorem ok_106_132 : pm_ok 106 132 (25, 51, 3, .null, [5]) := ⟨27, by decide, rfl, Or.inl (pm_tb 251 (by decide +kernel)), Or.inl ⟨by decide +kernel, 5, TX5, 2, rfl, rfl, by decide, by decide +kernel, (pm_tb 252 (by decide +kernel)), (pm_tb 253 (by decide +kernel))⟩⟩
theorem ok_106_133 : pm_ok 106 133 (1, 2, 2, .null, []) := Or.inl ⟨2, by decide +kernel, rfl, rfl⟩
theorem ok_106_134 : pm_ok 106 134 (1, 0, 2, .null, []) := Or.inl ⟨0, by decide +kernel, rfl, rfl⟩
theorem ok_106_135 : pm_ok 106 135 (1, 3, 0, .null, []) := Or.inl ⟨3, by decide +kernel, rfl, rfl⟩
theorem ok_106_136 : pm_ok 106 136 (0, 0, 0, .int 1, []) := Or.inl ⟨1, by decide +kernel, rfl, rfl⟩
theorem ok_106_137 : pm_ok 106 137 (4, 0, 0, .null, []) := ⟨by decide +kernel, rfl⟩
theorem ok_106_138 : pm_ok 106 138 (20, 0, 0, .null, []) := ⟨by decide +kernel, rfl⟩
theorem ok_106_139 : pm_ok 106 139 (1, 0, 2, .null, []) := Or.inl ⟨0, by decide +kernel, rfl, rfl⟩
theorem ok_106_140 : pm_ok 106 140 (1, 3, 0, .null, []) := Or.inl ⟨3, by decide +kernel, rfl, rfl⟩
theorem ok_106_141 : pm_ok 106 141 (0, 0, 0, .int 2, []) := Or.inl ⟨2, by decide +kernel, rfl, rfl⟩
theorem ok_106_142 : pm_ok 106 142 (4, 0, 0, .null, []) := ⟨by decide +kernel, rfl⟩
theorem ok_106_143 : pm_ok 106 143 (20, 0, 0, .null, []) := ⟨by decide +kernel, rfl⟩
theorem ok_106_144 : pm_ok 106 144 (25, 74, 3, .null, [6]) := ⟨30, by decide, rfl, Or.inl (pm_tb 544 (by decide +kernel)), Or.inl ⟨by decide +kernel, 6, TX6, 22, rfl, rfl, by decide, by decide +kernel, (pm_tb 545 (by decide +kernel)), (pm_tb 546 (by decide +kernel))⟩⟩
theorem ok_106_145 : pm_ok 106 145 (16, 403, 0, .null, []) := ⟨350, by decide +kernel, by decide +kernel, rfl⟩
theorem ok_106_146 : pm_ok 106 146 (0, 0, 0, .int 0, []) := Or.inl ⟨0, by decide +kernel, rfl, rfl⟩
theorem ok_106_147 : pm_ok 106 147 (26, 2, 0, .null, []) := ⟨by decide +kernel, rfl⟩
theorem ok_106_148 : pm_ok 106 148 (1, 1, 2, .null, []) := Or.inl ⟨1, by decide +kernel, rfl, rfl⟩
theorem ok_106_149 : pm_ok 106 149 (1, 0, 2, .null, []) := Or.inl ⟨0, by decide +kernel, rfl, rfl⟩
theorem ok_106_150 : pm_ok 106 150 (1, 3, 0, .null, []) := Or.inl ⟨3, by decide +kernel, rfl, rfl⟩
theorem ok_106_151 : pm_ok 106 151 (0, 0, 0, .int 1, []) := Or.inl ⟨1, by decide +kernel, rfl, rfl⟩
theorem ok_106_152 : pm_ok 106 152 (4, 0, 0, .null, []) := ⟨by decide +kernel, rfl⟩
theorem ok_106_153 : pm_ok 106 153 (20, 0, 0, .null, []) := ⟨by decide +kernel, rfl⟩
theorem ok_106_154 : pm_ok 106 154 (1, 0, 2, .null, []) := Or.inl ⟨0, by decide +kernel, rfl, rfl⟩
theorem ok_106_155 : pm_ok 106 155 (1, 3, 0, .null, []) := Or.inl ⟨3, by decide +kernel, rfl, rfl⟩
theorem ok_106_156 : pm_ok 106 156 (0, 0, 0, .int 2, []) := Or.inl ⟨2, by decide +kernel, rfl, rfl⟩
theorem ok_106_157 : pm_ok 106 157 (4, 0, 0, .null, []) := ⟨by decide +kernel, rfl⟩
theorem ok_106_158 : pm_ok 106 158 (20, 0, 0, .null, []) := ⟨by decide +kernel, rfl⟩
theorem ok_106_159 : pm_ok 106 159 (25, 52, 3, .null, [5]) := ⟨31, by decide, rfl, Or.inl (pm_tb 255 (by decide +kernel)), Or.inl ⟨by decide +kernel, 5, TX5, 2, rfl, rfl, by decide, by decide +kernel, (pm_tb 256 (by decide +kernel)), (pm_tb 257 (by decide +kernel))⟩⟩
theorem ok_106_160 : pm_ok 106 160 (1, 2, 2, .null, []) := Or.inl ⟨2, by decide +kernel, rfl, rfl⟩
theorem ok_106_161 : pm_ok 106 161 (1, 0, 2, .null, []) := Or.inl ⟨0, by decide +kernel, rfl, rfl⟩
theorem ok_106_162 : pm_ok 106 162 (1, 3, 0, .null, []) := Or.inl ⟨3, by decide +kernel, rfl, rfl⟩
theorem ok_106_163 : pm_ok 106 163 (0, 0, 0, .int 1, []) := Or.inl ⟨1, by decide +kernel, rfl, rfl⟩
theorem ok_106_164 : pm_ok 106 164 (4, 0, 0, .null, []) := ⟨by decide +kernel, rfl⟩
theorem ok_106_165 : pm_ok 106 165 (20, 0, 0, .null, []) := ⟨by decide +kernel, rfl⟩
theorem ok_106_166 : pm_ok 106 166 (1, 0, 2, .null, []) := Or.inl ⟨0, by decide +kernel, rfl, rfl⟩
theorem ok_106_167 : pm_ok 106 167 (1, 3, 0, .null, []) := Or.inl ⟨3, by decide +kernel, rfl, rfl⟩
theorem ok_106_168 : pm_ok 106 168 (0, 0, 0, .int 2, []) := Or.inl ⟨2, by decide +kernel, rfl, rfl⟩
theorem ok_106_169 : pm_ok 106 169 (4, 0, 0, .null, []) := ⟨by decide +kernel, rfl⟩
theorem ok_106_170 : pm_ok 106 170 (20, 0, 0, .null, []) := ⟨by decide +kernel, rfl⟩
theorem ok_106_171 : pm_ok 106 171 (25, 80, 3, .null, [6]) := ⟨34, by decide, rfl, Or.inl (pm_tb 548 (by decide +kernel)), Or.inl ⟨by decide +kernel, 6, TX6, 22, rfl, rfl, by decide, by decide +kernel, (pm_tb 549 (by decide +kernel)), (pm_tb 550 (by decide +kernel))⟩⟩
theorem ok_106_172 : pm_ok 106 172 (16, 403, 0, .null, []) := ⟨317, by decide +kernel, by decide +kernel, rfl⟩
theorem ok_106_173 : pm_ok 106 173 (0, 0, 0, .int 0, []) := Or.inl ⟨0, by decide +kernel, rfl, rfl⟩
theorem ok_106_174 : pm_ok 106 174 (26, 2, 0, .null, []) := ⟨by decide +kernel, rfl⟩
theorem ok_106_175 : pm_ok 106 175 (1, 1, 2, .null, []) := Or.inl ⟨1, by decide +kernel, rfl, rfl⟩
theorem ok_106_176 : pm_ok 106 176 (1, 0, 2, .null, []) := Or.inl ⟨0, by decide +kernel, rfl, rfl⟩
theorem ok_106_177 : pm_ok 106 177 (1, 3, 0, .null, []) := Or.inl ⟨3, by decide +kernel, rfl, rfl⟩
theorem ok_106_178 : pm_ok 106 178 (0, 0, 0, .int 1, []) := Or.inl ⟨1, by decide +kernel, rfl, rfl⟩
theorem ok_106_179 : pm_ok 106 179 (4, 0, 0, .null, []) := ⟨by decide +kernel, rfl⟩
theorem ok_106_180 : pm_ok 106 180 (20, 0, 0, .null, []) := ⟨by decide +kernel, rfl⟩
theorem ok_106_181 : pm_ok 106 181 (25, 53, 2, .null, [5]) := ⟨35, by decide, rfl, Or.inl (pm_tb 271 (by decide +kernel)), Or.inl ⟨by decide +kernel, 5, TX5, 2, rfl, rfl, by decide, by decide +kernel, (pm_tb 272 (by decide +kernel)), (pm_tb 273 (by decide +kernel))⟩⟩
theorem ok_106_182 : pm_ok 106 182 (1, 2, 2, .null, []) := Or.inl ⟨2, by decide +kernel, rfl, rfl⟩
theorem ok_106_183 : pm_ok 106 183 (1, 0, 2, .null, []) := Or.inl ⟨0, by decide +kernel, rfl, rfl⟩
theorem ok_106_184 : pm_ok 106 184 (1, 3, 0, .null, []) := Or.inl ⟨3, by decide +kernel, rfl, rfl⟩
theorem ok_106_185 : pm_ok 106 185 (0, 0, 0, .int 1, []) := Or.inl ⟨1, by decide +kernel, rfl, rfl⟩
theorem ok_106_186 : pm_ok 106 186 (4, 0, 0, .null, []) := ⟨by decide +kernel, rfl⟩
theorem ok_106_187 : pm_ok 106 187 (20, 0, 0, .null, []) := ⟨by decide +kernel, rfl⟩
theorem ok_106_188 : pm_ok 106 188 (25, 81, 2, .null, [6]) := ⟨39, by decide, rfl, Or.inl (pm_tb 572 (by decide +kernel)), Or.inl ⟨by decide +kernel, 6, TX6, 22, rfl, rfl, by decide, by decide +kernel, (pm_tb 573 (by decide +kernel)), (pm_tb 574 (by decide +kernel))⟩⟩
theorem ok_106_189 : pm_ok 106 189 (16, 403, 0, .null, []) := ⟨294, by decide +kernel, by decide +kernel, rfl⟩
theorem ok_106_190 : pm_ok 106 190 (0, 0, 0, .int 0, []) := Or.inl ⟨0, by decide +kernel, rfl, rfl⟩
theorem ok_106_191 : pm_ok 106 191 (26, 2, 0, .null, []) := ⟨by decide +kernel, rfl⟩
theorem ok_106_192 : pm_ok 106 192 (1, 1, 2, .null, []) := Or.inl ⟨1, by decide +kernel, rfl, rfl⟩
theorem ok_106_193 : pm_ok 106 193 (1, 0, 2, .null, []) := Or.inl ⟨0, by decide +kernel, rfl, rfl⟩
theorem ok_106_194 : pm_ok 106 194 (1, 3, 0, .null, []) := Or.inl ⟨3, by decide +kernel, rfl, rfl⟩
theorem ok_106_195 : pm_ok 106 195 (0, 0, 0, .int 1, []) := Or.inl ⟨1, by decide +kernel, rfl, rfl⟩
theorem ok_106_196 : pm_ok 106 196 (4, 0, 0, .null, []) := ⟨by decide +kernel, rfl⟩
theorem ok_106_197 : pm_ok 106 197 (20, 0, 0, .null, []) := ⟨by decide +kernel, rfl⟩
theorem ok_106_198 : pm_ok 106 198 (1, 0, 2, .null, []) := Or.inl ⟨0, by decide +kernel, rfl, rfl⟩
theorem ok_106_199 : pm_ok 106 199 (1, 3, 0, .null, []) := Or.inl ⟨3, by decide +kernel, rfl, rfl⟩
theorem ok_106_200 : pm_ok 106 200 (0, 0, 0, .int 2, []) := Or.inl ⟨2, by decide +kernel, rfl, rfl⟩
theorem ok_106_201 : pm_ok 106 201 (4, 0, 0, .null, []) := ⟨by decide +kernel, rfl⟩
theorem ok_106_202 : pm_ok 106 202 (20, 0, 0, .null, []) := ⟨by decide +kernel, rfl⟩
theorem ok_106_203 : pm_ok 106 203 (1, 0, 2, .null, []) := Or.inl ⟨0, by decide +kernel, rfl, rfl⟩
theorem ok_106_204 : pm_ok 106 204 (1, 3, 0, .null, []) := Or.inl ⟨3, by decide +kernel, rfl, rfl⟩
theorem ok_106_205 : pm_ok 106 205 (0, 0, 0, .int 3, []) := Or.inl ⟨3, by decide +kernel, rfl, rfl⟩
theorem ok_106_206 : pm_ok 106 206 (4, 0, 0, .null, []) := ⟨by decide +kernel, rfl⟩
theorem ok_106_207 : pm_ok 106 207 (20, 0, 0, .null, []) := ⟨by decide +kernel, rfl⟩
theorem ok_106_208 : pm_ok 106 208 (25, 54, 4, .null, [5]) := ⟨40, by decide, rfl, Or.inl (pm_tb 279 (by decide +kernel)), Or.inl ⟨by decide +kernel, 5, TX5, 2, rfl, rfl, by decide, by decide +kernel, (pm_tb 280 (by decide +kernel)), (pm_tb 281 (by decide +kernel))⟩⟩
theorem ok_106_209 : pm_ok 106 209 (1, 2, 2, .null, []) := Or.inl ⟨2, by decide +kernel, rfl, rfl⟩
theorem ok_106_210 : pm_ok 106 210 (1, 0, 2, .null, []) := Or.inl ⟨0, by decide +kernel, rfl, rfl⟩
theorem ok_106_211 : pm_ok 106 211 (1, 3, 0, .null, []) := Or.inl ⟨3, by decide +kernel, rfl, rfl⟩
theorem ok_106_212 : pm_ok 106 212 (0, 0, 0, .int 1, []) := Or.inl ⟨1, by decide +kernel, rfl, rfl⟩
theorem ok_106_213 : pm_ok 106 213 (4, 0, 0, .null, []) := ⟨by decide +kernel, rfl⟩
theorem ok_106_214 : pm_ok 106 214 (20, 0, 0, .null, []) := ⟨by decide +kernel, rfl⟩
theorem ok_106_215 : pm_ok 106 215 (1, 0, 2, .null, []) := Or.inl ⟨0, by decide +kernel, rfl, rfl⟩
theorem ok_106_216 : pm_ok 106 216 (1, 3, 0, .null, []) := Or.inl ⟨3, by decide +kernel, rfl, rfl⟩
theorem ok_106_217 : pm_ok 106 217 (0, 0, 0, .int 2, []) := Or.inl ⟨2, by decide +kernel, rfl, rfl⟩
theorem ok_106_218 : pm_ok 106 218 (4, 0, 0, .null, []) := ⟨by decide +kernel, rfl⟩
theorem ok_106_219 : pm_ok 106 219 (20, 0, 0, .null, []) := ⟨by decide +kernel, rfl⟩
theorem ok_106_220 : pm_ok 106 220 (1, 0, 2, .null, []) := Or.inl ⟨0, by decide +kernel, rfl, rfl⟩
theorem ok_106_221 : pm_ok 106 221 (1, 3, 0, .null, []) := Or.inl ⟨3, by decide +kernel, rfl, rfl⟩
theorem ok_106_222 : pm_ok 106 222 (0, 0, 0, .int 3, []) := Or.inl ⟨3, by decide +kernel, rfl, rfl⟩
theorem ok_106_223 : pm_ok 106 223 (4, 0, 0, .null, []) := ⟨by decide +kernel, rfl⟩
theorem ok_106_224 : pm_ok 106 224 (20, 0, 0, .null, []) := ⟨by decide +kernel, rfl⟩
theorem ok_106_225 : pm_ok 106 225 (25, 82, 4, .null, [6]) := ⟨44, by decide, rfl, Or.inl (pm_tb 576 (by decide +kernel)), Or.inl ⟨by decide +kernel, 6, TX6, 22, rfl, rfl, by decide, by decide +kernel, (pm_tb 577 (by decide +kernel)), (pm_tb 578 (by decide +kernel))⟩⟩
theorem ok_106_226 : pm_ok 106 226 (16, 403, 0, .null, []) := ⟨251, by decide +kernel, by decide +kernel, rfl⟩
theorem ok_106_227 : pm_ok 106 227 (0, 0, 0, .int 0, []) := Or.inl ⟨0, by decide +kernel, rfl, rfl⟩
theorem ok_106_228 : pm_ok 106 228 (26, 2, 0, .null, []) := ⟨by decide +kernel, rfl⟩
theorem ok_106_229 : pm_ok 106 229 (1, 1, 2, .null, []) := Or.inl ⟨1, by decide +kernel, rfl, rfl⟩
theorem ok_106_230 : pm_ok 106 230 (1, 0, 2, .null, []) := Or.inl ⟨0, by decide +kernel, rfl, rfl⟩
theorem ok_106_231 : pm_ok 106 231 (1, 3, 0, .null, []) := Or.inl ⟨3, by decide +kernel, rfl, rfl⟩
theorem ok_106_232 : pm_ok 106 232 (0, 0, 0, .int 1, []) := Or.inl ⟨1, by decide +kernel, rfl, rfl⟩
theorem ok_106_233 : pm_ok 106 233 (4, 0, 0, .null, []) := ⟨by decide +kernel, rfl⟩
theorem ok_106_234 : pm_ok 106 234 (20, 0, 0, .null, []) := ⟨by decide +kernel, rfl⟩
theorem ok_106_235 : pm_ok 106 235 (1, 0, 2, .null, []) := Or.inl ⟨0, by decide +kernel, rfl, rfl⟩
theorem ok_106_236 : pm_ok 106 236 (1, 3, 0, .null, []) := Or.inl ⟨3, by decide +kernel, rfl, rfl⟩
theorem ok_106_237 : pm_ok 106 237 (0, 0, 0, .int 2, []) := Or.inl ⟨2, by decide +kernel, rfl, rfl⟩
theorem ok_106_238 : pm_ok 106 238 (4, 0, 0, .null, []) := ⟨by decide +kernel, rfl⟩
theorem ok_106_239 : pm_ok 106 239 (20, 0, 0, .null, []) := ⟨by decide +kernel, rfl⟩
theorem ok_106_240 : pm_ok 106 240 (25, 55, 3, .null, [5]) := ⟨45, by decide, rfl, Or.inl (pm_tb 283 (by decide +kernel)), Or.inl ⟨by decide +kernel, 5, TX5, 2, rfl, rfl, by decide, by decide +kernel, (pm_tb 284 (by decide +kernel)), (pm_tb 285 (by decide +kernel))⟩⟩
theorem ok_106_241 : pm_ok 106 241 (1, 2, 2, .null, []) := Or.inl ⟨2, by decide +kernel, rfl, rfl⟩
theorem ok_106_242 : pm_ok 106 242 (1, 0, 2, .null, []) := Or.inl ⟨0, by decide +kernel, rfl, rfl⟩
theorem ok_106_243 : pm_ok 106 243 (1, 3, 0, .null, []) := Or.inl ⟨3, by decide +kernel, rfl, rfl⟩
theorem ok_106_244 : pm_ok 106 244 (0, 0, 0, .int 1, []) := Or.inl ⟨1, by decide +kernel, rfl, rfl⟩
theorem ok_106_245 : pm_ok 106 245 (4, 0, 0, .null, []) := ⟨by decide +kernel, rfl⟩
theorem ok_106_246 : pm_ok 106 246 (20, 0, 0, .null, []) := ⟨by decide +kernel, rfl⟩
theorem ok_106_247 : pm_ok 106 247 (1, 0, 2, .null, []) := Or.inl ⟨0, by decide +kernel, rfl, rfl⟩
theorem ok_106_248 : pm_ok 106 248 (1, 3, 0, .null, []) := Or.inl ⟨3, by decide +kernel, rfl, rfl⟩
theorem ok_106_249 : pm_ok 106 249 (0, 0, 0, .int 2, []) := Or.inl ⟨2, by decide +kernel, rfl, rfl⟩
theorem ok_106_250 : pm_ok 106 250 (4, 0, 0, .null, []) := ⟨by decide +kernel, rfl⟩
theorem ok_106_251 : pm_ok 106 251 (20, 0, 0, .null, []) := ⟨by decide +kernel, rfl⟩
theorem ok_106_252 : pm_ok 106 252 (25, 83, 3, .null, [6]) := ⟨48, by decide, rfl, Or.inl (pm_tb 580 (by decide +kernel)), Or.inl ⟨by decide +kernel, 6, TX6, 22, rfl, rfl, by decide, by decide +kernel, (pm_tb 581 (by decide +kernel)), (pm_tb 582 (by decide +kernel))⟩⟩
theorem ok_106_253 : pm_ok 106 253 (16, 403, 0, .null, []) := ⟨218, by decide +kernel, by decide +kernel, rfl⟩
theorem ok_106_254 : pm_ok 106 254 (0, 0, 0, .int 0, []) := Or.inl ⟨0, by decide +kernel, rfl, rfl⟩
theorem ok_106_255 : pm_ok 106 255 (26, 2, 0, .null, []) := ⟨by decide +kernel, rfl⟩
theorem ok_106_256 : pm_ok 106 256 (1, 1, 2, .null, []) := Or.inl ⟨1, by decide +kernel, rfl, rfl⟩
theorem ok_106_257 : pm_ok 106 257 (25, 56, 1, .null, [5]) := ⟨49, by decide, rfl, Or.inl (pm_tb 295 (by decide +kernel)), Or.inl ⟨by decide +kernel, 5, TX5, 2, rfl, rfl, by decide, by decide +kernel, (pm_tb 296 (by decide +kernel)), (pm_tb 297 (by decide +kernel))⟩⟩
theorem ok_106_258 : pm_ok 106 258 (1, 2, 2, .null, []) := Or.inl ⟨2, by decide +kernel, rfl, rfl⟩
theorem ok_106_259 : pm_ok 106 259 (25, 84, 1, .null, [6]) := ⟨53, by decide, rfl, Or.inl (pm_tb 584 (by decide +kernel)), Or.inl ⟨by decide +kernel, 6, TX6, 22, rfl, rfl, by decide, by decide +kernel, (pm_tb 585 (by decide +kernel)), (pm_tb 586 (by decide +kernel))⟩⟩
theorem ok_106_260 : pm_ok 106 260 (16, 403, 0, .null, []) := ⟨205, by decide +kernel, by decide +kernel, rfl⟩
theorem ok_106_261 : pm_ok 106 261 (0, 0, 0, .int 0, []) := Or.inl ⟨0, by decide +kernel, rfl, rfl⟩
theorem ok_106_262 : pm_ok 106 262 (26, 2, 0, .null, []) := ⟨by decide +kernel, rfl⟩
theorem ok_106_263 : pm_ok 106 263 (1, 1, 2, .null, []) := Or.inl ⟨1, by decide +kernel, rfl, rfl⟩
theorem ok_106_264 : pm_ok 106 264 (1, 0, 2, .null, []) := Or.inl ⟨0, by decide +kernel, rfl, rfl⟩
theorem ok_106_265 : pm_ok 106 265 (1, 3, 0, .null, []) := Or.inl ⟨3, by decide +kernel, rfl, rfl⟩
theorem ok_106_266 : pm_ok 106 266 (0, 0, 0, .int 1, []) := Or.inl ⟨1, by decide +kernel, rfl, rfl⟩
theorem ok_106_267 : pm_ok 106 267 (4, 0, 0, .null, []) := ⟨by decide +kernel, rfl⟩
theorem ok_106_268 : pm_ok 106 268 (20, 0, 0, .null, []) := ⟨by decide +kernel, rfl⟩
theorem ok_106_269 : pm_ok 106 269 (25, 57, 2, .null, [5]) := ⟨54, by decide, rfl, Or.inl (pm_tb 303 (by decide +kernel)), Or.inl ⟨by decide +kernel, 5, TX5, 2, rfl, rfl, by decide, by decide +kernel, (pm_tb 304 (by decide +kernel)), (pm_tb 305 (by decide +kernel))⟩⟩
theorem ok_106_270 : pm_ok 106 270 (1, 2, 2, .null, []) := Or.inl ⟨2, by decide +kernel, rfl, rfl⟩
theorem ok_106_271 : pm_ok 106 271 (1, 0, 2, .null, []) := Or.inl ⟨0, by decide +kernel, rfl, rfl⟩
theorem ok_106_272 : pm_ok 106 272 (1, 3, 0, .null, []) := Or.inl ⟨3, by decide +kernel, rfl, rfl⟩
theorem ok_106_273 : pm_ok 106 273 (0, 0, 0, .int 1, []) := Or.inl ⟨1, by decide +kernel, rfl, rfl⟩
theorem ok_106_274 : pm_ok 106 274 (4, 0, 0, .null, []) := ⟨by decide +kernel, rfl⟩
theorem ok_106_275 : pm_ok 106 275 (20, 0, 0, .null, []) := ⟨by decide +kernel, rfl⟩
theorem ok_106_276 : pm_ok 106 276 (25, 85, 2, .null, [6]) := ⟨57, by decide, rfl, Or.inl (pm_tb 588 (by decide +kernel)), Or.inl ⟨by decide +kernel, 6, TX6, 22, rfl, rfl, by decide, by decide +kernel, (pm_tb 589 (by decide +kernel)), (pm_tb 590 (by decide +kernel))⟩⟩
theorem ok_106_277 : pm_ok 106 277 (16, 403, 0, .null, []) := ⟨182, by decide +kernel, by decide +kernel, rfl⟩
theorem ok_106_278 : pm_ok 106 278 (0, 0, 0, .int 0, []) := Or.inl ⟨0, by decide +kernel, rfl, rfl⟩
theorem ok_106_279 : pm_ok 106 279 (26, 2, 0, .null, []) := ⟨by decide +kernel, rfl⟩
theorem ok_106_280 : pm_ok 106 280 (1, 1, 2, .null, []) := Or.inl ⟨1, by decide +kernel, rfl, rfl⟩
theorem ok_106_281 : pm_ok 106 281 (25, 58, 1, .null, [5]) := ⟨58, by decide, rfl, Or.inl (pm_tb 311 (by decide +kernel)), Or.inl ⟨by decide +kernel, 5, TX5, 2, rfl, rfl, by decide, by decide +kernel, (pm_tb 312 (by decide +kernel)), (pm_tb 313 (by decide +kernel))⟩⟩
theorem ok_106_282 : pm_ok 106 282 (1, 2, 2, .null, []) := Or.inl ⟨2, by decide +kernel, rfl, rfl⟩
theorem ok_106_283 : pm_ok 106 283 (25, 89, 1, .null, [6]) := ⟨61, by decide, rfl, Or.inl (pm_tb 592 (by decide +kernel)), Or.inl ⟨by decide +kernel, 6, TX6, 22, rfl, rfl, by decide, by decide +kernel, (pm_tb 593 (by decide +kernel)), (pm_tb 594 (by decide +kernel))⟩⟩
theorem ok_106_284 : pm_ok 106 284 (16, 403, 0, .null, []) := ⟨169, by decide +kernel, by decide +kernel, rfl⟩
theorem ok_106_285 : pm_ok 106 285 (0, 0, 0, .int 0, []) := Or.inl ⟨0, by decide +kernel, rfl, rfl⟩
theorem ok_106_286 : pm_ok 106 286 (26, 2, 0, .null, []) := ⟨by decide +kernel, rfl⟩
theorem ok_106_287 : pm_ok 106 287 (1, 1, 2, .null, []) := Or.inl ⟨1, by decide +kernel, rfl, rfl⟩
theorem ok_106_288 : pm_ok 106 288 (25, 59, 1, .null, [5]) := ⟨62, by decide, rfl, Or.inl (pm_tb 358 (by decide +kernel)), Or.inl ⟨by decide +kernel, 5, TX5, 2, rfl, rfl, by decide, by decide +kernel, (pm_tb 359 (by decide +kernel)), (pm_tb 360 (by decide +kernel))⟩⟩
theorem ok_106_289 : pm_ok 106 289 (1, 2, 2, .null, []) := Or.inl ⟨2, by decide +kernel, rfl, rfl⟩
theorem ok_106_290 : pm_ok 106 290 (25, 91, 1, .null, [6]) := ⟨65, by decide, rfl, Or.inl (pm_tb 614 (by decide +kernel)), Or.inl ⟨by decide +kernel, 6, TX6, 22, rfl, rfl, by decide, by decide +kernel, (pm_tb 615 (by decide +kernel)), (pm_tb 616 (by decide +kernel))⟩⟩
theorem ok_106_291 : pm_ok 106 291 (16, 403, 0, .null, []) := ⟨156, by decide +kernel, by decide +kernel, rfl⟩
theorem ok_106_292 : pm_ok 106 292 (0, 0, 0, .int 0, []) := Or.inl ⟨0, by decide +kernel, rfl, rfl⟩
theorem ok_106_293 : pm_ok 106 293 (26, 2, 0, .null, []) := ⟨by decide +kernel, rfl⟩
theorem ok_106_294 : pm_ok 106 294 (1, 1, 2, .null, []) := Or.inl ⟨1, by decide +kernel, rfl, rfl⟩
theorem ok_106_295 : pm_ok 106 295 (1, 0, 2, .null, []) := Or.inl ⟨0, by decide +kernel, rfl, rfl⟩
theorem ok_106_296 : pm_ok 106 296 (1, 3, 0, .null, []) := Or.inl ⟨3, by decide +kernel, rfl, rfl⟩
theorem ok_106_297 : pm_ok 106 297 (0, 0, 0, .int 1, []) := Or.inl ⟨1, by decide +kernel, rfl, rfl⟩
theorem ok_106_298 : pm_ok 106 298 (4, 0, 0, .null, []) := ⟨by decide +kernel, rfl⟩
theorem ok_106_299 : pm_ok 106 299 (20, 0, 0, .null, []) := ⟨by decide +kernel, rfl⟩
theorem ok_106_300 : pm_ok 106 300 (1, 0, 2, .null, []) := Or.inl ⟨0, by decide +kernel, rfl, rfl⟩
theorem ok_106_301 : pm_ok 106 301 (1, 3, 0, .null, []) := Or.inl ⟨3, by decide +kernel, rfl, rfl⟩
theorem ok_106_302 : pm_ok 106 302 (0, 0, 0, .int 2, []) := Or.inl ⟨2, by decide +kernel, rfl, rfl⟩
theorem ok_106_303 : pm_ok 106 303 (4, 0, 0, .null, []) := ⟨by decide +kernel, rfl⟩
theorem ok_106_304 : pm_ok 106 304 (20, 0, 0, .null, []) := ⟨by decide +kernel, rfl⟩
theorem ok_106_305 : pm_ok 106 305 (25, 60, 3, .null, [5]) := ⟨66, by decide, rfl, Or.inl (pm_tb 368 (by decide +kernel)), Or.inl ⟨by decide +kernel, 5, TX5, 2, rfl, rfl, by decide, by decide +kernel, (pm_tb 369 (by decide +kernel)), (pm_tb 370 (by decide +kernel))⟩⟩
theorem ok_106_306 : pm_ok 106 306 (1, 2, 2, .null, []) := Or.inl ⟨2, by decide +kernel, rfl, rfl⟩
theorem ok_106_307 : pm_ok 106 307 (1, 0, 2, .null, []) := Or.inl ⟨0, by decide +kernel, rfl, rfl⟩
theorem ok_106_308 : pm_ok 106 308 (1, 3, 0, .null, []) := Or.inl ⟨3, by decide +kernel, rfl, rfl⟩
theorem ok_106_309 : pm_ok 106 309 (0, 0, 0, .int 1, []) := Or.inl ⟨1, by decide +kernel, rfl, rfl⟩
theorem ok_106_310 : pm_ok 106 310 (4, 0, 0, .null, []) := ⟨by decide +kernel, rfl⟩
theorem ok_106_311 : pm_ok 106 311 (20, 0, 0, .null, []) := ⟨by decide +kernel, rfl⟩
theorem ok_106_312 : pm_ok 106 312 (1, 0, 2, .null, []) := Or.inl ⟨0, by decide +kernel, rfl, rfl⟩
theorem ok_106_313 : pm_ok 106 313 (1, 3, 0, .null, []) := Or.inl ⟨3, by decide +kernel, rfl, rfl⟩
theorem ok_106_314 : pm_ok 106 314 (0, 0, 0, .int 2, []) := Or.inl ⟨2, by decide +kernel, rfl, rfl⟩
theorem ok_106_315 : pm_ok 106 315 (4, 0, 0, .null, []) := ⟨by decide +kernel, rfl⟩
theorem ok_106_316 : pm_ok 106 316 (20, 0, 0, .null, []) := ⟨by decide +kernel, rfl⟩
theorem ok_106_317 : pm_ok 106 317 (25, 95, 3, .null, [6]) := ⟨69, by decide, rfl, Or.inl (pm_tb 630 (by decide +kernel)), Or.inl ⟨by decide +kernel, 6, TX6, 22, rfl, rfl, by decide, by decide +kernel, (pm_tb 631 (by decide +kernel)), (pm_tb 632 (by decide +kernel))⟩⟩
theorem ok_106_318 : pm_ok 106 318 (16, 403, 0, .null, []) := ⟨123, by decide +kernel, by decide +kernel, rfl⟩
theorem ok_106_319 : pm_ok 106 319 (0, 0, 0, .int 0, []) := Or.inl ⟨0, by decide +kernel, rfl, rfl⟩
theorem ok_106_320 : pm_ok 106 320 (26, 2, 0, .null, []) := ⟨by decide +kernel, rfl⟩
theorem ok_106_321 : pm_ok 106 321 (1, 1, 2, .null, []) := Or.inl ⟨1, by decide +kernel, rfl, rfl⟩
theorem ok_106_322 : pm_ok 106 322 (1, 0, 2, .null, []) := Or.inl ⟨0, by decide +kernel, rfl, rfl⟩
theorem ok_106_323 : pm_ok 106 323 (1, 3, 0, .null, []) := Or.inl ⟨3, by decide +kernel, rfl, rfl⟩
theorem ok_106_324 : pm_ok 106 324 (0, 0, 0, .int 1, []) := Or.inl ⟨1, by decide +kernel, rfl, rfl⟩
theorem ok_106_325 : pm_ok 106 325 (4, 0, 0, .null, []) := ⟨by decide +kernel, rfl⟩
theorem ok_106_326 : pm_ok 106 326 (20, 0, 0, .null, []) := ⟨by decide +kernel, rfl⟩
theorem ok_106_327 : pm_ok 106 327 (25, 61, 2, .null, [5]) := ⟨70, by decide, rfl, Or.inl (pm_tb 373 (by decide +kernel)), Or.inl ⟨by decide +kernel, 5, TX5, 2, rfl, rfl, by decide, by decide +kernel, (pm_tb 374 (by decide +kernel)), (pm_tb 375 (by decide +kernel))⟩⟩
theorem ok_106_328 : pm_ok 106 328 (1, 2, 2, .null, []) := Or.inl ⟨2, by decide +kernel, rfl, rfl⟩
theorem ok_106_329 : pm_ok 106 329 (1, 0, 2, .null, []) := Or.inl ⟨0, by decide +kernel, rfl, rfl⟩
theorem ok_106_330 : pm_ok 106 330 (1, 3, 0, .null, []) := Or.inl ⟨3, by decide +kernel, rfl, rfl⟩
theorem ok_106_331 : pm_ok 106 331 (0, 0, 0, .int 1, []) := Or.inl ⟨1, by decide +kernel, rfl, rfl⟩
theorem ok_106_332 : pm_ok 106 332 (4, 0, 0, .null, []) := ⟨by decide +kernel, rfl⟩
theorem ok_106_333 : pm_ok 106 333 (20, 0, 0, .null, []) := ⟨by decide +kernel, rfl⟩
theorem ok_106_334 : pm_ok 106 334 (25, 96, 2, .null, [6]) := ⟨73, by decide, rfl, Or.inl (pm_tb 634 (by decide +kernel)), Or.inl ⟨by decide +kernel, 6, TX6, 22, rfl, rfl, by decide, by decide +kernel, (pm_tb 635 (by decide +kernel)), (pm_tb 636 (by decide +kernel))⟩⟩
theorem ok_106_335 : pm_ok 106 335 (16, 403, 0, .null, []) := ⟨100, by decide +kernel, by decide +kernel, rfl⟩
theorem ok_106_336 : pm_ok 106 336 (0, 0, 0, .int 0, []) := Or.inl ⟨0, by decide +kernel, rfl, rfl⟩
theorem ok_106_337 : pm_ok 106 337 (26, 2, 0, .null, []) := ⟨by decide +kernel, rfl⟩
theorem ok_106_338 : pm_ok 106 338 (1, 1, 2, .null, []) := Or.inl ⟨1, by decide +kernel, rfl, rfl⟩
theorem ok_106_339 : pm_ok 106 339 (25, 62, 1, .null, [5]) := ⟨74, by decide, rfl, Or.inl (pm_tb 381 (by decide +kernel)), Or.inl ⟨by decide +kernel, 5, TX5, 2, rfl, rfl, by decide, by decide +kernel, (pm_tb 382 (by decide +kernel)), (pm_tb 383 (by decide +kernel))⟩⟩
theorem ok_106_340 : pm_ok 106 340 (1, 2, 2, .null, []) := Or.inl ⟨2, by decide +kernel, rfl, rfl⟩
theorem ok_106_341 : pm_ok 106 341 (25, 97, 1, .null, [6]) := ⟨77, by decide, rfl, Or.inl (pm_tb 638 (by decide +kernel)), Or.inl ⟨by decide +kernel, 6, TX6, 22, rfl, rfl, by decide, by decide +kernel, (pm_tb 639 (by decide +kernel)), (pm_tb 640 (by decide +kernel))⟩⟩
theorem ok_106_342 : pm_ok 106 342 (16, 403, 0, .null, []) := ⟨87, by decide +kernel, by decide +kernel, rfl⟩
theorem ok_106_343 : pm_ok 106 343 (0, 0, 0, .int 0, []) := Or.inl ⟨0, by decide +kernel, rfl, rfl⟩
theorem ok_106_344 : pm_ok 106 344 (26, 2, 0, .null, []) := ⟨by decide +kernel, rfl⟩
theorem ok_106_345 : pm_ok 106 345 (1, 1, 2, .null, []) := Or.inl ⟨1, by decide +kernel, rfl, rfl⟩
theorem ok_106_346 : pm_ok 106 346 (1, 0, 2, .null, []) := Or.inl ⟨0, by decide +kernel, rfl, rfl⟩
theorem ok_106_347 : pm_ok 106 347 (1, 3, 0, .null, []) := Or.inl ⟨3, by decide +kernel, rfl, rfl⟩
theorem ok_106_348 : pm_ok 106 348 (0, 0, 0, .int 1, []) := Or.inl ⟨1, by decide +kernel, rfl, rfl⟩
theorem ok_106_349 : pm_ok 106 349 (4, 0, 0, .null, []) := ⟨by decide +kernel, rfl⟩
theorem ok_106_350 : pm_ok 106 350 (20, 0, 0, .null, []) := ⟨by decide +kernel, rfl⟩
theorem ok_106_351 : pm_ok 106 351 (25, 63, 2, .null, [5]) := ⟨78, by decide, rfl, Or.inl (pm_tb 389 (by decide +kernel)), Or.inl ⟨by decide +kernel, 5, TX5, 2, rfl, rfl, by decide, by decide +kernel, (pm_tb 390 (by decide +kernel)), (pm_tb 391 (by decide +kernel))⟩⟩
theorem ok_106_352 : pm_ok 106 352 (1, 2, 2, .null, []) := Or.inl ⟨2, by decide +kernel, rfl, rfl⟩
theorem ok_106_353 : pm_ok 106 353 (1, 0, 2, .null, []) := Or.inl ⟨0, by decide +kernel, rfl, rfl⟩
theorem ok_106_354 : pm_ok 106 354 (1, 3, 0, .null, []) := Or.inl ⟨3, by decide +kernel, rfl, rfl⟩
theorem ok_106_355 : pm_ok 106 355 (0, 0, 0, .int 1, []) := Or.inl ⟨1, by decide +kernel, rfl, rfl⟩
theorem ok_106_356 : pm_ok 106 356 (4, 0, 0, .null, []) := ⟨by decide +kernel, rfl⟩
theorem ok_106_357 : pm_ok 106 357 (20, 0, 0, .null, []) := ⟨by decide +kernel, rfl⟩
theorem ok_106_358 : pm_ok 106 358 (25, 101, 2, .null, [6]) := ⟨81, by decide, rfl, Or.inl (pm_tb 642 (by decide +kernel)), Or.inl ⟨by decide +kernel, 6, TX6, 22, rfl, rfl, by decide, by decide +kernel, (pm_tb 643 (by decide +kernel)), (pm_tb 644 (by decide +kernel))⟩⟩
theorem ok_106_359 : pm_ok 106 359 (16, 403, 0, .null, []) := ⟨64, by decide +kernel, by decide +kernel, rfl⟩
theorem ok_106_360 : pm_ok 106 360 (0, 0, 0, .int 0, []) := Or.inl ⟨0, by decide +kernel, rfl, rfl⟩
theorem ok_106_361 : pm_ok 106 361 (26, 2, 0, .null, []) := ⟨by decide +kernel, rfl⟩
theorem ok_106_362 : pm_ok 106 362 (1, 1, 2, .null, []) := Or.inl ⟨1, by decide +kernel, rfl, rfl⟩
theorem ok_106_363 : pm_ok 106 363 (25, 64, 1, .null, [5]) := ⟨82, by decide, rfl, Or.inl (pm_tb 436 (by decide +kernel)), Or.inl ⟨by decide +kernel, 5, TX5, 2, rfl, rfl, by decide, by decide +kernel, (pm_tb 437 (by decide +kernel)), (pm_tb 438 (by decide +kernel))⟩⟩
theorem ok_106_364 : pm_ok 106 364 (1, 2, 2, .null, []) := Or.inl ⟨2, by decide +kernel, rfl, rfl⟩
theorem ok_106_365 : pm_ok 106 365 (25, 102, 1, .null, [6]) := ⟨85, by decide, rfl, Or.inl (pm_tb 659 (by decide +kernel)), Or.inl ⟨by decide +kernel, 6, TX6, 22, rfl, rfl, by decide, by decide +kernel, (pm_tb 660 (by decide +kernel)), (pm_tb 661 (by decide +kernel))⟩⟩
theorem ok_106_366 : pm_ok 106 366 (16, 403, 0, .null, []) := ⟨51, by decide +kernel, by decide +kernel, rfl⟩
theorem ok_106_367 : pm_ok 106 367 (0, 0, 0, .int 0, []) := Or.inl ⟨0, by decide +kernel, rfl, rfl⟩
theorem ok_106_368 : pm_ok 106 368 (26, 2, 0, .null, []) := ⟨by decide +kernel, rfl⟩
theorem ok_106_369 : pm_ok 106 369 (1, 1, 2, .null, []) := Or.inl ⟨1, by decide +kernel, rfl, rfl⟩
theorem ok_106_370 : pm_ok 106 370 (1, 0, 2, .null, []) := Or.inl ⟨0, by decide +kernel, rfl, rfl⟩
theorem ok_106_371 : pm_ok 106 371 (1, 3, 0, .null, []) := Or.inl ⟨3, by decide +kernel, rfl, rfl⟩
theorem ok_106_372 : pm_ok 106 372 (0, 0, 0, .int 1, []) := Or.inl ⟨1, by decide +kernel, rfl, rfl⟩
theorem ok_106_373 : pm_ok 106 373 (4, 0, 0, .null, []) := ⟨by decide +kernel, rfl⟩
theorem ok_106_374 : pm_ok 106 374 (20, 0, 0, .null, []) := ⟨by decide +kernel, rfl⟩
theorem ok_106_375 : pm_ok 106 375 (1, 0, 2, .null, []) := Or.inl ⟨0, by decide +kernel, rfl, rfl⟩
theorem ok_106_376 : pm_ok 106 376 (1, 3, 0, .null, []) := Or.inl ⟨3, by decide +kernel, rfl, rfl⟩
theorem ok_106_377 : pm_ok 106 377 (0, 0, 0, .int 2, []) := Or.inl ⟨2, by decide +kernel, rfl, rfl⟩
theorem ok_106_378 : pm_ok 106 378 (4, 0, 0, .null, []) := ⟨by decide +kernel, rfl⟩
theorem ok_106_379 : pm_ok 106 379 (20, 0, 0, .null, []) := ⟨by decide +kernel, rfl⟩
theorem ok_106_380 : pm_ok 106 380 (25, 65, 3, .null, [5]) := ⟨86, by decide, rfl, Or.inl (pm_tb 440 (by decide +kernel)), Or.inl ⟨by decide +kernel, 5, TX5, 2, rfl, rfl, by decide, by decide +kernel, (pm_tb 441 (by decide +kernel)), (pm_tb 442 (by decide +kernel))⟩⟩
theorem ok_106_381 : pm_ok 106 381 (1, 2, 2, .null, []) := Or.inl ⟨2, by decide +kernel, rfl, rfl⟩
theorem ok_106_382 : pm_ok 106 382 (1, 0, 2, .null, []) := Or.inl ⟨0, by decide +kernel, rfl, rfl⟩
theorem ok_106_383 : pm_ok 106 383 (1, 3, 0, .null, []) := Or.inl ⟨3, by decide +kernel, rfl, rfl⟩
theorem ok_106_384 : pm_ok 106 384 (0, 0, 0, .int 1, []) := Or.inl ⟨1, by decide +kernel, rfl, rfl⟩
theorem ok_106_385 : pm_ok 106 385 (4, 0, 0, .null, []) := ⟨by decide +kernel, rfl⟩
theorem ok_106_386 : pm_ok 106 386 (20, 0, 0, .null, []) := ⟨by decide +kernel, rfl⟩
theorem ok_106_387 : pm_ok 106 387 (1, 0, 2, .null, []) := Or.inl ⟨0, by decide +kernel, rfl, rfl⟩
theorem ok_106_388 : pm_ok 106 388 (1, 3, 0, .null, []) := Or.inl ⟨3, by decide +kernel, rfl, rfl⟩
theorem ok_106_389 : pm_ok 106 389 (0, 0, 0, .int 2, []) := Or.inl ⟨2, by decide +kernel, rfl, rfl⟩
theorem ok_106_390 : pm_ok 106 390 (4, 0, 0, .null, []) := ⟨by decide +kernel, rfl⟩
theorem ok_106_391 : pm_ok 106 391 (20, 0, 0, .null, []) := ⟨by decide +kernel, rfl⟩
theorem ok_106_392 : pm_ok 106 392 (25, 103, 3, .null, [6]) := ⟨89, by decide, rfl, Or.inl (pm_tb 663 (by decide +kernel)), Or.inl ⟨by decide +kernel, 6, TX6, 22, rfl, rfl, by decide, by decide +kernel, (pm_tb 664 (by decide +kernel)), (pm_tb 665 (by decide +kernel))⟩⟩
theorem ok_106_393 : pm_ok 106 393 (16, 403, 0, .null, []) := ⟨18, by decide +kernel, by decide +kernel, rfl⟩
theorem ok_106_394 : pm_ok 106 394 (0, 0, 0, .int 0, []) := Or.inl ⟨0, by decide +kernel, rfl, rfl⟩
theorem ok_106_395 : pm_ok 106 395 (26, 2, 0, .null, []) := ⟨by decide +kernel, rfl⟩
theorem ok_106_396 : pm_ok 106 396 (1, 1, 2, .null, []) := Or.inl ⟨1, by decide +kernel, rfl, rfl⟩
theorem ok_106_397 : pm_ok 106 397 (25, 66, 1, .null, [5]) := ⟨90, by decide, rfl, Or.inl (pm_tb 444 (by decide +kernel)), Or.inl ⟨by decide +kernel, 5, TX5, 2, rfl, rfl, by decide, by decide +kernel, (pm_tb 445 (by decide +kernel)), (pm_tb 446 (by decide +kernel))⟩⟩
theorem ok_106_398 : pm_ok 106 398 (1, 2, 2, .null, []) := Or.inl ⟨2, by decide +kernel, rfl, rfl⟩
theorem ok_106_399 : pm_ok 106 399 (25, 104, 1, .null, [6]) := ⟨93, by decide, rfl, Or.inl (pm_tb 667 (by decide +kernel)), Or.inl ⟨by decide +kernel, 6, TX6, 22, rfl, rfl, by decide, by decide +kernel, (pm_tb 668 (by decide +kernel)), (pm_tb 669 (by decide +kernel))⟩⟩
theorem ok_106_400 : pm_ok 106 400 (16, 403, 0, .null, []) := ⟨5, by decide +kernel, by decide +kernel, rfl⟩
theorem ok_106_401 : pm_ok 106 401 (0, 0, 0, .int 0, []) := Or.inl ⟨0, by decide +kernel, rfl, rfl⟩
theorem ok_106_402 : pm_ok 106 402 (26, 2, 0, .null, []) := ⟨by decide +kernel, rfl⟩
theorem ok_106_403 : pm_ok 106 403 (3, 3, 0, .int 4, []) := ⟨4, by decide +kernel, rfl, rfl⟩
theorem ok_106_404 : pm_ok 106 404 (17, 10, 0, .null, []) := ⟨(-612), by decide +kernel, by decide +kernel⟩
theorem ok_106_405 : pm_ok 106 405 (0, 0, 0, .int 1, []) := Or.inl ⟨1, by decide +kernel, rfl, rfl⟩
theorem ok_106_406 : pm_ok 106 406 (26, 2, 0, .null, []) := ⟨by decide +kernel, rfl⟩
set_option maxRecDepth 100000 in
theorem ok_106 : pm_oks 106 0 cd_L_law := ⟨ok_106_0, ok_106_1, ok_106_2, ok_106_3, ok_106_4, ok_106_5, ok_106_6, ok_106_7, ok_106_8, ok_106_9, ok_106_10, ok_106_11, ok_106_12, ok_106_13, ok_106_14, ok_106_15, ok_106_16, ok_106_17, ok_106_18, ok_106_19, ok_106_20, ok_106_21, ok_106_22, ok_106_23, ok_106_24, ok_106_25, ok_106_26, ok_106_27, ok_106_28, ok_106_29, ok_106_30, ok_106_31, ok_106_32, ok_106_33, ok_106_34, ok_106_35, ok_106_36, ok_106_37, ok_106_38, ok_106_39, ok_106_40, ok_106_41, ok_106_42, ok_106_43, ok_106_44, ok_106_45, ok_106_46, ok_106_47, ok_106_48, ok_106_49, ok_106_50, ok_106_51, ok_106_52, ok_106_53, ok_106_54, ok_106_55, ok_106_56, ok_106_57, ok_106_58, ok_106_59, ok_106_60, ok_106_61, ok_106_62, ok_106_63, ok_106_64, ok_106_65, ok_106_66, ok_106_67, ok_106_68, ok_106_69, ok_106_70, ok_106_71, ok_106_72, ok_106_73, ok_106_74, ok_106_75, ok_106_76, ok_106_77, ok_106_78, ok_106_79, ok_106_80, ok_106_81, ok_106_82, ok_106_83, ok_106_84, ok_106_85, ok_106_86, ok_106_87, ok_106_88, ok_106_89, ok_106_90, ok_106_91, ok_106_92, ok_106_93, ok_106_94, ok_106_95, ok_106_96, ok_106_97, ok_106_98, ok_106_99, ok_106_100, ok_106_101, ok_106_102, ok_106_103, ok_106_104, ok_106_105, ok_106_106, ok_106_107, ok_106_108, ok_106_109, ok_106_110, ok_106_111, ok_106_112, ok_106_113, ok_106_114, ok_106_115, ok_106_116, ok_106_117, ok_106_118, ok_106_119, ok_106_120, ok_106_121, ok_106_122, ok_106_123, ok_106_124, ok_106_125, ok_106_126, ok_106_127, ok_106_128, ok_106_129, ok_106_130, ok_106_131, ok_106_132, ok_106_133, ok_106_134, ok_106_135, ok_106_136, ok_106_137, ok_106_138, ok_106_139, ok_106_140, ok_106_141, ok_106_142, ok_106_143, ok_106_144, ok_106_145, ok_106_146, ok_106_147, ok_106_148, ok_106_149, ok_106_150, ok_106_151, ok_106_152, ok_106_153, ok_106_154, ok_106_155, ok_106_156, ok_106_157, ok_106_158, ok_106_159, ok_106_160, ok_106_161, ok_106_162, ok_106_163, ok_106_164, ok_106_165, ok_106_166, ok_106_167, ok_106_168, ok_106_169, ok_106_170, ok_106_171, ok_106_172, ok_106_173, ok_106_174, ok_106_175, ok_106_176, ok_106_177, ok_106_178, ok_106_179, ok_106_180, ok_106_181, ok_106_182, ok_106_183, ok_106_184, ok_106_185, ok_106_186, ok_106_187, ok_106_188, ok_106_189, ok_106_190, ok_106_191, ok_106_192, ok_106_193, ok_106_194, ok_106_195, ok_106_196, ok_106_197, ok_106_198, ok_106_199, ok_106_200, ok_106_201, ok_106_202, ok_106_203, ok_106_204, ok_106_205, ok_106_206, ok_106_207, ok_106_208, ok_106_209, ok_106_210, ok_106_211, ok_106_212, ok_106_213, ok_106_214, ok_106_215, ok_106_216, ok_106_217, ok_106_218, ok_106_219, ok_106_220, ok_106_221, ok_106_222, ok_106_223, ok_106_224, ok_106_225, ok_106_226, ok_106_227, ok_106_228, ok_106_229, ok_106_230, ok_106_231, ok_106_232, ok_106_233, ok_106_234, ok_106_235, ok_106_236, ok_106_237, ok_106_238, ok_106_239, ok_106_240, ok_106_241, ok_106_242, ok_106_243, ok_106_244, ok_106_245, ok_106_246, ok_106_247, ok_106_248, ok_106_249, ok_106_250, ok_106_251, ok_106_252, ok_106_253, ok_106_254, ok_106_255, ok_106_256, ok_106_257, ok_106_258, ok_106_259, ok_106_260, ok_106_261, ok_106_262, ok_106_263, ok_106_264, ok_106_265, ok_106_266, ok_106_267, ok_106_268, ok_106_269, ok_106_270, ok_106_271, ok_106_272, ok_106_273, ok_106_274, ok_106_275, ok_106_276, ok_106_277, ok_106_278, ok_106_279, ok_106_280, ok_106_281, ok_106_282, ok_106_283, ok_106_284, ok_106_285, ok_106_286, ok_106_287, ok_106_288, ok_106_289, ok_106_290, ok_106_291, ok_106_292, ok_106_293, ok_106_294, ok_106_295, ok_106_296, ok_106_297, ok_106_298, ok_106_299, ok_106_300, ok_106_301, ok_106_302, ok_106_303, ok_106_304, ok_106_305, ok_106_306, ok_106_307, ok_106_308, ok_106_309, ok_106_310, ok_106_311, ok_106_312, ok_106_313, ok_106_314, ok_106_315, ok_106_316, ok_106_317, ok_106_318, ok_106_319, ok_106_320, ok_106_321, ok_106_322, ok_106_323, ok_106_324, ok_106_325, ok_106_326, ok_106_327, ok_106_328, ok_106_329, ok_106_330, ok_106_331, ok_106_332, ok_106_333, ok_106_334, ok_106_335, ok_106_336, ok_106_337, ok_106_338, ok_106_339, ok_106_340, ok_106_341, ok_106_342, ok_106_343, ok_106_344, ok_106_345, ok_106_346, ok_106_347, ok_106_348, ok_106_349, ok_106_350, ok_106_351, ok_106_352, ok_106_353, ok_106_354, ok_106_355, ok_106_356, ok_106_357, ok_106_358, ok_106_359, ok_106_360, ok_106_361, ok_106_362, ok_106_363, ok_106_364, ok_106_365, ok_106_366, ok_106_367, ok_106_368, ok_106_369, ok_106_370, ok_106_371, ok_106_372, ok_106_373, ok_106_374, ok_106_375, ok_106_376, ok_106_377, ok_106_378, ok_106_379, ok_106_380, ok_106_381, ok_106_382, ok_106_383, ok_106_384, ok_106_385, ok_106_386, ok_106_387, ok_106_388, ok_106_389, ok_106_390, ok_106_391, ok_106_392, ok_106_393, ok_106_394, ok_106_395, ok_106_396, ok_106_397, ok_106_398, ok_106_399, ok_106_400, ok_106_401, ok_106_402, ok_106_403, ok_106_404, ok_106_405, ok_106_406, trivial⟩
end
section
theorem pm_okall : ∀ mi, mi < 107 → pm_oks mi 0 (pm_cd mi) := fun mi h => match mi, h with
  | 0, _ => ok_0
  | 1, _ => ok_1
  | 2, _ => ok_2
  | 3, _ => ok_3
  | 4, _ => ok_4
  | 5, _ => ok_5
  | 6, _ => ok_6
  | 7, _ => ok_7
  | 8, _ => ok_8
  | 9, _ => ok_9
  | 10, _ => ok_10
  | 11, _ => ok_11
  | 12, _ => ok_12
  | 13, _ => ok_13
  | 14, _ => ok_14
  | 15, _ => ok_15
  | 16, _ => ok_16
  | 17, _ => ok_17
  | 18, _ => ok_18
  | 19, _ => ok_19
  | 20, _ => ok_20
  | 21, _ => ok_21
  | 22, _ => ok_22
  | 23, _ => ok_23
  | 24, _ => ok_24
  | 25, _ => ok_25
  | 26, _ => ok_26
  | 27, _ => ok_27
  | 28, _ => ok_28
  | 29, _ => ok_29
  | 30, _ => ok_30
  | 31, _ => ok_31
  | 32, _ => ok_32
  | 33, _ => ok_33
  | 34, _ => ok_34
  | 35, _ => ok_35
  | 36, _ => ok_36
  | 37, _ => ok_37
  | 38, _ => ok_38
  | 39, _ => ok_39
  | 40, _ => ok_40
  | 41, _ => ok_41
  | 42, _ => ok_42
  | 43, _ => ok_43
  | 44, _ => ok_44
  | 45, _ => ok_45
  | 46, _ => ok_46
  | 47, _ => ok_47
  | 48, _ => ok_48
  | 49, _ => ok_49
  | 50, _ => ok_50
  | 51, _ => ok_51
  | 52, _ => ok_52
  | 53, _ => ok_53
  | 54, _ => ok_54
  | 55, _ => ok_55
  | 56, _ => ok_56
  | 57, _ => ok_57
  | 58, _ => ok_58
  | 59, _ => ok_59
  | 60, _ => ok_60
  | 61, _ => ok_61
  | 62, _ => ok_62
  | 63, _ => ok_63
  | 64, _ => ok_64
  | 65, _ => ok_65
  | 66, _ => ok_66
  | 67, _ => ok_67
  | 68, _ => ok_68
  | 69, _ => ok_69
  | 70, _ => ok_70
  | 71, _ => ok_71
  | 72, _ => ok_72
  | 73, _ => ok_73
  | 74, _ => ok_74
  | 75, _ => ok_75
  | 76, _ => ok_76
  | 77, _ => ok_77
  | 78, _ => ok_78
  | 79, _ => ok_79
  | 80, _ => ok_80
  | 81, _ => ok_81
  | 82, _ => ok_82
  | 83, _ => ok_83
  | 84, _ => ok_84
  | 85, _ => ok_85
  | 86, _ => ok_86
  | 87, _ => ok_87
  | 88, _ => ok_88
  | 89, _ => ok_89
  | 90, _ => ok_90
  | 91, _ => ok_91
  | 92, _ => ok_92
  | 93, _ => ok_93
  | 94, _ => ok_94
  | 95, _ => ok_95
  | 96, _ => ok_96
  | 97, _ => ok_97
  | 98, _ => ok_98
  | 99, _ => ok_99
  | 100, _ => ok_100
  | 101, _ => ok_101
  | 102, _ => ok_102
  | 103, _ => ok_103
  | 104, _ => ok_104
  | 105, _ => ok_105
  | 106, _ => ok_106
  | n + 107, h => absurd h (by omega)
end
section
/-! REASONING OVER THE PURE MACHINE: from a state it comes to an end that F takes (pm_Go); a stretch of code without its stops (pm_wp), which reduces by itself -/
def pm_Go (sc : Nat × (Nat → Int32)) (d : Nat) (cd : List pm_I) (t : pm_S) (F : Option Value → pm_H → Prop) : Prop := ∃ (n : Nat) (r : Option Value) (h' : pm_H), pm_ev sc (pm_D sc d) cd n t r h' ∧ F r h'
def pm_wp (sc : Nat × (Nat → Int32)) (d : Nat) (cd : List pm_I) (S : List Nat) : Nat → pm_S → (pm_S → Prop) → (Option Value → pm_H → Prop) → Prop
  | 0, s, K, _ => K s
  | n + 1, s, K, F => match S.elem s.1 with
    | true => K s
    | false => pm_st sc (pm_D sc d) cd s (fun s' => pm_wp sc d cd S n s' K F) F
theorem pm_go_st {sc : Nat × (Nat → Int32)} {d : Nat} {cd : List pm_I} {t : pm_S} {F : Option Value → pm_H → Prop} (h : pm_st sc (pm_D sc d) cd t (fun s' => pm_Go sc d cd s' F) F) : pm_Go sc d cd t F := by
  unfold pm_st at h
  split at h
  · rename_i e he
    rcases pm_det (pm_D_up sc d) _ _ _ _ h with ⟨t', ⟨n, r, h', h1, h2⟩, -, h3⟩ | ⟨w, h1, h3⟩
    · refine ⟨n + 1, r, h', ?_, h2⟩
      unfold pm_ev pm_st
      rw [he]
      exact h3 _ _ h1
    · refine ⟨1, w, t.2.2.2, ?_, h1⟩
      unfold pm_ev pm_st
      rw [he]
      exact h3 _ _ ⟨rfl, rfl⟩
  · exact h.elim
theorem pm_st_mono {sc : Nat × (Nat → Int32)} {d : Nat} {cd : List pm_I} {t : pm_S} {K K' : pm_S → Prop} {F : Option Value → pm_H → Prop} (hk : ∀ s, K s → K' s) (h : pm_st sc (pm_D sc d) cd t K F) : pm_st sc (pm_D sc d) cd t K' F := by
  unfold pm_st at h ⊢
  split at h
  · rcases pm_det (pm_D_up sc d) _ _ _ _ h with ⟨t', h1, -, h3⟩ | ⟨w, h1, h3⟩
    · exact h3 _ _ (hk _ h1)
    · exact h3 _ _ h1
  · exact h.elim
theorem pm_go {sc : Nat × (Nat → Int32)} {d : Nat} {cd : List pm_I} {F : Option Value → pm_H → Prop} (S : List Nat) : ∀ (n : Nat) {t : pm_S}, pm_wp sc d cd S n t (fun s' => pm_Go sc d cd s' F) F → pm_Go sc d cd t F
  | 0, _, h => h
  | n + 1, t, h => by
    unfold pm_wp at h
    split at h
    · exact h
    · exact pm_go_st (pm_st_mono (fun s hs => pm_go S n hs) h)
/-- ... the first instruction is no stop -/
theorem pm_go1 {sc : Nat × (Nat → Int32)} {d : Nat} {cd : List pm_I} {F : Option Value → pm_H → Prop} (S : List Nat) (n : Nat) {t : pm_S} (h : pm_st sc (pm_D sc d) cd t (fun s => pm_wp sc d cd S n s (fun s' => pm_Go sc d cd s' F) F) F) : pm_Go sc d cd t F :=
  pm_go_st (pm_st_mono (fun _ hs => pm_go S n hs) h)
theorem pm_in {sc : Nat × (Nat → Int32)} {d mi : Nat} {av : List Value} {h : pm_H} {r : Option Value} {h' : pm_H} (hg : pm_Go sc d (pm_cd mi) (0, pm_ent av (pm_nl mi), [], h) (fun r2 h2 => r2 = r ∧ h2 = h')) : pm_D sc (d + 1) mi av h r h' := by
  obtain ⟨n, r2, h2, h1, rfl, rfl⟩ := hg
  exact ⟨n, h1⟩
theorem pm_inE {sc : Nat × (Nat → Int32)} {d mi : Nat} {av : List Value} {h : pm_H} {F : Option Value → pm_H → Prop} (hg : pm_Go sc d (pm_cd mi) (0, pm_ent av (pm_nl mi), [], h) F) : ∃ (r : Option Value) (h' : pm_H), pm_D sc (d + 1) mi av h r h' ∧ F r h' := by
  obtain ⟨n, r2, h2, h1, h3⟩ := hg
  exact ⟨r2, h2, ⟨n, h1⟩, h3⟩
theorem pm_goF {sc : Nat × (Nat → Int32)} {d : Nat} {cd : List pm_I} {t : pm_S} {F F' : Option Value → pm_H → Prop} (h : pm_Go sc d cd t F) (hf : ∀ r h, F r h → F' r h) : pm_Go sc d cd t F' := by
  obtain ⟨n, r, h', h1, h2⟩ := h
  exact ⟨n, r, h', h1, hf r h' h2⟩
end
section
/-! THE STATE: what the cells hold. Cells by their references: 1 GuardPacks, 2 Hall, 3 open, 4 guarded, 5 rows (6 of, 7 least, 8 length, 9 guards), 10 columns (11 .. 14), 15 Pairing (16 farOf, 17 nearOf, 18 reachedFrom, 19 waiting), 20 Watch (21 unseenFar), 22 Box (23 side, 24 atX, 25 atY, 26 taken), 27 the reference (28 shut, 29 guards, 30 runOf, 31 runMany, 32 runSize, 33 sides, 34 atX, 35 atY, 36 bits, 37 crossed, 38 partner, 39 cameFrom, 40 waiting) -/
abbrev tA : Type := Nat → Int32
abbrev tH : Type := Int32 × Int32 × Int32 × tA × tA
abbrev tR : Type := Int32 × Int32 × tA × tA × tA × tA
abbrev tP : Type := Value × Value × tA × tA × tA × tA
abbrev tW : Type := Value × Value × Int32 × (Nat → Int64)
abbrev tB : Type := Int32 × Int32 × Int32 × Int32 × Int32 × tA × tA × tA × tA
/-- the reference's hall: wide, high, shut, guards, guardMany, runOf, runMany, runSize, isParted -/
abbrev tM : Type := Int32 × Int32 × tA × tA × Int32 × tA × tA × tA × Int32
/-- the reference's box: boxA, boxB, squares, sides, atX, atY, isPacked, tried -/
abbrev tN : Type := Int32 × Int32 × Int32 × tA × tA × tA × Int32 × Int32
/-- the reference's rows: bits, crossed, partner, cameFrom, waiting -/
abbrev tO : Type := tA × (Nat → Int64) × tA × tA × tA
abbrev aI (n : Nat) (f : tA) : pm_E := .inl (0, n, .inl f)
abbrev aZ (n : Nat) (f : tA) : pm_E := .inl (1, n, .inl f)
abbrev aL (n : Nat) (f : Nat → Int64) : pm_E := .inl (2, n, .inr (.inl f))
def hp (H : tH) (r c : tR) (P : tP) (w : tW) (B : tB) (M : tM) (N : tN) (O : tO) : pm_H :=
  [.inr (5, [.ref 2, .ref 22]),
   .inr (1, [.int H.1, .int H.2.1, .int H.2.2.1, .ref 3, .ref 4, .ref 5, .ref 10, .ref 15, .ref 20]), aZ 64 H.2.2.2.1, aZ 64 H.2.2.2.2,
   .inr (3, [.int r.1, .int r.2.1, .ref 6, .ref 7, .ref 8, .ref 9]), aI 64 r.2.2.1, aI 64 r.2.2.2.1, aI 64 r.2.2.2.2.1, aI 64 r.2.2.2.2.2,
   .inr (3, [.int c.1, .int c.2.1, .ref 11, .ref 12, .ref 13, .ref 14]), aI 64 c.2.2.1, aI 64 c.2.2.2.1, aI 64 c.2.2.2.2.1, aI 64 c.2.2.2.2.2,
   .inr (2, [P.1, P.2.1, .ref 16, .ref 17, .ref 18, .ref 19]), aI 64 P.2.2.1, aI 64 P.2.2.2.1, aI 64 P.2.2.2.2.1, aI 64 P.2.2.2.2.2,
   .inr (4, [w.1, w.2.1, .int w.2.2.1, .ref 21, .ref 15]), aL 12 w.2.2.2,
   .inr (0, [.int B.1, .int B.2.1, .int B.2.2.1, .int B.2.2.2.1, .int B.2.2.2.2.1, .ref 23, .ref 24, .ref 25, .ref 26]), aI 8 B.2.2.2.2.2.1, aI 8 B.2.2.2.2.2.2.1, aI 8 B.2.2.2.2.2.2.2.1, aI 12 B.2.2.2.2.2.2.2.2,
   .inr (6, [.int M.1, .int M.2.1, .ref 28, .ref 29, .int M.2.2.2.2.1, .ref 30, .ref 31, .ref 32, .int M.2.2.2.2.2.2.2.2, .int N.1, .int N.2.1, .int N.2.2.1, .ref 33, .ref 34, .ref 35, .int N.2.2.2.2.2.2.1, .int N.2.2.2.2.2.2.2, .ref 36, .ref 37, .ref 38, .ref 39, .ref 40]),
   aZ 64 M.2.2.1, aZ 64 M.2.2.2.1, aI 128 M.2.2.2.2.2.1, aI 2 M.2.2.2.2.2.2.1, aI 64 M.2.2.2.2.2.2.2.1, aI 8 N.2.2.2.1, aI 8 N.2.2.2.2.1, aI 8 N.2.2.2.2.2.1, aI 256 O.1, aL 4096 O.2.1, aI 32 O.2.2.1, aI 32 O.2.2.2.1, aI 32 O.2.2.2.2]
end
section
/-! NUMBERS: ints as naturals -/
theorem nu_add {x y : Int32} (h1 : -2147483648 ≤ x.toInt + y.toInt) (h2 : x.toInt + y.toInt < 2147483648) : (x + y).toInt = x.toInt + y.toInt := by
  rw [Int32.toInt_add]
  exact Int.bmod_eq_of_le (by omega) (by omega)
theorem nu_sub {x y : Int32} (h1 : -2147483648 ≤ x.toInt - y.toInt) (h2 : x.toInt - y.toInt < 2147483648) : (x - y).toInt = x.toInt - y.toInt := by
  rw [Int32.toInt_sub]
  exact Int.bmod_eq_of_le (by omega) (by omega)
theorem nu_0 : (0 : Int32) = nI 0 := by decide
theorem nu_1 : (1 : Int32) = nI 1 := by decide
theorem nu_2 : (2 : Int32) = nI 2 := by decide
theorem nu_8 : (8 : Int32) = nI 8 := by decide
theorem nu_12 : (12 : Int32) = nI 12 := by decide
theorem nu_31 : (31 : Int32) = nI 31 := by decide
theorem nu_32 : (32 : Int32) = nI 32 := by decide
theorem nu_64 : (64 : Int32) = nI 64 := by decide
theorem nu_256 : (256 : Int32) = nI 256 := by decide
theorem nu_le {a b : Nat} (ha : a < 1000000) (hb : b < 1000000) : nI a ≤ nI b ↔ a ≤ b := nI_leI (by omega) (by omega)
theorem nu_lt {a b : Nat} (ha : a < 1000000) (hb : b < 1000000) : nI a < nI b ↔ a < b := nI_ltI (by omega) (by omega)
theorem nu_eq {a b : Nat} (ha : a < 1000000) (hb : b < 1000000) : nI a = nI b ↔ a = b := nI_eq (by omega) (by omega)
theorem nu_cl {a : Nat} (ha : a < 1000000) : (nI a).toNatClampNeg = a := nI_clamp (by omega)
theorem nu_in {a n : Nat} (h : a < n) (hn : n < 1000000) : vp_in (nI a) n := vp_in_nI h (by omega)
theorem nu_ti {a : Nat} (ha : a < 1000000) : (nI a).toInt = (a : Int) := nI_toInt (by omega)
theorem nu_m1 : (-1 : Int32).toInt = -1 := by decide
/-- out of a row: the place is a natural -/
theorem nu_of {x : Int32} {n : Nat} (h : 0 ≤ x.toInt) (h2 : x.toInt < (n : Int)) : ∃ k : Nat, k < n ∧ x = nI k := by
  refine ⟨x.toInt.toNat, by omega, ?_⟩
  apply Int32.toInt_inj.mp
  have h3 : x.toInt < 2 ^ 31 := Int32.toInt_lt x
  rw [show nI x.toInt.toNat = Int32.ofNat x.toInt.toNat from rfl]
  have := nI_toInt (n := x.toInt.toNat) (by omega)
  rw [show nI x.toInt.toNat = Int32.ofNat x.toInt.toNat from rfl] at this
  omega
theorem nu_updS {f : Nat → Int32} {k : Nat} {x : Int32} : upd f k x k = x := pk_us
theorem nu_updN {f : Nat → Int32} {k j : Nat} {x : Int32} (h : j ≠ k) : upd f k x j = f j := pk_un h
theorem nu_upd (f : Nat → Int32) (k : Nat) (x : Int32) (j : Nat) : upd f k x j = if j = k then x else f j := by
  by_cases h : j = k
  · subst h; rw [pk_us, if_pos rfl]
  · rw [pk_un h, if_neg h]
theorem nu_uu (f : Nat → Int32) (k : Nat) (x y : Int32) : upd (upd f k x) k y = upd f k y := by
  funext j
  rw [nu_upd, nu_upd, nu_upd]
  split <;> rfl
/-- naturals in rows -/
def upN (f : Nat → Nat) (k v : Nat) : Nat → Nat := fun j => if j = k then v else f j
theorem upN_ne {f : Nat → Nat} {k v j : Nat} (h : j ≠ k) : upN f k v j = f j := if_neg h
theorem upN_eq {f : Nat → Nat} {k v : Nat} : upN f k v k = v := if_pos rfl
theorem pib0 (x y : Int32) : pm_ib 0 x y = x + y := rfl
theorem pib1 (x y : Int32) : pm_ib 1 x y = x - y := rfl
theorem pib2 (x y : Int32) : pm_ib 2 x y = x * y := rfl
end
section
theorem c_isWithin (sc : Nat × (Nat → Int32)) (d : Nat) (h : pm_H) (x lo hi : Int32) : pm_D sc (d + 1) mX5_isWithin [.int x, .int lo, .int hi] h (some (.int (if lo ≤ x ∧ x ≤ hi then 1 else 0))) h := by
  refine pm_in (pm_go [] 12 ?_)
  refine ⟨fun c1 => ?_, fun c1 => ?_⟩
  · refine ⟨Or.inl rfl, ?_, rfl⟩
    rw [if_neg (fun q => absurd q.1 (by rw [Int32.le_iff_toInt_le]; rw [Int32.lt_iff_toInt_lt] at c1; omega))]
  · refine ⟨fun c2 => ?_, fun c2 => ?_⟩
    · refine ⟨Or.inl rfl, ?_, rfl⟩
      rw [if_neg (fun q => absurd q.2 (by rw [Int32.le_iff_toInt_le]; rw [Int32.lt_iff_toInt_lt] at c2; omega))]
    · refine ⟨Or.inr rfl, ?_, rfl⟩
      rw [if_pos]
      rw [Int32.lt_iff_toInt_lt] at c1 c2
      rw [Int32.le_iff_toInt_le, Int32.le_iff_toInt_le]
      omega
theorem c_holds (sc : Nat × (Nat → Int32)) (d : Nat) (H : tH) (r c : tR) (P : tP) (w : tW) (B : tB) (M : tM) (N : tN) (O : tO) (x y : Int32) : pm_D sc (d + 2) mX1_holds [.ref 2, .int x, .int y] (hp H r c P w B M N O) (some (.int (if (0 ≤ x ∧ x ≤ H.1 - 1) ∧ (0 ≤ y ∧ y ≤ H.2.1 - 1) then 1 else 0))) (hp H r c P w B M N O) := by
  refine pm_in (pm_go [] 22 ?_)
  refine ⟨_, _, c_isWithin sc d _ _ _ _, ?_⟩
  refine ⟨fun c1 => ?_, fun c1 => ?_⟩
  · refine ⟨Or.inl rfl, ?_, rfl⟩
    split at c1
    · exact absurd c1 (by decide)
    · rename_i n1
      rw [if_neg (fun q => n1 q.1)]
  · split at c1
    · rename_i n1
      refine ⟨_, _, c_isWithin sc d _ _ _ _, ?_⟩
      refine ⟨fun c2 => ?_, fun c2 => ?_⟩
      · refine ⟨Or.inl rfl, ?_, rfl⟩
        split at c2
        · exact absurd c2 (by decide)
        · rename_i n2
          rw [if_neg (fun q => n2 q.2)]
      · refine ⟨Or.inr rfl, ?_, rfl⟩
        split at c2
        · rename_i n2
          rw [if_pos ⟨n1, n2⟩]
        · exact absurd rfl c2
    · exact absurd rfl c1
end
section
/-! THE CLASS'S BOX: raw contracts of the methods without loops -/
theorem c_startOver (sc : Nat × (Nat → Int32)) (d : Nat) (H : tH) (r : tR) (c : tR) (P : tP) (w : tW) (B : tB) (M : tM) (N : tN) (O : tO) (i : Int32) (hi : vp_in i 8 ∨ 8 ≤ i) : pm_D sc (d + 1) mX0_startOver [.ref 22, .int i] (hp H r c P w B M N O) none (hp H r c P w (if 8 ≤ i then B else (B.1, B.2.1, B.2.2.1, B.2.2.2.1, B.2.2.2.2.1, B.2.2.2.2.2.1, upd B.2.2.2.2.2.2.1 i.toNatClampNeg 0, upd B.2.2.2.2.2.2.2.1 i.toNatClampNeg 0, B.2.2.2.2.2.2.2.2)) M N O) := by
  refine pm_in (pm_go [] 20 ?_)
  refine ⟨fun c1 => ?_, fun c1 => ?_⟩
  · rw [if_pos c1]
    exact ⟨rfl, rfl⟩
  · rw [if_neg c1]
    rcases hi with hi | hi
    · exact ⟨hi, hi, rfl, rfl⟩
    · exact absurd hi c1
theorem c_hasPlace (sc : Nat × (Nat → Int32)) (d : Nat) (H : tH) (r : tR) (c : tR) (P : tP) (w : tW) (B : tB) (M : tM) (N : tN) (O : tO) (i : Int32) (hi : vp_in i 8) : pm_D sc (d + 1) mX0_hasPlace [.ref 22, .int i] (hp H r c P w B M N O) (some (.int (if B.2.2.2.2.2.2.1 i.toNatClampNeg + B.2.2.2.2.2.1 i.toNatClampNeg ≤ B.1 ∧ B.2.2.2.2.2.2.2.1 i.toNatClampNeg + B.2.2.2.2.2.1 i.toNatClampNeg ≤ B.2.1 then 1 else 0))) (hp H r c P w B M N O) := by
  refine pm_in (pm_go [] 40 ?_)
  refine ⟨hi, hi, fun c1 => ?_, fun c1 => ?_⟩
  · rw [if_neg (fun q => absurd q.1 (Int32.not_le.mpr c1))]
    exact ⟨Or.inl rfl, rfl, rfl⟩
  · refine ⟨hi, hi, fun c2 => ?_, fun c2 => ?_⟩
    · rw [if_neg (fun q => absurd q.2 (Int32.not_le.mpr c2))]
      exact ⟨Or.inl rfl, rfl, rfl⟩
    · rw [if_pos ⟨Int32.not_lt.mp c1, Int32.not_lt.mp c2⟩]
      exact ⟨Or.inr rfl, rfl, rfl⟩
theorem c_goOn (sc : Nat × (Nat → Int32)) (d : Nat) (H : tH) (r : tR) (c : tR) (P : tP) (w : tW) (B : tB) (M : tM) (N : tN) (O : tO) (i : Int32) (hi : vp_in i 8) : pm_D sc (d + 1) mX0_goOn [.ref 22, .int i] (hp H r c P w B M N O) none (hp H r c P w (if B.2.2.2.2.2.2.1 i.toNatClampNeg + 1 + B.2.2.2.2.2.1 i.toNatClampNeg ≤ B.1 then (B.1, B.2.1, B.2.2.1, B.2.2.2.1, B.2.2.2.2.1, B.2.2.2.2.2.1, upd B.2.2.2.2.2.2.1 i.toNatClampNeg (B.2.2.2.2.2.2.1 i.toNatClampNeg + 1), B.2.2.2.2.2.2.2) else (B.1, B.2.1, B.2.2.1, B.2.2.2.1, B.2.2.2.2.1, B.2.2.2.2.2.1, upd B.2.2.2.2.2.2.1 i.toNatClampNeg 0, upd B.2.2.2.2.2.2.2.1 i.toNatClampNeg (B.2.2.2.2.2.2.2.1 i.toNatClampNeg + 1), B.2.2.2.2.2.2.2.2)) M N O) := by
  refine pm_in (pm_go [] 40 ?_)
  refine ⟨hi, hi, hi, hi, fun c1 => ?_, fun c1 => ?_⟩
  · rw [nu_updS] at c1
    have c1 : B.2.2.2.2.2.2.1 i.toNatClampNeg + 1 + B.2.2.2.2.2.1 i.toNatClampNeg ≤ B.1 := c1
    rw [if_pos c1]
    exact ⟨rfl, rfl⟩
  · rw [nu_updS] at c1
    have c1 : ¬ B.2.2.2.2.2.2.1 i.toNatClampNeg + 1 + B.2.2.2.2.2.1 i.toNatClampNeg ≤ B.1 := c1
    rw [if_neg c1]
    refine ⟨hi, hi, hi, rfl, ?_⟩
    rw [← nu_uu B.2.2.2.2.2.2.1 i.toNatClampNeg (B.2.2.2.2.2.2.1 i.toNatClampNeg + 1) 0]
    rfl
theorem c_breadthOf (sc : Nat × (Nat → Int32)) (d : Nat) (H : tH) (r : tR) (c : tR) (P : tP) (w : tW) (B : tB) (M : tM) (N : tN) (O : tO) (i : Int32) (hi : vp_in i 8) : pm_D sc (d + 1) mX0_breadthOf [.ref 22, .int i] (hp H r c P w B M N O) (some (.int ((1 <<< (B.2.2.2.2.2.1 i.toNatClampNeg &&& 31) - 1) <<< (B.2.2.2.2.2.2.1 i.toNatClampNeg &&& 31)))) (hp H r c P w B M N O) := by
  refine pm_in (pm_go [] 40 ?_)
  exact ⟨hi, hi, rfl, rfl⟩
theorem c_boxClear (sc : Nat × (Nat → Int32)) (d : Nat) (H : tH) (r : tR) (c : tR) (P : tP) (w : tW) (B : tB) (M : tM) (N : tN) (O : tO) (x y : Int32) : pm_D sc (d + 1) mX0_clear [.ref 22, .int x, .int y] (hp H r c P w B M N O) none (hp H r c P w ((x, y, 0, B.2.2.2.1, 0, B.2.2.2.2.2)) M N O) := by
  refine pm_in (pm_go [] 40 ?_)
  exact ⟨Or.inl rfl, rfl, rfl⟩
theorem c_append (sc : Nat × (Nat → Int32)) (d : Nat) (H : tH) (r : tR) (c : tR) (P : tP) (w : tW) (B : tB) (M : tM) (N : tN) (O : tO) (x : Int32) (hi : vp_in B.2.2.1 8) : pm_D sc (d + 1) mX0_append [.ref 22, .int x] (hp H r c P w B M N O) (some (.int B.2.2.1)) (hp H r c P w ((B.1, B.2.1, B.2.2.1 + 1, B.2.2.2.1, 0, upd B.2.2.2.2.2.1 B.2.2.1.toNatClampNeg x, B.2.2.2.2.2.2)) M N O) := by
  refine pm_in (pm_go [] 40 ?_)
  exact ⟨Or.inl rfl, hi, rfl, rfl⟩
theorem c_removeLast (sc : Nat × (Nat → Int32)) (d : Nat) (H : tH) (r : tR) (c : tR) (P : tP) (w : tW) (B : tB) (M : tM) (N : tN) (O : tO) : pm_D sc (d + 1) mX0_removeLast [.ref 22] (hp H r c P w B M N O) (some (.int (B.2.2.1 - 1))) (hp H r c P w ((B.1, B.2.1, B.2.2.1 - 1, B.2.2.2.1, 0, B.2.2.2.2.2)) M N O) := by
  refine pm_in (pm_go [] 40 ?_)
  exact ⟨Or.inl rfl, rfl, rfl⟩
end
section
/-! THE CLASS'S BOX: loops. px, py, sd: places and sides as naturals -/
theorem nb_min {a : Nat} (ha : a < 1000) : (if (12 : Int32) < nI a then 12 else nI a) = nI (min a 12) := by
  rw [nu_12]
  by_cases h : 12 < a
  · rw [if_pos ((nu_lt (by omega) (by omega)).mpr h), Nat.min_eq_right (by omega)]
  · rw [if_neg (fun q => h ((nu_lt (by omega) (by omega)).mp q)), Nat.min_eq_left (by omega)]
theorem nx_and (a b : Nat) : nI a &&& nI b = nI (a &&& b) := by
  apply Int32.toBitVec_inj.1
  show BitVec.ofNat 32 a &&& BitVec.ofNat 32 b = BitVec.ofNat 32 (a &&& b)
  apply BitVec.eq_of_getLsbD_eq
  intro i hi
  simp [hi]
theorem nx_xor (a b : Nat) : nI a ^^^ nI b = nI (a ^^^ b) := by
  apply Int32.toBitVec_inj.1
  show BitVec.ofNat 32 a ^^^ BitVec.ofNat 32 b = BitVec.ofNat 32 (a ^^^ b)
  apply BitVec.eq_of_getLsbD_eq
  intro i hi
  simp [hi]
/-- the bits of a square's row -/
def bx_br (s x : Nat) : Nat := (2 ^ s - 1) * 2 ^ x
theorem bx_br_ok : ∀ s, s < 13 → ∀ x, x < 13 → ((1 : Int32) <<< (nI s &&& 31) - 1) <<< (nI x &&& 31) = nI (bx_br s x) := by decide +kernel
/-- emptyBox: taken is all 0 -/
theorem c_emptyBox (sc : Nat × (Nat → Int32)) (d : Nat) (H : tH) (r : tR) (c : tR) (P : tP) (w : tW) (bw : Int32) (bh : Int32) (bc : Int32) (bt : Int32) (bp : Int32) (si : tA) (ax : tA) (ay : tA) (tk : tA) (M : tM) (N : tN) (O : tO) : ∃ tk' : tA, (∀ y, y < 12 → tk' y = 0) ∧ pm_D sc (d + 2) mX0_emptyBox [.ref 22] (hp H r c P w (bw, bh, bc, bt, bp, si, ax, ay, tk) M N O) none (hp H r c P w (bw, bh, bc, bt, bp, si, upd ax 0 0, upd ay 0 0, tk') M N O) := by
  have loop : ∀ (n k : Nat) (x : Int32) (f : tA), k + n = 12 → x = nI k → (∀ y, y < k → f y = 0) → ∃ tk' : tA, (∀ y, y < 12 → tk' y = 0) ∧ pm_Go sc (d + 1) (pm_cd mX0_emptyBox) (2, [some (.ref 22), some (.int x)], [], (hp H r c P w (bw, bh, bc, bt, bp, si, ax, ay, f) M N O)) (fun r2 h2 => r2 = none ∧ h2 = (hp H r c P w (bw, bh, bc, bt, bp, si, upd ax 0 0, upd ay 0 0, tk') M N O)) := by
    intro n
    induction n with
    | zero =>
      intro k x f hk hx hf
      refine ⟨f, fun y hy => hf y (by omega), pm_go [] 8 ?_⟩
      subst hx
      refine ⟨fun c1 => ?_, fun c1 => ?_⟩
      · refine ⟨_, _, c_startOver sc d H r c P w _ M N O 0 (Or.inl (by rw [nu_0]; exact nu_in (by omega) (by omega))), ?_⟩
        exact ⟨rfl, rfl⟩
      · exact absurd (show (12 : Int32) ≤ nI k by rw [nu_12, nu_le (by omega) (by omega)]; omega) c1
    | succ n ih =>
      intro k x f hk hx hf
      subst hx
      obtain ⟨tk', h1, h2⟩ := ih (k + 1) (nI k + 1) (upd f k 0) (by omega) (by rw [nI_1]) (fun y hy => by
        rw [nu_upd]
        split
        · rfl
        · exact hf y (by omega))
      refine ⟨tk', h1, pm_go1 [2] 20 ?_⟩
      refine ⟨fun c1 => ?_, fun c1 => ?_⟩
      · exact absurd ((nu_le (a := 12) (b := k) (by omega) (by omega)).mp (by rw [← nu_12]; exact c1)) (by omega)
      · refine ⟨nu_in (by omega) (by omega), ?_⟩
        rw [nu_cl (by omega)]
        exact h2
  obtain ⟨tk', h1, h2⟩ := loop 12 0 0 tk rfl nu_0 (fun y hy => absurd hy (by omega))
  exact ⟨tk', h1, pm_in (pm_go [2] 3 h2)⟩
/-- isFree -/
theorem c_isFree (sc : Nat × (Nat → Int32)) (d : Nat) (H : tH) (r : tR) (c : tR) (P : tP) (w : tW) (bw : Int32) (bh : Int32) (bc : Int32) (bt : Int32) (bp : Int32) (si : tA) (ax : tA) (ay : tA) (tk : tA) (M : tM) (N : tN) (O : tO) (s sd x y0 : Nat) (t : Nat → Nat) (hs : s < 8) (h1 : si s = nI sd) (h2 : ax s = nI x) (h3 : ay s = nI y0) (hx : x + sd ≤ 12) (hy : y0 + sd ≤ 12) (ht : ∀ y, y < 12 → tk y = nI (t y) ∧ t y < 4096) :
    ∃ v : Int32, pm_D sc (d + 2) mX0_isFree [.ref 22, .int (nI s)] (hp H r c P w (bw, bh, bc, bt, bp, si, ax, ay, tk) M N O) (some (.int v)) (hp H r c P w (bw, bh, bc, bt, bp, si, ax, ay, tk) M N O) ∧ ((v = 1 ∧ ∀ y, y0 ≤ y → y < y0 + sd → t y &&& bx_br sd x = 0) ∨ (v = 0 ∧ ∃ y, y0 ≤ y ∧ y < y0 + sd ∧ t y &&& bx_br sd x ≠ 0)) := by
  have loop : ∀ (n y : Nat) (yy : Int32), y + n = y0 + sd → y0 ≤ y → yy = nI y → (∀ z, y0 ≤ z → z < y → t z &&& bx_br sd x = 0) → ∃ v : Int32, pm_Go sc (d + 1) (pm_cd mX0_isFree) (21, [some (.ref 22), some (.int (nI s)), some (.int (nI (bx_br sd x))), some (.int (nI (y0 + sd))), some (.int yy)], [], (hp H r c P w (bw, bh, bc, bt, bp, si, ax, ay, tk) M N O)) (fun r2 h2 => r2 = some (.int v) ∧ h2 = (hp H r c P w (bw, bh, bc, bt, bp, si, ax, ay, tk) M N O)) ∧ ((v = 1 ∧ ∀ y, y0 ≤ y → y < y0 + sd → t y &&& bx_br sd x = 0) ∨ (v = 0 ∧ ∃ y, y0 ≤ y ∧ y < y0 + sd ∧ t y &&& bx_br sd x ≠ 0)) := by
    intro n
    induction n with
    | zero =>
      intro y yy hyn hy0 hyy hz
      subst hyy
      refine ⟨1, pm_go [] 8 ⟨fun c1 => ⟨Or.inr rfl, rfl, rfl⟩, fun c1 => ?_⟩, Or.inl ⟨rfl, fun z h1 h2 => hz z h1 (by omega)⟩⟩
      exact absurd ((nu_le (by omega) (by omega)).mpr (by omega)) c1
    | succ n ih =>
      intro y yy hyn hy0 hyy hz
      subst hyy
      have hin : vp_in (nI y) 12 := nu_in (by omega) (by omega)
      have hv : tk (nI y).toNatClampNeg &&& nI (bx_br sd x) = nI (t y &&& bx_br sd x) := by
        rw [nu_cl (by omega), (ht y (by omega)).1, nx_and]
      have hlt : t y &&& bx_br sd x < 1000000 := Nat.lt_of_le_of_lt Nat.and_le_left (by have := (ht y (by omega)).2; omega)
      by_cases h0 : t y &&& bx_br sd x = 0
      · obtain ⟨v, g1, g2⟩ := ih (y + 1) (nI y + 1) (by omega) (by omega) (by rw [nI_1]) (fun z h1 h2 => by
          by_cases hzy : z = y
          · subst hzy; exact h0
          · exact hz z h1 (by omega))
        refine ⟨v, pm_go1 [21] 20 ⟨fun c1 => ?_, fun c1 => ⟨hin, fun c2 => g1, fun c2 => ?_⟩⟩, g2⟩
        · exact absurd ((nu_le (by omega) (by omega)).mp c1) (by omega)
        · exact absurd (show tk (nI y).toNatClampNeg &&& nI (bx_br sd x) = 0 by rw [hv, h0]; rfl) c2
      · refine ⟨0, pm_go1 [21] 20 ⟨fun c1 => ?_, fun c1 => ⟨hin, fun c2 => ?_, fun c2 => ⟨Or.inl rfl, rfl, rfl⟩⟩⟩, Or.inr ⟨rfl, y, hy0, by omega, h0⟩⟩
        · exact absurd ((nu_le (by omega) (by omega)).mp c1) (by omega)
        · have c2 : tk (nI y).toNatClampNeg &&& nI (bx_br sd x) = 0 := c2
          rw [hv, nu_0, nu_eq hlt (by omega)] at c2
          exact absurd c2 h0
  have hin : vp_in (nI s) 8 := nu_in hs (by omega)
  have hb := c_breadthOf sc d H r c P w (bw, bh, bc, bt, bp, si, ax, ay, tk) M N O (nI s) hin
  dsimp only at hb
  rw [nu_cl (by omega), h1, h2, bx_br_ok sd (by omega) x (by omega)] at hb
  obtain ⟨v, g1, g2⟩ := loop sd y0 (nI y0) rfl (Nat.le_refl _) rfl (fun z h1 h2 => absurd h1 (by omega))
  refine ⟨v, pm_in (pm_go [21] 30 ⟨_, _, hb, hin, hin, hin, ?_⟩), g2⟩
  have e1 : (if (12 : Int32) < pm_ib 0 (ay (nI s).toNatClampNeg) (si (nI s).toNatClampNeg) then 12 else pm_ib 0 (ay (nI s).toNatClampNeg) (si (nI s).toNatClampNeg)) = nI (y0 + sd) := by
    rw [nu_cl (by omega), h1, h3]
    show (if (12 : Int32) < nI y0 + nI sd then 12 else nI y0 + nI sd) = nI (y0 + sd)
    rw [nI_add, nb_min (by omega), Nat.min_eq_left hy]
  have e2 : ay (nI s).toNatClampNeg = nI y0 := by rw [nu_cl (by omega), h3]
  rw [← e2, ← e1] at g1
  exact g1
/-- layOrLift -/
theorem c_layOrLift (sc : Nat × (Nat → Int32)) (d : Nat) (H : tH) (r : tR) (c : tR) (P : tP) (w : tW) (bw : Int32) (bh : Int32) (bc : Int32) (bt : Int32) (bp : Int32) (si : tA) (ax : tA) (ay : tA) (tk : tA) (M : tM) (N : tN) (O : tO) (s sd x y0 : Nat) (t : Nat → Nat) (hs : s < 8) (h1 : si s = nI sd) (h2 : ax s = nI x) (h3 : ay s = nI y0) (hx : x + sd ≤ 12) (hy : y0 + sd ≤ 12) (ht : ∀ y, y < 12 → tk y = nI (t y)) :
    ∃ tk' : tA, pm_D sc (d + 2) mX0_layOrLift [.ref 22, .int (nI s)] (hp H r c P w (bw, bh, bc, bt, bp, si, ax, ay, tk) M N O) none (hp H r c P w (bw, bh, bc, bt, bp, si, ax, ay, tk') M N O) ∧ ∀ y, y < 12 → tk' y = nI (if y0 ≤ y ∧ y < y0 + sd then t y ^^^ bx_br sd x else t y) := by
  have loop : ∀ (n y : Nat) (yy : Int32) (f : tA), y + n = y0 + sd → y0 ≤ y → yy = nI y → (∀ z, z < 12 → f z = nI (if y0 ≤ z ∧ z < y then t z ^^^ bx_br sd x else t z)) → ∃ tk' : tA, pm_Go sc (d + 1) (pm_cd mX0_layOrLift) (21, [some (.ref 22), some (.int (nI s)), some (.int (nI (bx_br sd x))), some (.int (nI (y0 + sd))), some (.int yy)], [], (hp H r c P w (bw, bh, bc, bt, bp, si, ax, ay, f) M N O)) (fun r2 h2 => r2 = none ∧ h2 = (hp H r c P w (bw, bh, bc, bt, bp, si, ax, ay, tk') M N O)) ∧ ∀ y, y < 12 → tk' y = nI (if y0 ≤ y ∧ y < y0 + sd then t y ^^^ bx_br sd x else t y) := by
    intro n
    induction n with
    | zero =>
      intro y yy f hyn hy0 hyy hz
      subst hyy
      have e : y = y0 + sd := by omega
      subst e
      refine ⟨f, pm_go [] 8 ⟨fun c1 => ⟨rfl, rfl⟩, fun c1 => ?_⟩, hz⟩
      exact absurd ((nu_le (by omega) (by omega)).mpr (by omega)) c1
    | succ n ih =>
      intro y yy f hyn hy0 hyy hz
      subst hyy
      have hin : vp_in (nI y) 12 := nu_in (by omega) (by omega)
      obtain ⟨tk', g1, g2⟩ := ih (y + 1) (nI y + 1) (upd f y (nI (t y ^^^ bx_br sd x))) (by omega) (by omega) (by rw [nI_1]) (fun z h1 => by
        rw [nu_upd]
        by_cases hzy : z = y
        · subst hzy
          rw [if_pos rfl, if_pos (by omega)]
        · rw [if_neg hzy, hz z h1]
          by_cases hr : y0 ≤ z ∧ z < y
          · rw [if_pos hr, if_pos (by omega)]
          · rw [if_neg hr, if_neg (by omega)])
      refine ⟨tk', pm_go1 [21] 20 ⟨fun c1 => ?_, fun c1 => ⟨hin, hin, ?_⟩⟩, g2⟩
      · exact absurd ((nu_le (by omega) (by omega)).mp c1) (by omega)
      · have e1 : pm_ib 5 (f (nI y).toNatClampNeg) (nI (bx_br sd x)) = nI (t y ^^^ bx_br sd x) := by
          rw [nu_cl (by omega), hz y (by omega), if_neg (by omega)]
          exact nx_xor _ _
        rw [← e1] at g1
        have e2 : (nI y).toNatClampNeg = y := nu_cl (by omega)
        rw [e2] at g1 ⊢
        exact g1
  have hin : vp_in (nI s) 8 := nu_in hs (by omega)
  have hb := c_breadthOf sc d H r c P w (bw, bh, bc, bt, bp, si, ax, ay, tk) M N O (nI s) hin
  dsimp only at hb
  rw [nu_cl (by omega), h1, h2, bx_br_ok sd (by omega) x (by omega)] at hb
  obtain ⟨tk', g1, g2⟩ := loop sd y0 (nI y0) tk rfl (Nat.le_refl _) rfl (fun z h1 => by rw [ht z h1, if_neg (by omega)])
  refine ⟨tk', pm_in (pm_go [21] 30 ⟨_, _, hb, hin, hin, hin, ?_⟩), g2⟩
  have e1 : (if (12 : Int32) < pm_ib 0 (ay (nI s).toNatClampNeg) (si (nI s).toNatClampNeg) then 12 else pm_ib 0 (ay (nI s).toNatClampNeg) (si (nI s).toNatClampNeg)) = nI (y0 + sd) := by
    rw [nu_cl (by omega), h1, h3]
    show (if (12 : Int32) < nI y0 + nI sd then 12 else nI y0 + nI sd) = nI (y0 + sd)
    rw [nI_add, nb_min (by omega), Nat.min_eq_left hy]
  have e2 : ay (nI s).toNatClampNeg = nI y0 := by rw [nu_cl (by omega), h3]
  rw [← e2, ← e1] at g1
  exact g1
end
section
/-! PACKING, in naturals -/
def bx_ap (sd px py : Nat → Nat) (s k : Nat) : Prop := px k + sd k ≤ px s ∨ px s + sd s ≤ px k ∨ py k + sd k ≤ py s ∨ py s + sd s ≤ py k
def bx_free (sd px py : Nat → Nat) (s : Nat) : Prop := ∀ k, k < s → bx_ap sd px py s k
abbrev bx_fit (A Bh : Nat) (sd px py : Nat → Nat) (s : Nat) : Prop := px s + sd s ≤ A ∧ py s + sd s ≤ Bh
def bx_ax (A : Nat) (sd px : Nat → Nat) (s : Nat) : Nat := if px s + 1 + sd s ≤ A then px s + 1 else 0
def bx_ay (A : Nat) (sd px py : Nat → Nat) (s : Nat) : Nat := if px s + 1 + sd s ≤ A then py s else py s + 1

noncomputable def bx_run (A Bh cnt steps : Nat) (sd : Nat → Nat) : Nat → Nat → (Nat → Nat) → (Nat → Nat) → Nat → Nat × Nat × (Nat → Nat) × (Nat → Nat)
  | 0, _, px, py, tr => (2, tr, px, py)
  | n + 1, s, px, py, tr =>
    if cnt ≤ s then (1, tr, px, py)
    else if ¬ bx_fit A Bh sd px py s then
      (if s = 0 then (0, tr, px, py) else bx_run A Bh cnt steps sd n (s - 1) (upN px (s - 1) (bx_ax A sd px (s - 1))) (upN py (s - 1) (bx_ay A sd px py (s - 1))) tr)
    else if steps ≤ tr then (2, tr, px, py)
    else if @decide (bx_free sd px py s) (Classical.propDecidable _) = true then bx_run A Bh cnt steps sd n (s + 1) (upN px (s + 1) 0) (upN py (s + 1) 0) (tr + 1)
    else bx_run A Bh cnt steps sd n s (upN px s (bx_ax A sd px s)) (upN py s (bx_ay A sd px py s)) (tr + 1)
/-- the taken bits of row y, with s squares laid -/
def bx_t (sd px py : Nat → Nat) : Nat → Nat → Nat
  | 0, _ => 0
  | s + 1, y => if py s ≤ y ∧ y < py s + sd s then bx_t sd px py s y ^^^ bx_br (sd s) (px s) else bx_t sd px py s y
theorem bx_br_bit (s x i : Nat) : (bx_br s x).testBit i = decide (x ≤ i ∧ i < x + s) := by
  unfold bx_br
  rw [← Nat.shiftLeft_eq, Nat.testBit_shiftLeft, Nat.testBit_two_pow_sub_one]
  by_cases h : x ≤ i
  · simp [h]; omega
  · simp [h]
theorem bx_br_lt {s x : Nat} (h : x + s ≤ 12) : bx_br s x < 2 ^ 12 := by
  unfold bx_br
  have h1 : 2 ^ (x + s) ≤ 2 ^ 12 := Nat.pow_le_pow_right (by omega) h
  have h2 : (2 ^ s - 1) * 2 ^ x < 2 ^ s * 2 ^ x := Nat.mul_lt_mul_of_pos_right (by have := Nat.pos_of_ne_zero (Nat.pos_iff_ne_zero.mp (Nat.pow_pos (n := s) (show 0 < 2 by omega))); omega) (Nat.pow_pos (by omega))
  rw [← Nat.pow_add, Nat.add_comm s x] at h2
  omega
theorem bx_t_lt {sd px py : Nat → Nat} : ∀ (s : Nat), (∀ k, k < s → px k + sd k ≤ 12) → ∀ y, bx_t sd px py s y < 2 ^ 12
  | 0, _, _ => by unfold bx_t; omega
  | s + 1, h, y => by
    have ih := bx_t_lt (sd := sd) (px := px) (py := py) s (fun k hk => h k (by omega)) y
    unfold bx_t
    split
    · exact Nat.xor_lt_two_pow ih (bx_br_lt (h s (by omega)))
    · exact ih
theorem bx_t_bit {sd px py : Nat → Nat} : ∀ (s : Nat), (∀ k, k < s → bx_free sd px py k) → ∀ x y, (bx_t sd px py s y).testBit x = true ↔ ∃ k, k < s ∧ px k ≤ x ∧ x < px k + sd k ∧ py k ≤ y ∧ y < py k + sd k
  | 0, _, x, y => by
    unfold bx_t
    simp
  | s + 1, h, x, y => by
    have ih := bx_t_bit (sd := sd) (px := px) (py := py) s (fun k hk => h k (by omega)) x y
    unfold bx_t
    by_cases hy : py s ≤ y ∧ y < py s + sd s
    · rw [if_pos hy, Nat.testBit_xor, bx_br_bit]
      by_cases hx : px s ≤ x ∧ x < px s + sd s
      · have hno : (bx_t sd px py s y).testBit x = false := by
          cases hb : (bx_t sd px py s y).testBit x with
          | false => rfl
          | true =>
            obtain ⟨k, hk, h1, h2, h3, h4⟩ := ih.mp hb
            have := h s (by omega) k hk
            unfold bx_ap at this
            omega
        rw [hno]
        simp only [hx, and_self, decide_true, Bool.false_bne, true_iff]
        exact ⟨s, by omega, hx.1, hx.2, hy.1, hy.2⟩
      · have e : decide (px s ≤ x ∧ x < px s + sd s) = false := by simpa using hx
        rw [e, Bool.xor_false, ih]
        constructor
        · rintro ⟨k, hk, h1⟩; exact ⟨k, by omega, h1⟩
        · rintro ⟨k, hk, h1⟩
          by_cases hks : k = s
          · subst hks; exact absurd ⟨h1.1, h1.2.1⟩ hx
          · exact ⟨k, by omega, h1⟩
    · rw [if_neg hy, ih]
      constructor
      · rintro ⟨k, hk, h1⟩; exact ⟨k, by omega, h1⟩
      · rintro ⟨k, hk, h1⟩
        by_cases hks : k = s
        · subst hks; exact absurd h1.2.2 hy
        · exact ⟨k, by omega, h1⟩
theorem bx_free_iff {sd px py : Nat → Nat} {s : Nat} (h : ∀ k, k < s → bx_free sd px py k) (h1 : ∀ k, k ≤ s → 1 ≤ sd k) : (∀ y, py s ≤ y → y < py s + sd s → bx_t sd px py s y &&& bx_br (sd s) (px s) = 0) ↔ bx_free sd px py s := by
  constructor
  · intro hz k hk
    apply Classical.byContradiction
    intro hn
    unfold bx_ap at hn
    have k1 := h1 k (by omega)
    have s1 := h1 s (by omega)
    have hy := hz (max (py s) (py k)) (by omega) (by omega)
    have hb : (bx_t sd px py s (max (py s) (py k)) &&& bx_br (sd s) (px s)).testBit (max (px s) (px k)) = true := by
      rw [Nat.testBit_and, (bx_t_bit s h _ _).mpr ⟨k, hk, by omega, by omega, by omega, by omega⟩, bx_br_bit]
      simp; omega
    rw [hy] at hb
    simp at hb
  · intro hf y hy1 hy2
    apply Nat.eq_of_testBit_eq
    intro x
    rw [Nat.testBit_and, Nat.zero_testBit, bx_br_bit]
    cases hb : (bx_t sd px py s y).testBit x with
    | false => rfl
    | true =>
      obtain ⟨k, hk, g1, g2, g3, g4⟩ := (bx_t_bit s h _ _).mp hb
      have := hf k hk
      unfold bx_ap at this
      simp; omega
theorem bx_t_congr {sd px py px' py' : Nat → Nat} : ∀ (s : Nat), (∀ k, k < s → px' k = px k ∧ py' k = py k) → ∀ y, bx_t sd px' py' s y = bx_t sd px py s y
  | 0, _, _ => rfl
  | s + 1, h, y => by
    unfold bx_t
    rw [bx_t_congr (sd := sd) s (fun k hk => h k (by omega)) y, (h s (by omega)).1, (h s (by omega)).2]
theorem bx_free_congr {sd px py px' py' : Nat → Nat} {s : Nat} (h : ∀ k, k ≤ s → px' k = px k ∧ py' k = py k) : bx_free sd px' py' s ↔ bx_free sd px py s := by
  unfold bx_free bx_ap
  constructor
  · intro q k hk
    have := q k hk
    rw [(h k (by omega)).1, (h k (by omega)).2, (h s (by omega)).1, (h s (by omega)).2] at this
    exact this
  · intro q k hk
    have := q k hk
    rw [(h k (by omega)).1, (h k (by omega)).2, (h s (by omega)).1, (h s (by omega)).2]
    exact this
theorem bx_run_le (A Bh cnt steps : Nat) (sd : Nat → Nat) : ∀ (n s : Nat) (px py : Nat → Nat) (tr : Nat), (bx_run A Bh cnt steps sd n s px py tr).1 ≤ 2
  | 0, _, _, _, _ => by unfold bx_run; exact Nat.le_refl _
  | n + 1, s, px, py, tr => by
    unfold bx_run
    split
    · show 1 ≤ 2; omega
    · split
      · split
        · show 0 ≤ 2; omega
        · exact bx_run_le A Bh cnt steps sd n _ _ _ _
      · split
        · show 2 ≤ 2; omega
        · split
          · exact bx_run_le A Bh cnt steps sd n _ _ _ _
          · exact bx_run_le A Bh cnt steps sd n _ _ _ _
end
section
/-! THE CLASS'S BOX: layAll, fill -/
theorem c_hasPlaceN (sc : Nat × (Nat → Int32)) (d : Nat) (H : tH) (r : tR) (c : tR) (P : tP) (w : tW) (bw : Int32) (bh : Int32) (bc : Int32) (bt : Int32) (bp : Int32) (si : tA) (ax : tA) (ay : tA) (tk : tA) (M : tM) (N : tN) (O : tO) {A Bh s x y sd : Nat} (hs : s < 8) (h1 : si s = nI sd) (h2 : ax s = nI x) (h3 : ay s = nI y) (hA : bw = nI A) (hB : bh = nI Bh) (b1 : sd < 100) (b2 : x < 100) (b3 : y < 100) (b4 : A < 100) (b5 : Bh < 100) :
    pm_D sc (d + 1) mX0_hasPlace [.ref 22, .int (nI s)] (hp H r c P w (bw, bh, bc, bt, bp, si, ax, ay, tk) M N O) (some (.int (if x + sd ≤ A ∧ y + sd ≤ Bh then 1 else 0))) (hp H r c P w (bw, bh, bc, bt, bp, si, ax, ay, tk) M N O) := by
  have h := c_hasPlace sc d H r c P w (bw, bh, bc, bt, bp, si, ax, ay, tk) M N O (nI s) (nu_in hs (by omega))
  dsimp only at h
  rw [nu_cl (by omega)] at h
  have e : (ax s + si s ≤ bw ∧ ay s + si s ≤ bh) ↔ (x + sd ≤ A ∧ y + sd ≤ Bh) := by
    rw [h1, h2, h3, hA, hB, nI_add, nI_add, nu_le (by omega) (by omega), nu_le (by omega) (by omega)]
  by_cases q : x + sd ≤ A ∧ y + sd ≤ Bh
  · rw [if_pos q]
    rw [if_pos (e.mpr q)] at h
    exact h
  · rw [if_neg q]
    rw [if_neg (fun z => q (e.mp z))] at h
    exact h
theorem c_goOnN (sc : Nat × (Nat → Int32)) (d : Nat) (H : tH) (r : tR) (c : tR) (P : tP) (w : tW) (bw : Int32) (bh : Int32) (bc : Int32) (bt : Int32) (bp : Int32) (si : tA) (ax : tA) (ay : tA) (tk : tA) (M : tM) (N : tN) (O : tO) {A s x y sd : Nat} (hs : s < 8) (h1 : si s = nI sd) (h2 : ax s = nI x) (h3 : ay s = nI y) (hA : bw = nI A) (b1 : sd < 100) (b2 : x < 100) (b3 : y < 100) (b4 : A < 100) :
    ∃ ax' ay' : tA, pm_D sc (d + 1) mX0_goOn [.ref 22, .int (nI s)] (hp H r c P w (bw, bh, bc, bt, bp, si, ax, ay, tk) M N O) none (hp H r c P w (bw, bh, bc, bt, bp, si, ax', ay', tk) M N O) ∧ (∀ k, ax' k = if k = s then nI (if x + 1 + sd ≤ A then x + 1 else 0) else ax k) ∧ (∀ k, ay' k = if k = s then nI (if x + 1 + sd ≤ A then y else y + 1) else ay k) := by
  have h := c_goOn sc d H r c P w (bw, bh, bc, bt, bp, si, ax, ay, tk) M N O (nI s) (nu_in hs (by omega))
  dsimp only at h
  have e1 : ax s + 1 + si s ≤ bw ↔ x + 1 + sd ≤ A := by rw [h1, h2, hA, nI_1, nI_add, nu_le (by omega) (by omega)]
  rw [nu_cl (by omega)] at h
  by_cases hc : x + 1 + sd ≤ A
  · rw [if_pos (e1.mpr hc)] at h
    refine ⟨_, _, h, fun k => ?_, fun k => ?_⟩
    · rw [nu_upd, h2, nI_1, if_pos hc]
    · rw [if_pos hc]
      split
      · rename_i hk; rw [hk]; exact h3
      · rfl
  · rw [if_neg (fun q => hc (e1.mp q))] at h
    refine ⟨_, _, h, fun k => ?_, fun k => ?_⟩
    · rw [nu_upd, if_neg hc]; rfl
    · rw [nu_upd, h3, nI_1, if_neg hc]
theorem c_tryPlace (sc : Nat × (Nat → Int32)) (d : Nat) (H : tH) (r : tR) (c : tR) (P : tP) (w : tW) (bw : Int32) (bh : Int32) (bc : Int32) (bt : Int32) (bp : Int32) (si : tA) (ax : tA) (ay : tA) (tk : tA) (M : tM) (N : tN) (O : tO) (s sd x y0 : Nat) (t : Nat → Nat) (hs : s < 8) (h1 : si s = nI sd) (h2 : ax s = nI x) (h3 : ay s = nI y0) (hx : x + sd ≤ 12) (hy : y0 + sd ≤ 12) (ht : ∀ y, y < 12 → tk y = nI (t y) ∧ t y < 4096) :
    ((∃ y, y0 ≤ y ∧ y < y0 + sd ∧ t y &&& bx_br sd x ≠ 0) ∧ pm_D sc (d + 3) mX0_tryPlace [.ref 22, .int (nI s)] (hp H r c P w (bw, bh, bc, bt, bp, si, ax, ay, tk) M N O) (some (.int 0)) (hp H r c P w (bw, bh, bc, bt + 1, bp, si, ax, ay, tk) M N O)) ∨
    ((∀ y, y0 ≤ y → y < y0 + sd → t y &&& bx_br sd x = 0) ∧ ∃ ax' ay' tk' : tA, pm_D sc (d + 3) mX0_tryPlace [.ref 22, .int (nI s)] (hp H r c P w (bw, bh, bc, bt, bp, si, ax, ay, tk) M N O) (some (.int 1)) (hp H r c P w (bw, bh, bc, bt + 1, bp, si, ax', ay', tk') M N O) ∧ (∀ y, y < 12 → tk' y = nI (if y0 ≤ y ∧ y < y0 + sd then t y ^^^ bx_br sd x else t y)) ∧ (∀ k, k ≤ s → ax' k = ax k ∧ ay' k = ay k) ∧ (s + 1 < 8 → ax' (s + 1) = 0 ∧ ay' (s + 1) = 0)) := by
  obtain ⟨v, hv, hc⟩ := c_isFree sc d H r c P w bw bh bc (bt + 1) bp si ax ay tk M N O s sd x y0 t hs h1 h2 h3 hx hy ht
  rcases hc with ⟨rfl, hz⟩ | ⟨rfl, hz⟩
  · right
    refine ⟨hz, ?_⟩
    obtain ⟨tk', hl, hl2⟩ := c_layOrLift sc d H r c P w bw bh bc (bt + 1) bp si ax ay tk M N O s sd x y0 t hs h1 h2 h3 hx hy (fun y hy => (ht y hy).1)
    have e1 : nI s + 1 = nI (s + 1) := nI_1 s
    have hso := c_startOver sc (d + 1) H r c P w (bw, bh, bc, bt + 1, bp, si, ax, ay, tk') M N O (nI s + 1) (by
      rw [e1]
      by_cases h8 : s + 1 < 8
      · exact Or.inl (nu_in h8 (by omega))
      · right; rw [nu_8, nu_le (by omega) (by omega)]; omega)
    dsimp only at hso
    by_cases h8 : s + 1 < 8
    · rw [if_neg (by rw [e1, nu_8, nu_le (by omega) (by omega)]; omega)] at hso
      refine ⟨upd ax (nI s + 1).toNatClampNeg 0, upd ay (nI s + 1).toNatClampNeg 0, tk', pm_in (pm_go [] 30 ⟨_, _, hv, ?_⟩), hl2, fun k hk => ?_, fun _ => ?_⟩
      · refine ⟨fun c1 => ⟨_, _, hl, _, _, hso, Or.inr rfl, rfl, rfl⟩, fun c1 => absurd c1 (by decide)⟩
      · rw [e1, nu_cl (by omega), nu_updN (by omega), nu_updN (by omega)]
        exact ⟨rfl, rfl⟩
      · rw [e1, nu_cl (by omega), nu_updS, nu_updS]
        exact ⟨rfl, rfl⟩
    · rw [if_pos (by rw [e1, nu_8, nu_le (by omega) (by omega)]; omega)] at hso
      refine ⟨ax, ay, tk', pm_in (pm_go [] 30 ⟨_, _, hv, ?_⟩), hl2, fun k hk => ⟨rfl, rfl⟩, fun q => absurd q h8⟩
      refine ⟨fun c1 => ⟨_, _, hl, _, _, hso, Or.inr rfl, rfl, rfl⟩, fun c1 => absurd c1 (by decide)⟩
  · left
    refine ⟨hz, pm_in (pm_go [] 30 ⟨_, _, hv, ?_⟩)⟩
    exact ⟨fun c1 => absurd rfl c1, fun c1 => ⟨Or.inl rfl, rfl, rfl⟩⟩
theorem c_layLoop (sc : Nat × (Nat → Int32)) (d : Nat) (H : tH) (r : tR) (c : tR) (P : tP) (w : tW) (bw : Int32) (bh : Int32) (bc : Int32) (bt : Int32) (bp : Int32) (si : tA) (ax : tA) (ay : tA) (tk : tA) (M : tM) (N : tN) (O : tO) (A Bh cnt steps : Nat) (sd : Nat → Nat) (hA : bw = nI A) (hB : bh = nI Bh) (hC : bc = nI cnt) (bA : A ≤ 12) (bB : Bh ≤ 12) (bC : cnt ≤ 8) (bS : steps ≤ 100000) (hsd : ∀ k, k < cnt → si k = nI (sd k) ∧ 1 ≤ sd k ∧ sd k ≤ 12) :
    ∀ (n s turn tr : Nat) (px py : Nat → Nat) (q t : Int32) (ax ay tk : tA), n + turn = 200002 → turn + s ≤ 2 * tr → tr ≤ steps → s ≤ cnt → q = nI s → t = nI turn → (∀ k, k ≤ s → k < 8 → ax k = nI (px k) ∧ ay k = nI (py k)) → (∀ y, y < 12 → tk y = nI (bx_t sd px py s y)) → (∀ k, k < s → bx_free sd px py k ∧ bx_fit A Bh sd px py k) → px s ≤ 12 → py s ≤ 12 →
      ∃ ax' ay' tk' : tA, pm_Go sc (d + 3) (pm_cd mX0_layAll) (6, [some (.ref 22), some (.int (nI steps)), some (.int q), some (.int t)], [], (hp H r c P w (bw, bh, bc, nI tr, bp, si, ax, ay, tk) M N O)) (fun r2 h2 => r2 = some (.int (nI (bx_run A Bh cnt steps sd n s px py tr).1)) ∧ h2 = (hp H r c P w (bw, bh, bc, nI (bx_run A Bh cnt steps sd n s px py tr).2.1, bp, si, ax', ay', tk') M N O)) ∧ ((bx_run A Bh cnt steps sd n s px py tr).1 = 1 → ∀ k, k < cnt → ax' k = nI ((bx_run A Bh cnt steps sd n s px py tr).2.2.1 k) ∧ ay' k = nI ((bx_run A Bh cnt steps sd n s px py tr).2.2.2 k)) := by
  intro n
  induction n with
  | zero =>
    intro s turn tr px py q t ax ay tk hn ht
    omega
  | succ n ih =>
    intro s turn tr px py q t ax ay tk hn ht htr hs hq htt hat htk hfr hpx hpy
    subst hq
    subst htt
    have hturn : ¬ (200002 : Int32) ≤ nI turn := by
      rw [show (200002 : Int32) = nI 200002 by decide, nu_le (by omega) (by omega)]; omega
    unfold bx_run
    by_cases hcs : cnt ≤ s
    · rw [if_pos hcs]
      have hsc : s = cnt := by omega
      refine ⟨ax, ay, tk, pm_go1 [6] 20 ⟨fun c1 => absurd c1 hturn, fun c1 => ⟨fun c2 => ?_, fun c2 => ⟨rfl, rfl⟩⟩⟩, fun _ k hk => hat k (by omega) (by omega)⟩
      have c2 : nI s < bc := c2
      rw [hC, nu_lt (by omega) (by omega)] at c2
      omega
    · rw [if_neg hcs]
      have hs8 : s < 8 := by omega
      obtain ⟨g1, g2, g3⟩ := hsd s (by omega)
      obtain ⟨a1, a2⟩ := hat s (Nat.le_refl _) hs8
      have hplace := c_hasPlaceN sc (d + 2) H r c P w bw bh bc (nI tr) bp si ax ay tk M N O (A := A) (Bh := Bh) hs8 g1 a1 a2 hA hB (by omega) (by omega) (by omega) (by omega) (by omega)
      have hlt : nI s < bc := by rw [hC, nu_lt (by omega) (by omega)]; omega
      by_cases hfit : bx_fit A Bh sd px py s
      · rw [if_neg (fun q => q hfit)]
        rw [if_pos hfit] at hplace
        by_cases hst : steps ≤ tr
        · rw [if_pos hst]
          refine ⟨ax, ay, tk, pm_go1 [6] 40 ⟨fun c1 => absurd c1 hturn, fun c1 => ⟨fun c2 => ⟨_, _, hplace, fun c3 => ⟨fun c4 => ?_, fun c4 => ⟨rfl, rfl⟩⟩, fun c3 => absurd c3 (by decide)⟩, fun c2 => absurd hlt c2⟩⟩, fun q => absurd (show (2 : Nat) = 1 from q) (by decide)⟩
          have c4 : nI tr < nI steps := c4
          rw [nu_lt (by omega) (by omega)] at c4
          omega
        · rw [if_neg hst]
          have htr4 : nI tr < nI steps := by rw [nu_lt (by omega) (by omega)]; omega
          have hfit12 : px s + sd s ≤ 12 ∧ py s + sd s ≤ 12 := ⟨by have := hfit.1; omega, by have := hfit.2; omega⟩
          have hb12 : ∀ k, k < s → px k + sd k ≤ 12 := fun k hk => by have := (hfr k hk).2.1; omega
          have htry := c_tryPlace sc d H r c P w bw bh bc (nI tr) bp si ax ay tk M N O s (sd s) (px s) (py s) (bx_t sd px py s) hs8 g1 a1 a2 hfit12.1 hfit12.2 (fun y hy => ⟨htk y hy, bx_t_lt s hb12 y⟩)
          have hiff := bx_free_iff (sd := sd) (px := px) (py := py) (s := s) (fun k hk => (hfr k hk).1) (fun k hk => (hsd k (by omega)).2.1)
          rcases htry with ⟨⟨y, y1, y2, y3⟩, htry⟩ | ⟨hz, ax', ay', tk', htry, htk', hax', hnew⟩
          · have hnf : ¬ bx_free sd px py s := fun q => y3 (hiff.mpr q y y1 y2)
            rw [if_neg (by simpa using hnf)]
            obtain ⟨ax2, ay2, hgo, e1, e2⟩ := c_goOnN sc (d + 2) H r c P w bw bh bc (nI tr + 1) bp si ax ay tk M N O (A := A) hs8 g1 a1 a2 hA (by omega) (by omega) (by omega) (by omega)
            have hf1 := hfit.1
            have hf2 := hfit.2
            obtain ⟨ax3, ay3, tk3, k1, k2⟩ := ih s (turn + 1) (tr + 1) (upN px s (bx_ax A sd px s)) (upN py s (bx_ay A sd px py s)) (nI s) (nI turn + 1) ax2 ay2 tk (by omega) (by omega) (by omega) hs rfl (nI_1 turn) (fun k hk h8 => by
                rw [e1, e2]
                unfold upN
                by_cases hks : k = s
                · subst hks
                  rw [if_pos rfl, if_pos rfl, if_pos rfl, if_pos rfl]
                  exact ⟨rfl, rfl⟩
                · rw [if_neg hks, if_neg hks, if_neg hks, if_neg hks]
                  exact hat k hk h8) (fun y hy => by
                rw [htk y hy, bx_t_congr (px := px) (py := py) (px' := upN px s (bx_ax A sd px s)) (py' := upN py s (bx_ay A sd px py s)) s (fun k hk => ⟨upN_ne (by omega), upN_ne (by omega)⟩)]) (fun k hk => ⟨(bx_free_congr (fun j hj => by unfold upN; rw [if_neg (by omega), if_neg (by omega)]; exact ⟨rfl, rfl⟩)).mpr (hfr k hk).1, by
                have := (hfr k hk).2
                unfold bx_fit upN at *
                rw [if_neg (by omega), if_neg (by omega)]
                exact this⟩) (by unfold upN bx_ax; rw [if_pos rfl]; split <;> omega) (by unfold upN bx_ay; rw [if_pos rfl]; split <;> omega)
            refine ⟨ax3, ay3, tk3, pm_go1 [6] 60 ⟨fun c1 => absurd c1 hturn, fun c1 => ⟨fun c2 => ⟨_, _, hplace, fun c3 => ⟨fun c4 => ⟨_, _, htry, fun c5 => ⟨_, _, hgo, ?_⟩, fun c5 => absurd rfl c5⟩, fun c4 => absurd htr4 c4⟩, fun c3 => absurd c3 (by decide)⟩, fun c2 => absurd hlt c2⟩⟩, k2⟩
            rw [← nI_1 tr] at k1
            exact k1
          · have hfree : bx_free sd px py s := hiff.mp hz
            rw [if_pos (by simpa using hfree)]
            obtain ⟨ax3, ay3, tk3, k1, k2⟩ := ih (s + 1) (turn + 1) (tr + 1) (upN px (s + 1) 0) (upN py (s + 1) 0) (nI s + 1) (nI turn + 1) ax' ay' tk' (by omega) (by omega) (by omega) (by omega) (nI_1 s) (nI_1 turn) (fun k hk h8 => by
                unfold upN
                by_cases hks : k = s + 1
                · subst hks
                  rw [if_pos rfl, if_pos rfl]
                  exact hnew h8
                · rw [if_neg hks, if_neg hks, (hax' k (by omega)).1, (hax' k (by omega)).2]
                  exact hat k (by omega) h8) (fun y hy => by
                rw [htk' y hy]
                show _ = nI (if upN py (s + 1) 0 s ≤ y ∧ y < upN py (s + 1) 0 s + sd s then bx_t sd (upN px (s + 1) 0) (upN py (s + 1) 0) s y ^^^ bx_br (sd s) (upN px (s + 1) 0 s) else bx_t sd (upN px (s + 1) 0) (upN py (s + 1) 0) s y)
                rw [bx_t_congr (px := px) (py := py) (px' := upN px (s + 1) 0) (py' := upN py (s + 1) 0) s (fun k hk => ⟨upN_ne (by omega), upN_ne (by omega)⟩), upN_ne (f := px) (show s ≠ s + 1 by omega), upN_ne (f := py) (show s ≠ s + 1 by omega)]) (fun k hk => ⟨(bx_free_congr (fun j hj => by unfold upN; rw [if_neg (by omega), if_neg (by omega)]; exact ⟨rfl, rfl⟩)).mpr (by
                by_cases hks : k = s
                · subst hks; exact hfree
                · exact (hfr k (by omega)).1), by
                have : bx_fit A Bh sd px py k := by
                  by_cases hks : k = s
                  · subst hks; exact hfit
                  · exact (hfr k (by omega)).2
                unfold bx_fit upN at *
                rw [if_neg (by omega), if_neg (by omega)]
                exact this⟩) (by unfold upN; rw [if_pos rfl]; omega) (by unfold upN; rw [if_pos rfl]; omega)
            refine ⟨ax3, ay3, tk3, pm_go1 [6] 60 ⟨fun c1 => absurd c1 hturn, fun c1 => ⟨fun c2 => ⟨_, _, hplace, fun c3 => ⟨fun c4 => ⟨_, _, htry, fun c5 => absurd c5 (by decide), fun c5 => ?_⟩, fun c4 => absurd htr4 c4⟩, fun c3 => absurd c3 (by decide)⟩, fun c2 => absurd hlt c2⟩⟩, k2⟩
            rw [← nI_1 tr] at k1
            exact k1
      · rw [if_pos hfit]
        rw [if_neg hfit] at hplace
        by_cases hs0 : s = 0
        · rw [if_pos hs0]
          subst hs0
          exact ⟨ax, ay, tk, pm_go1 [6] 40 ⟨fun c1 => absurd c1 hturn, fun c1 => ⟨fun c2 => ⟨_, _, hplace, fun c3 => absurd rfl c3, fun c3 => ⟨fun c4 => absurd rfl c4, fun c4 => ⟨rfl, rfl⟩⟩⟩, fun c2 => absurd hlt c2⟩⟩, fun q => absurd (show (0 : Nat) = 1 from q) (by decide)⟩
        · rw [if_neg hs0]
          obtain ⟨s', rfl⟩ : ∃ s', s = s' + 1 := ⟨s - 1, by omega⟩
          rw [show s' + 1 - 1 = s' by omega]
          have e0 : nI (s' + 1) + (-1) = nI s' := pk_m1 s'
          obtain ⟨f1, f2⟩ := hfr s' (by omega)
          have f2a := f2.1
          have f2b := f2.2
          obtain ⟨l1, l2, l3⟩ := hsd s' (by omega)
          obtain ⟨m1, m2⟩ := hat s' (by omega) (by omega)
          obtain ⟨tk', hl, hl2⟩ := c_layOrLift sc (d + 1) H r c P w bw bh bc (nI tr) bp si ax ay tk M N O s' (sd s') (px s') (py s') (bx_t sd px py (s' + 1)) (by omega) l1 m1 m2 (by omega) (by omega) htk
          obtain ⟨ax2, ay2, hgo, e1, e2⟩ := c_goOnN sc (d + 2) H r c P w bw bh bc (nI tr) bp si ax ay tk' M N O (A := A) (s := s') (by omega) l1 m1 m2 hA (by omega) (by omega) (by omega) (by omega)
          obtain ⟨ax3, ay3, tk3, k1, k2⟩ := ih s' (turn + 1) tr (upN px s' (bx_ax A sd px s')) (upN py s' (bx_ay A sd px py s')) (nI (s' + 1) + (-1)) (nI turn + 1) ax2 ay2 tk' (by omega) (by omega) (by omega) (by omega) e0 (nI_1 turn) (fun k hk h8 => by
              rw [e1, e2]
              unfold upN
              by_cases hks : k = s'
              · subst hks
                rw [if_pos rfl, if_pos rfl, if_pos rfl, if_pos rfl]
                exact ⟨rfl, rfl⟩
              · rw [if_neg hks, if_neg hks, if_neg hks, if_neg hks]
                exact hat k (by omega) h8) (fun y hy => by
              rw [hl2 y hy, bx_t_congr (px := px) (py := py) (px' := upN px s' (bx_ax A sd px s')) (py' := upN py s' (bx_ay A sd px py s')) s' (fun k hk => ⟨upN_ne (by omega), upN_ne (by omega)⟩)]
              show nI (if py s' ≤ y ∧ y < py s' + sd s' then (if py s' ≤ y ∧ y < py s' + sd s' then bx_t sd px py s' y ^^^ bx_br (sd s') (px s') else bx_t sd px py s' y) ^^^ bx_br (sd s') (px s') else (if py s' ≤ y ∧ y < py s' + sd s' then bx_t sd px py s' y ^^^ bx_br (sd s') (px s') else bx_t sd px py s' y)) = _
              by_cases hy2 : py s' ≤ y ∧ y < py s' + sd s'
              · rw [if_pos hy2, if_pos hy2, Nat.xor_assoc, Nat.xor_self, Nat.xor_zero]
              · rw [if_neg hy2, if_neg hy2]) (fun k hk => ⟨(bx_free_congr (fun j hj => by unfold upN; rw [if_neg (by omega), if_neg (by omega)]; exact ⟨rfl, rfl⟩)).mpr (hfr k (by omega)).1, by
              have := (hfr k (by omega)).2
              unfold bx_fit upN at *
              rw [if_neg (by omega), if_neg (by omega)]
              exact this⟩) (by unfold upN bx_ax; rw [if_pos rfl]; split <;> omega) (by unfold upN bx_ay; rw [if_pos rfl]; split <;> omega)
          rw [← e0] at hl hgo
          have hne : ¬ nI (s' + 1) = 0 := by rw [nu_0, nu_eq (by omega) (by omega)]; omega
          exact ⟨ax3, ay3, tk3, pm_go1 [6] 60 ⟨fun c1 => absurd c1 hturn, fun c1 => ⟨fun c2 => ⟨_, _, hplace, fun c3 => absurd rfl c3, fun c3 => ⟨fun c4 => ⟨_, _, hl, _, _, hgo, k1⟩, fun c4 => absurd c4 hne⟩⟩, fun c2 => absurd hlt c2⟩⟩, k2⟩
/-- fill: the whole packing -/
theorem c_fill (sc : Nat × (Nat → Int32)) (d : Nat) (H : tH) (r : tR) (c : tR) (P : tP) (w : tW) (bw : Int32) (bh : Int32) (bc : Int32) (bt : Int32) (bp : Int32) (si : tA) (ax : tA) (ay : tA) (tk : tA) (M : tM) (N : tN) (O : tO) (A Bh cnt steps : Nat) (sd : Nat → Nat) (hA : bw = nI A) (hB : bh = nI Bh) (hC : bc = nI cnt) (bA : A ≤ 12) (bB : Bh ≤ 12) (bC : cnt ≤ 8) (bS : steps ≤ 100000) (hsd : ∀ k, k < cnt → si k = nI (sd k) ∧ 1 ≤ sd k ∧ sd k ≤ 12) :
    ∃ ax' ay' tk' : tA, pm_D sc (d + 5) mX0_fill [.ref 22, .int (nI steps)] (hp H r c P w (bw, bh, bc, bt, bp, si, ax, ay, tk) M N O) (some (.int (nI (bx_run A Bh cnt steps sd 200002 0 (fun _ => 0) (fun _ => 0) 0).1))) (hp H r c P w (bw, bh, bc, nI (bx_run A Bh cnt steps sd 200002 0 (fun _ => 0) (fun _ => 0) 0).2.1, if (bx_run A Bh cnt steps sd 200002 0 (fun _ => 0) (fun _ => 0) 0).1 = 1 then 1 else 0, si, ax', ay', tk') M N O) ∧ ((bx_run A Bh cnt steps sd 200002 0 (fun _ => 0) (fun _ => 0) 0).1 = 1 → ∀ k, k < cnt → ax' k = nI ((bx_run A Bh cnt steps sd 200002 0 (fun _ => 0) (fun _ => 0) 0).2.2.1 k) ∧ ay' k = nI ((bx_run A Bh cnt steps sd 200002 0 (fun _ => 0) (fun _ => 0) 0).2.2.2 k)) := by
  obtain ⟨tk1, hz, he⟩ := c_emptyBox sc (d + 1) H r c P w bw bh bc 0 bp si ax ay tk M N O
  obtain ⟨ax', ay', tk', g1, g2⟩ := c_layLoop sc d H r c P w bw bh bc (nI 0) bp si ax ay tk M N O A Bh cnt steps sd hA hB hC bA bB bC bS hsd 200002 0 0 0 (fun _ => 0) (fun _ => 0) 0 0 (upd ax 0 0) (upd ay 0 0) tk1 rfl (by omega) (by omega) (by omega) nu_0 nu_0 (fun k hk h8 => by
      have : k = 0 := by omega
      subst this
      rw [nu_updS, nu_updS]
      exact ⟨nu_0, nu_0⟩) (fun y hy => by rw [hz y hy]; exact nu_0) (fun k hk => absurd hk (by omega)) (by omega) (by omega)
  have hcode : (bx_run A Bh cnt steps sd 200002 0 (fun _ => 0) (fun _ => 0) 0).1 ≤ 2 := bx_run_le _ _ _ _ _ _ _ _ _ _
  generalize bx_run A Bh cnt steps sd 200002 0 (fun _ => 0) (fun _ => 0) 0 = R at g1 g2 hcode ⊢
  refine ⟨ax', ay', tk', ?_, g2⟩
  have hlay : pm_D sc (d + 4) mX0_layAll [.ref 22, .int (nI steps)] (hp H r c P w (bw, bh, bc, 0, bp, si, ax, ay, tk) M N O) (some (.int (nI R.1))) (hp H r c P w (bw, bh, bc, nI R.2.1, bp, si, ax', ay', tk') M N O) := by
    refine pm_in (pm_go [6] 20 ⟨_, _, he, ?_⟩)
    exact g1
  refine pm_in (pm_go [] 30 ⟨_, _, hlay, fun c1 => ?_, fun c1 => ?_⟩)
  · have c1 : ¬ nI R.1 = 1 := c1
    rw [nu_1, nu_eq (by omega) (by omega)] at c1
    rw [if_neg c1]
    exact ⟨Or.inl rfl, rfl, rfl⟩
  · have c1 : nI R.1 = 1 := c1
    rw [nu_1, nu_eq (by omega) (by omega)] at c1
    rw [if_pos c1]
    exact ⟨Or.inr rfl, rfl, rfl⟩
end
section
/-! THE REFERENCE'S BOX -/
theorem r_within (sc : Nat × (Nat → Int32)) (d : Nat) (h : pm_H) (x lo hi : Int32) : pm_D sc (d + 1) mX6_within [.int x, .int lo, .int hi] h (some (.int (if lo ≤ x ∧ x ≤ hi then 1 else 0))) h := by
  refine pm_in (pm_go [] 12 ?_)
  refine ⟨fun c1 => ?_, fun c1 => ?_⟩
  · refine ⟨Or.inl rfl, ?_, rfl⟩
    rw [if_neg (fun q => absurd q.1 (Int32.not_le.mpr c1))]
  · refine ⟨fun c2 => ?_, fun c2 => ?_⟩
    · refine ⟨Or.inl rfl, ?_, rfl⟩
      rw [if_neg (fun q => absurd q.2 (Int32.not_le.mpr c2))]
    · refine ⟨Or.inr rfl, ?_, rfl⟩
      rw [if_pos ⟨Int32.not_lt.mp c1, Int32.not_lt.mp c2⟩]
theorem r_isApart (sc : Nat × (Nat → Int32)) (d : Nat) (H : tH) (r : tR) (c : tR) (P : tP) (w : tW) (B : tB) (M : tM) (na : Int32) (nb : Int32) (nc : Int32) (ns : tA) (nx : tA) (ny : tA) (np : Int32) (nt : Int32) (O : tO) (sd px py : Nat → Nat) (a k : Nat) (ha : a < 8) (hk : k < 8) (h1 : ns a = nI (sd a)) (h2 : nx a = nI (px a)) (h3 : ny a = nI (py a)) (h4 : ns k = nI (sd k)) (h5 : nx k = nI (px k)) (h6 : ny k = nI (py k)) (b1 : sd a < 100) (b2 : px a < 100) (b3 : py a < 100) (b4 : sd k < 100) (b5 : px k < 100) (b6 : py k < 100) :
    ∃ v : Int32, pm_D sc (d + 1) mX6_isApart [.ref 27, .int (nI a), .int (nI k)] (hp H r c P w B M (na, nb, nc, ns, nx, ny, np, nt) O) (some (.int v)) (hp H r c P w B M (na, nb, nc, ns, nx, ny, np, nt) O) ∧ ((v = 1 ∧ bx_ap sd px py a k) ∨ (v = 0 ∧ ¬ bx_ap sd px py a k)) := by
  have ia : vp_in (nI a) 8 := nu_in ha (by omega)
  have ik : vp_in (nI k) 8 := nu_in hk (by omega)
  have e1 : nx (nI k).toNatClampNeg + ns (nI k).toNatClampNeg ≤ nx (nI a).toNatClampNeg ↔ px k + sd k ≤ px a := by rw [nu_cl (by omega), nu_cl (by omega), h2, h4, h5, nI_add, nu_le (by omega) (by omega)]
  have e2 : nx (nI a).toNatClampNeg + ns (nI a).toNatClampNeg ≤ nx (nI k).toNatClampNeg ↔ px a + sd a ≤ px k := by rw [nu_cl (by omega), nu_cl (by omega), h2, h1, h5, nI_add, nu_le (by omega) (by omega)]
  have e3 : ny (nI k).toNatClampNeg + ns (nI k).toNatClampNeg ≤ ny (nI a).toNatClampNeg ↔ py k + sd k ≤ py a := by rw [nu_cl (by omega), nu_cl (by omega), h3, h4, h6, nI_add, nu_le (by omega) (by omega)]
  have e4 : ny (nI k).toNatClampNeg < ny (nI a).toNatClampNeg + ns (nI a).toNatClampNeg ↔ py k < py a + sd a := by rw [nu_cl (by omega), nu_cl (by omega), h3, h1, h6, nI_add, nu_lt (by omega) (by omega)]
  by_cases q1 : px k + sd k ≤ px a
  · exact ⟨1, pm_in (pm_go [] 70 ⟨ia, ik, ik, fun c1 => ⟨Or.inr rfl, rfl, rfl⟩, fun c1 => absurd (e1.mpr q1) c1⟩), Or.inl ⟨rfl, Or.inl q1⟩⟩
  · have n1 := fun z => q1 (e1.mp z)
    by_cases q2 : px a + sd a ≤ px k
    · exact ⟨1, pm_in (pm_go [] 70 ⟨ia, ik, ik, fun c1 => absurd c1 n1, fun c1 => ⟨ik, ia, ia, fun c2 => ⟨Or.inr rfl, rfl, rfl⟩, fun c2 => absurd (e2.mpr q2) c2⟩⟩), Or.inl ⟨rfl, Or.inr (Or.inl q2)⟩⟩
    · have n2 := fun z => q2 (e2.mp z)
      by_cases q3 : py k + sd k ≤ py a
      · exact ⟨1, pm_in (pm_go [] 70 ⟨ia, ik, ik, fun c1 => absurd c1 n1, fun c1 => ⟨ik, ia, ia, fun c2 => absurd c2 n2, fun c2 => ⟨ia, ik, ik, fun c3 => ⟨Or.inr rfl, rfl, rfl⟩, fun c3 => absurd (e3.mpr q3) c3⟩⟩⟩), Or.inl ⟨rfl, Or.inr (Or.inr (Or.inl q3))⟩⟩
      · have n3 := fun z => q3 (e3.mp z)
        by_cases q4 : py k < py a + sd a
        · exact ⟨0, pm_in (pm_go [] 70 ⟨ia, ik, ik, fun c1 => absurd c1 n1, fun c1 => ⟨ik, ia, ia, fun c2 => absurd c2 n2, fun c2 => ⟨ia, ik, ik, fun c3 => absurd c3 n3, fun c3 => ⟨ik, ia, ia, fun c4 => ⟨Or.inl rfl, rfl, rfl⟩, fun c4 => absurd (e4.mpr q4) c4⟩⟩⟩⟩), Or.inr ⟨rfl, by unfold bx_ap; omega⟩⟩
        · exact ⟨1, pm_in (pm_go [] 70 ⟨ia, ik, ik, fun c1 => absurd c1 n1, fun c1 => ⟨ik, ia, ia, fun c2 => absurd c2 n2, fun c2 => ⟨ia, ik, ik, fun c3 => absurd c3 n3, fun c3 => ⟨ik, ia, ia, fun c4 => absurd (e4.mp c4) q4, fun c4 => ⟨Or.inr rfl, rfl, rfl⟩⟩⟩⟩⟩), Or.inl ⟨rfl, by unfold bx_ap; omega⟩⟩
theorem r_lies (sc : Nat × (Nat → Int32)) (d : Nat) (H : tH) (r : tR) (c : tR) (P : tP) (w : tW) (B : tB) (M : tM) (na : Int32) (nb : Int32) (nc : Int32) (ns : tA) (nx : tA) (ny : tA) (np : Int32) (nt : Int32) (O : tO) (sd px py : Nat → Nat) (s : Nat) (hs : s < 8) (h1 : ∀ k, k ≤ s → ns k = nI (sd k) ∧ nx k = nI (px k) ∧ ny k = nI (py k) ∧ sd k < 100 ∧ px k < 100 ∧ py k < 100) :
    ∃ v : Int32, pm_D sc (d + 2) mX6_lies [.ref 27, .int (nI s)] (hp H r c P w B M (na, nb, nc, ns, nx, ny, np, nt) O) (some (.int v)) (hp H r c P w B M (na, nb, nc, ns, nx, ny, np, nt) O) ∧ ((v = 1 ∧ bx_free sd px py s) ∨ (v = 0 ∧ ¬ bx_free sd px py s)) := by
  have loop : ∀ (n k : Nat) (f x : Int32), k + n = s → x = nI k → ((f = 1 ∧ ∀ j, j < k → bx_ap sd px py s j) ∨ (f = 0 ∧ ∃ j, j < k ∧ ¬ bx_ap sd px py s j)) → ∃ v : Int32, pm_Go sc (d + 1) (pm_cd mX6_lies) (4, [some (.ref 27), some (.int (nI s)), some (.int f), some (.int x)], [], (hp H r c P w B M (na, nb, nc, ns, nx, ny, np, nt) O)) (fun r2 h2 => r2 = some (.int v) ∧ h2 = (hp H r c P w B M (na, nb, nc, ns, nx, ny, np, nt) O)) ∧ ((v = 1 ∧ bx_free sd px py s) ∨ (v = 0 ∧ ¬ bx_free sd px py s)) := by
    intro n
    induction n with
    | zero =>
      intro k f x hk hx hf
      subst hx
      have hks : k = s := by omega
      subst hks
      have hle : nI k ≤ nI k := (nu_le (by omega) (by omega)).mpr (Nat.le_refl _)
      rcases hf with ⟨rfl, hf⟩ | ⟨rfl, j, hj, hf⟩
      · exact ⟨1, pm_go [] 8 ⟨fun c1 => ⟨Or.inr rfl, rfl, rfl⟩, fun c1 => absurd hle c1⟩, Or.inl ⟨rfl, hf⟩⟩
      · exact ⟨0, pm_go [] 8 ⟨fun c1 => ⟨Or.inl rfl, rfl, rfl⟩, fun c1 => absurd hle c1⟩, Or.inr ⟨rfl, fun q => hf (q j hj)⟩⟩
    | succ n ih =>
      intro k f x hk hx hf
      subst hx
      have hnle : ¬ nI s ≤ nI k := by rw [nu_le (by omega) (by omega)]; omega
      rcases hf with ⟨rfl, hf⟩ | ⟨rfl, j, hj, hf⟩
      · obtain ⟨s1, s2, s3, s4, s5, s6⟩ := h1 s (Nat.le_refl _)
        obtain ⟨k1, k2, k3, k4, k5, k6⟩ := h1 k (by omega)
        obtain ⟨v, hv, hc⟩ := r_isApart sc d H r c P w B M na nb nc ns nx ny np nt O sd px py s k hs (by omega) s1 s2 s3 k1 k2 k3 s4 s5 s6 k4 k5 k6
        rcases hc with ⟨rfl, hc⟩ | ⟨rfl, hc⟩
        · obtain ⟨v, g1, g2⟩ := ih (k + 1) 1 (nI k + 1) (by omega) (nI_1 k) (Or.inl ⟨rfl, fun j hj => by
            by_cases hjk : j = k
            · subst hjk; exact hc
            · exact hf j (by omega)⟩)
          exact ⟨v, pm_go1 [4] 30 ⟨fun c1 => absurd c1 hnle, fun c1 => ⟨fun c2 => absurd c2 (by decide), fun c2 => ⟨_, _, hv, fun c3 => absurd c3 (by decide), fun c3 => g1⟩⟩⟩, g2⟩
        · obtain ⟨v, g1, g2⟩ := ih (k + 1) 0 (nI k + 1) (by omega) (nI_1 k) (Or.inr ⟨rfl, k, by omega, hc⟩)
          exact ⟨v, pm_go1 [4] 30 ⟨fun c1 => absurd c1 hnle, fun c1 => ⟨fun c2 => absurd c2 (by decide), fun c2 => ⟨_, _, hv, fun c3 => g1, fun c3 => absurd rfl c3⟩⟩⟩, g2⟩
      · obtain ⟨v, g1, g2⟩ := ih (k + 1) 0 (nI k + 1) (by omega) (nI_1 k) (Or.inr ⟨rfl, j, by omega, hf⟩)
        exact ⟨v, pm_go1 [4] 30 ⟨fun c1 => absurd c1 hnle, fun c1 => ⟨fun c2 => g1, fun c2 => absurd rfl c2⟩⟩, g2⟩
  obtain ⟨v, g1, g2⟩ := loop s 0 1 0 (by omega) nu_0 (Or.inl ⟨rfl, fun j hj => absurd hj (by omega)⟩)
  exact ⟨v, pm_in (pm_go [4] 6 g1), g2⟩
theorem r_goesOn (sc : Nat × (Nat → Int32)) (d : Nat) (H : tH) (r : tR) (c : tR) (P : tP) (w : tW) (B : tB) (M : tM) (na : Int32) (nb : Int32) (nc : Int32) (ns : tA) (nx : tA) (ny : tA) (np : Int32) (nt : Int32) (O : tO) (A Bh sd u sy s : Nat) (hs : s < 8) (hA : na = nI A) (hB : nb = nI Bh) (h1 : ns s = nI sd) (h2 : nx s + 1 = nI u) (h3 : ny s = nI sy) (b1 : A < 100) (b2 : Bh < 100) (b3 : sd < 100) (b4 : u < 100) (b5 : sy < 100) :
    ∃ (v : Int32) (nx' ny' : tA), pm_D sc (d + 1) mX6_goesOn [.ref 27, .int (nI s)] (hp H r c P w B M (na, nb, nc, ns, nx, ny, np, nt) O) (some (.int v)) (hp H r c P w B M (na, nb, nc, ns, nx', ny', np, nt) O) ∧ (∀ k, nx' k = if k = s then nI (if u + sd ≤ A then u else 0) else nx k) ∧ (∀ k, ny' k = if k = s then nI (if u + sd ≤ A then sy else sy + 1) else ny k) ∧ ((v = 1 ∧ sd ≤ A ∧ (if u + sd ≤ A then sy else sy + 1) + sd ≤ Bh) ∨ (v = 0 ∧ ¬ (sd ≤ A ∧ (if u + sd ≤ A then sy else sy + 1) + sd ≤ Bh))) := by
  have hi : vp_in (nI s) 8 := nu_in hs (by omega)
  have hcl : (nI s).toNatClampNeg = s := nu_cl (by omega)
  have tA : na.toInt = A := by rw [hA]; exact nu_ti (by omega)
  have tB : nb.toInt = Bh := by rw [hB]; exact nu_ti (by omega)
  have ts : (ns s).toInt = sd := by rw [h1]; exact nu_ti (by omega)
  have tx : (na - ns s).toInt = (A : Int) - sd := by rw [nu_sub (by omega) (by omega), tA, ts]
  have ty : (nb - ns s).toInt = (Bh : Int) - sd := by rw [nu_sub (by omega) (by omega), tB, ts]
  have c1i : (nx s + 1) ≤ na - ns s ↔ u + sd ≤ A := by
    rw [Int32.le_iff_toInt_le, tx, h2, nu_ti (by omega)]; omega
  have c2i : na - ns s < 0 ↔ A < sd := by
    rw [Int32.lt_iff_toInt_lt, tx]; show _ < (0 : Int) ↔ _; omega
  by_cases q1 : u + sd ≤ A
  · have c3i : nb - ns s < ny s ↔ ¬ sy + sd ≤ Bh := by
      rw [Int32.lt_iff_toInt_lt, ty, h3, nu_ti (by omega)]; omega
    have nneg : ¬ na - ns s < 0 := by rw [c2i]; omega
    have goal1 : ∀ k, upd nx (nI s).toNatClampNeg (nx (nI s).toNatClampNeg + 1) k = if k = s then nI (if u + sd ≤ A then u else 0) else nx k := fun k => by rw [hcl, nu_upd, h2, if_pos q1]
    have goal2 : ∀ k, ny k = if k = s then nI (if u + sd ≤ A then sy else sy + 1) else ny k := fun k => by
      rw [if_pos q1]; split
      · rename_i hk; rw [hk]; exact h3
      · rfl
    have e1 : upd nx (nI s).toNatClampNeg (pm_ib 0 (nx (nI s).toNatClampNeg) 1) (nI s).toNatClampNeg ≤ pm_ib 1 na (ns (nI s).toNatClampNeg) := by
      rw [nu_updS, hcl]; exact c1i.mpr q1
    have e2 : ¬ pm_ib 1 na (ns (nI s).toNatClampNeg) < 0 := by rw [hcl]; exact nneg
    by_cases q2 : sy + sd ≤ Bh
    · refine ⟨1, _, ny, pm_in (pm_go [] 70 ⟨hi, hi, hi, hi, hi, fun c1 => ⟨fun c2 => absurd c2 e2, fun c2 => ⟨hi, fun c3 => ?_, fun c3 => ⟨Or.inr rfl, rfl, rfl⟩⟩⟩, fun c1 => absurd e1 c1⟩), goal1, goal2, Or.inl ⟨rfl, by omega, by rw [if_pos q1]; exact q2⟩⟩
      have c3 : nb - ns (nI s).toNatClampNeg < ny (nI s).toNatClampNeg := c3
      rw [hcl] at c3
      exact absurd q2 (c3i.mp c3)
    · refine ⟨0, _, ny, pm_in (pm_go [] 70 ⟨hi, hi, hi, hi, hi, fun c1 => ⟨fun c2 => absurd c2 e2, fun c2 => ⟨hi, fun c3 => ⟨Or.inl rfl, rfl, rfl⟩, fun c3 => ?_⟩⟩, fun c1 => absurd e1 c1⟩), goal1, goal2, Or.inr ⟨rfl, by rw [if_pos q1]; omega⟩⟩
      have c3 : ¬ nb - ns (nI s).toNatClampNeg < ny (nI s).toNatClampNeg := c3
      rw [hcl] at c3
      exact absurd (c3i.mpr q2) c3
  · have c3i : nb - ns s < ny s + 1 ↔ ¬ sy + 1 + sd ≤ Bh := by
      rw [Int32.lt_iff_toInt_lt, ty, h3, nI_1, nu_ti (by omega)]; omega
    have goal1 : ∀ k, upd (upd nx (nI s).toNatClampNeg (nx (nI s).toNatClampNeg + 1)) (nI s).toNatClampNeg 0 k = if k = s then nI (if u + sd ≤ A then u else 0) else nx k := fun k => by rw [nu_uu, hcl, nu_upd, if_neg q1]; rfl
    have goal2 : ∀ k, upd ny (nI s).toNatClampNeg (ny (nI s).toNatClampNeg + 1) k = if k = s then nI (if u + sd ≤ A then sy else sy + 1) else ny k := fun k => by
      rw [hcl, nu_upd, h3, nI_1, if_neg q1]
    have e1 : ¬ upd nx (nI s).toNatClampNeg (pm_ib 0 (nx (nI s).toNatClampNeg) 1) (nI s).toNatClampNeg ≤ pm_ib 1 na (ns (nI s).toNatClampNeg) := by
      rw [nu_updS, hcl]; exact fun z => q1 (c1i.mp z)
    by_cases q0 : A < sd
    · have e2 : pm_ib 1 na (ns (nI s).toNatClampNeg) < 0 := by rw [hcl]; exact c2i.mpr q0
      exact ⟨0, _, _, pm_in (pm_go [] 70 ⟨hi, hi, hi, hi, hi, fun c1 => absurd c1 e1, fun c1 => ⟨hi, hi, hi, fun c2 => ⟨Or.inl rfl, rfl, rfl⟩, fun c2 => absurd e2 c2⟩⟩), goal1, goal2, Or.inr ⟨rfl, by omega⟩⟩
    · have e2 : ¬ pm_ib 1 na (ns (nI s).toNatClampNeg) < 0 := by rw [hcl]; exact fun z => q0 (c2i.mp z)
      by_cases q2 : sy + 1 + sd ≤ Bh
      · refine ⟨1, _, _, pm_in (pm_go [] 70 ⟨hi, hi, hi, hi, hi, fun c1 => absurd c1 e1, fun c1 => ⟨hi, hi, hi, fun c2 => absurd c2 e2, fun c2 => ⟨hi, fun c3 => ?_, fun c3 => ⟨Or.inr rfl, rfl, rfl⟩⟩⟩⟩), goal1, goal2, Or.inl ⟨rfl, by omega, by rw [if_neg q1]; exact q2⟩⟩
        have c3 : nb - ns (nI s).toNatClampNeg < upd ny (nI s).toNatClampNeg (ny (nI s).toNatClampNeg + 1) (nI s).toNatClampNeg := c3
        rw [nu_updS, hcl] at c3
        exact absurd q2 (c3i.mp c3)
      · refine ⟨0, _, _, pm_in (pm_go [] 70 ⟨hi, hi, hi, hi, hi, fun c1 => absurd c1 e1, fun c1 => ⟨hi, hi, hi, fun c2 => absurd c2 e2, fun c2 => ⟨hi, fun c3 => ⟨Or.inl rfl, rfl, rfl⟩, fun c3 => ?_⟩⟩⟩), goal1, goal2, Or.inr ⟨rfl, by rw [if_neg q1]; omega⟩⟩
        have c3 : ¬ nb - ns (nI s).toNatClampNeg < upd ny (nI s).toNatClampNeg (ny (nI s).toNatClampNeg + 1) (nI s).toNatClampNeg := c3
        rw [nu_updS, hcl] at c3
        exact absurd (c3i.mpr q2) c3
end
section
/-! THE REFERENCE'S pack -/
/-- the place that is stored (x one less) moves on to the place that is tried next -/
def bx_rel (A sd u sy x y : Nat) : Prop := (u + sd ≤ A ∧ x = u ∧ y = sy) ∨ (A < u + sd ∧ sd ≤ A ∧ x = 0 ∧ y = sy + 1) ∨ A < sd
theorem r_packLoop (sc : Nat × (Nat → Int32)) (d : Nat) (H : tH) (r : tR) (c : tR) (P : tP) (w : tW) (B : tB) (M : tM) (na : Int32) (nb : Int32) (nc : Int32) (ns : tA) (nx : tA) (ny : tA) (np : Int32) (nt : Int32) (O : tO) (A Bh cnt steps : Nat) (sd : Nat → Nat) (hA : na = nI A) (hB : nb = nI Bh) (hC : nc = nI cnt) (bA : A ≤ 12) (bB : Bh ≤ 12) (bC : cnt ≤ 8) (bS : steps ≤ 100000) (hsd : ∀ k, k < cnt → ns k = nI (sd k) ∧ 1 ≤ sd k ∧ sd k ≤ 12) :
    ∀ (n s turn tr u sy : Nat) (px py : Nat → Nat) (q : Int32) (nx ny : tA), n + turn = 200002 → turn + s ≤ 2 * tr → tr ≤ steps → s ≤ cnt → q = nI s → (∀ k, k < s → nx k = nI (px k) ∧ ny k = nI (py k) ∧ bx_fit A Bh sd px py k) → (s < cnt → nx s + 1 = nI u ∧ ny s = nI sy ∧ bx_rel A (sd s) u sy (px s) (py s)) → u ≤ 13 → sy ≤ 12 →
      ∃ nx' ny' : tA, pm_Go sc (d + 2) (pm_cd mX6_pack) (28, [some (.ref 27), some (.int (nI steps)), some (.int q)], [], (hp H r c P w B M (na, nb, nc, ns, nx, ny, 0, nI tr) O)) (fun r2 h2 => r2 = some (.int (nI (bx_run A Bh cnt steps sd n s px py tr).1)) ∧ h2 = (hp H r c P w B M (na, nb, nc, ns, nx', ny', if (bx_run A Bh cnt steps sd n s px py tr).1 = 1 then 1 else 0, nI (bx_run A Bh cnt steps sd n s px py tr).2.1) O)) ∧ ((bx_run A Bh cnt steps sd n s px py tr).1 = 1 → ∀ k, k < cnt → nx' k = nI ((bx_run A Bh cnt steps sd n s px py tr).2.2.1 k) ∧ ny' k = nI ((bx_run A Bh cnt steps sd n s px py tr).2.2.2 k)) := by
  intro n
  induction n with
  | zero =>
    intro s turn tr u sy px py q nx ny hn ht
    omega
  | succ n ih =>
    intro s turn tr u sy px py q nx ny hn ht htr hs hq hfr hcur bu bsy
    subst hq
    have hnn : ¬ nI s < 0 := nI_pos (by omega)
    unfold bx_run
    by_cases hcs : cnt ≤ s
    · rw [if_pos hcs]
      have hge : nc ≤ nI s := by rw [hC, nu_le (by omega) (by omega)]; omega
      exact ⟨nx, ny, pm_go [] 40 ⟨fun c1 => absurd c1 hnn, fun c1 => ⟨fun c2 => ⟨fun c3 => absurd c3 hnn, fun c3 => ⟨Or.inr rfl, fun c4 => absurd c4 (by decide), fun c4 => ⟨rfl, rfl⟩⟩⟩, fun c2 => absurd hge c2⟩⟩, fun _ k hk => ⟨(hfr k (by omega)).1, (hfr k (by omega)).2.1⟩⟩
    · rw [if_neg hcs]
      have hlt : ¬ nc ≤ nI s := by rw [hC, nu_le (by omega) (by omega)]; omega
      obtain ⟨g1, g2, g3⟩ := hsd s (by omega)
      obtain ⟨a1, a2, hrel⟩ := hcur (by omega)
      obtain ⟨v, nx1, ny1, hgo, e1, e2, hv⟩ := r_goesOn sc (d + 1) H r c P w B M na nb nc ns nx ny 0 (nI tr) O A Bh (sd s) u sy s (by omega) hA hB g1 a1 a2 (by omega) (by omega) (by omega) (by omega) (by omega)
      have hfit_iff : (sd s ≤ A ∧ (if u + sd s ≤ A then sy else sy + 1) + sd s ≤ Bh) ↔ bx_fit A Bh sd px py s := by
        unfold bx_fit
        rcases hrel with ⟨r1, r2, r3⟩ | ⟨r1, r2, r3, r4⟩ | r1
        · rw [if_pos r1]; omega
        · rw [if_neg (by omega)]; omega
        · constructor
          · intro z; omega
          · intro z; omega
      rcases hv with ⟨rfl, hv⟩ | ⟨rfl, hv⟩
      · have hfit : bx_fit A Bh sd px py s := hfit_iff.mp hv
        rw [if_neg (fun z => z hfit)]
        have hf1 := hfit.1
        have hf2 := hfit.2
        have hpos : nx1 s = nI (px s) ∧ ny1 s = nI (py s) := by
          rw [e1, e2, if_pos rfl, if_pos rfl]
          rcases hrel with ⟨r1, r2, r3⟩ | ⟨r1, r2, r3, r4⟩ | r1
          · rw [if_pos r1, if_pos r1, r2, r3]; exact ⟨rfl, rfl⟩
          · rw [if_neg (by omega), if_neg (by omega), r3, r4]; exact ⟨rfl, rfl⟩
          · omega
        have hold : ∀ k, k < s → nx1 k = nI (px k) ∧ ny1 k = nI (py k) := fun k hk => by
          rw [e1, e2, if_neg (by omega), if_neg (by omega)]
          exact ⟨(hfr k hk).1, (hfr k hk).2.1⟩
        by_cases hst : steps ≤ tr
        · rw [if_pos hst]
          have heq : nI tr = nI steps := by rw [nu_eq (by omega) (by omega)]; omega
          exact ⟨nx1, ny1, pm_go1 [28] 40 ⟨fun c1 => absurd c1 hnn, fun c1 => ⟨fun c2 => absurd c2 hlt, fun c2 => ⟨_, _, hgo, fun c3 => ⟨fun c4 => absurd heq c4, fun c4 => ⟨rfl, rfl⟩⟩, fun c3 => absurd c3 (by decide)⟩⟩⟩, fun z => absurd (show (2 : Nat) = 1 from z) (by decide)⟩
        · rw [if_neg hst]
          have hne : ¬ nI tr = nI steps := by rw [nu_eq (by omega) (by omega)]; omega
          obtain ⟨v, hl, hlc⟩ := r_lies sc d H r c P w B M na nb nc ns nx1 ny1 0 (nI tr + 1) O sd px py s (by omega) (fun k hk => by
            have hsk := hsd k (by omega)
            by_cases hks : k = s
            · subst hks
              exact ⟨hsk.1, hpos.1, hpos.2, by omega, by omega, by omega⟩
            · have h1 := hold k (by omega)
              have h2 := (hfr k (by omega)).2.2.1
              have h3 := (hfr k (by omega)).2.2.2
              exact ⟨hsk.1, h1.1, h1.2, by omega, by omega, by omega⟩)
          rcases hlc with ⟨rfl, hfree⟩ | ⟨rfl, hnf⟩
          · rw [if_pos (by simpa using hfree)]
            by_cases hlast : s + 1 < cnt
            · have hlast' : ¬ nc ≤ nI s + 1 := by rw [hC, nI_1, nu_le (by omega) (by omega)]; omega
              have hin1 : vp_in (nI s + 1) 8 := by rw [nI_1]; exact nu_in (by omega) (by omega)
              have hcl1 : (nI s + 1).toNatClampNeg = s + 1 := by rw [nI_1]; exact nu_cl (by omega)
              obtain ⟨nx3, ny3, k1, k2⟩ := ih (s + 1) (turn + 1) (tr + 1) 0 0 (upN px (s + 1) 0) (upN py (s + 1) 0) (nI s + 1) (upd nx1 (nI s + 1).toNatClampNeg (-1)) (upd ny1 (nI s + 1).toNatClampNeg 0) (by omega) (by omega) (by omega) (by omega) (nI_1 s) (fun k hk => by
                  rw [hcl1, nu_updN (by omega), nu_updN (by omega), upN_ne (by omega), upN_ne (by omega)]
                  unfold bx_fit
                  rw [upN_ne (by omega), upN_ne (by omega)]
                  by_cases hks : k = s
                  · subst hks; exact ⟨hpos.1, hpos.2, hfit⟩
                  · exact ⟨(hold k (by omega)).1, (hold k (by omega)).2, (hfr k (by omega)).2.2⟩) (fun _ => by
                  rw [hcl1, nu_updS, nu_updS, upN_eq, upN_eq]
                  refine ⟨by decide, nu_0, ?_⟩
                  unfold bx_rel
                  omega) (by omega) (by omega)
              refine ⟨nx3, ny3, pm_go1 [28] 60 ⟨fun c1 => absurd c1 hnn, fun c1 => ⟨fun c2 => absurd c2 hlt, fun c2 => ⟨_, _, hgo, fun c3 => ⟨fun c4 => ⟨_, _, hl, fun c5 => absurd c5 (by decide), fun c5 => ⟨fun c6 => absurd c6 hlast', fun c6 => ⟨hin1, hin1, ?_⟩⟩⟩, fun c4 => absurd c4 hne⟩, fun c3 => absurd c3 (by decide)⟩⟩⟩, k2⟩
              rw [← nI_1 tr] at k1
              exact k1
            · have hlast' : nc ≤ nI s + 1 := by rw [hC, nI_1, nu_le (by omega) (by omega)]; omega
              obtain ⟨nx3, ny3, k1, k2⟩ := ih (s + 1) (turn + 1) (tr + 1) 0 0 (upN px (s + 1) 0) (upN py (s + 1) 0) (nI s + 1) nx1 ny1 (by omega) (by omega) (by omega) (by omega) (nI_1 s) (fun k hk => by
                  rw [upN_ne (by omega), upN_ne (by omega)]
                  unfold bx_fit
                  rw [upN_ne (by omega), upN_ne (by omega)]
                  by_cases hks : k = s
                  · subst hks; exact ⟨hpos.1, hpos.2, hfit⟩
                  · exact ⟨(hold k (by omega)).1, (hold k (by omega)).2, (hfr k (by omega)).2.2⟩) (fun z => absurd z hlast) (by omega) (by omega)
              refine ⟨nx3, ny3, pm_go1 [28] 60 ⟨fun c1 => absurd c1 hnn, fun c1 => ⟨fun c2 => absurd c2 hlt, fun c2 => ⟨_, _, hgo, fun c3 => ⟨fun c4 => ⟨_, _, hl, fun c5 => absurd c5 (by decide), fun c5 => ⟨fun c6 => ?_, fun c6 => absurd hlast' c6⟩⟩, fun c4 => absurd c4 hne⟩, fun c3 => absurd c3 (by decide)⟩⟩⟩, k2⟩
              rw [← nI_1 tr] at k1
              exact k1
          · rw [if_neg (by simpa using hnf)]
            obtain ⟨nx3, ny3, k1, k2⟩ := ih s (turn + 1) (tr + 1) (px s + 1) (py s) (upN px s (bx_ax A sd px s)) (upN py s (bx_ay A sd px py s)) (nI s) nx1 ny1 (by omega) (by omega) (by omega) hs rfl (fun k hk => by
                rw [upN_ne (by omega), upN_ne (by omega)]
                unfold bx_fit
                rw [upN_ne (by omega), upN_ne (by omega)]
                exact ⟨(hold k hk).1, (hold k hk).2, (hfr k hk).2.2⟩) (fun _ => by
                rw [upN_eq, upN_eq, hpos.1, hpos.2, nI_1]
                refine ⟨rfl, rfl, ?_⟩
                unfold bx_rel bx_ax bx_ay
                by_cases hz : px s + 1 + sd s ≤ A
                · rw [if_pos hz, if_pos hz]; exact Or.inl ⟨hz, rfl, rfl⟩
                · rw [if_neg hz, if_neg hz]; exact Or.inr (Or.inl ⟨by omega, by omega, rfl, rfl⟩)) (by omega) (by omega)
            refine ⟨nx3, ny3, pm_go1 [28] 60 ⟨fun c1 => absurd c1 hnn, fun c1 => ⟨fun c2 => absurd c2 hlt, fun c2 => ⟨_, _, hgo, fun c3 => ⟨fun c4 => ⟨_, _, hl, fun c5 => ?_, fun c5 => absurd rfl c5⟩, fun c4 => absurd c4 hne⟩, fun c3 => absurd c3 (by decide)⟩⟩⟩, k2⟩
            rw [← nI_1 tr] at k1
            exact k1
      · have hnfit : ¬ bx_fit A Bh sd px py s := fun z => hv (hfit_iff.mpr z)
        rw [if_pos hnfit]
        by_cases hs0 : s = 0
        · rw [if_pos hs0]
          subst hs0
          refine ⟨nx1, ny1, pm_go1 [28] 60 ⟨fun c1 => absurd c1 hnn, fun c1 => ⟨fun c2 => absurd c2 hlt, fun c2 => ⟨_, _, hgo, fun c3 => absurd rfl c3, fun c3 => ?_⟩⟩⟩, fun z => absurd (show (0 : Nat) = 1 from z) (by decide)⟩
          exact pm_go [] 40 ⟨fun c1 => ⟨fun c3 => ⟨Or.inl rfl, fun c4 => ⟨rfl, rfl⟩, fun c4 => absurd rfl c4⟩, fun c3 => absurd (show nI 0 + (-1) < 0 by decide) c3⟩, fun c1 => absurd (show nI 0 + (-1) < 0 by decide) c1⟩
        · rw [if_neg hs0]
          obtain ⟨s', rfl⟩ : ∃ s', s = s' + 1 := ⟨s - 1, by omega⟩
          rw [show s' + 1 - 1 = s' by omega]
          have e0 : nI (s' + 1) + (-1) = nI s' := pk_m1 s'
          obtain ⟨f0, f1, f2⟩ := hfr s' (by omega)
          have f2a := f2.1
          have f2b := f2.2
          have hsk := hsd s' (by omega)
          obtain ⟨nx3, ny3, k1, k2⟩ := ih s' (turn + 1) tr (px s' + 1) (py s') (upN px s' (bx_ax A sd px s')) (upN py s' (bx_ay A sd px py s')) (nI (s' + 1) + (-1)) nx1 ny1 (by omega) (by omega) (by omega) (by omega) e0 (fun k hk => by
              rw [upN_ne (by omega), upN_ne (by omega), e1, e2, if_neg (by omega), if_neg (by omega)]
              unfold bx_fit
              rw [upN_ne (by omega), upN_ne (by omega)]
              exact hfr k (by omega)) (fun _ => by
              rw [upN_eq, upN_eq, e1, e2, if_neg (by omega), if_neg (by omega), f0, f1, nI_1]
              refine ⟨rfl, rfl, ?_⟩
              unfold bx_rel bx_ax bx_ay
              by_cases hz : px s' + 1 + sd s' ≤ A
              · rw [if_pos hz, if_pos hz]; exact Or.inl ⟨hz, rfl, rfl⟩
              · rw [if_neg hz, if_neg hz]; exact Or.inr (Or.inl ⟨by omega, by omega, rfl, rfl⟩)) (by omega) (by omega)
          exact ⟨nx3, ny3, pm_go1 [28] 60 ⟨fun c1 => absurd c1 hnn, fun c1 => ⟨fun c2 => absurd c2 hlt, fun c2 => ⟨_, _, hgo, fun c3 => absurd rfl c3, fun c3 => k1⟩⟩⟩, k2⟩
theorem nu_m : (100000 : Int32) = nI 100000 := by decide
theorem r_pack (sc : Nat × (Nat → Int32)) (d : Nat) (H : tH) (r : tR) (c : tR) (P : tP) (w : tW) (B : tB) (M : tM) (na : Int32) (nb : Int32) (nc : Int32) (ns : tA) (nx : tA) (ny : tA) (np : Int32) (nt : Int32) (O : tO) (A Bh cnt steps : Nat) (sd : Nat → Nat) (hA : na = nI A) (hB : nb = nI Bh) (hC : nc = nI cnt) (bA : A ≤ 12) (bB : Bh ≤ 12) (bC : cnt ≤ 8) (bS : steps ≤ 100000) (hsd : ∀ k, k < cnt → ns k = nI (sd k) ∧ 1 ≤ sd k ∧ sd k ≤ 12) :
    ∃ nx' ny' : tA, pm_D sc (d + 3) mX6_pack [.ref 27, .int (nI steps)] (hp H r c P w B M (na, nb, nc, ns, nx, ny, np, nt) O) (some (.int (nI (bx_run A Bh cnt steps sd 200002 0 (fun _ => 0) (fun _ => 0) 0).1))) (hp H r c P w B M (na, nb, nc, ns, nx', ny', if (bx_run A Bh cnt steps sd 200002 0 (fun _ => 0) (fun _ => 0) 0).1 = 1 then 1 else 0, nI (bx_run A Bh cnt steps sd 200002 0 (fun _ => 0) (fun _ => 0) 0).2.1) O) ∧ ((bx_run A Bh cnt steps sd 200002 0 (fun _ => 0) (fun _ => 0) 0).1 = 1 → ∀ k, k < cnt → nx' k = nI ((bx_run A Bh cnt steps sd 200002 0 (fun _ => 0) (fun _ => 0) 0).2.2.1 k) ∧ ny' k = nI ((bx_run A Bh cnt steps sd 200002 0 (fun _ => 0) (fun _ => 0) 0).2.2.2 k)) := by
  have hw := r_within sc (d + 1) (hp H r c P w B M (na, nb, nc, ns, nx, ny, np, nt) O) (nI steps) 0 100000
  rw [if_pos ⟨nI_pos' (by omega), by rw [nu_m, nu_le (by omega) (by omega)]; exact bS⟩] at hw
  have hrel : ∀ sd0 : Nat, bx_rel A sd0 0 0 0 0 := fun sd0 => by unfold bx_rel; omega
  by_cases h0 : 0 < cnt
  · have hp0 : ¬ nc ≤ 0 := by rw [hC, nu_0, nu_le (by omega) (by omega)]; omega
    have hin0 : vp_in (0 : Int32) 8 := by rw [nu_0]; exact nu_in (by omega) (by omega)
    obtain ⟨nx', ny', g1, g2⟩ := r_packLoop sc d H r c P w B M na nb nc ns nx ny np nt O A Bh cnt steps sd hA hB hC bA bB bC bS hsd 200002 0 0 0 0 0 (fun _ => 0) (fun _ => 0) 0 (upd nx 0 (-1)) (upd ny 0 0) rfl (by omega) (by omega) (by omega) nu_0 (fun k hk => absurd hk (by omega)) (fun _ => by
      rw [nu_updS, nu_updS]
      exact ⟨by decide, nu_0, hrel _⟩) (by omega) (by omega)
    exact ⟨nx', ny', pm_in (pm_go [28] 60 ⟨_, _, hw, fun c1 => ⟨Or.inl rfl, fun c2 => absurd c2 hp0, fun c2 => ⟨hin0, hin0, g1⟩⟩, fun c1 => absurd c1 (by decide)⟩), g2⟩
  · have hp0 : nc ≤ 0 := by rw [hC, nu_0, nu_le (by omega) (by omega)]; omega
    obtain ⟨nx', ny', g1, g2⟩ := r_packLoop sc d H r c P w B M na nb nc ns nx ny np nt O A Bh cnt steps sd hA hB hC bA bB bC bS hsd 200002 0 0 0 0 0 (fun _ => 0) (fun _ => 0) 0 nx ny rfl (by omega) (by omega) (by omega) nu_0 (fun k hk => absurd hk (by omega)) (fun z => absurd z h0) (by omega) (by omega)
    exact ⟨nx', ny', pm_in (pm_go [28] 60 ⟨_, _, hw, fun c1 => ⟨Or.inl rfl, fun c2 => g1, fun c2 => absurd hp0 c2⟩, fun c1 => absurd c1 (by decide)⟩), g2⟩
end
section
/-! BOXES: class and reference answer alike -/
def BxI (B : tB) (N : tN) : Prop := ∃ (A Bh cnt tr : Nat) (sd px py : Nat → Nat) (pk : Bool), (1 ≤ A ∧ A ≤ 12 ∧ 1 ≤ Bh ∧ Bh ≤ 12 ∧ cnt ≤ 8 ∧ tr ≤ 100000) ∧ (∀ k, k < cnt → 1 ≤ sd k ∧ sd k ≤ 12) ∧
  (B.1 = nI A ∧ B.2.1 = nI Bh ∧ B.2.2.1 = nI cnt ∧ B.2.2.2.1 = nI tr ∧ B.2.2.2.2.1 = (if pk then 1 else 0) ∧ (∀ k, k < cnt → B.2.2.2.2.2.1 k = nI (sd k)) ∧ (pk = true → ∀ k, k < cnt → B.2.2.2.2.2.2.1 k = nI (px k) ∧ B.2.2.2.2.2.2.2.1 k = nI (py k))) ∧
  (N.1 = nI A ∧ N.2.1 = nI Bh ∧ N.2.2.1 = nI cnt ∧ N.2.2.2.2.2.2.2 = nI tr ∧ N.2.2.2.2.2.2.1 = (if pk then 1 else 0) ∧ (∀ k, k < cnt → N.2.2.2.1 k = nI (sd k)) ∧ (pk = true → ∀ k, k < cnt → N.2.2.2.2.1 k = nI (px k) ∧ N.2.2.2.2.2.1 k = nI (py k)))
/-- a call of the box: the same answer, and the boxes agree again -/
def BxK (sc : Nat × (Nat → Int32)) (d mC mR : Nat) (av : List Value) (H : tH) (r c : tR) (P : tP) (w : tW) (B : tB) (M : tM) (N : tN) (O : tO) : Prop :=
  ∃ (x : Int32) (B' : tB) (N' : tN), pm_D sc d mC (.ref 1 :: av) (hp H r c P w B M N O) (some (.int x)) (hp H r c P w B' M N O) ∧ pm_D sc d mR (.ref 27 :: av) (hp H r c P w B' M N O) (some (.int x)) (hp H r c P w B' M N' O) ∧ BxI B' N'
theorem k_box (sc : Nat × (Nat → Int32)) (d : Nat) (H : tH) (r : tR) (c : tR) (P : tP) (w : tW) (B : tB) (M : tM) (N : tN) (O : tO) (x y : Int32) (hI : BxI B N) : BxK sc (d + 8) mX5_box mX6_box [.int x, .int y] H r c P w B M N O := by
  have w1 := c_isWithin sc (d + 6) (hp H r c P w B M N O) x 1 12
  have w2 := c_isWithin sc (d + 6) (hp H r c P w B M N O) y 1 12
  have v1 := r_within sc (d + 6) (hp H r c P w B M N O) x 1 12
  have v2 := r_within sc (d + 6) (hp H r c P w B M N O) y 1 12
  by_cases q1 : 1 ≤ x ∧ x ≤ 12
  · rw [if_pos q1] at w1 v1
    by_cases q2 : 1 ≤ y ∧ y ≤ 12
    · rw [if_pos q2] at w2
      have hcl := c_boxClear sc (d + 6) H r c P w B M N O x y
      have v1 := r_within sc (d + 6) (hp H r c P w ((x, y, 0, B.2.2.2.1, 0, B.2.2.2.2.2)) M N O) x 1 12
      have v2 := r_within sc (d + 6) (hp H r c P w ((x, y, 0, B.2.2.2.1, 0, B.2.2.2.2.2)) M N O) y 1 12
      rw [if_pos q1] at v1
      rw [if_pos q2] at v2
      obtain ⟨A, hA1, hA⟩ := nu_of (x := x) (n := 13) (by have := q1.1; rw [Int32.le_iff_toInt_le] at this; exact Int.le_trans (by decide) this) (by have := q1.2; rw [Int32.le_iff_toInt_le] at this; exact Int.lt_of_le_of_lt this (by decide))
      obtain ⟨Bh, hB1, hB⟩ := nu_of (x := y) (n := 13) (by have := q2.1; rw [Int32.le_iff_toInt_le] at this; exact Int.le_trans (by decide) this) (by have := q2.2; rw [Int32.le_iff_toInt_le] at this; exact Int.lt_of_le_of_lt this (by decide))
      have hA0 : 1 ≤ A := by have := q1.1; rw [hA, nu_1, nu_le (by omega) (by omega)] at this; exact this
      have hB0 : 1 ≤ Bh := by have := q2.1; rw [hB, nu_1, nu_le (by omega) (by omega)] at this; exact this
      refine ⟨x * y, (x, y, 0, B.2.2.2.1, 0, B.2.2.2.2.2), (x, y, 0, N.2.2.2.1, N.2.2.2.2.1, N.2.2.2.2.2.1, 0, N.2.2.2.2.2.2.2), pm_in (pm_go [] 30 ⟨_, _, w1, fun c1 => absurd c1 (by decide), fun c1 => ⟨_, _, w2, fun c2 => ⟨_, _, hcl, rfl, rfl⟩, fun c2 => absurd c2 (by decide)⟩⟩), pm_in (pm_go [] 40 ⟨_, _, v1, fun c1 => absurd c1 (by decide), fun c1 => ⟨_, _, v2, fun c2 => ⟨Or.inl rfl, rfl, rfl⟩, fun c2 => absurd c2 (by decide)⟩⟩), ?_⟩
      obtain ⟨A', Bh', cnt, tr, sd, px, py, pk, hb, hsd, ⟨i1, i2, i3, i4, i5, i6, i7⟩, ⟨j1, j2, j3, j4, j5, j6, j7⟩⟩ := hI
      exact ⟨A, Bh, 0, tr, sd, px, py, false, ⟨hA0, by omega, hB0, by omega, by omega, hb.2.2.2.2.2⟩, fun k hk => absurd hk (by omega), ⟨hA, hB, nu_0, i4, rfl, fun k hk => absurd hk (by omega), fun z => by cases z⟩, ⟨hA, hB, nu_0, j4, rfl, fun k hk => absurd hk (by omega), fun z => by cases z⟩⟩
    · rw [if_neg q2] at w2 v2
      exact ⟨-2, B, N, pm_in (pm_go [] 30 ⟨_, _, w1, fun c1 => absurd c1 (by decide), fun c1 => ⟨_, _, w2, fun c2 => absurd rfl c2, fun c2 => ⟨rfl, rfl⟩⟩⟩), pm_in (pm_go [] 30 ⟨_, _, v1, fun c1 => absurd c1 (by decide), fun c1 => ⟨_, _, v2, fun c2 => absurd rfl c2, fun c2 => ⟨rfl, rfl⟩⟩⟩), hI⟩
  · rw [if_neg q1] at w1 v1
    exact ⟨-2, B, N, pm_in (pm_go [] 30 ⟨_, _, w1, fun c1 => ⟨rfl, rfl⟩, fun c1 => absurd rfl c1⟩), pm_in (pm_go [] 30 ⟨_, _, v1, fun c1 => ⟨rfl, rfl⟩, fun c1 => absurd rfl c1⟩), hI⟩
theorem k_square (sc : Nat × (Nat → Int32)) (d : Nat) (H : tH) (r : tR) (c : tR) (P : tP) (w : tW) (B : tB) (M : tM) (N : tN) (O : tO) (x : Int32) (hI : BxI B N) : BxK sc (d + 8) mX5_square mX6_square [.int x] H r c P w B M N O := by
  have hI0 := hI
  obtain ⟨A, Bh, cnt, tr, sd, px, py, pk, hb, hsd, ⟨i1, i2, i3, i4, i5, i6, i7⟩, ⟨j1, j2, j3, j4, j5, j6, j7⟩⟩ := hI
  have w1 := c_isWithin sc (d + 6) (hp H r c P w B M N O) x 1 12
  have v1 := r_within sc (d + 6) (hp H r c P w B M N O) x 1 12
  by_cases q1 : 1 ≤ x ∧ x ≤ 12
  · rw [if_pos q1] at w1 v1
    by_cases q2 : cnt < 8
    · have hlt : B.2.2.1 < 8 := by rw [i3, nu_8, nu_lt (by omega) (by omega)]; exact q2
      have hne : ¬ N.2.2.1 = 8 := by rw [j3, nu_8, nu_eq (by omega) (by omega)]; omega
      have hin : vp_in B.2.2.1 8 := by rw [i3]; exact nu_in q2 (by omega)
      have hin2 : vp_in N.2.2.1 8 := by rw [j3]; exact nu_in q2 (by omega)
      have hap := c_append sc (d + 6) H r c P w B M N O x hin
      have v1 := r_within sc (d + 6) (hp H r c P w ((B.1, B.2.1, B.2.2.1 + 1, B.2.2.2.1, 0, upd B.2.2.2.2.2.1 B.2.2.1.toNatClampNeg x, B.2.2.2.2.2.2)) M N O) x 1 12
      rw [if_pos q1] at v1
      obtain ⟨sx, hs1, hs⟩ := nu_of (x := x) (n := 13) (by have := q1.1; rw [Int32.le_iff_toInt_le] at this; exact Int.le_trans (by decide) this) (by have := q1.2; rw [Int32.le_iff_toInt_le] at this; exact Int.lt_of_le_of_lt this (by decide))
      have hs0 : 1 ≤ sx := by have := q1.1; rw [hs, nu_1, nu_le (by omega) (by omega)] at this; exact this
      have hans : B.2.2.1 = N.2.2.1 + 1 - 1 := by rw [i3, j3, nI_1, nI_pred]
      refine ⟨B.2.2.1, _, (N.1, N.2.1, N.2.2.1 + 1, upd N.2.2.2.1 N.2.2.1.toNatClampNeg x, N.2.2.2.2.1, N.2.2.2.2.2.1, 0, N.2.2.2.2.2.2.2), pm_in (pm_go [] 30 ⟨_, _, w1, fun c1 => ⟨fun c2 => ⟨_, _, hap, rfl, rfl⟩, fun c2 => absurd hlt c2⟩, fun c1 => absurd c1 (by decide)⟩), pm_in (pm_go [] 50 ⟨_, _, v1, fun c1 => ⟨fun c2 => ⟨hin2, Or.inl rfl, ?_, rfl⟩, fun c2 => absurd c2 hne⟩, fun c1 => absurd c1 (by decide)⟩), ?_⟩
      · rw [hans]; rfl
      · refine ⟨A, Bh, cnt + 1, tr, upN sd cnt sx, px, py, false, ⟨hb.1, hb.2.1, hb.2.2.1, hb.2.2.2.1, by omega, hb.2.2.2.2.2⟩, fun k hk => ?_, ⟨i1, i2, by show B.2.2.1 + 1 = _; rw [i3, nI_1], i4, rfl, fun k hk => ?_, fun z => by cases z⟩, ⟨j1, j2, by show N.2.2.1 + 1 = _; rw [j3, nI_1], j4, rfl, fun k hk => ?_, fun z => by cases z⟩⟩
        · unfold upN
          split
          · omega
          · exact hsd k (by omega)
        · show upd B.2.2.2.2.2.1 B.2.2.1.toNatClampNeg x k = _
          rw [i3, nu_cl (by omega), nu_upd]
          unfold upN
          split
          · exact hs
          · exact i6 k (by omega)
        · show upd N.2.2.2.1 N.2.2.1.toNatClampNeg x k = _
          rw [j3, nu_cl (by omega), nu_upd]
          unfold upN
          split
          · exact hs
          · exact j6 k (by omega)
    · have hlt : ¬ B.2.2.1 < 8 := by rw [i3, nu_8, nu_lt (by omega) (by omega)]; exact q2
      have hne : N.2.2.1 = 8 := by rw [j3, nu_8, nu_eq (by omega) (by omega)]; omega
      exact ⟨-4, B, N, pm_in (pm_go [] 30 ⟨_, _, w1, fun c1 => ⟨fun c2 => absurd c2 hlt, fun c2 => ⟨rfl, rfl⟩⟩, fun c1 => absurd c1 (by decide)⟩), pm_in (pm_go [] 50 ⟨_, _, v1, fun c1 => ⟨fun c2 => absurd hne c2, fun c2 => ⟨rfl, rfl⟩⟩, fun c1 => absurd c1 (by decide)⟩), hI0⟩
  · rw [if_neg q1] at w1 v1
    exact ⟨-2, B, N, pm_in (pm_go [] 30 ⟨_, _, w1, fun c1 => absurd rfl c1, fun c1 => ⟨rfl, rfl⟩⟩), pm_in (pm_go [] 30 ⟨_, _, v1, fun c1 => absurd rfl c1, fun c1 => ⟨rfl, rfl⟩⟩), hI0⟩
theorem k_drop (sc : Nat × (Nat → Int32)) (d : Nat) (H : tH) (r : tR) (c : tR) (P : tP) (w : tW) (B : tB) (M : tM) (N : tN) (O : tO) (hI : BxI B N) : BxK sc (d + 8) mX5_drop mX6_drop [] H r c P w B M N O := by
  have hI0 := hI
  obtain ⟨A, Bh, cnt, tr, sd, px, py, pk, hb, hsd, ⟨i1, i2, i3, i4, i5, i6, i7⟩, ⟨j1, j2, j3, j4, j5, j6, j7⟩⟩ := hI
  by_cases q : cnt = 0
  · have h1 : ¬ 0 < B.2.2.1 := by rw [i3, nu_0, nu_lt (by omega) (by omega)]; omega
    have h2 : N.2.2.1 = 0 := by rw [j3, q]; rfl
    exact ⟨-3, B, N, pm_in (pm_go [] 30 ⟨fun c1 => absurd c1 h1, fun c1 => ⟨rfl, rfl⟩⟩), pm_in (pm_go [] 30 ⟨fun c1 => absurd h2 c1, fun c1 => ⟨rfl, rfl⟩⟩), hI0⟩
  · have h1 : 0 < B.2.2.1 := by rw [i3, nu_0, nu_lt (by omega) (by omega)]; omega
    have h2 : ¬ N.2.2.1 = 0 := by rw [j3, nu_0, nu_eq (by omega) (by omega)]; exact q
    obtain ⟨cn, rfl⟩ : ∃ cn, cnt = cn + 1 := ⟨cnt - 1, by omega⟩
    have hrl := c_removeLast sc (d + 6) H r c P w B M N O
    have hans : B.2.2.1 - 1 = N.2.2.1 - 1 := by rw [i3, j3]
    refine ⟨B.2.2.1 - 1, _, (N.1, N.2.1, N.2.2.1 - 1, N.2.2.2.1, N.2.2.2.2.1, N.2.2.2.2.2.1, 0, N.2.2.2.2.2.2.2), pm_in (pm_go [] 30 ⟨fun c1 => ⟨_, _, hrl, rfl, rfl⟩, fun c1 => absurd h1 c1⟩), pm_in (pm_go [] 30 ⟨fun c1 => ⟨Or.inl rfl, ?_, rfl⟩, fun c1 => absurd c1 h2⟩), ?_⟩
    · rw [hans]; rfl
    · refine ⟨A, Bh, cn, tr, sd, px, py, false, ⟨hb.1, hb.2.1, hb.2.2.1, hb.2.2.2.1, by omega, hb.2.2.2.2.2⟩, fun k hk => hsd k (by omega), ⟨i1, i2, by show B.2.2.1 - 1 = _; rw [i3, nI_pred], i4, rfl, fun k hk => i6 k (by omega), fun z => by cases z⟩, ⟨j1, j2, by show N.2.2.1 - 1 = _; rw [j3, nI_pred], j4, rfl, fun k hk => j6 k (by omega), fun z => by cases z⟩⟩
theorem bx_run_tr (A Bh cnt steps : Nat) (sd : Nat → Nat) : ∀ (n s : Nat) (px py : Nat → Nat) (tr : Nat), tr ≤ steps → (bx_run A Bh cnt steps sd n s px py tr).2.1 ≤ steps
  | 0, _, _, _, _, h => by unfold bx_run; exact h
  | n + 1, s, px, py, tr, h => by
    unfold bx_run
    split
    · exact h
    · split
      · split
        · exact h
        · exact bx_run_tr A Bh cnt steps sd n _ _ _ _ h
      · split
        · exact h
        · split
          · exact bx_run_tr A Bh cnt steps sd n _ _ _ _ (by omega)
          · exact bx_run_tr A Bh cnt steps sd n _ _ _ _ (by omega)
theorem k_pack (sc : Nat × (Nat → Int32)) (d : Nat) (H : tH) (r : tR) (c : tR) (P : tP) (w : tW) (B : tB) (M : tM) (N : tN) (O : tO) (x : Int32) (hI : BxI B N) : BxK sc (d + 8) mX5_pack mX6_pack [.int x] H r c P w B M N O := by
  have hI0 := hI
  obtain ⟨A, Bh, cnt, tr, sd, px, py, pk, hb, hsd, ⟨i1, i2, i3, i4, i5, i6, i7⟩, ⟨j1, j2, j3, j4, j5, j6, j7⟩⟩ := hI
  have w1 := c_isWithin sc (d + 6) (hp H r c P w B M N O) x 0 100000
  have v1 := r_within sc (d + 6) (hp H r c P w B M N O) x 0 100000
  by_cases q1 : 0 ≤ x ∧ x ≤ 100000
  · rw [if_pos q1] at w1
    obtain ⟨steps, hs1, hs⟩ := nu_of (x := x) (n := 100001) (by have := q1.1; rw [Int32.le_iff_toInt_le] at this; exact this) (by have := q1.2; rw [Int32.le_iff_toInt_le] at this; exact Int.lt_of_le_of_lt this (by decide))
    subst hs
    obtain ⟨bw, bh, bc, bt, bp, si, ax, ay, tk⟩ := B
    obtain ⟨na, nb, nc, ns, nx, ny, np, nt⟩ := N
    dsimp only at i1 i2 i3 i4 i5 i6 i7 j1 j2 j3 j4 j5 j6 j7
    obtain ⟨ax', ay', tk', f1, f2⟩ := c_fill sc (d + 2) H r c P w bw bh bc bt bp si ax ay tk M (na, nb, nc, ns, nx, ny, np, nt) O A Bh cnt steps sd i1 i2 i3 (by omega) (by omega) (by omega) (by omega) (fun k hk => ⟨i6 k hk, hsd k hk⟩)
    obtain ⟨nx', ny', g1, g2⟩ := r_pack sc (d + 5) H r c P w (bw, bh, bc, nI (bx_run A Bh cnt steps sd 200002 0 (fun _ => 0) (fun _ => 0) 0).2.1, if (bx_run A Bh cnt steps sd 200002 0 (fun _ => 0) (fun _ => 0) 0).1 = 1 then 1 else 0, si, ax', ay', tk') M na nb nc ns nx ny np nt O A Bh cnt steps sd j1 j2 j3 (by omega) (by omega) (by omega) (by omega) (fun k hk => ⟨j6 k hk, hsd k hk⟩)
    have htr := bx_run_tr A Bh cnt steps sd 200002 0 (fun _ => 0) (fun _ => 0) 0 (by omega)
    generalize bx_run A Bh cnt steps sd 200002 0 (fun _ => 0) (fun _ => 0) 0 = R at f1 f2 g1 g2 htr
    refine ⟨nI R.1, _, _, pm_in (pm_go [] 30 ⟨_, _, w1, fun c1 => ⟨_, _, f1, rfl, rfl⟩, fun c1 => absurd c1 (by decide)⟩), g1, ?_⟩
    refine ⟨A, Bh, cnt, R.2.1, sd, R.2.2.1, R.2.2.2, decide (R.1 = 1), ⟨hb.1, hb.2.1, hb.2.2.1, hb.2.2.2.1, hb.2.2.2.2.1, by omega⟩, hsd, ⟨i1, i2, i3, rfl, ?_, i6, fun z => f2 (of_decide_eq_true z)⟩, ⟨j1, j2, j3, rfl, ?_, j6, fun z => g2 (of_decide_eq_true z)⟩⟩
    · by_cases hR : R.1 = 1
      · simp [hR]
      · simp [hR]
    · by_cases hR : R.1 = 1
      · simp [hR]
      · simp [hR]
  · rw [if_neg q1] at w1 v1
    exact ⟨-2, B, N, pm_in (pm_go [] 30 ⟨_, _, w1, fun c1 => absurd rfl c1, fun c1 => ⟨rfl, rfl⟩⟩), pm_in (pm_go [] 30 ⟨_, _, v1, fun c1 => absurd rfl c1, fun c1 => ⟨rfl, rfl⟩⟩), hI0⟩
theorem k_tried (sc : Nat × (Nat → Int32)) (d : Nat) (H : tH) (r : tR) (c : tR) (P : tP) (w : tW) (B : tB) (M : tM) (N : tN) (O : tO) (hI : BxI B N) : BxK sc (d + 8) mX5_tried mX6_tried [] H r c P w B M N O := by
  have hI0 := hI
  obtain ⟨A, Bh, cnt, tr, sd, px, py, pk, hb, hsd, ⟨i1, i2, i3, i4, i5, i6, i7⟩, ⟨j1, j2, j3, j4, j5, j6, j7⟩⟩ := hI
  refine ⟨B.2.2.2.1, B, N, pm_in (pm_go [] 10 ⟨rfl, rfl⟩), pm_in (pm_go [] 10 ⟨?_, rfl⟩), hI0⟩
  rw [i4, ← j4]
theorem k_place (sc : Nat × (Nat → Int32)) (d : Nat) (H : tH) (r : tR) (c : tR) (P : tP) (w : tW) (B : tB) (M : tM) (N : tN) (O : tO) (x y : Int32) (hI : BxI B N) : BxK sc (d + 8) mX5_place mX6_place [.int x, .int y] H r c P w B M N O := by
  have hI0 := hI
  obtain ⟨A, Bh, cnt, tr, sd, px, py, pk, hb, hsd, ⟨i1, i2, i3, i4, i5, i6, i7⟩, ⟨j1, j2, j3, j4, j5, j6, j7⟩⟩ := hI
  have w1 := c_isWithin sc (d + 6) (hp H r c P w B M N O) y 0 1
  have v1 := r_within sc (d + 6) (hp H r c P w B M N O) y 0 1
  have w2 := c_isWithin sc (d + 6) (hp H r c P w B M N O) x 0 (B.2.2.1 - 1)
  have v2 := r_within sc (d + 6) (hp H r c P w B M N O) x 0 (N.2.2.1 - 1)
  by_cases q1 : 0 ≤ y ∧ y ≤ 1
  · rw [if_pos q1] at w1 v1
    cases pk with
    | false =>
      have i5 : B.2.2.2.2.1 = 0 := i5
      have j5 : N.2.2.2.2.2.2.1 = 0 := j5
      exact ⟨-1, B, N, pm_in (pm_go [] 40 ⟨_, _, w1, fun c1 => ⟨fun c2 => ⟨rfl, rfl⟩, fun c2 => absurd i5 c2⟩, fun c1 => absurd c1 (by decide)⟩), pm_in (pm_go [] 40 ⟨_, _, v1, fun c1 => ⟨fun c2 => ⟨rfl, rfl⟩, fun c2 => absurd j5 c2⟩, fun c1 => absurd c1 (by decide)⟩), hI0⟩
    | true =>
      have i5 : ¬ B.2.2.2.2.1 = 0 := by rw [i5]; decide
      have j5 : ¬ N.2.2.2.2.2.2.1 = 0 := by rw [j5]; decide
      have hsame : B.2.2.1 - 1 = N.2.2.1 - 1 := by rw [i3, j3]
      by_cases q2 : 0 ≤ x ∧ x ≤ B.2.2.1 - 1
      · rw [if_pos q2] at w2
        rw [if_pos (by rw [← hsame]; exact q2)] at v2
        have tc : (B.2.2.1 - 1).toInt = (cnt : Int) - 1 := by
          rw [i3, nu_sub (by rw [nu_ti (by omega)]; show _ ≤ _ - (1 : Int); omega) (by rw [nu_ti (by omega)]; show _ - (1 : Int) < _; omega), nu_ti (by omega)]; rfl
        obtain ⟨k, hk, hx⟩ := nu_of (x := x) (n := cnt) (by have := q2.1; rw [Int32.le_iff_toInt_le] at this; exact this) (by have := q2.2; rw [Int32.le_iff_toInt_le, tc] at this; omega)
        have hin : vp_in x 8 := by rw [hx]; exact nu_in (by omega) (by omega)
        have hcl : x.toNatClampNeg = k := by rw [hx]; exact nu_cl (by omega)
        by_cases q3 : y = 0
        · refine ⟨B.2.2.2.2.2.2.1 x.toNatClampNeg, B, N, pm_in (pm_go [] 60 ⟨_, _, w1, fun c1 => ⟨fun c2 => absurd c2 i5, fun c2 => ⟨_, _, w2, fun c3 => ⟨fun c4 => absurd q3 c4, fun c4 => ⟨hin, rfl, rfl⟩⟩, fun c3 => absurd c3 (by decide)⟩⟩, fun c1 => absurd c1 (by decide)⟩), pm_in (pm_go [] 60 ⟨_, _, v1, fun c1 => ⟨fun c2 => absurd c2 j5, fun c2 => ⟨_, _, v2, fun c3 => ⟨fun c4 => absurd q3 c4, fun c4 => ⟨hin, ?_, rfl⟩⟩, fun c3 => absurd c3 (by decide)⟩⟩, fun c1 => absurd c1 (by decide)⟩), hI0⟩
          rw [hcl, (i7 rfl k hk).1, (j7 rfl k hk).1]
        · refine ⟨B.2.2.2.2.2.2.2.1 x.toNatClampNeg, B, N, pm_in (pm_go [] 60 ⟨_, _, w1, fun c1 => ⟨fun c2 => absurd c2 i5, fun c2 => ⟨_, _, w2, fun c3 => ⟨fun c4 => ⟨hin, rfl, rfl⟩, fun c4 => absurd c4 q3⟩, fun c3 => absurd c3 (by decide)⟩⟩, fun c1 => absurd c1 (by decide)⟩), pm_in (pm_go [] 60 ⟨_, _, v1, fun c1 => ⟨fun c2 => absurd c2 j5, fun c2 => ⟨_, _, v2, fun c3 => ⟨fun c4 => ⟨hin, ?_, rfl⟩, fun c4 => absurd c4 q3⟩, fun c3 => absurd c3 (by decide)⟩⟩, fun c1 => absurd c1 (by decide)⟩), hI0⟩
          rw [hcl, (i7 rfl k hk).2, (j7 rfl k hk).2]
      · rw [if_neg q2] at w2
        rw [if_neg (by rw [← hsame]; exact q2)] at v2
        exact ⟨-1, B, N, pm_in (pm_go [] 60 ⟨_, _, w1, fun c1 => ⟨fun c2 => absurd c2 i5, fun c2 => ⟨_, _, w2, fun c3 => absurd rfl c3, fun c3 => ⟨rfl, rfl⟩⟩⟩, fun c1 => absurd c1 (by decide)⟩), pm_in (pm_go [] 60 ⟨_, _, v1, fun c1 => ⟨fun c2 => absurd c2 j5, fun c2 => ⟨_, _, v2, fun c3 => absurd rfl c3, fun c3 => ⟨rfl, rfl⟩⟩⟩, fun c1 => absurd c1 (by decide)⟩), hI0⟩
  · rw [if_neg q1] at w1 v1
    exact ⟨-2, B, N, pm_in (pm_go [] 40 ⟨_, _, w1, fun c1 => absurd rfl c1, fun c1 => ⟨rfl, rfl⟩⟩), pm_in (pm_go [] 40 ⟨_, _, v1, fun c1 => absurd rfl c1, fun c1 => ⟨rfl, rfl⟩⟩), hI0⟩
/-- left: the cells of the box less those of the squares -/
def bx_left (f : tA) (a : Int32) : Nat → Int32
  | 0 => a
  | n + 1 => bx_left f a n - f n * f n
theorem bx_left_congr {f g : tA} {a : Int32} : ∀ (n : Nat), (∀ k, k < n → f k = g k) → bx_left f a n = bx_left g a n
  | 0, _ => rfl
  | n + 1, h => by
    unfold bx_left
    rw [bx_left_congr n (fun k hk => h k (by omega)), h n (by omega)]
theorem c_countLeft (sc : Nat × (Nat → Int32)) (d : Nat) (H : tH) (r : tR) (c : tR) (P : tP) (w : tW) (bw : Int32) (bh : Int32) (bc : Int32) (bt : Int32) (bp : Int32) (si : tA) (ax : tA) (ay : tA) (tk : tA) (M : tM) (N : tN) (O : tO) (cnt : Nat) (hC : bc = nI cnt) (bC : cnt ≤ 8) : pm_D sc (d + 1) mX0_countLeft [.ref 22] (hp H r c P w (bw, bh, bc, bt, bp, si, ax, ay, tk) M N O) (some (.int (bx_left si (bw * bh) cnt))) (hp H r c P w (bw, bh, bc, bt, bp, si, ax, ay, tk) M N O) := by
  have loop : ∀ (n k : Nat) (x y : Int32), k + n = cnt → x = bx_left si (bw * bh) k → y = nI k → pm_Go sc d (pm_cd mX0_countLeft) (8, [some (.ref 22), some (.int x), some (.int y)], [], (hp H r c P w (bw, bh, bc, bt, bp, si, ax, ay, tk) M N O)) (fun r2 h2 => r2 = some (.int (bx_left si (bw * bh) cnt)) ∧ h2 = (hp H r c P w (bw, bh, bc, bt, bp, si, ax, ay, tk) M N O)) := by
    intro n
    induction n with
    | zero =>
      intro k x y hk hx hy
      subst hy
      have : k = cnt := by omega
      subst this
      exact pm_go [] 10 ⟨fun c1 => ⟨by rw [hx], rfl⟩, fun c1 => absurd (show bc ≤ nI k by rw [hC, nu_le (by omega) (by omega)]; exact Nat.le_refl _) c1⟩
    | succ n ih =>
      intro k x y hk hx hy
      subst hy
      have hin : vp_in (nI k) 8 := nu_in (by omega) (by omega)
      have hn : ¬ bc ≤ nI k := by rw [hC, nu_le (by omega) (by omega)]; omega
      refine pm_go1 [8] 30 ⟨fun c1 => absurd c1 hn, fun c1 => ⟨hin, hin, ?_⟩⟩
      refine ih (k + 1) _ _ (by omega) ?_ (nI_1 k)
      rw [nu_cl (by omega), hx]
      rfl
  exact pm_in (pm_go [8] 10 (loop cnt 0 (bw * bh) 0 (by omega) rfl nu_0))
theorem r_left (sc : Nat × (Nat → Int32)) (d : Nat) (H : tH) (r : tR) (c : tR) (P : tP) (w : tW) (B : tB) (M : tM) (na : Int32) (nb : Int32) (nc : Int32) (ns : tA) (nx : tA) (ny : tA) (np : Int32) (nt : Int32) (O : tO) (cnt : Nat) (hC : nc = nI cnt) (bC : cnt ≤ 8) : pm_D sc (d + 1) mX6_left [.ref 27] (hp H r c P w B M (na, nb, nc, ns, nx, ny, np, nt) O) (some (.int (bx_left ns (na * nb) cnt))) (hp H r c P w B M (na, nb, nc, ns, nx, ny, np, nt) O) := by
  have loop : ∀ (n k : Nat) (x y : Int32), k + n = cnt → x = bx_left ns (na * nb) k → y = nI k → pm_Go sc d (pm_cd mX6_left) (8, [some (.ref 27), some (.int x), some (.int y)], [], (hp H r c P w B M (na, nb, nc, ns, nx, ny, np, nt) O)) (fun r2 h2 => r2 = some (.int (bx_left ns (na * nb) cnt)) ∧ h2 = (hp H r c P w B M (na, nb, nc, ns, nx, ny, np, nt) O)) := by
    intro n
    induction n with
    | zero =>
      intro k x y hk hx hy
      subst hy
      have : k = cnt := by omega
      subst this
      exact pm_go [] 10 ⟨fun c1 => ⟨by rw [hx], rfl⟩, fun c1 => absurd (show nc ≤ nI k by rw [hC, nu_le (by omega) (by omega)]; exact Nat.le_refl _) c1⟩
    | succ n ih =>
      intro k x y hk hx hy
      subst hy
      have hin : vp_in (nI k) 8 := nu_in (by omega) (by omega)
      have hn : ¬ nc ≤ nI k := by rw [hC, nu_le (by omega) (by omega)]; omega
      refine pm_go1 [8] 30 ⟨fun c1 => absurd c1 hn, fun c1 => ⟨hin, hin, ?_⟩⟩
      refine ih (k + 1) _ _ (by omega) ?_ (nI_1 k)
      rw [nu_cl (by omega), hx]
      rfl
  exact pm_in (pm_go [8] 10 (loop cnt 0 (na * nb) 0 (by omega) rfl nu_0))
theorem k_left (sc : Nat × (Nat → Int32)) (d : Nat) (H : tH) (r : tR) (c : tR) (P : tP) (w : tW) (B : tB) (M : tM) (N : tN) (O : tO) (hI : BxI B N) : BxK sc (d + 8) mX5_left mX6_left [] H r c P w B M N O := by
  have hI0 := hI
  obtain ⟨A, Bh, cnt, tr, sd, px, py, pk, hb, hsd, ⟨i1, i2, i3, i4, i5, i6, i7⟩, ⟨j1, j2, j3, j4, j5, j6, j7⟩⟩ := hI
  obtain ⟨bw, bh, bc, bt, bp, si, ax, ay, tk⟩ := B
  obtain ⟨na, nb, nc, ns, nx, ny, np, nt⟩ := N
  dsimp only at i1 i2 i3 i4 i5 i6 i7 j1 j2 j3 j4 j5 j6 j7
  have h1 := c_countLeft sc (d + 6) H r c P w bw bh bc bt bp si ax ay tk M (na, nb, nc, ns, nx, ny, np, nt) O cnt i3 (by omega)
  have h2 := r_left sc (d + 7) H r c P w (bw, bh, bc, bt, bp, si, ax, ay, tk) M na nb nc ns nx ny np nt O cnt j3 (by omega)
  have e : bx_left si (bw * bh) cnt = bx_left ns (na * nb) cnt := by
    rw [i1, i2, j1, j2]
    exact bx_left_congr cnt (fun k hk => by rw [i6 k hk, j6 k hk])
  rw [← e] at h2
  exact ⟨_, (bw, bh, bc, bt, bp, si, ax, ay, tk), (na, nb, nc, ns, nx, ny, np, nt), pm_in (pm_go [] 10 ⟨_, _, h1, rfl, rfl⟩), h2, hI0⟩
end
section
/-! RUNS, in naturals: cells come by their numbers; st the stride, eg the edge -/
def ct (p : Nat → Bool) : Nat → Nat
  | 0 => 0
  | n + 1 => ct p n + (if p n then 1 else 0)
theorem ct_congr {p q : Nat → Bool} : ∀ (n : Nat), (∀ i, i < n → p i = q i) → ct p n = ct q n
  | 0, _ => rfl
  | n + 1, h => by
    unfold ct
    rw [ct_congr n (fun i hi => h i (by omega)), h n (by omega)]
theorem ct_le (p : Nat → Bool) : ∀ n, ct p n ≤ n
  | 0 => Nat.le_refl _
  | n + 1 => by
    unfold ct
    have := ct_le p n
    split <;> omega
theorem ct_mono (p : Nat → Bool) {a b : Nat} (h : a ≤ b) : ct p a ≤ ct p b := by
  induction h with
  | refl => exact Nat.le_refl _
  | step _ ih =>
    rename_i m _
    show ct p a ≤ ct p m + _
    omega
theorem ct_imp {p q : Nat → Bool} : ∀ (n : Nat), (∀ i, i < n → p i = true → q i = true) → ct p n ≤ ct q n
  | 0, _ => Nat.le_refl _
  | n + 1, h => by
    unfold ct
    have ih := ct_imp n (fun i hi => h i (by omega))
    have h1 := h n (by omega)
    by_cases hp : p n = true
    · rw [hp, h1 hp]; simp; exact ih
    · rw [if_neg hp]; split <;> omega
theorem ct_none {p : Nat → Bool} : ∀ (n : Nat), (∀ i, i < n → p i = false) → ct p n = 0
  | 0, _ => rfl
  | n + 1, h => by
    unfold ct
    rw [ct_none n (fun i hi => h i (by omega)), h n (by omega)]
    rfl
theorem ct_pos {p : Nat → Bool} : ∀ (n i : Nat), i < n → p i = true → 0 < ct p n
  | 0, i, h, _ => absurd h (by omega)
  | n + 1, i, h, hp => by
    unfold ct
    by_cases hi : i = n
    · subst hi; rw [hp]; simp
    · have := ct_pos n i (by omega) hp
      omega
theorem ct_ex {p : Nat → Bool} : ∀ (n : Nat), 0 < ct p n → ∃ i, i < n ∧ p i = true
  | 0, h => absurd h (by unfold ct; omega)
  | n + 1, h => by
    unfold ct at h
    by_cases hp : p n = true
    · exact ⟨n, by omega, hp⟩
    · rw [if_neg hp] at h
      obtain ⟨i, h1, h2⟩ := ct_ex n (by omega)
      exact ⟨i, by omega, h2⟩
theorem ct_add (p : Nat → Bool) (a : Nat) : ∀ k, ct p (a + k) = ct p a + ct (fun i => p (a + i)) k
  | 0 => rfl
  | k + 1 => by
    show ct p (a + k) + (if p (a + k) then 1 else 0) = ct p a + (ct (fun i => p (a + i)) k + (if p (a + k) then 1 else 0))
    rw [ct_add p a k]
    omega
theorem ct_two {p q : Nat → Bool} : ∀ (n : Nat), (∀ i, i < n → ¬ (p i = true ∧ q i = true)) → ct p n + ct q n ≤ n
  | 0, _ => Nat.le_refl _
  | n + 1, h => by
    unfold ct
    have ih := ct_two n (fun i hi => h i (by omega))
    have h1 := h n (by omega)
    by_cases hp : p n = true
    · by_cases hq : q n = true
      · exact absurd ⟨hp, hq⟩ h1
      · rw [if_pos hp, if_neg hq]; omega
    · rw [if_neg hp]; split <;> omega
/-- the run ahead of cell n, if it goes on -/
def rA (st : Nat) (eg : Nat → Bool) (o : Nat → Option Nat) (n : Nat) : Option Nat := if eg n then none else o (n - st)
def rF (op : Nat → Bool) (st : Nat) (eg : Nat → Bool) : Nat → (Nat → Option Nat) × Nat
  | 0 => (fun _ => none, 0)
  | n + 1 => if op n then
      (match rA st eg (rF op st eg n).1 n with
      | none => (fun c => if c = n then some (rF op st eg n).2 else (rF op st eg n).1 c, (rF op st eg n).2 + 1)
      | some r => (fun c => if c = n then some r else (rF op st eg n).1 c, (rF op st eg n).2))
    else rF op st eg n
def rO (op : Nat → Bool) (st : Nat) (eg : Nat → Bool) (n : Nat) : Nat → Option Nat := (rF op st eg n).1
def rC (op : Nat → Bool) (st : Nat) (eg : Nat → Bool) (n : Nat) : Nat := (rF op st eg n).2
/-- whether a run begins in cell n -/
def rS (op : Nat → Bool) (st : Nat) (eg : Nat → Bool) (n : Nat) : Bool := op n && (rA st eg (rO op st eg n) n == none)
def rL (op : Nat → Bool) (st : Nat) (eg : Nat → Bool) : Nat → Nat → Nat
  | 0, _ => 0
  | n + 1, r => if rS op st eg n = true ∧ r = rC op st eg n then n else rL op st eg n r
def rN (op : Nat → Bool) (st : Nat) (eg : Nat → Bool) (n r : Nat) : Nat := ct (fun c => rO op st eg n c == some r) n
section RUNS
variable {op : Nat → Bool} {st : Nat} {eg : Nat → Bool}
theorem rF_shut {n : Nat} (h : op n = false) : rF op st eg (n + 1) = rF op st eg n := by
  rw [rF, h]; rfl
theorem rO_shut {n : Nat} (h : op n = false) : rO op st eg (n + 1) = rO op st eg n := by unfold rO; rw [rF_shut h]
theorem rC_shut {n : Nat} (h : op n = false) : rC op st eg (n + 1) = rC op st eg n := by unfold rC; rw [rF_shut h]
theorem rS_shut {n : Nat} (h : op n = false) : rS op st eg n = false := by unfold rS; rw [h]; rfl
theorem rO_new {n : Nat} (h : op n = true) (ha : rA st eg (rO op st eg n) n = none) (c : Nat) : rO op st eg (n + 1) c = if c = n then some (rC op st eg n) else rO op st eg n c := by
  unfold rO rC
  unfold rO at ha
  rw [rF, h, ha]; rfl
theorem rC_new {n : Nat} (h : op n = true) (ha : rA st eg (rO op st eg n) n = none) : rC op st eg (n + 1) = rC op st eg n + 1 := by
  unfold rC
  unfold rO at ha
  rw [rF, h, ha]; rfl
theorem rS_new {n : Nat} (h : op n = true) (ha : rA st eg (rO op st eg n) n = none) : rS op st eg n = true := by
  unfold rS; rw [h, ha]; rfl
theorem rO_on {n r : Nat} (h : op n = true) (ha : rA st eg (rO op st eg n) n = some r) (c : Nat) : rO op st eg (n + 1) c = if c = n then some r else rO op st eg n c := by
  unfold rO
  unfold rO at ha
  rw [rF, h, ha]; rfl
theorem rC_on {n r : Nat} (h : op n = true) (ha : rA st eg (rO op st eg n) n = some r) : rC op st eg (n + 1) = rC op st eg n := by
  unfold rC
  unfold rO at ha
  rw [rF, h, ha]; rfl
theorem rS_on {n r : Nat} (h : op n = true) (ha : rA st eg (rO op st eg n) n = some r) : rS op st eg n = false := by
  unfold rS; rw [h, ha]; rfl
theorem rC_step (n : Nat) : rC op st eg (n + 1) = rC op st eg n + (if rS op st eg n then 1 else 0) := by
  cases h : op n with
  | false => rw [rC_shut h, rS_shut h]; rfl
  | true =>
    cases ha : rA st eg (rO op st eg n) n with
    | none => rw [rC_new h ha, rS_new h ha]; rfl
    | some r => rw [rC_on h ha, rS_on h ha]; rfl
theorem rC_ct : ∀ n, rC op st eg n = ct (rS op st eg) n
  | 0 => rfl
  | n + 1 => by rw [rC_step, rC_ct n]; rfl
theorem rO_old {n c : Nat} (h : c < n) : rO op st eg (n + 1) c = rO op st eg n c := by
  cases h1 : op n with
  | false => rw [rO_shut h1]
  | true =>
    cases ha : rA st eg (rO op st eg n) n with
    | none => rw [rO_new h1 ha, if_neg (by omega)]
    | some r => rw [rO_on h1 ha, if_neg (by omega)]
theorem rO_out : ∀ (n c : Nat), n ≤ c → rO op st eg n c = none
  | 0, _, _ => rfl
  | n + 1, c, h => by
    have ih := rO_out n c (by omega)
    cases h1 : op n with
    | false => rw [rO_shut h1]; exact ih
    | true =>
      cases ha : rA st eg (rO op st eg n) n with
      | none => rw [rO_new h1 ha, if_neg (by omega)]; exact ih
      | some r => rw [rO_on h1 ha, if_neg (by omega)]; exact ih
theorem rO_far {n : Nat} : ∀ (k c : Nat), c < n → rO op st eg (n + k) c = rO op st eg n c
  | 0, _, _ => rfl
  | k + 1, c, h => by
    rw [← Nat.add_assoc, rO_old (by omega)]
    exact rO_far k c h
theorem rO_lt : ∀ (n c r : Nat), rO op st eg n c = some r → r < rC op st eg n
  | 0, c, r, h => by cases h
  | n + 1, c, r, h => by
    have hs := rC_step (op := op) (st := st) (eg := eg) n
    cases h1 : op n with
    | false => rw [rO_shut h1] at h; have := rO_lt n c r h; omega
    | true =>
      cases ha : rA st eg (rO op st eg n) n with
      | none =>
        rw [rO_new h1 ha] at h
        rw [rC_new h1 ha]
        split at h
        · cases h; omega
        · have := rO_lt n c r h; omega
      | some q =>
        rw [rO_on h1 ha] at h
        rw [rC_on h1 ha]
        split at h
        · cases h
          unfold rA at ha
          split at ha
          · cases ha
          · exact rO_lt n _ _ ha
        · exact rO_lt n c r h
theorem rO_op : ∀ (n c : Nat), c < n → (rO op st eg n c = none ↔ op c = false)
  | 0, c, h => absurd h (by omega)
  | n + 1, c, h => by
    by_cases hc : c = n
    · subst hc
      cases h1 : op c with
      | false => rw [rO_shut h1]; simp [rO_out c c (Nat.le_refl _)]
      | true =>
        cases ha : rA st eg (rO op st eg c) c with
        | none => rw [rO_new h1 ha, if_pos rfl]; simp
        | some r => rw [rO_on h1 ha, if_pos rfl]; simp
    · rw [rO_old (by omega)]
      exact rO_op n c (by omega)
theorem rN_step (n r : Nat) : rN op st eg (n + 1) r = rN op st eg n r + (if rO op st eg (n + 1) n = some r then 1 else 0) := by
  unfold rN
  show ct _ n + _ = _
  rw [ct_congr (q := fun c => rO op st eg n c == some r) n (fun i hi => by rw [rO_old hi])]
  congr 1
  by_cases h : rO op st eg (n + 1) n = some r
  · simp [h]
  · simp [h]
theorem rN_new (n : Nat) : rN op st eg n (rC op st eg n) = 0 := by
  unfold rN
  apply ct_none
  intro i _
  cases h : rO op st eg n i with
  | none => rfl
  | some q =>
    have := rO_lt n i q h
    simp; omega
/-- the cells of a run, one stride behind the other -/
theorem r_cells (hst : 1 ≤ st) (heg : ∀ c, eg c = false → st ≤ c) : ∀ (n r : Nat), r < rC op st eg n → 1 ≤ rN op st eg n r ∧ (∀ i, i < rN op st eg n r → rL op st eg n r + i * st < n ∧ rO op st eg n (rL op st eg n r + i * st) = some r) ∧ (∀ c, rO op st eg n c = some r → ∃ i, i < rN op st eg n r ∧ c = rL op st eg n r + i * st)
  | 0, r, h => absurd h (by unfold rC rF; exact Nat.not_lt_zero r)
  | n + 1, r, h => by
    have hN := rN_step (op := op) (st := st) (eg := eg) n r
    cases h1 : op n with
    | false =>
      have hO : rO op st eg (n + 1) n = none := by rw [rO_shut h1]; exact rO_out n n (Nat.le_refl _)
      rw [hO, if_neg (by simp), Nat.add_zero] at hN
      have hL : rL op st eg (n + 1) r = rL op st eg n r := by rw [rL, if_neg (by rw [rS_shut h1]; simp)]
      rw [rC_shut h1] at h
      obtain ⟨i1, i2, i3⟩ := r_cells hst heg n r h
      rw [hN, hL, rO_shut h1]
      exact ⟨i1, fun i hi => ⟨by have := (i2 i hi).1; omega, (i2 i hi).2⟩, i3⟩
    | true =>
      cases ha : rA st eg (rO op st eg n) n with
      | none =>
        have hO : ∀ c, rO op st eg (n + 1) c = if c = n then some (rC op st eg n) else rO op st eg n c := rO_new h1 ha
        rw [hO n, if_pos rfl] at hN
        by_cases hr : r = rC op st eg n
        · subst hr
          rw [if_pos rfl, rN_new] at hN
          have hL : rL op st eg (n + 1) (rC op st eg n) = n := by unfold rL; rw [if_pos ⟨rS_new h1 ha, rfl⟩]
          rw [hN, hL]
          refine ⟨by omega, fun i hi => ?_, fun c hc => ?_⟩
          · have : i = 0 := by omega
            subst this
            rw [Nat.zero_mul, Nat.add_zero, hO, if_pos rfl]
            exact ⟨by omega, rfl⟩
          · rw [hO] at hc
            split at hc
            · rename_i hcn
              exact ⟨0, by omega, by omega⟩
            · have := rO_lt n c _ hc
              omega
        · have hr2 : ¬ some (rC op st eg n) = some r := fun q => hr (Option.some.inj q).symm
          rw [if_neg hr2, Nat.add_zero] at hN
          have hL : rL op st eg (n + 1) r = rL op st eg n r := by rw [rL, if_neg (fun q => hr q.2)]
          rw [rC_new h1 ha] at h
          obtain ⟨i1, i2, i3⟩ := r_cells hst heg n r (by omega)
          rw [hN, hL]
          refine ⟨i1, fun i hi => ?_, fun c hc => ?_⟩
          · have := i2 i hi
            rw [hO, if_neg (by omega)]
            exact ⟨by omega, this.2⟩
          · rw [hO] at hc
            split at hc
            · exact absurd hc hr2
            · exact i3 c hc
      | some q =>
        have hO : ∀ c, rO op st eg (n + 1) c = if c = n then some q else rO op st eg n c := rO_on h1 ha
        rw [hO n, if_pos rfl] at hN
        have hL : rL op st eg (n + 1) r = rL op st eg n r := by rw [rL, if_neg (by rw [rS_on h1 ha]; simp)]
        rw [rC_on h1 ha] at h
        obtain ⟨i1, i2, i3⟩ := r_cells hst heg n r h
        by_cases hr : q = r
        · subst hr
          rw [if_pos rfl] at hN
          -- the new cell is one stride behind the last
          unfold rA at ha
          split at ha
          · cases ha
          · rename_i he
            have hge : st ≤ n := heg n (by simpa using he)
            obtain ⟨i, hi, hc⟩ := i3 _ ha
            have hnew : n = rL op st eg n q + rN op st eg n q * st := by
              by_cases hlast : i + 1 = rN op st eg n q
              · rw [← hlast, Nat.add_mul]; omega
              · have h2 := (i2 (i + 1) (by omega)).1
                rw [Nat.add_mul] at h2
                omega
            rw [hN, hL]
            refine ⟨by omega, fun j hj => ?_, fun c hc => ?_⟩
            · by_cases hj2 : j < rN op st eg n q
              · have := i2 j hj2
                rw [hO, if_neg (by omega)]
                exact ⟨by omega, this.2⟩
              · have : j = rN op st eg n q := by omega
                subst this
                rw [hO, if_pos hnew.symm]
                exact ⟨by omega, rfl⟩
            · rw [hO] at hc
              split at hc
              · rename_i hcn
                exact ⟨rN op st eg n q, by omega, by omega⟩
              · obtain ⟨j, hj, e⟩ := i3 c hc
                exact ⟨j, by omega, e⟩
        · have hr2 : ¬ some q = some r := fun z => hr (Option.some.inj z)
          rw [if_neg hr2, Nat.add_zero] at hN
          rw [hN, hL]
          refine ⟨i1, fun i hi => ?_, fun c hc => ?_⟩
          · have := i2 i hi
            rw [hO, if_neg (by omega)]
            exact ⟨by omega, this.2⟩
          · rw [hO] at hc
            split at hc
            · exact absurd hc hr2
            · exact i3 c hc
theorem rS_op {n : Nat} (h : rS op st eg n = true) : op n = true := by
  unfold rS at h
  rw [Bool.and_eq_true] at h
  exact h.1
/-- no run begins behind a cell in which one begins -/
theorem rS_next {n : Nat} (hst : 1 ≤ st) (he : eg (n + st) = false) (h1 : rS op st eg n = true) : rS op st eg (n + st) = false := by
  have hop := rS_op h1
  cases h : rS op st eg (n + st) with
  | false => rfl
  | true =>
    unfold rS at h
    rw [Bool.and_eq_true] at h
    have h2 := h.2
    unfold rA at h2
    rw [he] at h2
    have h3 : rO op st eg (n + st) n = none := by simpa using h2
    rw [rO_op (n + st) n (by omega)] at h3
    rw [hop] at h3
    cases h3
end RUNS
/-- at most 32 runs: rows -/
theorem r32_rows {op : Nat → Bool} {W : Nat} (hW1 : 1 ≤ W) (hW : W ≤ 8) : ∀ (y x : Nat), x ≤ W → rC op 1 (fun c => c % W == 0) (y * W + x) ≤ 4 * y + (x + 1) / 2
  | 0, 0, _ => by
    rw [Nat.zero_mul]
    show 0 ≤ _
    omega
  | y + 1, 0, _ => by
    have ih := r32_rows (op := op) hW1 hW y W (Nat.le_refl _)
    rw [Nat.add_mul, Nat.one_mul, Nat.add_zero]
    omega
  | y, 1, hx => by
    have ih := r32_rows (op := op) hW1 hW y 0 (by omega)
    have hs := rC_step (op := op) (st := 1) (eg := fun c => c % W == 0) (y * W + 0)
    rw [show y * W + 0 + 1 = y * W + 1 by omega] at hs
    split at hs <;> omega
  | y, x + 2, hx => by
    have ih := r32_rows (op := op) hW1 hW y (x + 1) (by omega)
    have ih2 := r32_rows (op := op) hW1 hW y x (by omega)
    have hs := rC_step (op := op) (st := 1) (eg := fun c => c % W == 0) (y * W + (x + 1))
    have hs2 := rC_step (op := op) (st := 1) (eg := fun c => c % W == 0) (y * W + x)
    rw [show y * W + x + 1 = y * W + (x + 1) by omega] at hs2
    rw [show y * W + (x + 1) + 1 = y * W + (x + 2) by omega] at hs
    have hn := rS_next (op := op) (st := 1) (eg := fun c => c % W == 0) (n := y * W + x) (Nat.le_refl _) (by
      have : (y * W + x + 1) % W = x + 1 := by
        rw [Nat.add_assoc, Nat.mul_comm, Nat.mul_add_mod, Nat.mod_eq_of_lt (by omega)]
      simp [this])
    rw [show y * W + x + 1 = y * W + (x + 1) by omega] at hn
    cases hb : rS op 1 (fun c => c % W == 0) (y * W + x) with
    | true =>
      rw [hn hb, if_neg (by simp)] at hs
      rw [hb, if_pos rfl] at hs2
      omega
    | false =>
      rw [hb, if_neg (by simp)] at hs2
      split at hs <;> omega
/-- at most 32 runs: columns -/
theorem r32_cols {op : Nat → Bool} {W : Nat} (hW1 : 1 ≤ W) (hW : W ≤ 8) : ∀ y, rC op W (fun c => decide (c < W)) (y * W) ≤ 8 * ((y + 1) / 2) ∧ rC op W (fun c => decide (c < W)) (y * W) ≤ rC op W (fun c => decide (c < W)) ((y - 1) * W) + W
  | 0 => ⟨by rw [Nat.zero_mul]; exact Nat.zero_le _, by rw [Nat.zero_mul]; exact Nat.zero_le _⟩
  | 1 => by
    have h := ct_le (rS op W (fun c => decide (c < W))) (1 * W)
    rw [← rC_ct] at h
    refine ⟨by omega, by omega⟩
  | y + 2 => by
    have ih := r32_cols (op := op) hW1 hW y
    have e1 : (y + 1) * W = y * W + W := by rw [Nat.add_mul, Nat.one_mul]
    have e2 : (y + 2) * W = y * W + W + W := by rw [Nat.add_mul]; omega
    have h1 := ct_add (rS op W (fun c => decide (c < W))) (y * W) W
    have h2 := ct_add (rS op W (fun c => decide (c < W))) (y * W + W) W
    have h3 := ct_two (p := fun i => rS op W (fun c => decide (c < W)) (y * W + i)) (q := fun i => rS op W (fun c => decide (c < W)) (y * W + W + i)) W (fun i hi hh => by
      have := rS_next (op := op) (st := W) (eg := fun c => decide (c < W)) (n := y * W + i) hW1 (by simp) hh.1
      rw [show y * W + i + W = y * W + W + i by omega, hh.2] at this
      cases this)
    have h4 := ct_le (fun i => rS op W (fun c => decide (c < W)) (y * W + W + i)) W
    rw [← rC_ct, ← rC_ct] at h1
    rw [← rC_ct, ← rC_ct] at h2
    rw [show y + 2 - 1 = y + 1 by omega, e1, e2]
    omega
end
section
/-! THE CLASS'S Runs: rows (@5) and columns (@10) -/
def en (o : Option Nat) : Int32 := match o with
  | none => -1
  | some q => nI q
theorem en_ne {q : Nat} (h : q < 1000000) : ¬ en (some q) = -1 := by
  show ¬ nI q = -1
  intro z
  have h1 := nu_ti h
  rw [z] at h1
  have h2 : (-1 : Int32).toInt = -1 := by decide
  omega
def bI (b : Bool) : Int32 := if b then 1 else 0
theorem bI_01 (b : Bool) : bI b = 0 ∨ bI b = 1 := by cases b <;> decide
theorem bI_0 {b : Bool} : bI b = 0 ↔ b = false := by cases b <;> decide
/-- whether a run is watched -/
def rW (G : Nat → Nat) (o : Option Nat) : Bool := match o with
  | none => false
  | some q => decide (0 < G q)
/-- what an object of Runs holds, with the cells below n taken; G: guards of each run -/
def RC (op : Nat → Bool) (st : Nat) (eg : Nat → Bool) (n : Nat) (G : Nat → Nat) (R : tR) : Prop :=
  R.1 = nI (rC op st eg n) ∧ R.2.1 = nI st ∧ (∀ k, k < n → R.2.2.1 k = en (rO op st eg n k)) ∧ ∀ q, q < rC op st eg n → R.2.2.2.1 q = nI (rL op st eg n q) ∧ R.2.2.2.2.1 q = nI (rN op st eg n q) ∧ R.2.2.2.2.2 q = nI (G q)
theorem rC_le (op : Nat → Bool) (st : Nat) (eg : Nat → Bool) (n : Nat) : rC op st eg n ≤ n := by
  rw [rC_ct]; exact ct_le _ _
theorem c_runsClear_r (sc : Nat × (Nat → Int32)) (d : Nat) (H : tH) (r : tR) (c : tR) (P : tP) (w : tW) (B : tB) (M : tM) (N : tN) (O : tO) (x : Int32) : pm_D sc (d + 1) mX3_clear [.ref 5, .int x] (hp H r c P w B M N O) none (hp H ((0, x, r.2.2)) c P w B M N O) :=
  pm_in (pm_go [] 20 ⟨rfl, rfl⟩)
theorem c_takeShut_r (sc : Nat × (Nat → Int32)) (d : Nat) (H : tH) (r : tR) (c : tR) (P : tP) (w : tW) (B : tB) (M : tM) (N : tN) (O : tO) (op : Nat → Bool) (st : Nat) (eg : Nat → Bool) (n : Nat) (G : Nat → Nat) (hn : n < 64) (ho : op n = false) (hR : RC op st eg n G r) : ∃ R' : tR, pm_D sc (d + 1) mX3_takeShut [.ref 5, .int (nI n)] (hp H r c P w B M N O) none (hp H (R') c P w B M N O) ∧ RC op st eg (n + 1) G R' := by
  refine ⟨(r.1, r.2.1, upd r.2.2.1 n (-1), r.2.2.2), pm_in (pm_go [] 20 ⟨nu_in hn (by omega), rfl, ?_⟩), ?_⟩
  · rw [nu_cl (by omega)]; rfl
  · obtain ⟨h1, h2, h3, h4⟩ := hR
    refine ⟨by rw [rC_shut ho]; exact h1, h2, fun k hk => ?_, fun q hq => ?_⟩
    · show upd _ n (-1) k = _
      rw [nu_upd, rO_shut ho]
      split
      · rename_i hkn; rw [hkn, rO_out n n (Nat.le_refl _)]; rfl
      · exact h3 k (by omega)
    · rw [rC_shut ho] at hq
      have e1 : rL op st eg (n + 1) q = rL op st eg n q := by rw [rL, if_neg (by rw [rS_shut ho]; simp)]
      have e2 : rN op st eg (n + 1) q = rN op st eg n q := by rw [rN_step, rO_shut ho, rO_out n n (Nat.le_refl _), if_neg (by simp)]; rfl
      rw [e1, e2]
      exact h4 q hq
theorem c_takeOpen_r (sc : Nat × (Nat → Int32)) (d : Nat) (H : tH) (r : tR) (c : tR) (P : tP) (w : tW) (B : tB) (M : tM) (N : tN) (O : tO) (op : Nat → Bool) (st : Nat) (eg : Nat → Bool) (n : Nat) (G : Nat → Nat) (x : Int32) (hn : n < 64) (hst : st ≤ 8) (hst1 : 1 ≤ st) (heg : ∀ k, eg k = false → st ≤ k) (ho : op n = true) (hx : (eg n = true ∧ x = 1) ∨ (eg n = false ∧ x = 0)) (hR : RC op st eg n G r) : ∃ R' : tR, pm_D sc (d + 1) mX3_takeOpen [.ref 5, .int (nI n), .int x] (hp H r c P w B M N O) none (hp H (R') c P w B M N O) ∧ RC op st eg (n + 1) (fun q => if rS op st eg n = true ∧ q = rC op st eg n then 0 else G q) R' := by
  obtain ⟨h1, h2, h3, h4⟩ := hR
  have hcl := rC_le op st eg n
  have hin : vp_in (nI n) 64 := nu_in hn (by omega)
  have hinC : vp_in r.1 64 := by rw [h1]; exact nu_in (by omega) (by omega)
  have hclN : (nI n).toNatClampNeg = n := nu_cl (by omega)
  have hclC : r.1.toNatClampNeg = rC op st eg n := by rw [h1]; exact nu_cl (by omega)
  cases ha : rA st eg (rO op st eg n) n with
  | none =>
    have hS := rS_new ho ha
    have key : pm_Go sc d (pm_cd mX3_takeOpen) (11, [some (.ref 5), some (.int (nI n)), some (.int x), none], [.int (-1)], (hp H r c P w B M N O)) (fun r2 h2 => r2 = none ∧ h2 = (hp H ((r.1 + 1, r.2.1, upd r.2.2.1 n r.1, upd r.2.2.2.1 (rC op st eg n) (nI n), upd (upd r.2.2.2.2.1 (rC op st eg n) 0) (rC op st eg n) (0 + 1), upd r.2.2.2.2.2 (rC op st eg n) 0)) c P w B M N O)) := by
      refine pm_go [] 60 ⟨fun c1 => absurd rfl c1, fun c1 => ⟨hinC, hinC, hinC, hin, hinC, hinC, rfl, ?_⟩⟩
      rw [hclC, hclN, nu_updS]
      rfl
    refine ⟨(r.1 + 1, r.2.1, upd r.2.2.1 n r.1, upd r.2.2.2.1 (rC op st eg n) (nI n), upd (upd r.2.2.2.2.1 (rC op st eg n) 0) (rC op st eg n) (0 + 1), upd r.2.2.2.2.2 (rC op st eg n) 0), pm_in ?_, ?_⟩
    · rcases hx with ⟨he, rfl⟩ | ⟨he, rfl⟩
      · exact pm_go [11] 20 ⟨fun c1 => absurd c1 (by decide), fun c1 => key⟩
      · unfold rA at ha
        rw [he] at ha
        have hge := heg n he
        have ha : rO op st eg n (n - st) = none := by simpa using ha
        have e1 : nI n - r.2.1 = nI (n - st) := by rw [h2]; exact pk_sub hge
        have hin2 : vp_in (nI n - r.2.1) 64 := by rw [e1]; exact nu_in (by omega) (by omega)
        have e2 : r.2.2.1 (nI n - r.2.1).toNatClampNeg = -1 := by rw [e1, nu_cl (by omega), h3 _ (by omega), ha]; rfl
        refine pm_go [11] 20 ⟨fun c1 => ⟨hin2, ?_⟩, fun c1 => absurd rfl c1⟩
        rw [← e2] at key
        exact key
    · refine ⟨?_, h2, fun k hk => ?_, fun q hq => ?_⟩
      · rw [rC_new ho ha]
        show r.1 + 1 = _
        rw [h1, nI_1]
      · show upd r.2.2.1 n r.1 k = _
        rw [nu_upd, rO_new ho ha]
        split
        · rw [h1]; rfl
        · exact h3 k (by omega)
      · rw [rC_new ho ha] at hq
        have hN := rN_step (op := op) (st := st) (eg := eg) n q
        rw [rO_new ho ha, if_pos rfl] at hN
        show upd r.2.2.2.1 (rC op st eg n) (nI n) q = _ ∧ upd (upd r.2.2.2.2.1 (rC op st eg n) 0) (rC op st eg n) (0 + 1) q = _ ∧ upd r.2.2.2.2.2 (rC op st eg n) 0 q = _
        dsimp only
        rw [nu_uu, nu_upd, nu_upd, nu_upd, rL]
        by_cases hq2 : q = rC op st eg n
        · subst hq2
          rw [if_pos rfl, if_pos rfl, if_pos rfl, if_pos ⟨hS, rfl⟩, if_pos ⟨hS, rfl⟩, hN, rN_new, if_pos rfl]
          exact ⟨rfl, rfl, rfl⟩
        · rw [if_neg hq2, if_neg hq2, if_neg hq2, if_neg (fun z => hq2 z.2), if_neg (fun z => hq2 z.2), hN, if_neg (fun z => hq2 (Option.some.inj z).symm)]
          exact h4 q (by omega)
  | some q0 =>
    have hS := rS_on ho ha
    have ha0 := ha
    unfold rA at ha
    rcases hx with ⟨he, rfl⟩ | ⟨he, rfl⟩
    · rw [he] at ha; cases ha
    · rw [he] at ha
      have hge := heg n he
      have ha : rO op st eg n (n - st) = some q0 := by simpa using ha
      have hq0 := rO_lt n _ _ ha
      have e1 : nI n - r.2.1 = nI (n - st) := by rw [h2]; exact pk_sub hge
      have hin2 : vp_in (nI n - r.2.1) 64 := by rw [e1]; exact nu_in (by omega) (by omega)
      have e2 : r.2.2.1 (nI n - r.2.1).toNatClampNeg = nI q0 := by rw [e1, nu_cl (by omega), h3 _ (by omega), ha]; rfl
      have hinq : vp_in (nI q0) 64 := nu_in (by omega) (by omega)
      have hclq : (nI q0).toNatClampNeg = q0 := nu_cl (by omega)
      have hne : ¬ nI q0 = -1 := en_ne (q := q0) (by omega)
      have key : pm_Go sc d (pm_cd mX3_takeOpen) (11, [some (.ref 5), some (.int (nI n)), some (.int 0), none], [.int (nI q0)], (hp H r c P w B M N O)) (fun r2 h2 => r2 = none ∧ h2 = (hp H ((r.1, r.2.1, upd r.2.2.1 n (nI q0), r.2.2.2.1, upd r.2.2.2.2.1 q0 (r.2.2.2.2.1 q0 + 1), r.2.2.2.2.2)) c P w B M N O)) := by
        refine pm_go [] 60 ⟨fun c1 => ⟨hin, hinq, hinq, rfl, ?_⟩, fun c1 => absurd c1 hne⟩
        rw [hclN, hclq]
        rfl
      refine ⟨(r.1, r.2.1, upd r.2.2.1 n (nI q0), r.2.2.2.1, upd r.2.2.2.2.1 q0 (r.2.2.2.2.1 q0 + 1), r.2.2.2.2.2), pm_in (pm_go [11] 20 ⟨fun c1 => ⟨hin2, ?_⟩, fun c1 => absurd rfl c1⟩), ?_⟩
      · rw [← e2] at key
        rw [← e2]
        exact key
      · refine ⟨by rw [rC_on ho ha0]; exact h1, h2, fun k hk => ?_, fun q hq => ?_⟩
        · show upd r.2.2.1 n (nI q0) k = _
          rw [nu_upd, rO_on ho ha0]
          split
          · rfl
          · exact h3 k (by omega)
        · rw [rC_on ho ha0] at hq
          have hN := rN_step (op := op) (st := st) (eg := eg) n q
          rw [rO_on ho ha0, if_pos rfl] at hN
          show r.2.2.2.1 q = _ ∧ upd r.2.2.2.2.1 q0 (r.2.2.2.2.1 q0 + 1) q = _ ∧ r.2.2.2.2.2 q = _
          dsimp only
          have eL : rL op st eg (n + 1) q = rL op st eg n q := by rw [rL, if_neg (by rw [hS]; simp)]
          have eG : (if rS op st eg n = true ∧ q = rC op st eg n then 0 else G q) = G q := if_neg (by rw [hS]; simp)
          rw [nu_upd, eL, eG]
          refine ⟨(h4 q hq).1, ?_, (h4 q hq).2.2⟩
          by_cases hq2 : q = q0
          · subst hq2
            rw [if_pos rfl, hN, if_pos rfl, (h4 q hq).2.1, nI_1]
          · rw [if_neg hq2, hN, if_neg (fun z => hq2 (Option.some.inj z).symm)]
            exact (h4 q hq).2.1
theorem c_addGuards_r (sc : Nat × (Nat → Int32)) (d : Nat) (H : tH) (r : tR) (c : tR) (P : tP) (w : tW) (B : tB) (M : tM) (N : tN) (O : tO) (op : Nat → Bool) (st : Nat) (eg : Nat → Bool) (n k q g : Nat) (G : Nat → Nat) (x : Int32) (hn : n ≤ 64) (hk : k < n) (hq : rO op st eg n k = some q) (hx : nI (G q) + x = nI g) (hR : RC op st eg n G r) : ∃ R' : tR, pm_D sc (d + 1) mX3_addGuards [.ref 5, .int (nI k), .int x] (hp H r c P w B M N O) none (hp H (R') c P w B M N O) ∧ RC op st eg n (upN G q g) R' := by
  obtain ⟨h1, h2, h3, h4⟩ := hR
  have hcl := rC_le op st eg n
  have hql := rO_lt n _ _ hq
  have e1 : r.2.2.1 (nI k).toNatClampNeg = nI q := by rw [nu_cl (by omega), h3 k hk, hq]; rfl
  have hin : vp_in (nI k) 64 := nu_in (by omega) (by omega)
  have hne : ¬ r.2.2.1 (nI k).toNatClampNeg = -1 := by rw [e1]; exact en_ne (q := q) (by omega)
  have hinq : vp_in (r.2.2.1 (nI k).toNatClampNeg) 64 := by rw [e1]; exact nu_in (by omega) (by omega)
  refine ⟨(r.1, r.2.1, r.2.2.1, r.2.2.2.1, r.2.2.2.2.1, upd r.2.2.2.2.2 q (nI g)), pm_in (pm_go [] 30 ⟨hin, fun c1 => absurd c1 hne, fun c1 => ⟨hinq, hinq, rfl, ?_⟩⟩), ?_⟩
  · rw [e1, nu_cl (by omega), ← hx, ← (h4 q hql).2.2]
    rfl
  · refine ⟨h1, h2, h3, fun q' hq' => ?_⟩
    show _ ∧ _ ∧ upd r.2.2.2.2.2 q (nI g) q' = _
    rw [nu_upd]
    unfold upN
    refine ⟨(h4 q' hq').1, (h4 q' hq').2.1, ?_⟩
    split
    · rfl
    · exact (h4 q' hq').2.2
theorem c_isWatched_r (sc : Nat × (Nat → Int32)) (d : Nat) (H : tH) (r : tR) (c : tR) (P : tP) (w : tW) (B : tB) (M : tM) (N : tN) (O : tO) (op : Nat → Bool) (st : Nat) (eg : Nat → Bool) (n k : Nat) (G : Nat → Nat) (hn : n ≤ 64) (hk : k < n) (hG : ∀ q, G q ≤ 64) (hR : RC op st eg n G r) : pm_D sc (d + 1) mX3_isWatched [.ref 5, .int (nI k)] (hp H r c P w B M N O) (some (.int (bI (rW G (rO op st eg n k))))) (hp H r c P w B M N O) := by
  obtain ⟨h1, h2, h3, h4⟩ := hR
  have hcl := rC_le op st eg n
  have hin : vp_in (nI k) 64 := nu_in (by omega) (by omega)
  cases hq : rO op st eg n k with
  | none =>
    have e1 : r.2.2.1 (nI k).toNatClampNeg = -1 := by rw [nu_cl (by omega), h3 k hk, hq]; rfl
    exact pm_in (pm_go [] 30 ⟨hin, fun c1 => ⟨Or.inl rfl, rfl, rfl⟩, fun c1 => absurd e1 c1⟩)
  | some q =>
    have hql := rO_lt n _ _ hq
    have e1 : r.2.2.1 (nI k).toNatClampNeg = nI q := by rw [nu_cl (by omega), h3 k hk, hq]; rfl
    have hne : ¬ r.2.2.1 (nI k).toNatClampNeg = -1 := by rw [e1]; exact en_ne (q := q) (by omega)
    have hinq : vp_in (r.2.2.1 (nI k).toNatClampNeg) 64 := by rw [e1]; exact nu_in (by omega) (by omega)
    have e2 : r.2.2.2.2.2 (r.2.2.1 (nI k).toNatClampNeg).toNatClampNeg ≤ 0 ↔ ¬ 0 < G q := by
      rw [e1, nu_cl (by omega), (h4 q hql).2.2, nu_0, nu_le (by have := hG q; omega) (by omega)]; omega
    by_cases hg : 0 < G q
    · rw [show rW G (some q) = true from decide_eq_true hg]
      exact pm_in (pm_go [] 30 ⟨hin, fun c1 => absurd c1 hne, fun c1 => ⟨hinq, fun c2 => absurd hg (e2.mp c2), fun c2 => ⟨Or.inr rfl, rfl, rfl⟩⟩⟩)
    · rw [show rW G (some q) = false from decide_eq_false hg]
      exact pm_in (pm_go [] 30 ⟨hin, fun c1 => absurd c1 hne, fun c1 => ⟨hinq, fun c2 => ⟨Or.inl rfl, rfl, rfl⟩, fun c2 => absurd (e2.mpr hg) c2⟩⟩)
theorem c_lengthAt_r (sc : Nat × (Nat → Int32)) (d : Nat) (H : tH) (r : tR) (c : tR) (P : tP) (w : tW) (B : tB) (M : tM) (N : tN) (O : tO) (op : Nat → Bool) (st : Nat) (eg : Nat → Bool) (n k q : Nat) (G : Nat → Nat) (hn : n ≤ 64) (hk : k < n) (hq : rO op st eg n k = some q) (hR : RC op st eg n G r) : pm_D sc (d + 1) mX3_lengthAt [.ref 5, .int (nI k)] (hp H r c P w B M N O) (some (.int (nI (rN op st eg n q)))) (hp H r c P w B M N O) := by
  obtain ⟨h1, h2, h3, h4⟩ := hR
  have hcl := rC_le op st eg n
  have hin : vp_in (nI k) 64 := nu_in (by omega) (by omega)
  have hql := rO_lt n _ _ hq
  have e1 : r.2.2.1 (nI k).toNatClampNeg = nI q := by rw [nu_cl (by omega), h3 k hk, hq]; rfl
  have hne : ¬ r.2.2.1 (nI k).toNatClampNeg = -1 := by rw [e1]; exact en_ne (q := q) (by omega)
  have hinq : vp_in (r.2.2.1 (nI k).toNatClampNeg) 64 := by rw [e1]; exact nu_in (by omega) (by omega)
  refine pm_in (pm_go [] 30 ⟨hin, fun c1 => ⟨hinq, ?_, rfl⟩, fun c1 => absurd c1 hne⟩)
  rw [e1, nu_cl (by omega), (h4 q hql).2.1]
theorem c_cellOf_r (sc : Nat × (Nat → Int32)) (d : Nat) (H : tH) (r : tR) (c : tR) (P : tP) (w : tW) (B : tB) (M : tM) (N : tN) (O : tO) (op : Nat → Bool) (st : Nat) (eg : Nat → Bool) (n q i : Nat) (G : Nat → Nat) (hn : n ≤ 64) (hq : q < rC op st eg n) (hR : RC op st eg n G r) : pm_D sc (d + 1) mX3_cellOf [.ref 5, .int (nI q), .int (nI i)] (hp H r c P w B M N O) (some (.int (nI (rL op st eg n q + i * st)))) (hp H r c P w B M N O) := by
  obtain ⟨h1, h2, h3, h4⟩ := hR
  have hcl := rC_le op st eg n
  refine pm_in (pm_go [] 30 ⟨nu_in (by omega) (by omega), ?_, rfl⟩)
  rw [nu_cl (by omega), (h4 q hq).1, h2, ← nI_add, ← pk_mul]
  rfl
theorem c_runsClear_c (sc : Nat × (Nat → Int32)) (d : Nat) (H : tH) (r : tR) (c : tR) (P : tP) (w : tW) (B : tB) (M : tM) (N : tN) (O : tO) (x : Int32) : pm_D sc (d + 1) mX3_clear [.ref 10, .int x] (hp H r c P w B M N O) none (hp H r ((0, x, c.2.2)) P w B M N O) :=
  pm_in (pm_go [] 20 ⟨rfl, rfl⟩)
theorem c_takeShut_c (sc : Nat × (Nat → Int32)) (d : Nat) (H : tH) (r : tR) (c : tR) (P : tP) (w : tW) (B : tB) (M : tM) (N : tN) (O : tO) (op : Nat → Bool) (st : Nat) (eg : Nat → Bool) (n : Nat) (G : Nat → Nat) (hn : n < 64) (ho : op n = false) (hR : RC op st eg n G c) : ∃ R' : tR, pm_D sc (d + 1) mX3_takeShut [.ref 10, .int (nI n)] (hp H r c P w B M N O) none (hp H r (R') P w B M N O) ∧ RC op st eg (n + 1) G R' := by
  refine ⟨(c.1, c.2.1, upd c.2.2.1 n (-1), c.2.2.2), pm_in (pm_go [] 20 ⟨nu_in hn (by omega), rfl, ?_⟩), ?_⟩
  · rw [nu_cl (by omega)]; rfl
  · obtain ⟨h1, h2, h3, h4⟩ := hR
    refine ⟨by rw [rC_shut ho]; exact h1, h2, fun k hk => ?_, fun q hq => ?_⟩
    · show upd _ n (-1) k = _
      rw [nu_upd, rO_shut ho]
      split
      · rename_i hkn; rw [hkn, rO_out n n (Nat.le_refl _)]; rfl
      · exact h3 k (by omega)
    · rw [rC_shut ho] at hq
      have e1 : rL op st eg (n + 1) q = rL op st eg n q := by rw [rL, if_neg (by rw [rS_shut ho]; simp)]
      have e2 : rN op st eg (n + 1) q = rN op st eg n q := by rw [rN_step, rO_shut ho, rO_out n n (Nat.le_refl _), if_neg (by simp)]; rfl
      rw [e1, e2]
      exact h4 q hq
theorem c_takeOpen_c (sc : Nat × (Nat → Int32)) (d : Nat) (H : tH) (r : tR) (c : tR) (P : tP) (w : tW) (B : tB) (M : tM) (N : tN) (O : tO) (op : Nat → Bool) (st : Nat) (eg : Nat → Bool) (n : Nat) (G : Nat → Nat) (x : Int32) (hn : n < 64) (hst : st ≤ 8) (hst1 : 1 ≤ st) (heg : ∀ k, eg k = false → st ≤ k) (ho : op n = true) (hx : (eg n = true ∧ x = 1) ∨ (eg n = false ∧ x = 0)) (hR : RC op st eg n G c) : ∃ R' : tR, pm_D sc (d + 1) mX3_takeOpen [.ref 10, .int (nI n), .int x] (hp H r c P w B M N O) none (hp H r (R') P w B M N O) ∧ RC op st eg (n + 1) (fun q => if rS op st eg n = true ∧ q = rC op st eg n then 0 else G q) R' := by
  obtain ⟨h1, h2, h3, h4⟩ := hR
  have hcl := rC_le op st eg n
  have hin : vp_in (nI n) 64 := nu_in hn (by omega)
  have hinC : vp_in c.1 64 := by rw [h1]; exact nu_in (by omega) (by omega)
  have hclN : (nI n).toNatClampNeg = n := nu_cl (by omega)
  have hclC : c.1.toNatClampNeg = rC op st eg n := by rw [h1]; exact nu_cl (by omega)
  cases ha : rA st eg (rO op st eg n) n with
  | none =>
    have hS := rS_new ho ha
    have key : pm_Go sc d (pm_cd mX3_takeOpen) (11, [some (.ref 10), some (.int (nI n)), some (.int x), none], [.int (-1)], (hp H r c P w B M N O)) (fun r2 h2 => r2 = none ∧ h2 = (hp H r ((c.1 + 1, c.2.1, upd c.2.2.1 n c.1, upd c.2.2.2.1 (rC op st eg n) (nI n), upd (upd c.2.2.2.2.1 (rC op st eg n) 0) (rC op st eg n) (0 + 1), upd c.2.2.2.2.2 (rC op st eg n) 0)) P w B M N O)) := by
      refine pm_go [] 60 ⟨fun c1 => absurd rfl c1, fun c1 => ⟨hinC, hinC, hinC, hin, hinC, hinC, rfl, ?_⟩⟩
      rw [hclC, hclN, nu_updS]
      rfl
    refine ⟨(c.1 + 1, c.2.1, upd c.2.2.1 n c.1, upd c.2.2.2.1 (rC op st eg n) (nI n), upd (upd c.2.2.2.2.1 (rC op st eg n) 0) (rC op st eg n) (0 + 1), upd c.2.2.2.2.2 (rC op st eg n) 0), pm_in ?_, ?_⟩
    · rcases hx with ⟨he, rfl⟩ | ⟨he, rfl⟩
      · exact pm_go [11] 20 ⟨fun c1 => absurd c1 (by decide), fun c1 => key⟩
      · unfold rA at ha
        rw [he] at ha
        have hge := heg n he
        have ha : rO op st eg n (n - st) = none := by simpa using ha
        have e1 : nI n - c.2.1 = nI (n - st) := by rw [h2]; exact pk_sub hge
        have hin2 : vp_in (nI n - c.2.1) 64 := by rw [e1]; exact nu_in (by omega) (by omega)
        have e2 : c.2.2.1 (nI n - c.2.1).toNatClampNeg = -1 := by rw [e1, nu_cl (by omega), h3 _ (by omega), ha]; rfl
        refine pm_go [11] 20 ⟨fun c1 => ⟨hin2, ?_⟩, fun c1 => absurd rfl c1⟩
        rw [← e2] at key
        exact key
    · refine ⟨?_, h2, fun k hk => ?_, fun q hq => ?_⟩
      · rw [rC_new ho ha]
        show c.1 + 1 = _
        rw [h1, nI_1]
      · show upd c.2.2.1 n c.1 k = _
        rw [nu_upd, rO_new ho ha]
        split
        · rw [h1]; rfl
        · exact h3 k (by omega)
      · rw [rC_new ho ha] at hq
        have hN := rN_step (op := op) (st := st) (eg := eg) n q
        rw [rO_new ho ha, if_pos rfl] at hN
        show upd c.2.2.2.1 (rC op st eg n) (nI n) q = _ ∧ upd (upd c.2.2.2.2.1 (rC op st eg n) 0) (rC op st eg n) (0 + 1) q = _ ∧ upd c.2.2.2.2.2 (rC op st eg n) 0 q = _
        dsimp only
        rw [nu_uu, nu_upd, nu_upd, nu_upd, rL]
        by_cases hq2 : q = rC op st eg n
        · subst hq2
          rw [if_pos rfl, if_pos rfl, if_pos rfl, if_pos ⟨hS, rfl⟩, if_pos ⟨hS, rfl⟩, hN, rN_new, if_pos rfl]
          exact ⟨rfl, rfl, rfl⟩
        · rw [if_neg hq2, if_neg hq2, if_neg hq2, if_neg (fun z => hq2 z.2), if_neg (fun z => hq2 z.2), hN, if_neg (fun z => hq2 (Option.some.inj z).symm)]
          exact h4 q (by omega)
  | some q0 =>
    have hS := rS_on ho ha
    have ha0 := ha
    unfold rA at ha
    rcases hx with ⟨he, rfl⟩ | ⟨he, rfl⟩
    · rw [he] at ha; cases ha
    · rw [he] at ha
      have hge := heg n he
      have ha : rO op st eg n (n - st) = some q0 := by simpa using ha
      have hq0 := rO_lt n _ _ ha
      have e1 : nI n - c.2.1 = nI (n - st) := by rw [h2]; exact pk_sub hge
      have hin2 : vp_in (nI n - c.2.1) 64 := by rw [e1]; exact nu_in (by omega) (by omega)
      have e2 : c.2.2.1 (nI n - c.2.1).toNatClampNeg = nI q0 := by rw [e1, nu_cl (by omega), h3 _ (by omega), ha]; rfl
      have hinq : vp_in (nI q0) 64 := nu_in (by omega) (by omega)
      have hclq : (nI q0).toNatClampNeg = q0 := nu_cl (by omega)
      have hne : ¬ nI q0 = -1 := en_ne (q := q0) (by omega)
      have key : pm_Go sc d (pm_cd mX3_takeOpen) (11, [some (.ref 10), some (.int (nI n)), some (.int 0), none], [.int (nI q0)], (hp H r c P w B M N O)) (fun r2 h2 => r2 = none ∧ h2 = (hp H r ((c.1, c.2.1, upd c.2.2.1 n (nI q0), c.2.2.2.1, upd c.2.2.2.2.1 q0 (c.2.2.2.2.1 q0 + 1), c.2.2.2.2.2)) P w B M N O)) := by
        refine pm_go [] 60 ⟨fun c1 => ⟨hin, hinq, hinq, rfl, ?_⟩, fun c1 => absurd c1 hne⟩
        rw [hclN, hclq]
        rfl
      refine ⟨(c.1, c.2.1, upd c.2.2.1 n (nI q0), c.2.2.2.1, upd c.2.2.2.2.1 q0 (c.2.2.2.2.1 q0 + 1), c.2.2.2.2.2), pm_in (pm_go [11] 20 ⟨fun c1 => ⟨hin2, ?_⟩, fun c1 => absurd rfl c1⟩), ?_⟩
      · rw [← e2] at key
        rw [← e2]
        exact key
      · refine ⟨by rw [rC_on ho ha0]; exact h1, h2, fun k hk => ?_, fun q hq => ?_⟩
        · show upd c.2.2.1 n (nI q0) k = _
          rw [nu_upd, rO_on ho ha0]
          split
          · rfl
          · exact h3 k (by omega)
        · rw [rC_on ho ha0] at hq
          have hN := rN_step (op := op) (st := st) (eg := eg) n q
          rw [rO_on ho ha0, if_pos rfl] at hN
          show c.2.2.2.1 q = _ ∧ upd c.2.2.2.2.1 q0 (c.2.2.2.2.1 q0 + 1) q = _ ∧ c.2.2.2.2.2 q = _
          dsimp only
          have eL : rL op st eg (n + 1) q = rL op st eg n q := by rw [rL, if_neg (by rw [hS]; simp)]
          have eG : (if rS op st eg n = true ∧ q = rC op st eg n then 0 else G q) = G q := if_neg (by rw [hS]; simp)
          rw [nu_upd, eL, eG]
          refine ⟨(h4 q hq).1, ?_, (h4 q hq).2.2⟩
          by_cases hq2 : q = q0
          · subst hq2
            rw [if_pos rfl, hN, if_pos rfl, (h4 q hq).2.1, nI_1]
          · rw [if_neg hq2, hN, if_neg (fun z => hq2 (Option.some.inj z).symm)]
            exact (h4 q hq).2.1
theorem c_addGuards_c (sc : Nat × (Nat → Int32)) (d : Nat) (H : tH) (r : tR) (c : tR) (P : tP) (w : tW) (B : tB) (M : tM) (N : tN) (O : tO) (op : Nat → Bool) (st : Nat) (eg : Nat → Bool) (n k q g : Nat) (G : Nat → Nat) (x : Int32) (hn : n ≤ 64) (hk : k < n) (hq : rO op st eg n k = some q) (hx : nI (G q) + x = nI g) (hR : RC op st eg n G c) : ∃ R' : tR, pm_D sc (d + 1) mX3_addGuards [.ref 10, .int (nI k), .int x] (hp H r c P w B M N O) none (hp H r (R') P w B M N O) ∧ RC op st eg n (upN G q g) R' := by
  obtain ⟨h1, h2, h3, h4⟩ := hR
  have hcl := rC_le op st eg n
  have hql := rO_lt n _ _ hq
  have e1 : c.2.2.1 (nI k).toNatClampNeg = nI q := by rw [nu_cl (by omega), h3 k hk, hq]; rfl
  have hin : vp_in (nI k) 64 := nu_in (by omega) (by omega)
  have hne : ¬ c.2.2.1 (nI k).toNatClampNeg = -1 := by rw [e1]; exact en_ne (q := q) (by omega)
  have hinq : vp_in (c.2.2.1 (nI k).toNatClampNeg) 64 := by rw [e1]; exact nu_in (by omega) (by omega)
  refine ⟨(c.1, c.2.1, c.2.2.1, c.2.2.2.1, c.2.2.2.2.1, upd c.2.2.2.2.2 q (nI g)), pm_in (pm_go [] 30 ⟨hin, fun c1 => absurd c1 hne, fun c1 => ⟨hinq, hinq, rfl, ?_⟩⟩), ?_⟩
  · rw [e1, nu_cl (by omega), ← hx, ← (h4 q hql).2.2]
    rfl
  · refine ⟨h1, h2, h3, fun q' hq' => ?_⟩
    show _ ∧ _ ∧ upd c.2.2.2.2.2 q (nI g) q' = _
    rw [nu_upd]
    unfold upN
    refine ⟨(h4 q' hq').1, (h4 q' hq').2.1, ?_⟩
    split
    · rfl
    · exact (h4 q' hq').2.2
theorem c_isWatched_c (sc : Nat × (Nat → Int32)) (d : Nat) (H : tH) (r : tR) (c : tR) (P : tP) (w : tW) (B : tB) (M : tM) (N : tN) (O : tO) (op : Nat → Bool) (st : Nat) (eg : Nat → Bool) (n k : Nat) (G : Nat → Nat) (hn : n ≤ 64) (hk : k < n) (hG : ∀ q, G q ≤ 64) (hR : RC op st eg n G c) : pm_D sc (d + 1) mX3_isWatched [.ref 10, .int (nI k)] (hp H r c P w B M N O) (some (.int (bI (rW G (rO op st eg n k))))) (hp H r c P w B M N O) := by
  obtain ⟨h1, h2, h3, h4⟩ := hR
  have hcl := rC_le op st eg n
  have hin : vp_in (nI k) 64 := nu_in (by omega) (by omega)
  cases hq : rO op st eg n k with
  | none =>
    have e1 : c.2.2.1 (nI k).toNatClampNeg = -1 := by rw [nu_cl (by omega), h3 k hk, hq]; rfl
    exact pm_in (pm_go [] 30 ⟨hin, fun c1 => ⟨Or.inl rfl, rfl, rfl⟩, fun c1 => absurd e1 c1⟩)
  | some q =>
    have hql := rO_lt n _ _ hq
    have e1 : c.2.2.1 (nI k).toNatClampNeg = nI q := by rw [nu_cl (by omega), h3 k hk, hq]; rfl
    have hne : ¬ c.2.2.1 (nI k).toNatClampNeg = -1 := by rw [e1]; exact en_ne (q := q) (by omega)
    have hinq : vp_in (c.2.2.1 (nI k).toNatClampNeg) 64 := by rw [e1]; exact nu_in (by omega) (by omega)
    have e2 : c.2.2.2.2.2 (c.2.2.1 (nI k).toNatClampNeg).toNatClampNeg ≤ 0 ↔ ¬ 0 < G q := by
      rw [e1, nu_cl (by omega), (h4 q hql).2.2, nu_0, nu_le (by have := hG q; omega) (by omega)]; omega
    by_cases hg : 0 < G q
    · rw [show rW G (some q) = true from decide_eq_true hg]
      exact pm_in (pm_go [] 30 ⟨hin, fun c1 => absurd c1 hne, fun c1 => ⟨hinq, fun c2 => absurd hg (e2.mp c2), fun c2 => ⟨Or.inr rfl, rfl, rfl⟩⟩⟩)
    · rw [show rW G (some q) = false from decide_eq_false hg]
      exact pm_in (pm_go [] 30 ⟨hin, fun c1 => absurd c1 hne, fun c1 => ⟨hinq, fun c2 => ⟨Or.inl rfl, rfl, rfl⟩, fun c2 => absurd (e2.mpr hg) c2⟩⟩)
theorem c_lengthAt_c (sc : Nat × (Nat → Int32)) (d : Nat) (H : tH) (r : tR) (c : tR) (P : tP) (w : tW) (B : tB) (M : tM) (N : tN) (O : tO) (op : Nat → Bool) (st : Nat) (eg : Nat → Bool) (n k q : Nat) (G : Nat → Nat) (hn : n ≤ 64) (hk : k < n) (hq : rO op st eg n k = some q) (hR : RC op st eg n G c) : pm_D sc (d + 1) mX3_lengthAt [.ref 10, .int (nI k)] (hp H r c P w B M N O) (some (.int (nI (rN op st eg n q)))) (hp H r c P w B M N O) := by
  obtain ⟨h1, h2, h3, h4⟩ := hR
  have hcl := rC_le op st eg n
  have hin : vp_in (nI k) 64 := nu_in (by omega) (by omega)
  have hql := rO_lt n _ _ hq
  have e1 : c.2.2.1 (nI k).toNatClampNeg = nI q := by rw [nu_cl (by omega), h3 k hk, hq]; rfl
  have hne : ¬ c.2.2.1 (nI k).toNatClampNeg = -1 := by rw [e1]; exact en_ne (q := q) (by omega)
  have hinq : vp_in (c.2.2.1 (nI k).toNatClampNeg) 64 := by rw [e1]; exact nu_in (by omega) (by omega)
  refine pm_in (pm_go [] 30 ⟨hin, fun c1 => ⟨hinq, ?_, rfl⟩, fun c1 => absurd c1 hne⟩)
  rw [e1, nu_cl (by omega), (h4 q hql).2.1]
theorem c_cellOf_c (sc : Nat × (Nat → Int32)) (d : Nat) (H : tH) (r : tR) (c : tR) (P : tP) (w : tW) (B : tB) (M : tM) (N : tN) (O : tO) (op : Nat → Bool) (st : Nat) (eg : Nat → Bool) (n q i : Nat) (G : Nat → Nat) (hn : n ≤ 64) (hq : q < rC op st eg n) (hR : RC op st eg n G c) : pm_D sc (d + 1) mX3_cellOf [.ref 10, .int (nI q), .int (nI i)] (hp H r c P w B M N O) (some (.int (nI (rL op st eg n q + i * st)))) (hp H r c P w B M N O) := by
  obtain ⟨h1, h2, h3, h4⟩ := hR
  have hcl := rC_le op st eg n
  refine pm_in (pm_go [] 30 ⟨nu_in (by omega) (by omega), ?_, rfl⟩)
  rw [nu_cl (by omega), (h4 q hq).1, h2, ← nI_add, ← pk_mul]
  rfl
end
section
/-! THE CLASS'S Hall: numbering -/
abbrev egR (W : Nat) : Nat → Bool := fun k => k % W == 0
abbrev egC (W : Nat) : Nat → Bool := fun k => decide (k < W)
/-- guards of a run -/
def rG (op : Nat → Bool) (st : Nat) (eg : Nat → Bool) (gd : Nat → Bool) (n q : Nat) : Nat := ct (fun k => (rO op st eg n k == some q) && gd k) n
theorem RC_G {op : Nat → Bool} {st : Nat} {eg : Nat → Bool} {n : Nat} {G G' : Nat → Nat} {R : tR} (h : RC op st eg n G R) (hg : ∀ q, q < rC op st eg n → G q = G' q) : RC op st eg n G' R := by
  obtain ⟨h1, h2, h3, h4⟩ := h
  exact ⟨h1, h2, h3, fun q hq => by rw [← hg q hq]; exact h4 q hq⟩
theorem rG_step (op : Nat → Bool) (st : Nat) (eg gd : Nat → Bool) (n q : Nat) : rG op st eg gd (n + 1) q = rG op st eg gd n q + (if rO op st eg (n + 1) n = some q ∧ gd n = true then 1 else 0) := by
  unfold rG
  show ct _ n + _ = _
  rw [ct_congr (q := fun k => (rO op st eg n k == some q) && gd k) n (fun i hi => by rw [rO_old hi])]
  congr 1
  by_cases h : rO op st eg (n + 1) n = some q ∧ gd n = true
  · simp [h.1, h.2]
  · rw [if_neg h]
    by_cases h1 : rO op st eg (n + 1) n = some q
    · have : gd n = false := by cases hg : gd n with
        | false => rfl
        | true => exact absurd ⟨h1, hg⟩ h
      simp [this]
    · simp [h1]
theorem rG_new (op : Nat → Bool) (st : Nat) (eg gd : Nat → Bool) (n : Nat) : rG op st eg gd n (rC op st eg n) = 0 := by
  unfold rG
  apply ct_none
  intro i _
  cases h : rO op st eg n i with
  | none => rfl
  | some q =>
    have := rO_lt n i q h
    have h2 : (some q == some (rC op st eg n)) = false := by simp; omega
    rw [h2]; rfl
theorem rG_le (op : Nat → Bool) (st : Nat) (eg gd : Nat → Bool) (n q : Nat) : rG op st eg gd n q ≤ n := ct_le _ _
theorem egR_st {W : Nat} : ∀ k, egR W k = false → 1 ≤ k := fun k h => by
  cases k with
  | zero => simp [egR] at h
  | succ k => omega
theorem egC_st {W : Nat} : ∀ k, egC W k = false → W ≤ k := fun k h => by
  have := of_decide_eq_false h
  omega
theorem c_numberOf (sc : Nat × (Nat → Int32)) (d : Nat) (hw : Int32) (hh : Int32) (hc : Int32) (ho : tA) (hg : tA) (r : tR) (c : tR) (P : tP) (w : tW) (B : tB) (M : tM) (N : tN) (O : tO) (W x y : Nat) (hW : hw = nI W) : pm_D sc (d + 1) mX1_numberOf [.ref 2, .int (nI x), .int (nI y)] (hp (hw, hh, hc, ho, hg) r c P w B M N O) (some (.int (nI (y * W + x)))) (hp (hw, hh, hc, ho, hg) r c P w B M N O) := by
  refine pm_in (pm_go [] 20 ⟨?_, rfl⟩)
  rw [hW, ← nI_add, ← pk_mul]
  rfl
theorem c_numberCell (sc : Nat × (Nat → Int32)) (d : Nat) (hw : Int32) (hh : Int32) (hc : Int32) (ho : tA) (hg : tA) (r : tR) (c : tR) (P : tP) (w : tW) (B : tB) (M : tM) (N : tN) (O : tO) (W x y : Nat) (op gd : Nat → Bool) (hW : hw = nI W) (bW : 1 ≤ W ∧ W ≤ 8) (hx : x < W) (hn : y * W + x < 64) (hop : ∀ k, k < 64 → ho k = bI (op k)) (hgd : ∀ k, k < 64 → hg k = bI (gd k))
    (R1 : RC op 1 (egR W) (y * W + x) (rG op 1 (egR W) gd (y * W + x)) r) (R2 : RC op W (egC W) (y * W + x) (rG op W (egC W) gd (y * W + x)) c) :
    ∃ r' c' : tR, pm_D sc (d + 2) mX1_numberCell [.ref 2, .int (nI x), .int (nI y)] (hp (hw, hh, hc, ho, hg) r c P w B M N O) none (hp (hw, hh, hc, ho, hg) (r') (c') P w B M N O) ∧ RC op 1 (egR W) (y * W + x + 1) (rG op 1 (egR W) gd (y * W + x + 1)) r' ∧ RC op W (egC W) (y * W + x + 1) (rG op W (egC W) gd (y * W + x + 1)) c' := by
  have hno := c_numberOf sc d hw hh hc ho hg r c P w B M N O W x y hW
  have hx8 : x < 8 := by omega
  have hy : y < 64 := by
    have : y * 1 ≤ y * W := Nat.mul_le_mul_left y bW.1
    omega
  have e1 : (y * W + x) % W = x := by rw [Nat.mul_comm, Nat.mul_add_mod, Nat.mod_eq_of_lt hx]
  have e2 : y * W + x < W ↔ y = 0 := by
    constructor
    · intro h
      cases y with
      | zero => rfl
      | succ y => rw [Nat.add_mul] at h; omega
    · intro h; subst h; omega
  generalize y * W + x = n at *
  have hin : vp_in (nI n) 64 := nu_in hn (by omega)
  have hcl : (nI n).toNatClampNeg = n := nu_cl (by omega)
  have eo : ho (nI n).toNatClampNeg = bI (op n) := by rw [hcl, hop n hn]
  have eg : hg (nI n).toNatClampNeg = bI (gd n) := by rw [hcl, hgd n hn]
  cases hO : op n with
  | false =>
    obtain ⟨r1, t1, s1⟩ := c_takeShut_r sc d (hw, hh, hc, ho, hg) r c P w B M N O op 1 (egR W) n _ hn hO R1
    obtain ⟨c1, t2, s2⟩ := c_takeShut_c sc d (hw, hh, hc, ho, hg) r1 c P w B M N O op W (egC W) n _ hn hO R2
    have z1 : ∀ q, rG op 1 (egR W) gd n q = rG op 1 (egR W) gd (n + 1) q := fun q => by
      rw [rG_step, rO_shut hO, rO_out n n (Nat.le_refl _), if_neg (by simp)]; rfl
    have z2 : ∀ q, rG op W (egC W) gd n q = rG op W (egC W) gd (n + 1) q := fun q => by
      rw [rG_step, rO_shut hO, rO_out n n (Nat.le_refl _), if_neg (by simp)]; rfl
    refine ⟨r1, c1, pm_in (pm_go [] 40 ⟨_, _, hno, hin, fun q => ?_, fun q => ⟨_, _, t1, _, _, t2, rfl, rfl⟩⟩), RC_G s1 (fun q _ => z1 q), RC_G s2 (fun q _ => z2 q)⟩
    exact absurd (show ho (nI n).toNatClampNeg = 0 by rw [eo, hO]; rfl) q
  | true =>
    have hx1 : (egR W n = true ∧ (if x = 0 then (1 : Int32) else 0) = 1) ∨ (egR W n = false ∧ (if x = 0 then (1 : Int32) else 0) = 0) := by
      unfold egR
      rw [e1]
      by_cases h0 : x = 0
      · left; rw [if_pos h0]; simp [h0]
      · right; rw [if_neg h0]; simp [h0]
    have hy1 : (egC W n = true ∧ (if y = 0 then (1 : Int32) else 0) = 1) ∨ (egC W n = false ∧ (if y = 0 then (1 : Int32) else 0) = 0) := by
      unfold egC
      by_cases h0 : y = 0
      · left; rw [if_pos h0]; exact ⟨decide_eq_true (e2.mpr h0), rfl⟩
      · right; rw [if_neg h0]; exact ⟨decide_eq_false (fun z => h0 (e2.mp z)), rfl⟩
    obtain ⟨r1, t1, s1⟩ := c_takeOpen_r sc d (hw, hh, hc, ho, hg) r c P w B M N O op 1 (egR W) n _ _ hn (by omega) (by omega) egR_st hO hx1 R1
    obtain ⟨c1, t2, s2⟩ := c_takeOpen_c sc d (hw, hh, hc, ho, hg) r1 c P w B M N O op W (egC W) n _ _ hn (by omega) (by omega) egC_st hO hy1 R2
    have hne : ¬ ho (nI n).toNatClampNeg = 0 := by rw [eo, hO]; decide
    -- the runs of the cell
    obtain ⟨q1, hq1⟩ : ∃ q, rO op 1 (egR W) (n + 1) n = some q := by
      cases h : rO op 1 (egR W) (n + 1) n with
      | none => rw [rO_op (n + 1) n (by omega), hO] at h; cases h
      | some q => exact ⟨q, rfl⟩
    obtain ⟨q2, hq2⟩ : ∃ q, rO op W (egC W) (n + 1) n = some q := by
      cases h : rO op W (egC W) (n + 1) n with
      | none => rw [rO_op (n + 1) n (by omega), hO] at h; cases h
      | some q => exact ⟨q, rfl⟩
    -- guards but this cell's
    have z1 : ∀ q, (if rS op 1 (egR W) n = true ∧ q = rC op 1 (egR W) n then 0 else rG op 1 (egR W) gd n q) = rG op 1 (egR W) gd n q := fun q => by
      split
      · rename_i h; rw [h.2, rG_new]
      · rfl
    have z2 : ∀ q, (if rS op W (egC W) n = true ∧ q = rC op W (egC W) n then 0 else rG op W (egC W) gd n q) = rG op W (egC W) gd n q := fun q => by
      split
      · rename_i h; rw [h.2, rG_new]
      · rfl
    have s1 := RC_G s1 (G' := rG op 1 (egR W) gd n) (fun q _ => z1 q)
    have s2 := RC_G s2 (G' := rG op W (egC W) gd n) (fun q _ => z2 q)
    have bx : nI x = 0 ↔ x = 0 := by rw [nu_0, nu_eq (by omega) (by omega)]
    have by' : nI y = 0 ↔ y = 0 := by rw [nu_0, nu_eq (by omega) (by omega)]
    cases hG : gd n with
    | false =>
      have g0 : hg (nI n).toNatClampNeg = 0 := by rw [eg, hG]; decide
      have y1 : ∀ q, rG op 1 (egR W) gd n q = rG op 1 (egR W) gd (n + 1) q := fun q => by
        rw [rG_step, if_neg (by rw [hG]; simp)]; rfl
      have y2 : ∀ q, rG op W (egC W) gd n q = rG op W (egC W) gd (n + 1) q := fun q => by
        rw [rG_step, if_neg (by rw [hG]; simp)]; rfl
      have last : pm_Go sc (d + 1) (pm_cd mX1_numberCell) (37, [some (.ref 2), some (.int (nI x)), some (.int (nI y)), some (.int (nI n))], [], (hp (hw, hh, hc, ho, hg) (r1) (c1) P w B M N O)) (fun r2 h2 => r2 = none ∧ h2 = (hp (hw, hh, hc, ho, hg) (r1) (c1) P w B M N O)) :=
        pm_go [] 30 ⟨hin, fun q => ⟨rfl, rfl⟩, fun q => absurd g0 q⟩
      have mid : pm_Go sc (d + 1) (pm_cd mX1_numberCell) (28, [some (.ref 2), some (.int (nI x)), some (.int (nI y)), some (.int (nI n))], [], (hp (hw, hh, hc, ho, hg) (r1) c P w B M N O)) (fun r2 h2 => r2 = none ∧ h2 = (hp (hw, hh, hc, ho, hg) (r1) (c1) P w B M N O)) := by
        refine pm_go [37] 30 ⟨fun q => ?_, fun q => ?_⟩
        · have q0 : ¬ y = 0 := fun z => q (by'.mpr z)
          rw [if_neg q0] at t2
          exact ⟨_, _, t2, last⟩
        · rw [if_pos (by'.mp q)] at t2
          exact ⟨_, _, t2, last⟩
      refine ⟨r1, c1, pm_in (pm_go [28] 60 ⟨_, _, hno, hin, fun q => ⟨fun q => ?_, fun q => ?_⟩, fun q => absurd q hne⟩), RC_G s1 (fun q _ => y1 q), RC_G s2 (fun q _ => y2 q)⟩
      · have q0 : ¬ x = 0 := fun z => q (bx.mpr z)
        rw [if_neg q0] at t1
        exact ⟨_, _, t1, mid⟩
      · rw [if_pos (bx.mp q)] at t1
        exact ⟨_, _, t1, mid⟩
    | true =>
      have g0 : ¬ hg (nI n).toNatClampNeg = 0 := by rw [eg, hG]; decide
      obtain ⟨r3, t3, s3⟩ := c_addGuards_r sc d (hw, hh, hc, ho, hg) r1 c1 P w B M N O op 1 (egR W) (n + 1) n q1 (rG op 1 (egR W) gd n q1 + 1) (rG op 1 (egR W) gd n) 1 (by omega) (by omega) hq1 (nI_1 _) s1
      obtain ⟨c3, t4, s4⟩ := c_addGuards_c sc d (hw, hh, hc, ho, hg) r3 c1 P w B M N O op W (egC W) (n + 1) n q2 (rG op W (egC W) gd n q2 + 1) (rG op W (egC W) gd n) 1 (by omega) (by omega) hq2 (nI_1 _) s2
      have y1 : ∀ q, upN (rG op 1 (egR W) gd n) q1 (rG op 1 (egR W) gd n q1 + 1) q = rG op 1 (egR W) gd (n + 1) q := fun q => by
        rw [rG_step, hq1]
        unfold upN
        by_cases hqq : q = q1
        · subst hqq; rw [if_pos rfl, if_pos ⟨rfl, hG⟩]
        · rw [if_neg hqq, if_neg (fun z => hqq (Option.some.inj z.1).symm)]; rfl
      have y2 : ∀ q, upN (rG op W (egC W) gd n) q2 (rG op W (egC W) gd n q2 + 1) q = rG op W (egC W) gd (n + 1) q := fun q => by
        rw [rG_step, hq2]
        unfold upN
        by_cases hqq : q = q2
        · subst hqq; rw [if_pos rfl, if_pos ⟨rfl, hG⟩]
        · rw [if_neg hqq, if_neg (fun z => hqq (Option.some.inj z.1).symm)]; rfl
      have last : pm_Go sc (d + 1) (pm_cd mX1_numberCell) (37, [some (.ref 2), some (.int (nI x)), some (.int (nI y)), some (.int (nI n))], [], (hp (hw, hh, hc, ho, hg) (r1) (c1) P w B M N O)) (fun r2 h2 => r2 = none ∧ h2 = (hp (hw, hh, hc, ho, hg) (r3) (c3) P w B M N O)) :=
        pm_go [] 30 ⟨hin, fun q => absurd q g0, fun q => ⟨_, _, t3, _, _, t4, rfl, rfl⟩⟩
      have mid : pm_Go sc (d + 1) (pm_cd mX1_numberCell) (28, [some (.ref 2), some (.int (nI x)), some (.int (nI y)), some (.int (nI n))], [], (hp (hw, hh, hc, ho, hg) (r1) c P w B M N O)) (fun r2 h2 => r2 = none ∧ h2 = (hp (hw, hh, hc, ho, hg) (r3) (c3) P w B M N O)) := by
        refine pm_go [37] 30 ⟨fun q => ?_, fun q => ?_⟩
        · have q0 : ¬ y = 0 := fun z => q (by'.mpr z)
          rw [if_neg q0] at t2
          exact ⟨_, _, t2, last⟩
        · rw [if_pos (by'.mp q)] at t2
          exact ⟨_, _, t2, last⟩
      refine ⟨r3, c3, pm_in (pm_go [28] 60 ⟨_, _, hno, hin, fun q => ⟨fun q => ?_, fun q => ?_⟩, fun q => absurd q hne⟩), RC_G s3 (fun q _ => y1 q), RC_G s4 (fun q _ => y2 q)⟩
      · have q0 : ¬ x = 0 := fun z => q (bx.mpr z)
        rw [if_neg q0] at t1
        exact ⟨_, _, t1, mid⟩
      · rw [if_pos (bx.mp q)] at t1
        exact ⟨_, _, t1, mid⟩
/-- what rows and columns hold in a hall -/
def HR (W Hh : Nat) (op gd : Nat → Bool) (r c : tR) : Prop := RC op 1 (egR W) (Hh * W) (rG op 1 (egR W) gd (Hh * W)) r ∧ RC op W (egC W) (Hh * W) (rG op W (egC W) gd (Hh * W)) c
theorem c_numberRuns (sc : Nat × (Nat → Int32)) (d : Nat) (hw : Int32) (hh : Int32) (hc : Int32) (ho : tA) (hg : tA) (r : tR) (c : tR) (P : tP) (w : tW) (B : tB) (M : tM) (N : tN) (O : tO) (W Hh : Nat) (op gd : Nat → Bool) (hW : hw = nI W) (hH : hh = nI Hh) (bW : 1 ≤ W ∧ W ≤ 8) (bH : 1 ≤ Hh ∧ Hh ≤ 8) (hop : ∀ k, k < 64 → ho k = bI (op k)) (hgd : ∀ k, k < 64 → hg k = bI (gd k)) :
    ∃ r' c' : tR, pm_D sc (d + 3) mX1_numberRuns [.ref 2] (hp (hw, hh, hc, ho, hg) r c P w B M N O) none (hp (hw, hh, hc, ho, hg) (r') (c') P w B M N O) ∧ HR W Hh op gd r' c' := by
  have bHW : Hh * W ≤ 64 := Nat.mul_le_mul bH.2 bW.2
  have outer : ∀ (m y : Nat) (yy : Int32) (lo : Option Value) (r c : tR), y + m = Hh → yy = nI y → RC op 1 (egR W) (y * W) (rG op 1 (egR W) gd (y * W)) r → RC op W (egC W) (y * W) (rG op W (egC W) gd (y * W)) c →
      ∃ r' c' : tR, pm_Go sc (d + 2) (pm_cd mX1_numberRuns) (11, [some (.ref 2), some (.int yy), lo], [], (hp (hw, hh, hc, ho, hg) r c P w B M N O)) (fun r2 h2 => r2 = none ∧ h2 = (hp (hw, hh, hc, ho, hg) (r') (c') P w B M N O)) ∧ HR W Hh op gd r' c' := by
    intro m
    induction m with
    | zero =>
      intro y yy lo r c hy hyy R1 R2
      subst hyy
      have : y = Hh := by omega
      subst this
      exact ⟨r, c, pm_go [] 20 ⟨fun q => ⟨rfl, rfl⟩, fun q => absurd (show hh ≤ nI y by rw [hH, nu_le (by omega) (by omega)]; exact Nat.le_refl _) q⟩, R1, R2⟩
    | succ m ih =>
      intro y yy lo r c hy hyy R1 R2
      subst hyy
      have hyW : (y + 1) * W ≤ Hh * W := Nat.mul_le_mul_right W (by omega)
      rw [Nat.add_mul, Nat.one_mul] at hyW
      have inner : ∀ (k x : Nat) (xx : Int32) (r c : tR), x + k = W → xx = nI x → RC op 1 (egR W) (y * W + x) (rG op 1 (egR W) gd (y * W + x)) r → RC op W (egC W) (y * W + x) (rG op W (egC W) gd (y * W + x)) c →
          ∃ r' c' : tR, pm_Go sc (d + 2) (pm_cd mX1_numberRuns) (17, [some (.ref 2), some (.int (nI y)), some (.int xx)], [], (hp (hw, hh, hc, ho, hg) r c P w B M N O)) (fun r2 h2 => r2 = none ∧ h2 = (hp (hw, hh, hc, ho, hg) (r') (c') P w B M N O)) ∧ HR W Hh op gd r' c' := by
        intro k
        induction k with
        | zero =>
          intro x xx r c hx hxx R1 R2
          subst hxx
          have : x = W := by omega
          subst this
          obtain ⟨r', c', g1, g2⟩ := ih (y + 1) (nI y + 1) (some (.int (nI x))) r c (by omega) (nI_1 y) (by rw [Nat.add_mul, Nat.one_mul]; exact R1) (by rw [Nat.add_mul, Nat.one_mul]; exact R2)
          exact ⟨r', c', pm_go1 [11] 20 ⟨fun q => g1, fun q => absurd (show hw ≤ nI x by rw [hW, nu_le (by omega) (by omega)]; exact Nat.le_refl _) q⟩, g2⟩
        | succ k ihk =>
          intro x xx r c hx hxx R1 R2
          subst hxx
          obtain ⟨r1, c1, t1, s1, s2⟩ := c_numberCell sc d hw hh hc ho hg r c P w B M N O W x y op gd hW bW (by omega) (by omega) hop hgd R1 R2
          obtain ⟨r', c', g1, g2⟩ := ihk (x + 1) (nI x + 1) r1 c1 (by omega) (nI_1 x) s1 s2
          exact ⟨r', c', pm_go1 [17] 20 ⟨fun q => absurd ((nu_le (a := W) (b := x) (by omega) (by omega)).mp (by rw [← hW]; exact q)) (by omega), fun q => ⟨_, _, t1, g1⟩⟩, g2⟩
      obtain ⟨r', c', g1, g2⟩ := inner W 0 0 r c (by omega) nu_0 R1 R2
      exact ⟨r', c', pm_go1 [17] 20 ⟨fun q => absurd ((nu_le (a := Hh) (b := y) (by omega) (by omega)).mp (by rw [← hH]; exact q)) (by omega), fun q => g1⟩, g2⟩
  have hz1 : RC op 1 (egR W) (0 * W) (rG op 1 (egR W) gd (0 * W)) (0, 1, r.2.2) := by
    rw [Nat.zero_mul]
    exact ⟨nu_0, nu_1, fun k hk => absurd hk (by omega), fun q hq => absurd hq (Nat.not_lt_zero q)⟩
  have hz2 : RC op W (egC W) (0 * W) (rG op W (egC W) gd (0 * W)) (0, hw, c.2.2) := by
    rw [Nat.zero_mul]
    exact ⟨nu_0, hW, fun k hk => absurd hk (by omega), fun q hq => absurd hq (Nat.not_lt_zero q)⟩
  obtain ⟨r', c', g1, g2⟩ := outer Hh 0 0 none (0, 1, r.2.2) (0, hw, c.2.2) (by omega) nu_0 hz1 hz2
  have k1 := c_runsClear_r sc (d + 1) (hw, hh, hc, ho, hg) r c P w B M N O 1
  have k2 := c_runsClear_c sc (d + 1) (hw, hh, hc, ho, hg) (0, 1, r.2.2) c P w B M N O hw
  exact ⟨r', c', pm_in (pm_go [11] 30 ⟨_, _, k1, _, _, k2, g1⟩), g2⟩
theorem c_hallClear (sc : Nat × (Nat → Int32)) (d : Nat) (hw : Int32) (hh : Int32) (hc : Int32) (ho : tA) (hg : tA) (r : tR) (c : tR) (P : tP) (w : tW) (B : tB) (M : tM) (N : tN) (O : tO) (W Hh : Nat) (bW : 1 ≤ W ∧ W ≤ 8) (bH : 1 ≤ Hh ∧ Hh ≤ 8) :
    ∃ (ho' hg' : tA) (r' c' : tR), pm_D sc (d + 4) mX1_clear [.ref 2, .int (nI W), .int (nI Hh)] (hp (hw, hh, hc, ho, hg) r c P w B M N O) none (hp ((nI W, nI Hh, 0, ho', hg')) (r') (c') P w B M N O) ∧ (∀ k, k < 64 → ho' k = 1) ∧ (∀ k, k < 64 → hg' k = 0) ∧ HR W Hh (fun _ => true) (fun _ => false) r' c' := by
  have loop : ∀ (m k : Nat) (x : Int32) (f g : tA), k + m = 64 → x = nI k → (∀ i, i < k → f i = 1 ∧ g i = 0) → ∃ (ho' hg' : tA) (r' c' : tR), pm_Go sc (d + 3) (pm_cd mX1_clear) (11, [some (.ref 2), some (.int (nI W)), some (.int (nI Hh)), some (.int x)], [], (hp ((nI W, nI Hh, 0, f, g)) r c P w B M N O)) (fun r2 h2 => r2 = none ∧ h2 = (hp ((nI W, nI Hh, 0, ho', hg')) (r') (c') P w B M N O)) ∧ (∀ k, k < 64 → ho' k = 1) ∧ (∀ k, k < 64 → hg' k = 0) ∧ HR W Hh (fun _ => true) (fun _ => false) r' c' := by
    intro m
    induction m with
    | zero =>
      intro k x f g hk hx hf
      subst hx
      have : k = 64 := by omega
      subst this
      obtain ⟨r', c', g1, g2⟩ := c_numberRuns sc d (nI W) (nI Hh) 0 f g r c P w B M N O W Hh (fun _ => true) (fun _ => false) rfl rfl bW bH (fun k hk => (hf k hk).1) (fun k hk => (hf k hk).2)
      exact ⟨f, g, r', c', pm_go [] 20 ⟨fun q => ⟨_, _, g1, rfl, rfl⟩, fun q => absurd (by decide) q⟩, fun k hk => (hf k hk).1, fun k hk => (hf k hk).2, g2⟩
    | succ m ih =>
      intro k x f g hk hx hf
      subst hx
      have hin : vp_in (nI k) 64 := nu_in (by omega) (by omega)
      obtain ⟨ho', hg', r', c', g1, g2⟩ := ih (k + 1) (nI k + 1) (upd f (nI k).toNatClampNeg 1) (upd g (nI k).toNatClampNeg 0) (by omega) (nI_1 k) (fun i hi => by
        rw [nu_cl (by omega), nu_upd, nu_upd]
        by_cases hik : i = k
        · rw [if_pos hik, if_pos hik]; exact ⟨rfl, rfl⟩
        · rw [if_neg hik, if_neg hik]; exact hf i (by omega))
      exact ⟨ho', hg', r', c', pm_go1 [11] 30 ⟨fun q => absurd ((nu_le (a := 64) (b := k) (by omega) (by omega)).mp (by rw [← nu_64]; exact q)) (by omega), fun q => ⟨hin, Or.inr rfl, hin, Or.inl rfl, g1⟩⟩, g2⟩
  obtain ⟨ho', hg', r', c', g1, g2⟩ := loop 64 0 0 ho hg (by omega) nu_0 (fun i hi => absurd hi (by omega))
  exact ⟨ho', hg', r', c', pm_in (pm_go [11] 20 g1), g2⟩
end
section
/-! THE CLASS'S Hall: the rest -/
theorem ct_flip {p p' : Nat → Bool} {k : Nat} (h1 : p k = false) (h2 : p' k = true) : ∀ n, k < n → (∀ i, i < n → i ≠ k → p' i = p i) → ct p' n = ct p n + 1
  | 0, h, _ => absurd h (by omega)
  | n + 1, h, ho => by
    unfold ct
    by_cases hk : k = n
    · subst hk
      rw [h1, h2, ct_congr k (fun i hi => ho i (by omega) (by omega))]
      simp
    · rw [ct_flip h1 h2 n (by omega) (fun i hi hne => ho i (by omega) hne), ho n (by omega) (fun z => hk z.symm)]
      omega
def gdU (gd : Nat → Bool) (k : Nat) (b : Bool) : Nat → Bool := fun j => if j = k then b else gd j
theorem rG_come {op : Nat → Bool} {st : Nat} {eg gd : Nat → Bool} {n k q0 : Nat} (hk : k < n) (hq : rO op st eg n k = some q0) (hg : gd k = false) (q : Nat) : rG op st eg (gdU gd k true) n q = upN (rG op st eg gd n) q0 (rG op st eg gd n q0 + 1) q := by
  unfold upN
  by_cases hqq : q = q0
  · subst hqq
    rw [if_pos rfl]
    unfold rG
    refine ct_flip (k := k) ?_ ?_ n hk (fun i hi hne => ?_)
    · simp [hg]
    · simp [hq, gdU]
    · simp [gdU, hne]
  · rw [if_neg hqq]
    unfold rG
    refine ct_congr n (fun i hi => ?_)
    by_cases hik : i = k
    · subst hik
      have : (some q0 == some q) = false := by simpa using Ne.symm hqq
      rw [hq, this]; rfl
    · simp [gdU, hik]
theorem rG_go {op : Nat → Bool} {st : Nat} {eg gd : Nat → Bool} {n k q0 : Nat} (hk : k < n) (hq : rO op st eg n k = some q0) (hg : gd k = true) (q : Nat) : rG op st eg (gdU gd k false) n q = upN (rG op st eg gd n) q0 (rG op st eg gd n q0 - 1) q := by
  unfold upN
  by_cases hqq : q = q0
  · subst hqq
    rw [if_pos rfl]
    have h := ct_flip (p := fun j => (rO op st eg n j == some q) && gdU gd k false j) (p' := fun j => (rO op st eg n j == some q) && gd j) (k := k) (by simp [gdU]) (by simp [hq, hg]) n hk (fun i hi hne => by simp [gdU, hne])
    unfold rG
    omega
  · rw [if_neg hqq]
    unfold rG
    refine ct_congr n (fun i hi => ?_)
    by_cases hik : i = k
    · subst hik
      have : (some q0 == some q) = false := by simpa using Ne.symm hqq
      rw [hq, this]; rfl
    · simp [gdU, hik]
theorem rG_pos {op : Nat → Bool} {st : Nat} {eg gd : Nat → Bool} {n k q0 : Nat} (hk : k < n) (hq : rO op st eg n k = some q0) (hg : gd k = true) : 0 < rG op st eg gd n q0 := by
  unfold rG
  exact ct_pos n k hk (by simp [hq, hg])
/-- seen -/
def sE (W Hh : Nat) (op gd : Nat → Bool) (k : Nat) : Bool := rW (rG op 1 (egR W) gd (Hh * W)) (rO op 1 (egR W) (Hh * W) k) || rW (rG op W (egC W) gd (Hh * W)) (rO op W (egC W) (Hh * W) k)
/-- an open cell's run -/
theorem rO_some {op : Nat → Bool} {st : Nat} {eg : Nat → Bool} {n k : Nat} (hk : k < n) (ho : op k = true) : ∃ q, rO op st eg n k = some q := by
  cases h : rO op st eg n k with
  | none => rw [rO_op n k hk, ho] at h; cases h
  | some q => exact ⟨q, rfl⟩
theorem c_isSeen (sc : Nat × (Nat → Int32)) (d : Nat) (H : tH) (r : tR) (c : tR) (P : tP) (w : tW) (B : tB) (M : tM) (N : tN) (O : tO) (W Hh k : Nat) (op gd : Nat → Bool) (bHW : Hh * W ≤ 64) (hk : k < Hh * W) (hR : HR W Hh op gd r c) : pm_D sc (d + 2) mX1_isSeen [.ref 2, .int (nI k)] (hp H r c P w B M N O) (some (.int (bI (sE W Hh op gd k)))) (hp H r c P w B M N O) := by
  have h1 := c_isWatched_r sc d H r c P w B M N O op 1 (egR W) (Hh * W) k _ bHW hk (fun q => Nat.le_trans (rG_le _ _ _ _ _ _) bHW) hR.1
  have h2 := c_isWatched_c sc d H r c P w B M N O op W (egC W) (Hh * W) k _ bHW hk (fun q => Nat.le_trans (rG_le _ _ _ _ _ _) bHW) hR.2
  unfold sE
  generalize rW (rG op 1 (egR W) gd (Hh * W)) (rO op 1 (egR W) (Hh * W) k) = b1 at h1 ⊢
  generalize rW (rG op W (egC W) gd (Hh * W)) (rO op W (egC W) (Hh * W) k) = b2 at h2 ⊢
  cases b1 with
  | true => exact pm_in (pm_go [] 30 ⟨_, _, h1, fun q => ⟨Or.inr rfl, rfl, rfl⟩, fun q => absurd q (by decide)⟩)
  | false =>
    cases b2 with
    | true => exact pm_in (pm_go [] 30 ⟨_, _, h1, fun q => absurd rfl q, fun q => ⟨_, _, h2, fun q => absurd q (by decide), fun q => ⟨Or.inr rfl, rfl, rfl⟩⟩⟩)
    | false => exact pm_in (pm_go [] 30 ⟨_, _, h1, fun q => absurd rfl q, fun q => ⟨_, _, h2, fun q => ⟨Or.inl rfl, rfl, rfl⟩, fun q => absurd rfl q⟩⟩)
/-- what a cell is -/
def kN (W Hh : Nat) (op gd : Nat → Bool) (k : Nat) : Int32 := if op k then (if gd k then 3 else if sE W Hh op gd k then 2 else 1) else 0
theorem c_kindOf (sc : Nat × (Nat → Int32)) (d : Nat) (hw : Int32) (hh : Int32) (hc : Int32) (ho : tA) (hg : tA) (r : tR) (c : tR) (P : tP) (w : tW) (B : tB) (M : tM) (N : tN) (O : tO) (W Hh k : Nat) (op gd : Nat → Bool) (bHW : Hh * W ≤ 64) (hk : k < Hh * W) (hop : ∀ k, k < 64 → ho k = bI (op k)) (hgd : ∀ k, k < 64 → hg k = bI (gd k)) (hR : HR W Hh op gd r c) : pm_D sc (d + 3) mX1_kindOf [.ref 2, .int (nI k)] (hp (hw, hh, hc, ho, hg) r c P w B M N O) (some (.int (kN W Hh op gd k))) (hp (hw, hh, hc, ho, hg) r c P w B M N O) := by
  have hin : vp_in (nI k) 64 := nu_in (by omega) (by omega)
  have e1 : ho (nI k).toNatClampNeg = bI (op k) := by rw [nu_cl (by omega)]; exact hop k (by omega)
  have e2 : hg (nI k).toNatClampNeg = bI (gd k) := by rw [nu_cl (by omega)]; exact hgd k (by omega)
  have h1 := c_isSeen sc d (hw, hh, hc, ho, hg) r c P w B M N O W Hh k op gd bHW hk hR
  unfold kN
  cases hO : op k with
  | false =>
    rw [hO] at e1
    exact pm_in (pm_go [] 30 ⟨hin, fun q => absurd e1 q, fun q => ⟨rfl, rfl⟩⟩)
  | true =>
    have e1 : ¬ ho (nI k).toNatClampNeg = 0 := by rw [e1, hO]; decide
    cases hG : gd k with
    | true =>
      have e2 : ¬ hg (nI k).toNatClampNeg = 0 := by rw [e2, hG]; decide
      exact pm_in (pm_go [] 30 ⟨hin, fun q => ⟨hin, fun q => absurd q e2, fun q => ⟨rfl, rfl⟩⟩, fun q => absurd q e1⟩)
    | false =>
      have e2 : hg (nI k).toNatClampNeg = 0 := by rw [e2, hG]; decide
      cases hS : sE W Hh op gd k with
      | true =>
        rw [hS] at h1
        exact pm_in (pm_go [] 40 ⟨hin, fun q => ⟨hin, fun q => ⟨_, _, h1, fun q => absurd q (by decide), fun q => ⟨rfl, rfl⟩⟩, fun q => absurd e2 q⟩, fun q => absurd q e1⟩)
      | false =>
        rw [hS] at h1
        exact pm_in (pm_go [] 40 ⟨hin, fun q => ⟨hin, fun q => ⟨_, _, h1, fun q => ⟨rfl, rfl⟩, fun q => absurd rfl q⟩, fun q => absurd e2 q⟩, fun q => absurd q e1⟩)
/-- how many cells are seen from a cell -/
def sN (W Hh : Nat) (op : Nat → Bool) (k : Nat) : Int32 := match rO op 1 (egR W) (Hh * W) k, rO op W (egC W) (Hh * W) k with
  | some q1, some q2 => nI (rN op 1 (egR W) (Hh * W) q1) + nI (rN op W (egC W) (Hh * W) q2) - 1
  | _, _ => 0
theorem c_sightFrom (sc : Nat × (Nat → Int32)) (d : Nat) (hw : Int32) (hh : Int32) (hc : Int32) (ho : tA) (hg : tA) (r : tR) (c : tR) (P : tP) (w : tW) (B : tB) (M : tM) (N : tN) (O : tO) (W Hh k : Nat) (op gd : Nat → Bool) (bHW : Hh * W ≤ 64) (hk : k < Hh * W) (hop : ∀ k, k < 64 → ho k = bI (op k)) (hR : HR W Hh op gd r c) : pm_D sc (d + 2) mX1_sightFrom [.ref 2, .int (nI k)] (hp (hw, hh, hc, ho, hg) r c P w B M N O) (some (.int (sN W Hh op k))) (hp (hw, hh, hc, ho, hg) r c P w B M N O) := by
  have hin : vp_in (nI k) 64 := nu_in (by omega) (by omega)
  have e1 : ho (nI k).toNatClampNeg = bI (op k) := by rw [nu_cl (by omega)]; exact hop k (by omega)
  cases hO : op k with
  | false =>
    rw [hO] at e1
    have : rO op 1 (egR W) (Hh * W) k = none := (rO_op _ k hk).mpr hO
    unfold sN
    rw [this]
    exact pm_in (pm_go [] 30 ⟨hin, fun q => ⟨rfl, rfl⟩, fun q => absurd e1 q⟩)
  | true =>
    have e1 : ¬ ho (nI k).toNatClampNeg = 0 := by rw [e1, hO]; decide
    obtain ⟨q1, hq1⟩ := rO_some (st := 1) (eg := egR W) hk hO
    obtain ⟨q2, hq2⟩ := rO_some (st := W) (eg := egC W) hk hO
    have h1 := c_lengthAt_r sc d (hw, hh, hc, ho, hg) r c P w B M N O op 1 (egR W) (Hh * W) k q1 _ bHW hk hq1 hR.1
    have h2 := c_lengthAt_c sc d (hw, hh, hc, ho, hg) r c P w B M N O op W (egC W) (Hh * W) k q2 _ bHW hk hq2 hR.2
    unfold sN
    rw [hq1, hq2]
    exact pm_in (pm_go [] 30 ⟨hin, fun q => absurd q e1, fun q => ⟨_, _, h1, _, _, h2, rfl, rfl⟩⟩)
theorem hw_mul {hw hh : Int32} {W Hh : Nat} (hW : hw = nI W) (hH : hh = nI Hh) : hw * hh = nI (Hh * W) := by rw [hW, hH, pk_mul, Nat.mul_comm]
theorem c_countSeen (sc : Nat × (Nat → Int32)) (d : Nat) (hw : Int32) (hh : Int32) (hc : Int32) (ho : tA) (hg : tA) (r : tR) (c : tR) (P : tP) (w : tW) (B : tB) (M : tM) (N : tN) (O : tO) (W Hh : Nat) (op gd : Nat → Bool) (hW : hw = nI W) (hH : hh = nI Hh) (bHW : Hh * W ≤ 64) (hR : HR W Hh op gd r c) : pm_D sc (d + 3) mX1_countSeen [.ref 2] (hp (hw, hh, hc, ho, hg) r c P w B M N O) (some (.int (nI (ct (sE W Hh op gd) (Hh * W))))) (hp (hw, hh, hc, ho, hg) r c P w B M N O) := by
  have hm : hw * hh = nI (Hh * W) := hw_mul hW hH
  have loop : ∀ (m k : Nat) (x y : Int32), k + m = Hh * W → x = nI (ct (sE W Hh op gd) k) → y = nI k → pm_Go sc (d + 2) (pm_cd mX1_countSeen) (4, [some (.ref 2), some (.int x), some (.int y)], [], (hp (hw, hh, hc, ho, hg) r c P w B M N O)) (fun r2 h2 => r2 = some (.int (nI (ct (sE W Hh op gd) (Hh * W)))) ∧ h2 = (hp (hw, hh, hc, ho, hg) r c P w B M N O)) := by
    intro m
    induction m with
    | zero =>
      intro k x y hk hx hy
      subst hy
      subst hx
      have : k = Hh * W := by omega
      subst this
      exact pm_go [] 20 ⟨fun q => ⟨rfl, rfl⟩, fun q => absurd (show hw * hh ≤ nI (Hh * W) by rw [hm, nu_le (by omega) (by omega)]; exact Nat.le_refl _) q⟩
    | succ m ih =>
      intro k x y hk hx hy
      subst hy
      subst hx
      have hn : ¬ hw * hh ≤ nI k := by rw [hm, nu_le (by omega) (by omega)]; omega
      have h1 := c_isSeen sc d (hw, hh, hc, ho, hg) r c P w B M N O W Hh k op gd bHW (by omega) hR
      cases hS : sE W Hh op gd k with
      | true =>
        rw [hS] at h1
        refine pm_go1 [4] 30 ⟨fun q => absurd q hn, fun q => ⟨_, _, h1, fun q => absurd q (by decide), fun q => ?_⟩⟩
        exact ih (k + 1) _ _ (by omega) (by show nI (ct (sE W Hh op gd) k) + 1 = nI (ct (sE W Hh op gd) k + if sE W Hh op gd k then 1 else 0); rw [hS]; exact nI_1 _) (nI_1 k)
      | false =>
        rw [hS] at h1
        refine pm_go1 [4] 30 ⟨fun q => absurd q hn, fun q => ⟨_, _, h1, fun q => ?_, fun q => absurd rfl q⟩⟩
        exact ih (k + 1) _ _ (by omega) (by show nI (ct (sE W Hh op gd) k) = nI (ct (sE W Hh op gd) k + if sE W Hh op gd k then 1 else 0); rw [hS]; rfl) (nI_1 k)
  exact pm_in (pm_go [4] 20 (loop (Hh * W) 0 0 0 (by omega) nu_0 nu_0))
/-- the i-th cell that is open and not seen -/
def mN (W Hh : Nat) (op gd : Nat → Bool) (i : Int32) : Nat → Nat → Nat → Int32
  | 0, _, _ => -1
  | m + 1, k, a => if op k = true ∧ sE W Hh op gd k = false then (if nI a = i then nI k else mN W Hh op gd i m (k + 1) (a + 1)) else mN W Hh op gd i m (k + 1) a
theorem c_findMissed (sc : Nat × (Nat → Int32)) (d : Nat) (hw : Int32) (hh : Int32) (hc : Int32) (ho : tA) (hg : tA) (r : tR) (c : tR) (P : tP) (w : tW) (B : tB) (M : tM) (N : tN) (O : tO) (W Hh : Nat) (op gd : Nat → Bool) (i : Int32) (hW : hw = nI W) (hH : hh = nI Hh) (bHW : Hh * W ≤ 64) (hop : ∀ k, k < 64 → ho k = bI (op k)) (hR : HR W Hh op gd r c) : pm_D sc (d + 3) mX1_findMissed [.ref 2, .int i] (hp (hw, hh, hc, ho, hg) r c P w B M N O) (some (.int (mN W Hh op gd i (Hh * W) 0 0))) (hp (hw, hh, hc, ho, hg) r c P w B M N O) := by
  have hm : hw * hh = nI (Hh * W) := hw_mul hW hH
  have loop : ∀ (m k a : Nat) (x y : Int32), k + m = Hh * W → x = nI a → y = nI k → pm_Go sc (d + 2) (pm_cd mX1_findMissed) (4, [some (.ref 2), some (.int i), some (.int x), some (.int y)], [], (hp (hw, hh, hc, ho, hg) r c P w B M N O)) (fun r2 h2 => r2 = some (.int (mN W Hh op gd i m k a)) ∧ h2 = (hp (hw, hh, hc, ho, hg) r c P w B M N O)) := by
    intro m
    induction m with
    | zero =>
      intro k a x y hk hx hy
      subst hy
      subst hx
      have : k = Hh * W := by omega
      subst this
      exact pm_go [] 20 ⟨fun q => ⟨rfl, rfl⟩, fun q => absurd (show hw * hh ≤ nI (Hh * W) by rw [hm, nu_le (by omega) (by omega)]; exact Nat.le_refl _) q⟩
    | succ m ih =>
      intro k a x y hk hx hy
      subst hy
      subst hx
      have hn : ¬ hw * hh ≤ nI k := by rw [hm, nu_le (by omega) (by omega)]; omega
      have hin : vp_in (nI k) 64 := nu_in (by omega) (by omega)
      have e1 : ho (nI k).toNatClampNeg = bI (op k) := by rw [nu_cl (by omega)]; exact hop k (by omega)
      have h1 := c_isSeen sc d (hw, hh, hc, ho, hg) r c P w B M N O W Hh k op gd bHW (by omega) hR
      have skip := ih (k + 1) a (nI a) (nI k + 1) (by omega) rfl (nI_1 k)
      have go1 := ih (k + 1) (a + 1) (nI a + 1) (nI k + 1) (by omega) (nI_1 a) (nI_1 k)
      unfold mN
      cases hO : op k with
      | false =>
        rw [hO] at e1
        rw [if_neg (by simp)]
        exact pm_go1 [4] 40 ⟨fun q => absurd q hn, fun q => ⟨hin, fun q => skip, fun q => absurd e1 q⟩⟩
      | true =>
        have e1 : ¬ ho (nI k).toNatClampNeg = 0 := by rw [e1, hO]; decide
        cases hS : sE W Hh op gd k with
        | true =>
          rw [hS] at h1
          rw [if_neg (by simp)]
          exact pm_go1 [4] 40 ⟨fun q => absurd q hn, fun q => ⟨hin, fun q => absurd q e1, fun q => ⟨_, _, h1, fun q => skip, fun q => absurd q (by decide)⟩⟩⟩
        | false =>
          rw [hS] at h1
          rw [if_pos ⟨rfl, rfl⟩]
          by_cases hai : nI a = i
          · rw [if_pos hai]
            exact pm_go1 [4] 40 ⟨fun q => absurd q hn, fun q => ⟨hin, fun q => absurd q e1, fun q => ⟨_, _, h1, fun q => absurd rfl q, fun q => ⟨fun q => absurd hai q, fun q => ⟨rfl, rfl⟩⟩⟩⟩⟩
          · rw [if_neg hai]
            exact pm_go1 [4] 40 ⟨fun q => absurd q hn, fun q => ⟨hin, fun q => absurd q e1, fun q => ⟨_, _, h1, fun q => absurd rfl q, fun q => ⟨fun q => go1, fun q => absurd q hai⟩⟩⟩⟩
  exact pm_in (pm_go [4] 20 (loop (Hh * W) 0 0 0 0 (by omega) nu_0 nu_0))
theorem c_changeWall (sc : Nat × (Nat → Int32)) (d : Nat) (hw : Int32) (hh : Int32) (hc : Int32) (ho : tA) (hg : tA) (r : tR) (c : tR) (P : tP) (w : tW) (B : tB) (M : tM) (N : tN) (O : tO) (W Hh k : Nat) (op gd : Nat → Bool) (b : Bool) (hW : hw = nI W) (hH : hh = nI Hh) (bW : 1 ≤ W ∧ W ≤ 8) (bH : 1 ≤ Hh ∧ Hh ≤ 8) (hk : k < 64) (hop : ∀ k, k < 64 → ho k = bI (op k)) (hgd : ∀ k, k < 64 → hg k = bI (gd k)) (hR : HR W Hh op gd r c) :
    ∃ (ho' : tA) (r' c' : tR), pm_D sc (d + 4) mX1_changeWall [.ref 2, .int (nI k), .int (bI b)] (hp (hw, hh, hc, ho, hg) r c P w B M N O) (some (.int (bI (op k != b)))) (hp (hw, hh, hc, ho', hg) (r') (c') P w B M N O) ∧ (∀ j, j < 64 → ho' j = bI (gdU op k b j)) ∧ HR W Hh (gdU op k b) gd r' c' := by
  have hin : vp_in (nI k) 64 := nu_in (by omega) (by omega)
  have hcl : (nI k).toNatClampNeg = k := nu_cl (by omega)
  have e1 : ho (nI k).toNatClampNeg = bI (op k) := by rw [hcl]; exact hop k (by omega)
  by_cases hs : op k = b
  · have hse : gdU op k b = op := by
      funext j
      unfold gdU
      split
      · rename_i hj; rw [hj, hs]
      · rfl
    rw [hse]
    refine ⟨ho, r, c, pm_in (pm_go [] 30 ⟨hin, fun q => absurd (show ho (nI k).toNatClampNeg = bI b by rw [e1, hs]) q, fun q => ⟨Or.inl rfl, ?_, rfl⟩⟩), hop, hR⟩
    rw [hs]; simp [bI]
  · have hne : ¬ ho (nI k).toNatClampNeg = bI b := by
      rw [e1]
      cases hop1 : op k <;> cases b <;> simp [hop1] at hs <;> decide
    have hop' : ∀ j, j < 64 → upd ho (nI k).toNatClampNeg (bI b) j = bI (gdU op k b j) := fun j hj => by
      rw [hcl, nu_upd]
      unfold gdU
      split
      · rfl
      · exact hop j hj
    obtain ⟨r', c', g1, g2⟩ := c_numberRuns sc d hw hh hc (upd ho (nI k).toNatClampNeg (bI b)) hg r c P w B M N O W Hh (gdU op k b) gd hW hH bW bH hop' hgd
    refine ⟨_, r', c', pm_in (pm_go [] 30 ⟨hin, fun q => ⟨hin, bI_01 b, _, _, g1, Or.inr rfl, ?_, rfl⟩, fun q => absurd q hne⟩), hop', g2⟩
    have : (op k != b) = true := by simpa using hs
    rw [this]; rfl
theorem c_changeGuard (sc : Nat × (Nat → Int32)) (d : Nat) (hw : Int32) (hh : Int32) (hc : Int32) (ho : tA) (hg : tA) (r : tR) (c : tR) (P : tP) (w : tW) (B : tB) (M : tM) (N : tN) (O : tO) (W Hh k : Nat) (op gd : Nat → Bool) (b : Bool) (bHW : Hh * W ≤ 64) (hk : k < Hh * W) (ho1 : op k = true) (hg1 : gd k = !b) (hgd : ∀ k, k < 64 → hg k = bI (gd k)) (hR : HR W Hh op gd r c) :
    ∃ (hg' : tA) (r' c' : tR), pm_D sc (d + 2) mX1_changeGuard [.ref 2, .int (nI k), .int (bI b)] (hp (hw, hh, hc, ho, hg) r c P w B M N O) (some (.int (hc + (if b then 1 else -1)))) (hp (hw, hh, hc + (if b then 1 else -1), ho, hg') (r') (c') P w B M N O) ∧ (∀ j, j < 64 → hg' j = bI (gdU gd k b j)) ∧ HR W Hh op (gdU gd k b) r' c' := by
  have hin : vp_in (nI k) 64 := nu_in (by omega) (by omega)
  have hcl : (nI k).toNatClampNeg = k := nu_cl (by omega)
  obtain ⟨q1, hq1⟩ := rO_some (st := 1) (eg := egR W) hk ho1
  obtain ⟨q2, hq2⟩ := rO_some (st := W) (eg := egC W) hk ho1
  have hg' : ∀ j, j < 64 → upd hg (nI k).toNatClampNeg (bI b) j = bI (gdU gd k b j) := fun j hj => by
    rw [hcl, nu_upd]
    unfold gdU
    split
    · rfl
    · exact hgd j hj
  cases b with
  | true =>
    have hg1 : gd k = false := hg1
    obtain ⟨r1, t1, s1⟩ := c_addGuards_r sc d (hw, hh, hc, ho, upd hg (nI k).toNatClampNeg (bI true)) r c P w B M N O op 1 (egR W) (Hh * W) k q1 (rG op 1 (egR W) gd (Hh * W) q1 + 1) _ 1 bHW hk hq1 (nI_1 _) hR.1
    obtain ⟨c1, t2, s2⟩ := c_addGuards_c sc d (hw, hh, hc, ho, upd hg (nI k).toNatClampNeg (bI true)) r1 c P w B M N O op W (egC W) (Hh * W) k q2 (rG op W (egC W) gd (Hh * W) q2 + 1) _ 1 bHW hk hq2 (nI_1 _) hR.2
    exact ⟨_, r1, c1, pm_in (pm_go [] 40 ⟨fun q => absurd q (by decide), fun q => ⟨hin, Or.inr rfl, _, _, t1, _, _, t2, rfl, rfl⟩⟩), hg', RC_G s1 (fun q _ => (rG_come hk hq1 hg1 q).symm), RC_G s2 (fun q _ => (rG_come hk hq2 hg1 q).symm)⟩
  | false =>
    rw [if_neg Bool.false_ne_true]
    have key : ∀ x : Int32, pm_ib 0 hc x = hc + x := fun _ => rfl
    have hg1 : gd k = true := hg1
    have p1 := rG_pos hk hq1 hg1
    have p2 := rG_pos hk hq2 hg1
    obtain ⟨r1, t1, s1⟩ := c_addGuards_r sc d (hw, hh, hc, ho, upd hg (nI k).toNatClampNeg (bI false)) r c P w B M N O op 1 (egR W) (Hh * W) k q1 (rG op 1 (egR W) gd (Hh * W) q1 - 1) _ (-1) bHW hk hq1 (sb_m1 p1) hR.1
    obtain ⟨c1, t2, s2⟩ := c_addGuards_c sc d (hw, hh, hc, ho, upd hg (nI k).toNatClampNeg (bI false)) r1 c P w B M N O op W (egC W) (Hh * W) k q2 (rG op W (egC W) gd (Hh * W) q2 - 1) _ (-1) bHW hk hq2 (sb_m1 p2) hR.2
    refine ⟨upd hg (nI k).toNatClampNeg (bI false), r1, c1, pm_in (pm_go [] 40 ⟨fun q => ⟨hin, Or.inl rfl, _, _, t1, _, _, t2, ?_, ?_⟩, fun q => absurd rfl q⟩), hg', RC_G s1 (fun q _ => (rG_go hk hq1 hg1 q).symm), RC_G s2 (fun q _ => (rG_go hk hq2 hg1 q).symm)⟩
    · exact congrArg (fun z => some (Value.int z)) (key (-1))
    · rw [← key (-1)]
      rfl
end
section
/-! THE REFERENCE'S hall: parting into runs -/
theorem nu_128 : (128 : Int32) = nI 128 := by decide
/-- what the reference's rows hold of a direction, with the cells below n taken -/
def RD (op : Nat → Bool) (st : Nat) (eg : Nat → Bool) (n dd : Nat) (mo mm mz : tA) : Prop :=
  mm dd = nI (rC op st eg n) ∧ (∀ k, k < n → mo (64 * dd + k) = en (rO op st eg n k)) ∧ ∀ q, q < 32 → mz (32 * dd + q) = nI (rN op st eg n q)
theorem RD_congr {op : Nat → Bool} {st : Nat} {eg : Nat → Bool} {n dd : Nat} {mo mm mz mo' mm' mz' : tA} (h : RD op st eg n dd mo mm mz) (hn : n ≤ 64) (h1 : mm' dd = mm dd) (h2 : ∀ k, k < 64 → mo' (64 * dd + k) = mo (64 * dd + k)) (h3 : ∀ q, q < 32 → mz' (32 * dd + q) = mz (32 * dd + q)) : RD op st eg n dd mo' mm' mz' := by
  obtain ⟨a1, a2, a3⟩ := h
  exact ⟨by rw [h1]; exact a1, fun k hk => by rw [h2 k (by omega)]; exact a2 k hk, fun q hq => by rw [h3 q hq]; exact a3 q hq⟩
theorem r_isCell (sc : Nat × (Nat → Int32)) (d : Nat) (H : tH) (r : tR) (c : tR) (P : tP) (w : tW) (B : tB) (mw : Int32) (mh : Int32) (ms : tA) (mg : tA) (mc : Int32) (mo : tA) (mm : tA) (mz : tA) (mp : Int32) (N : tN) (O : tO) (W Hh : Nat) (hW : mw = nI W) (hH : mh = nI Hh) (bW : 1 ≤ W ∧ W ≤ 8) (bH : 1 ≤ Hh ∧ Hh ≤ 8) (x y : Int32) : pm_D sc (d + 2) mX6_isCell [.ref 27, .int x, .int y] (hp H r c P w B (mw, mh, ms, mg, mc, mo, mm, mz, mp) N O) (some (.int (bI (decide ((0 ≤ x.toInt ∧ x.toInt < W) ∧ (0 ≤ y.toInt ∧ y.toInt < Hh)))))) (hp H r c P w B (mw, mh, ms, mg, mc, mo, mm, mz, mp) N O) := by
  have w1 := r_within sc d (hp H r c P w B (mw, mh, ms, mg, mc, mo, mm, mz, mp) N O) x 0 (mw - 1)
  have w2 := r_within sc d (hp H r c P w B (mw, mh, ms, mg, mc, mo, mm, mz, mp) N O) y 0 (mh - 1)
  have t1 : (mw - 1).toInt = (W : Int) - 1 := by
    rw [hW, nu_sub (by rw [nu_ti (by omega)]; show _ ≤ _ - (1 : Int); omega) (by rw [nu_ti (by omega)]; show _ - (1 : Int) < _; omega), nu_ti (by omega)]; rfl
  have t2 : (mh - 1).toInt = (Hh : Int) - 1 := by
    rw [hH, nu_sub (by rw [nu_ti (by omega)]; show _ ≤ _ - (1 : Int); omega) (by rw [nu_ti (by omega)]; show _ - (1 : Int) < _; omega), nu_ti (by omega)]; rfl
  have e1 : (0 ≤ x ∧ x ≤ mw - 1) ↔ (0 ≤ x.toInt ∧ x.toInt < W) := by
    rw [Int32.le_iff_toInt_le, Int32.le_iff_toInt_le, t1]
    show (0 : Int) ≤ _ ∧ _ ↔ _
    omega
  have e2 : (0 ≤ y ∧ y ≤ mh - 1) ↔ (0 ≤ y.toInt ∧ y.toInt < Hh) := by
    rw [Int32.le_iff_toInt_le, Int32.le_iff_toInt_le, t2]
    show (0 : Int) ≤ _ ∧ _ ↔ _
    omega
  by_cases q1 : 0 ≤ x.toInt ∧ x.toInt < W
  · rw [if_pos (e1.mpr q1)] at w1
    by_cases q2 : 0 ≤ y.toInt ∧ y.toInt < Hh
    · rw [if_pos (e2.mpr q2)] at w2
      rw [decide_eq_true ⟨q1, q2⟩]
      exact pm_in (pm_go [] 30 ⟨_, _, w1, fun q => absurd q (by decide), fun q => ⟨_, _, w2, fun q => absurd q (by decide), fun q => ⟨Or.inr rfl, rfl, rfl⟩⟩⟩)
    · rw [if_neg (fun z => q2 (e2.mp z))] at w2
      rw [decide_eq_false (fun z => q2 z.2)]
      exact pm_in (pm_go [] 30 ⟨_, _, w1, fun q => absurd q (by decide), fun q => ⟨_, _, w2, fun q => ⟨Or.inl rfl, rfl, rfl⟩, fun q => absurd rfl q⟩⟩)
  · rw [if_neg (fun z => q1 (e1.mp z))] at w1
    rw [decide_eq_false (fun z => q1 z.1)]
    exact pm_in (pm_go [] 30 ⟨_, _, w1, fun q => ⟨Or.inl rfl, rfl, rfl⟩, fun q => absurd rfl q⟩)
theorem bI_not (b : Bool) : bI (!b) = 0 ↔ b = true := by cases b <;> decide
/-- isOpen at a cell that is there, or beside the hall -/
theorem r_isOpen (sc : Nat × (Nat → Int32)) (d : Nat) (H : tH) (r : tR) (c : tR) (P : tP) (w : tW) (B : tB) (mw : Int32) (mh : Int32) (ms : tA) (mg : tA) (mc : Int32) (mo : tA) (mm : tA) (mz : tA) (mp : Int32) (N : tN) (O : tO) (W Hh : Nat) (op : Nat → Bool) (hW : mw = nI W) (hH : mh = nI Hh) (bW : 1 ≤ W ∧ W ≤ 8) (bH : 1 ≤ Hh ∧ Hh ≤ 8) (hop : ∀ k, k < 64 → ms k = bI (!op k)) (x y : Int32) (b : Bool) (hb : (¬ ((0 ≤ x.toInt ∧ x.toInt < W) ∧ (0 ≤ y.toInt ∧ y.toInt < Hh)) ∧ b = false) ∨ (∃ x' y' : Nat, x = nI x' ∧ y = nI y' ∧ x' < W ∧ y' < Hh ∧ b = op (y' * W + x'))) : pm_D sc (d + 3) mX6_isOpen [.ref 27, .int x, .int y] (hp H r c P w B (mw, mh, ms, mg, mc, mo, mm, mz, mp) N O) (some (.int (bI b))) (hp H r c P w B (mw, mh, ms, mg, mc, mo, mm, mz, mp) N O) := by
  have h1 := r_isCell sc d H r c P w B mw mh ms mg mc mo mm mz mp N O W Hh hW hH bW bH x y
  rcases hb with ⟨hn, rfl⟩ | ⟨x', y', rfl, rfl, hx, hy, rfl⟩
  · rw [decide_eq_false hn] at h1
    exact pm_in (pm_go [] 40 ⟨_, _, h1, fun q => ⟨Or.inl rfl, rfl, rfl⟩, fun q => absurd rfl q⟩)
  · rw [decide_eq_true (by rw [nu_ti (by omega), nu_ti (by omega)]; omega)] at h1
    have hn : y' * W + x' < 64 := by
      have : (y' + 1) * W ≤ Hh * W := Nat.mul_le_mul_right W (by omega)
      have h2 : Hh * W ≤ 8 * 8 := Nat.mul_le_mul bH.2 bW.2
      rw [Nat.add_mul] at this
      omega
    have e1 : nI y' * mw + nI x' = nI (y' * W + x') := by rw [hW, pk_mul, nI_add]
    have hin : vp_in (nI y' * mw + nI x') 64 := by rw [e1]; exact nu_in hn (by omega)
    have e2 : ms (nI y' * mw + nI x').toNatClampNeg = bI (!op (y' * W + x')) := by rw [e1, nu_cl (by omega)]; exact hop _ hn
    cases hO : op (y' * W + x') with
    | true =>
      rw [hO] at e2
      exact pm_in (pm_go [] 40 ⟨_, _, h1, fun q => absurd q (by decide), fun q => ⟨hin, fun q => absurd e2 q, fun q => ⟨Or.inr rfl, rfl, rfl⟩⟩⟩)
    | false =>
      have e2 : ¬ ms (nI y' * mw + nI x').toNatClampNeg = 0 := by rw [e2, hO]; decide
      exact pm_in (pm_go [] 40 ⟨_, _, h1, fun q => absurd q (by decide), fun q => ⟨hin, fun q => ⟨Or.inl rfl, rfl, rfl⟩, fun q => absurd q e2⟩⟩)
theorem r_partCell0 (sc : Nat × (Nat → Int32)) (d : Nat) (H : tH) (r : tR) (c : tR) (P : tP) (w : tW) (B : tB) (mw : Int32) (mh : Int32) (ms : tA) (mg : tA) (mc : Int32) (mo : tA) (mm : tA) (mz : tA) (mp : Int32) (N : tN) (O : tO) (W Hh x y : Nat) (op : Nat → Bool) (dd : Int32) (hdd : dd = nI 0) (hW : mw = nI W) (hH : mh = nI Hh) (bW : 1 ≤ W ∧ W ≤ 8) (bH : 1 ≤ Hh ∧ Hh ≤ 8) (hx : x < W) (hy : y < Hh) (hop : ∀ k, k < 64 → ms k = bI (!op k)) (b32 : rC op 1 (egR W) (y * W + x + 1) ≤ 32) (hR : RD op 1 (egR W) (y * W + x) 0 mo mm mz) :
    ∃ mo' mm' mz' : tA, pm_D sc (d + 4) mX6_partCell [.ref 27, .int (nI x), .int (nI y), .int dd] (hp H r c P w B (mw, mh, ms, mg, mc, mo, mm, mz, mp) N O) none (hp H r c P w B (mw, mh, ms, mg, mc, mo', mm', mz', mp) N O) ∧ RD op 1 (egR W) (y * W + x + 1) 0 mo' mm' mz' ∧ mm' 1 = mm 1 ∧ (∀ k, k < 64 → mo' (64 * 1 + k) = mo (64 * 1 + k)) ∧ (∀ q, q < 32 → mz' (32 * 1 + q) = mz (32 * 1 + q)) := by
  have hn : y * W + x < 64 := by
    have : (y + 1) * W ≤ Hh * W := Nat.mul_le_mul_right W (by omega)
    have h2 : Hh * W ≤ 8 * 8 := Nat.mul_le_mul bH.2 bW.2
    rw [Nat.add_mul] at this
    omega
  have e1 : (y * W + x) % W = x := by rw [Nat.mul_comm, Nat.mul_add_mod, Nat.mod_eq_of_lt hx]
  have e2 : y * W + x < W ↔ y = 0 := by
    constructor
    · intro h
      cases y with
      | zero => rfl
      | succ y => rw [Nat.add_mul] at h; omega
    · intro h; subst h; omega
  have ec : nI y * mw + nI x = nI (y * W + x) := by rw [hW, pk_mul, nI_add]
  -- whether the run goes on
  have hgo : ∃ b : Bool, (b = true ↔ ∃ q, rA 1 (egR W) (rO op 1 (egR W) (y * W + x)) (y * W + x) = some q) ∧ (0 = 0 → pm_D sc (d + 3) mX6_isOpen [.ref 27, .int (nI x - 1), .int (nI y)] (hp H r c P w B (mw, mh, ms, mg, mc, mo, mm, mz, mp) N O) (some (.int (bI b))) (hp H r c P w B (mw, mh, ms, mg, mc, mo, mm, mz, mp) N O)) ∧ (0 = 1 → pm_D sc (d + 3) mX6_isOpen [.ref 27, .int (nI x), .int (nI y - 1)] (hp H r c P w B (mw, mh, ms, mg, mc, mo, mm, mz, mp) N O) (some (.int (bI b))) (hp H r c P w B (mw, mh, ms, mg, mc, mo, mm, mz, mp) N O)) := by
    unfold rA
    by_cases h0 : egR W (y * W + x) = true
    · refine ⟨false, by rw [h0]; simp, fun hD => ?_, fun hD => ?_⟩
      · refine r_isOpen sc d H r c P w B mw mh ms mg mc mo mm mz mp N O W Hh op hW hH bW bH hop _ _ false (Or.inl ⟨fun z => ?_, rfl⟩)
        have hx0 : x = 0 := by
          first
          | (have h0 : ((y * W + x) % W == 0) = true := h0
             rw [e1] at h0
             simpa using h0)
          | (exact absurd hD (by decide))
        subst hx0
        have := z.1.1
        rw [show (nI 0 - 1 : Int32).toInt = -1 by decide] at this
        omega
      · refine r_isOpen sc d H r c P w B mw mh ms mg mc mo mm mz mp N O W Hh op hW hH bW bH hop _ _ false (Or.inl ⟨fun z => ?_, rfl⟩)
        have hy0 : y = 0 := by
          first
          | (exact absurd hD (by decide))
          | (have h0 : decide (y * W + x < W) = true := h0
             exact e2.mp (of_decide_eq_true h0))
        subst hy0
        have := z.2.1
        rw [show (nI 0 - 1 : Int32).toInt = -1 by decide] at this
        omega
    · have h0' : egR W (y * W + x) = false := by simpa using h0
      refine ⟨op (y * W + x - 1), ?_, fun hD => ?_, fun hD => ?_⟩
      · rw [h0', if_neg (by simp)]
        have hlt : 1 ≤ y * W + x := by
          first
          | exact egC_st _ h0'
          | exact egR_st _ h0'
        have hop2 := rO_op (op := op) (st := 1) (eg := egR W) (y * W + x) (y * W + x - 1) (by omega)
        cases hz : rO op 1 (egR W) (y * W + x) (y * W + x - 1) with
        | none => rw [hop2.mp hz]; simp
        | some q =>
          cases ho : op (y * W + x - 1) with
          | true => simp
          | false => rw [hop2.mpr ho] at hz; cases hz
      · refine r_isOpen sc d H r c P w B mw mh ms mg mc mo mm mz mp N O W Hh op hW hH bW bH hop _ _ _ (Or.inr ⟨x - 1, y, ?_, rfl, by omega, hy, ?_⟩)
        · first
          | (have hx0 : x ≠ 0 := by
               intro hx0
               have h0' : ((y * W + x) % W == 0) = false := h0'
               rw [e1, hx0] at h0'
               cases h0'
             rw [nu_1]
             exact pk_sub (by omega))
          | (exact absurd hD (by decide))
        · first
          | (have hx0 : x ≠ 0 := by
               intro hx0
               have h0' : ((y * W + x) % W == 0) = false := h0'
               rw [e1, hx0] at h0'
               cases h0'
             congr 1
             omega)
          | (exact absurd hD (by decide))
      · first
        | (exact absurd hD (by decide))
        | (have hy0 : y ≠ 0 := fun hy0 => by
             have h0' : decide (y * W + x < W) = false := h0'
             exact of_decide_eq_false h0' (e2.mpr hy0)
           obtain ⟨y', rfl⟩ : ∃ y', y = y' + 1 := ⟨y - 1, by omega⟩
           refine r_isOpen sc d H r c P w B mw mh ms mg mc mo mm mz mp N O W Hh op hW hH bW bH hop _ _ _ (Or.inr ⟨x, y', rfl, nI_pred y', hx, by omega, ?_⟩)
           congr 1
           rw [Nat.add_mul]
           omega)
  obtain ⟨g, hgi, hg0, hg1⟩ := hgo
  generalize y * W + x = n at *
  obtain ⟨a1, a2, a3⟩ := hR
  have hin : vp_in (nI n) 64 := nu_in hn (by omega)
  have hcl : (nI n).toNatClampNeg = n := nu_cl (by omega)
  have inc : vp_in (nI y * mw + nI x) 64 := by rw [ec]; exact hin
  have es : ms (nI y * mw + nI x).toNatClampNeg = bI (!op n) := by rw [ec, hcl]; exact hop n hn
  have e64 : 64 * dd + (nI y * mw + nI x) = nI (64 * 0 + n) := by rw [hdd, ec, nu_64, pk_mul, nI_add]
  have i64 : vp_in (64 * dd + (nI y * mw + nI x)) 128 := by rw [e64]; exact nu_in (by omega) (by omega)
  have c64 : (64 * dd + (nI y * mw + nI x)).toNatClampNeg = 64 * 0 + n := by rw [e64]; exact nu_cl (by omega)
  have hfin : ∀ (v : Int32) (mm' mz' : tA) (g6 : Option Value), pm_Go sc (d + 3) (pm_cd mX6_partCell) (76, [some (.ref 27), some (.int (nI x)), some (.int (nI y)), some (.int dd), some (.int (nI y * mw + nI x)), some (.int v), g6], [], (hp H r c P w B (mw, mh, ms, mg, mc, mo, mm', mz', mp) N O)) (fun r2 h2 => r2 = none ∧ h2 = (hp H r c P w B (mw, mh, ms, mg, mc, upd mo (64 * 0 + n) v, mm', mz', mp) N O)) := by
    intro v mm' mz' g6
    refine pm_go [] 30 ⟨i64, rfl, ?_⟩
    rw [← c64]
    rfl
  cases hO : op n with
  | false =>
    have es : ¬ ms (nI y * mw + nI x).toNatClampNeg = 0 := by rw [es, hO]; decide
    refine ⟨upd mo (64 * 0 + n) (-1), mm, mz, pm_in (pm_go [76] 40 ⟨inc, fun q => hfin (-1) mm mz none, fun q => absurd q es⟩), ⟨by rw [rC_shut hO]; exact a1, fun k hk => ?_, fun q hq => ?_⟩, rfl, fun k hk => ?_, fun q hq => rfl⟩
    · rw [nu_upd, rO_shut hO]
      by_cases hkn : k = n
      · rw [hkn, if_pos rfl, rO_out n n (Nat.le_refl _)]; rfl
      · rw [if_neg (by omega)]; exact a2 k (by omega)
    · have e3 : rN op 1 (egR W) (n + 1) q = rN op 1 (egR W) n q := by rw [rN_step, rO_shut hO, rO_out n n (Nat.le_refl _), if_neg (by simp)]; rfl
      rw [e3]; exact a3 q hq
    · rw [nu_upd, if_neg (by omega)]
  | true =>
    have es : ms (nI y * mw + nI x).toNatClampNeg = 0 := by rw [es, hO]; decide
    have hdb : dd = 0 ↔ 0 = 0 := by rw [hdd]; decide
    cases ha : rA 1 (egR W) (rO op 1 (egR W) n) n with
    | none =>
      have hgf : g = false := by
        cases hg : g with
        | false => rfl
        | true => obtain ⟨q, hq⟩ := hgi.mp hg; rw [ha] at hq; cases hq
      rw [rC_new hO ha] at b32
      have i2 : vp_in dd 2 := by rw [hdd]; exact nu_in (by omega) (by omega)
      have c2 : dd.toNatClampNeg = 0 := by rw [hdd]; exact nu_cl (by omega)
      have e32 : 32 * dd + mm dd.toNatClampNeg = nI (32 * 0 + rC op 1 (egR W) n) := by rw [c2, a1, hdd, nu_32, pk_mul, nI_add]
      have i32 : vp_in (32 * dd + mm dd.toNatClampNeg) 64 := by rw [e32]; exact nu_in (by omega) (by omega)
      have c32 : (32 * dd + mm dd.toNatClampNeg).toNatClampNeg = 32 * 0 + rC op 1 (egR W) n := by rw [e32]; exact nu_cl (by omega)
      have mid : pm_Go sc (d + 3) (pm_cd mX6_partCell) (29, [some (.ref 27), some (.int (nI x)), some (.int (nI y)), some (.int dd), some (.int (nI y * mw + nI x)), some (.int (-1)), none], [.int (bI false)], (hp H r c P w B (mw, mh, ms, mg, mc, mo, mm, mz, mp) N O)) (fun r2 h2 => r2 = none ∧ h2 = (hp H r c P w B (mw, mh, ms, mg, mc, upd mo (64 * 0 + n) (nI (rC op 1 (egR W) n)), upd mm 0 (nI (rC op 1 (egR W) n) + 1), upd mz (32 * 0 + rC op 1 (egR W) n) (mz (32 * 0 + rC op 1 (egR W) n) + 1), mp) N O)) := by
        refine pm_go [76] 60 ⟨fun q => ⟨i2, i2, i2, i32, i32, ?_⟩, fun q => absurd rfl q⟩
        have h := hfin (mm dd.toNatClampNeg) (upd mm dd.toNatClampNeg (mm dd.toNatClampNeg + 1)) (upd mz (32 * dd + mm dd.toNatClampNeg).toNatClampNeg (mz (32 * dd + mm dd.toNatClampNeg).toNatClampNeg + 1)) (some (.int (bI false)))
        rw [← a1]
        rw [← c32, ← c2]
        rw [c2] at h ⊢
        exact h
      rw [hgf] at hg0 hg1
      refine ⟨upd mo (64 * 0 + n) (nI (rC op 1 (egR W) n)), upd mm 0 (nI (rC op 1 (egR W) n) + 1), upd mz (32 * 0 + rC op 1 (egR W) n) (mz (32 * 0 + rC op 1 (egR W) n) + 1), pm_in (pm_go [29] 40 ⟨inc, fun q => absurd es q, fun q => ⟨fun q => ⟨_, _, hg1 ?_, mid⟩, fun q => ⟨_, _, hg0 ?_, mid⟩⟩⟩), ⟨?_, fun k hk => ?_, fun q hq => ?_⟩, ?_, fun k hk => ?_, fun q hq => ?_⟩
      · first | rfl | exact absurd (hdb.mpr rfl) q
      · first | rfl | exact absurd (hdb.mp q) (by decide)
      · rw [nu_updS, rC_new hO ha, nI_1]
      · rw [nu_upd, rO_new hO ha]
        by_cases hkn : k = n
        · rw [hkn, if_pos rfl, if_pos rfl]; rfl
        · rw [if_neg (by omega), if_neg hkn]; exact a2 k (by omega)
      · rw [nu_upd, rN_step, rO_new hO ha, if_pos rfl]
        by_cases hqc : q = rC op 1 (egR W) n
        · rw [hqc, if_pos rfl, if_pos rfl, a3 _ (by omega), nI_1]
        · rw [if_neg (by omega), if_neg (fun z => hqc (Option.some.inj z).symm)]; exact a3 q hq
      · rw [nu_updN (by decide)]
      · rw [nu_upd, if_neg (by omega)]
      · rw [nu_upd, if_neg (by omega)]
    | some q0 =>
      have hgt : g = true := hgi.mpr ⟨q0, ha⟩
      rw [rC_on hO ha] at b32
      have ha0 := ha
      unfold rA at ha
      split at ha
      · cases ha
      · rename_i hne
        have hq0 := rO_lt n _ _ ha
        have hge : 1 ≤ n := by
          first
          | exact egC_st _ (by simpa using hne)
          | exact egR_st _ (by simpa using hne)
        have mv : mo (64 * 0 + (n - 1)) = nI q0 := by rw [a2 _ (by omega), ha]; rfl
        have e32 : 32 * dd + nI q0 = nI (32 * 0 + q0) := by rw [hdd, nu_32, pk_mul, nI_add]
        have i32 : vp_in (32 * dd + nI q0) 64 := by rw [e32]; exact nu_in (by omega) (by omega)
        have c32 : (32 * dd + nI q0).toNatClampNeg = 32 * 0 + q0 := by rw [e32]; exact nu_cl (by omega)
        have last : pm_Go sc (d + 3) (pm_cd mX6_partCell) (64, [some (.ref 27), some (.int (nI x)), some (.int (nI y)), some (.int dd), some (.int (nI y * mw + nI x)), some (.int (nI q0)), some (.int (bI true))], [], (hp H r c P w B (mw, mh, ms, mg, mc, mo, mm, mz, mp) N O)) (fun r2 h2 => r2 = none ∧ h2 = (hp H r c P w B (mw, mh, ms, mg, mc, upd mo (64 * 0 + n) (nI q0), mm, upd mz (32 * 0 + q0) (mz (32 * 0 + q0) + 1), mp) N O)) := by
          refine pm_go [76] 60 ⟨i32, i32, ?_⟩
          have h := hfin (nI q0) mm (upd mz (32 * dd + nI q0).toNatClampNeg (mz (32 * dd + nI q0).toNatClampNeg + 1)) (some (.int (bI true)))
          rw [← c32]
          exact h
        have mid : pm_Go sc (d + 3) (pm_cd mX6_partCell) (29, [some (.ref 27), some (.int (nI x)), some (.int (nI y)), some (.int dd), some (.int (nI y * mw + nI x)), some (.int (-1)), none], [.int (bI true)], (hp H r c P w B (mw, mh, ms, mg, mc, mo, mm, mz, mp) N O)) (fun r2 h2 => r2 = none ∧ h2 = (hp H r c P w B (mw, mh, ms, mg, mc, upd mo (64 * 0 + n) (nI q0), mm, upd mz (32 * 0 + q0) (mz (32 * 0 + q0) + 1), mp) N O)) := by
          refine pm_go [64] 60 ⟨fun q => absurd q (by decide), fun q => ⟨fun q => ?_, fun q => ?_⟩⟩
          · first
            | (exact absurd (hdb.mpr rfl) q)
            | (have e5 : 64 * dd + ((nI y * mw + nI x) - mw) = nI (64 * 0 + (n - 1)) := by rw [hdd, ec, hW, pk_sub hge, nu_64, pk_mul, nI_add]
               have i5 : vp_in (64 * dd + ((nI y * mw + nI x) - mw)) 128 := by rw [e5]; exact nu_in (by omega) (by omega)
               have c5 : mo (64 * dd + ((nI y * mw + nI x) - mw)).toNatClampNeg = nI q0 := by rw [e5, nu_cl (by omega)]; exact mv
               refine ⟨i5, ?_⟩
               rw [← c5] at last
               rw [← c5]
               exact last)
          · first
            | (exact absurd (hdb.mp q) (by decide))
            | (have e5 : 64 * dd + ((nI y * mw + nI x) - 1) = nI (64 * 0 + (n - 1)) := by rw [hdd, ec, nu_1, pk_sub hge, nu_64, pk_mul, nI_add]
               have i5 : vp_in (64 * dd + ((nI y * mw + nI x) - 1)) 128 := by rw [e5]; exact nu_in (by omega) (by omega)
               have c5 : mo (64 * dd + ((nI y * mw + nI x) - 1)).toNatClampNeg = nI q0 := by rw [e5, nu_cl (by omega)]; exact mv
               refine ⟨i5, ?_⟩
               rw [← c5] at last
               rw [← c5]
               exact last)
        rw [hgt] at hg0 hg1
        refine ⟨upd mo (64 * 0 + n) (nI q0), mm, upd mz (32 * 0 + q0) (mz (32 * 0 + q0) + 1), pm_in (pm_go [29] 40 ⟨inc, fun q => absurd es q, fun q => ⟨fun q => ⟨_, _, hg1 ?_, mid⟩, fun q => ⟨_, _, hg0 ?_, mid⟩⟩⟩), ⟨by rw [rC_on hO ha0]; exact a1, fun k hk => ?_, fun q hq => ?_⟩, rfl, fun k hk => ?_, fun q hq => ?_⟩
        · first | rfl | exact absurd (hdb.mpr rfl) q
        · first | rfl | exact absurd (hdb.mp q) (by decide)
        · rw [nu_upd, rO_on hO ha0]
          by_cases hkn : k = n
          · rw [hkn, if_pos rfl, if_pos rfl]; rfl
          · rw [if_neg (by omega), if_neg hkn]; exact a2 k (by omega)
        · rw [nu_upd, rN_step, rO_on hO ha0, if_pos rfl]
          by_cases hqc : q = q0
          · rw [hqc, if_pos rfl, if_pos rfl, a3 _ (by omega), nI_1]
          · rw [if_neg (by omega), if_neg (fun z => hqc (Option.some.inj z).symm)]; exact a3 q hq
        · rw [nu_upd, if_neg (by omega)]
        · rw [nu_upd, if_neg (by omega)]
theorem r_partCell1 (sc : Nat × (Nat → Int32)) (d : Nat) (H : tH) (r : tR) (c : tR) (P : tP) (w : tW) (B : tB) (mw : Int32) (mh : Int32) (ms : tA) (mg : tA) (mc : Int32) (mo : tA) (mm : tA) (mz : tA) (mp : Int32) (N : tN) (O : tO) (W Hh x y : Nat) (op : Nat → Bool) (dd : Int32) (hdd : dd = nI 1) (hW : mw = nI W) (hH : mh = nI Hh) (bW : 1 ≤ W ∧ W ≤ 8) (bH : 1 ≤ Hh ∧ Hh ≤ 8) (hx : x < W) (hy : y < Hh) (hop : ∀ k, k < 64 → ms k = bI (!op k)) (b32 : rC op W (egC W) (y * W + x + 1) ≤ 32) (hR : RD op W (egC W) (y * W + x) 1 mo mm mz) :
    ∃ mo' mm' mz' : tA, pm_D sc (d + 4) mX6_partCell [.ref 27, .int (nI x), .int (nI y), .int dd] (hp H r c P w B (mw, mh, ms, mg, mc, mo, mm, mz, mp) N O) none (hp H r c P w B (mw, mh, ms, mg, mc, mo', mm', mz', mp) N O) ∧ RD op W (egC W) (y * W + x + 1) 1 mo' mm' mz' ∧ mm' 0 = mm 0 ∧ (∀ k, k < 64 → mo' (64 * 0 + k) = mo (64 * 0 + k)) ∧ (∀ q, q < 32 → mz' (32 * 0 + q) = mz (32 * 0 + q)) := by
  have hn : y * W + x < 64 := by
    have : (y + 1) * W ≤ Hh * W := Nat.mul_le_mul_right W (by omega)
    have h2 : Hh * W ≤ 8 * 8 := Nat.mul_le_mul bH.2 bW.2
    rw [Nat.add_mul] at this
    omega
  have e1 : (y * W + x) % W = x := by rw [Nat.mul_comm, Nat.mul_add_mod, Nat.mod_eq_of_lt hx]
  have e2 : y * W + x < W ↔ y = 0 := by
    constructor
    · intro h
      cases y with
      | zero => rfl
      | succ y => rw [Nat.add_mul] at h; omega
    · intro h; subst h; omega
  have ec : nI y * mw + nI x = nI (y * W + x) := by rw [hW, pk_mul, nI_add]
  -- whether the run goes on
  have hgo : ∃ b : Bool, (b = true ↔ ∃ q, rA W (egC W) (rO op W (egC W) (y * W + x)) (y * W + x) = some q) ∧ (1 = 0 → pm_D sc (d + 3) mX6_isOpen [.ref 27, .int (nI x - 1), .int (nI y)] (hp H r c P w B (mw, mh, ms, mg, mc, mo, mm, mz, mp) N O) (some (.int (bI b))) (hp H r c P w B (mw, mh, ms, mg, mc, mo, mm, mz, mp) N O)) ∧ (1 = 1 → pm_D sc (d + 3) mX6_isOpen [.ref 27, .int (nI x), .int (nI y - 1)] (hp H r c P w B (mw, mh, ms, mg, mc, mo, mm, mz, mp) N O) (some (.int (bI b))) (hp H r c P w B (mw, mh, ms, mg, mc, mo, mm, mz, mp) N O)) := by
    unfold rA
    by_cases h0 : egC W (y * W + x) = true
    · refine ⟨false, by rw [h0]; simp, fun hD => ?_, fun hD => ?_⟩
      · refine r_isOpen sc d H r c P w B mw mh ms mg mc mo mm mz mp N O W Hh op hW hH bW bH hop _ _ false (Or.inl ⟨fun z => ?_, rfl⟩)
        have hx0 : x = 0 := by
          first
          | (have h0 : ((y * W + x) % W == 0) = true := h0
             rw [e1] at h0
             simpa using h0)
          | (exact absurd hD (by decide))
        subst hx0
        have := z.1.1
        rw [show (nI 0 - 1 : Int32).toInt = -1 by decide] at this
        omega
      · refine r_isOpen sc d H r c P w B mw mh ms mg mc mo mm mz mp N O W Hh op hW hH bW bH hop _ _ false (Or.inl ⟨fun z => ?_, rfl⟩)
        have hy0 : y = 0 := by
          first
          | (exact absurd hD (by decide))
          | (have h0 : decide (y * W + x < W) = true := h0
             exact e2.mp (of_decide_eq_true h0))
        subst hy0
        have := z.2.1
        rw [show (nI 0 - 1 : Int32).toInt = -1 by decide] at this
        omega
    · have h0' : egC W (y * W + x) = false := by simpa using h0
      refine ⟨op (y * W + x - W), ?_, fun hD => ?_, fun hD => ?_⟩
      · rw [h0', if_neg (by simp)]
        have hlt : W ≤ y * W + x := by
          first
          | exact egC_st _ h0'
          | exact egR_st _ h0'
        have hop2 := rO_op (op := op) (st := W) (eg := egC W) (y * W + x) (y * W + x - W) (by omega)
        cases hz : rO op W (egC W) (y * W + x) (y * W + x - W) with
        | none => rw [hop2.mp hz]; simp
        | some q =>
          cases ho : op (y * W + x - W) with
          | true => simp
          | false => rw [hop2.mpr ho] at hz; cases hz
      · refine r_isOpen sc d H r c P w B mw mh ms mg mc mo mm mz mp N O W Hh op hW hH bW bH hop _ _ _ (Or.inr ⟨x - 1, y, ?_, rfl, by omega, hy, ?_⟩)
        · first
          | (have hx0 : x ≠ 0 := by
               intro hx0
               have h0' : ((y * W + x) % W == 0) = false := h0'
               rw [e1, hx0] at h0'
               cases h0'
             rw [nu_1]
             exact pk_sub (by omega))
          | (exact absurd hD (by decide))
        · first
          | (have hx0 : x ≠ 0 := by
               intro hx0
               have h0' : ((y * W + x) % W == 0) = false := h0'
               rw [e1, hx0] at h0'
               cases h0'
             congr 1
             omega)
          | (exact absurd hD (by decide))
      · first
        | (exact absurd hD (by decide))
        | (have hy0 : y ≠ 0 := fun hy0 => by
             have h0' : decide (y * W + x < W) = false := h0'
             exact of_decide_eq_false h0' (e2.mpr hy0)
           obtain ⟨y', rfl⟩ : ∃ y', y = y' + 1 := ⟨y - 1, by omega⟩
           refine r_isOpen sc d H r c P w B mw mh ms mg mc mo mm mz mp N O W Hh op hW hH bW bH hop _ _ _ (Or.inr ⟨x, y', rfl, nI_pred y', hx, by omega, ?_⟩)
           congr 1
           rw [Nat.add_mul]
           omega)
  obtain ⟨g, hgi, hg0, hg1⟩ := hgo
  generalize y * W + x = n at *
  obtain ⟨a1, a2, a3⟩ := hR
  have hin : vp_in (nI n) 64 := nu_in hn (by omega)
  have hcl : (nI n).toNatClampNeg = n := nu_cl (by omega)
  have inc : vp_in (nI y * mw + nI x) 64 := by rw [ec]; exact hin
  have es : ms (nI y * mw + nI x).toNatClampNeg = bI (!op n) := by rw [ec, hcl]; exact hop n hn
  have e64 : 64 * dd + (nI y * mw + nI x) = nI (64 * 1 + n) := by rw [hdd, ec, nu_64, pk_mul, nI_add]
  have i64 : vp_in (64 * dd + (nI y * mw + nI x)) 128 := by rw [e64]; exact nu_in (by omega) (by omega)
  have c64 : (64 * dd + (nI y * mw + nI x)).toNatClampNeg = 64 * 1 + n := by rw [e64]; exact nu_cl (by omega)
  have hfin : ∀ (v : Int32) (mm' mz' : tA) (g6 : Option Value), pm_Go sc (d + 3) (pm_cd mX6_partCell) (76, [some (.ref 27), some (.int (nI x)), some (.int (nI y)), some (.int dd), some (.int (nI y * mw + nI x)), some (.int v), g6], [], (hp H r c P w B (mw, mh, ms, mg, mc, mo, mm', mz', mp) N O)) (fun r2 h2 => r2 = none ∧ h2 = (hp H r c P w B (mw, mh, ms, mg, mc, upd mo (64 * 1 + n) v, mm', mz', mp) N O)) := by
    intro v mm' mz' g6
    refine pm_go [] 30 ⟨i64, rfl, ?_⟩
    rw [← c64]
    rfl
  cases hO : op n with
  | false =>
    have es : ¬ ms (nI y * mw + nI x).toNatClampNeg = 0 := by rw [es, hO]; decide
    refine ⟨upd mo (64 * 1 + n) (-1), mm, mz, pm_in (pm_go [76] 40 ⟨inc, fun q => hfin (-1) mm mz none, fun q => absurd q es⟩), ⟨by rw [rC_shut hO]; exact a1, fun k hk => ?_, fun q hq => ?_⟩, rfl, fun k hk => ?_, fun q hq => rfl⟩
    · rw [nu_upd, rO_shut hO]
      by_cases hkn : k = n
      · rw [hkn, if_pos rfl, rO_out n n (Nat.le_refl _)]; rfl
      · rw [if_neg (by omega)]; exact a2 k (by omega)
    · have e3 : rN op W (egC W) (n + 1) q = rN op W (egC W) n q := by rw [rN_step, rO_shut hO, rO_out n n (Nat.le_refl _), if_neg (by simp)]; rfl
      rw [e3]; exact a3 q hq
    · rw [nu_upd, if_neg (by omega)]
  | true =>
    have es : ms (nI y * mw + nI x).toNatClampNeg = 0 := by rw [es, hO]; decide
    have hdb : dd = 0 ↔ 1 = 0 := by rw [hdd]; decide
    cases ha : rA W (egC W) (rO op W (egC W) n) n with
    | none =>
      have hgf : g = false := by
        cases hg : g with
        | false => rfl
        | true => obtain ⟨q, hq⟩ := hgi.mp hg; rw [ha] at hq; cases hq
      rw [rC_new hO ha] at b32
      have i2 : vp_in dd 2 := by rw [hdd]; exact nu_in (by omega) (by omega)
      have c2 : dd.toNatClampNeg = 1 := by rw [hdd]; exact nu_cl (by omega)
      have e32 : 32 * dd + mm dd.toNatClampNeg = nI (32 * 1 + rC op W (egC W) n) := by rw [c2, a1, hdd, nu_32, pk_mul, nI_add]
      have i32 : vp_in (32 * dd + mm dd.toNatClampNeg) 64 := by rw [e32]; exact nu_in (by omega) (by omega)
      have c32 : (32 * dd + mm dd.toNatClampNeg).toNatClampNeg = 32 * 1 + rC op W (egC W) n := by rw [e32]; exact nu_cl (by omega)
      have mid : pm_Go sc (d + 3) (pm_cd mX6_partCell) (29, [some (.ref 27), some (.int (nI x)), some (.int (nI y)), some (.int dd), some (.int (nI y * mw + nI x)), some (.int (-1)), none], [.int (bI false)], (hp H r c P w B (mw, mh, ms, mg, mc, mo, mm, mz, mp) N O)) (fun r2 h2 => r2 = none ∧ h2 = (hp H r c P w B (mw, mh, ms, mg, mc, upd mo (64 * 1 + n) (nI (rC op W (egC W) n)), upd mm 1 (nI (rC op W (egC W) n) + 1), upd mz (32 * 1 + rC op W (egC W) n) (mz (32 * 1 + rC op W (egC W) n) + 1), mp) N O)) := by
        refine pm_go [76] 60 ⟨fun q => ⟨i2, i2, i2, i32, i32, ?_⟩, fun q => absurd rfl q⟩
        have h := hfin (mm dd.toNatClampNeg) (upd mm dd.toNatClampNeg (mm dd.toNatClampNeg + 1)) (upd mz (32 * dd + mm dd.toNatClampNeg).toNatClampNeg (mz (32 * dd + mm dd.toNatClampNeg).toNatClampNeg + 1)) (some (.int (bI false)))
        rw [← a1]
        rw [← c32, ← c2]
        rw [c2] at h ⊢
        exact h
      rw [hgf] at hg0 hg1
      refine ⟨upd mo (64 * 1 + n) (nI (rC op W (egC W) n)), upd mm 1 (nI (rC op W (egC W) n) + 1), upd mz (32 * 1 + rC op W (egC W) n) (mz (32 * 1 + rC op W (egC W) n) + 1), pm_in (pm_go [29] 40 ⟨inc, fun q => absurd es q, fun q => ⟨fun q => ⟨_, _, hg1 ?_, mid⟩, fun q => ⟨_, _, hg0 ?_, mid⟩⟩⟩), ⟨?_, fun k hk => ?_, fun q hq => ?_⟩, ?_, fun k hk => ?_, fun q hq => ?_⟩
      · first | rfl | exact absurd (hdb.mpr rfl) q
      · first | rfl | exact absurd (hdb.mp q) (by decide)
      · rw [nu_updS, rC_new hO ha, nI_1]
      · rw [nu_upd, rO_new hO ha]
        by_cases hkn : k = n
        · rw [hkn, if_pos rfl, if_pos rfl]; rfl
        · rw [if_neg (by omega), if_neg hkn]; exact a2 k (by omega)
      · rw [nu_upd, rN_step, rO_new hO ha, if_pos rfl]
        by_cases hqc : q = rC op W (egC W) n
        · rw [hqc, if_pos rfl, if_pos rfl, a3 _ (by omega), nI_1]
        · rw [if_neg (by omega), if_neg (fun z => hqc (Option.some.inj z).symm)]; exact a3 q hq
      · rw [nu_updN (by decide)]
      · rw [nu_upd, if_neg (by omega)]
      · rw [nu_upd, if_neg (by omega)]
    | some q0 =>
      have hgt : g = true := hgi.mpr ⟨q0, ha⟩
      rw [rC_on hO ha] at b32
      have ha0 := ha
      unfold rA at ha
      split at ha
      · cases ha
      · rename_i hne
        have hq0 := rO_lt n _ _ ha
        have hge : W ≤ n := by
          first
          | exact egC_st _ (by simpa using hne)
          | exact egR_st _ (by simpa using hne)
        have mv : mo (64 * 1 + (n - W)) = nI q0 := by rw [a2 _ (by omega), ha]; rfl
        have e32 : 32 * dd + nI q0 = nI (32 * 1 + q0) := by rw [hdd, nu_32, pk_mul, nI_add]
        have i32 : vp_in (32 * dd + nI q0) 64 := by rw [e32]; exact nu_in (by omega) (by omega)
        have c32 : (32 * dd + nI q0).toNatClampNeg = 32 * 1 + q0 := by rw [e32]; exact nu_cl (by omega)
        have last : pm_Go sc (d + 3) (pm_cd mX6_partCell) (64, [some (.ref 27), some (.int (nI x)), some (.int (nI y)), some (.int dd), some (.int (nI y * mw + nI x)), some (.int (nI q0)), some (.int (bI true))], [], (hp H r c P w B (mw, mh, ms, mg, mc, mo, mm, mz, mp) N O)) (fun r2 h2 => r2 = none ∧ h2 = (hp H r c P w B (mw, mh, ms, mg, mc, upd mo (64 * 1 + n) (nI q0), mm, upd mz (32 * 1 + q0) (mz (32 * 1 + q0) + 1), mp) N O)) := by
          refine pm_go [76] 60 ⟨i32, i32, ?_⟩
          have h := hfin (nI q0) mm (upd mz (32 * dd + nI q0).toNatClampNeg (mz (32 * dd + nI q0).toNatClampNeg + 1)) (some (.int (bI true)))
          rw [← c32]
          exact h
        have mid : pm_Go sc (d + 3) (pm_cd mX6_partCell) (29, [some (.ref 27), some (.int (nI x)), some (.int (nI y)), some (.int dd), some (.int (nI y * mw + nI x)), some (.int (-1)), none], [.int (bI true)], (hp H r c P w B (mw, mh, ms, mg, mc, mo, mm, mz, mp) N O)) (fun r2 h2 => r2 = none ∧ h2 = (hp H r c P w B (mw, mh, ms, mg, mc, upd mo (64 * 1 + n) (nI q0), mm, upd mz (32 * 1 + q0) (mz (32 * 1 + q0) + 1), mp) N O)) := by
          refine pm_go [64] 60 ⟨fun q => absurd q (by decide), fun q => ⟨fun q => ?_, fun q => ?_⟩⟩
          · first
            | (exact absurd (hdb.mpr rfl) q)
            | (have e5 : 64 * dd + ((nI y * mw + nI x) - mw) = nI (64 * 1 + (n - W)) := by rw [hdd, ec, hW, pk_sub hge, nu_64, pk_mul, nI_add]
               have i5 : vp_in (64 * dd + ((nI y * mw + nI x) - mw)) 128 := by rw [e5]; exact nu_in (by omega) (by omega)
               have c5 : mo (64 * dd + ((nI y * mw + nI x) - mw)).toNatClampNeg = nI q0 := by rw [e5, nu_cl (by omega)]; exact mv
               refine ⟨i5, ?_⟩
               rw [← c5] at last
               rw [← c5]
               exact last)
          · first
            | (exact absurd (hdb.mp q) (by decide))
            | (have e5 : 64 * dd + ((nI y * mw + nI x) - 1) = nI (64 * 1 + (n - W)) := by rw [hdd, ec, nu_1, pk_sub hge, nu_64, pk_mul, nI_add]
               have i5 : vp_in (64 * dd + ((nI y * mw + nI x) - 1)) 128 := by rw [e5]; exact nu_in (by omega) (by omega)
               have c5 : mo (64 * dd + ((nI y * mw + nI x) - 1)).toNatClampNeg = nI q0 := by rw [e5, nu_cl (by omega)]; exact mv
               refine ⟨i5, ?_⟩
               rw [← c5] at last
               rw [← c5]
               exact last)
        rw [hgt] at hg0 hg1
        refine ⟨upd mo (64 * 1 + n) (nI q0), mm, upd mz (32 * 1 + q0) (mz (32 * 1 + q0) + 1), pm_in (pm_go [29] 40 ⟨inc, fun q => absurd es q, fun q => ⟨fun q => ⟨_, _, hg1 ?_, mid⟩, fun q => ⟨_, _, hg0 ?_, mid⟩⟩⟩), ⟨by rw [rC_on hO ha0]; exact a1, fun k hk => ?_, fun q hq => ?_⟩, rfl, fun k hk => ?_, fun q hq => ?_⟩
        · first | rfl | exact absurd (hdb.mpr rfl) q
        · first | rfl | exact absurd (hdb.mp q) (by decide)
        · rw [nu_upd, rO_on hO ha0]
          by_cases hkn : k = n
          · rw [hkn, if_pos rfl, if_pos rfl]; rfl
          · rw [if_neg (by omega), if_neg hkn]; exact a2 k (by omega)
        · rw [nu_upd, rN_step, rO_on hO ha0, if_pos rfl]
          by_cases hqc : q = q0
          · rw [hqc, if_pos rfl, if_pos rfl, a3 _ (by omega), nI_1]
          · rw [if_neg (by omega), if_neg (fun z => hqc (Option.some.inj z).symm)]; exact a3 q hq
        · rw [nu_upd, if_neg (by omega)]
        · rw [nu_upd, if_neg (by omega)]
end
section
/-! THE REFERENCE'S hall: part and what is asked -/
/-- both directions stand parted -/
def MP (W Hh : Nat) (op : Nat → Bool) (mo mm mz : tA) : Prop := RD op 1 (egR W) (Hh * W) 0 mo mm mz ∧ RD op W (egC W) (Hh * W) 1 mo mm mz
theorem rC_mono {op : Nat → Bool} {st : Nat} {eg : Nat → Bool} {a b : Nat} (h : a ≤ b) : rC op st eg a ≤ rC op st eg b := by
  rw [rC_ct, rC_ct]; exact ct_mono _ h
theorem r32R {op : Nat → Bool} {W Hh : Nat} (bW : 1 ≤ W ∧ W ≤ 8) (bH : 1 ≤ Hh ∧ Hh ≤ 8) : rC op 1 (egR W) (Hh * W) ≤ 32 := by
  have := r32_rows (op := op) bW.1 bW.2 Hh 0 (by omega)
  rw [Nat.add_zero] at this
  unfold egR
  omega
theorem r32C {op : Nat → Bool} {W Hh : Nat} (bW : 1 ≤ W ∧ W ≤ 8) (bH : 1 ≤ Hh ∧ Hh ≤ 8) : rC op W (egC W) (Hh * W) ≤ 32 := by
  have := (r32_cols (op := op) bW.1 bW.2 Hh).1
  unfold egC
  omega
theorem rN_zero {op : Nat → Bool} {st : Nat} {eg : Nat → Bool} (q : Nat) : rN op st eg 0 q = 0 := rfl
theorem ct_or (p : Nat → Bool) (k : Nat) : decide (0 < ct p (k + 1)) = (decide (0 < ct p k) || p k) := by
  show decide (0 < ct p k + (if p k then 1 else 0)) = _
  cases p k <;> simp
theorem r_part (sc : Nat × (Nat → Int32)) (d : Nat) (H : tH) (r : tR) (c : tR) (P : tP) (w : tW) (B : tB) (mw : Int32) (mh : Int32) (ms : tA) (mg : tA) (mc : Int32) (mo : tA) (mm : tA) (mz : tA) (mp : Int32) (N : tN) (O : tO) (W Hh : Nat) (op : Nat → Bool) (hW : mw = nI W) (hH : mh = nI Hh) (bW : 1 ≤ W ∧ W ≤ 8) (bH : 1 ≤ Hh ∧ Hh ≤ 8) (hop : ∀ k, k < 64 → ms k = bI (!op k)) (hp0 : mp = 0 ∨ (mp = 1 ∧ MP W Hh op mo mm mz)) :
    ∃ mo' mm' mz' : tA, pm_D sc (d + 5) mX6_part [.ref 27] (hp H r c P w B (mw, mh, ms, mg, mc, mo, mm, mz, mp) N O) none (hp H r c P w B (mw, mh, ms, mg, mc, mo', mm', mz', 1) N O) ∧ MP W Hh op mo' mm' mz' := by
  have bHW : Hh * W ≤ 64 := Nat.mul_le_mul bH.2 bW.2
  rcases hp0 with rfl | ⟨rfl, hM⟩
  · have outer : ∀ (m y : Nat) (yy : Int32) (l2 l3 : Option Value) (mo mm mz : tA), y + m = Hh → yy = nI y → RD op 1 (egR W) (y * W) 0 mo mm mz → RD op W (egC W) (y * W) 1 mo mm mz →
        ∃ mo' mm' mz' : tA, pm_Go sc (d + 4) (pm_cd mX6_part) (31, [some (.ref 27), some (.int yy), l2, l3], [], (hp H r c P w B (mw, mh, ms, mg, mc, mo, mm, mz, 1) N O)) (fun r2 h2 => r2 = none ∧ h2 = (hp H r c P w B (mw, mh, ms, mg, mc, mo', mm', mz', 1) N O)) ∧ MP W Hh op mo' mm' mz' := by
      intro m
      induction m with
      | zero =>
        intro y yy l2 l3 mo mm mz hy hyy R1 R2
        subst hyy
        have : y = Hh := by omega
        subst this
        exact ⟨mo, mm, mz, pm_go [] 20 ⟨fun q => ⟨rfl, rfl⟩, fun q => absurd (show mh ≤ nI y by rw [hH, nu_le (by omega) (by omega)]; exact Nat.le_refl _) q⟩, R1, R2⟩
      | succ m ih =>
        intro y yy l2 l3 mo mm mz hy hyy R1 R2
        subst hyy
        have hyW : (y + 1) * W ≤ Hh * W := Nat.mul_le_mul_right W (by omega)
        rw [Nat.add_mul, Nat.one_mul] at hyW
        have inner : ∀ (k x : Nat) (xx : Int32) (l3 : Option Value) (mo mm mz : tA), x + k = W → xx = nI x → RD op 1 (egR W) (y * W + x) 0 mo mm mz → RD op W (egC W) (y * W + x) 1 mo mm mz →
            ∃ mo' mm' mz' : tA, pm_Go sc (d + 4) (pm_cd mX6_part) (37, [some (.ref 27), some (.int (nI y)), some (.int xx), l3], [], (hp H r c P w B (mw, mh, ms, mg, mc, mo, mm, mz, 1) N O)) (fun r2 h2 => r2 = none ∧ h2 = (hp H r c P w B (mw, mh, ms, mg, mc, mo', mm', mz', 1) N O)) ∧ MP W Hh op mo' mm' mz' := by
          intro k
          induction k with
          | zero =>
            intro x xx l3 mo mm mz hx hxx R1 R2
            subst hxx
            have : x = W := by omega
            subst this
            obtain ⟨mo', mm', mz', g1, g2⟩ := ih (y + 1) (nI y + 1) (some (.int (nI x))) l3 mo mm mz (by omega) (nI_1 y) (by rw [Nat.add_mul, Nat.one_mul]; exact R1) (by rw [Nat.add_mul, Nat.one_mul]; exact R2)
            exact ⟨mo', mm', mz', pm_go1 [31] 20 ⟨fun q => g1, fun q => absurd (show mw ≤ nI x by rw [hW, nu_le (by omega) (by omega)]; exact Nat.le_refl _) q⟩, g2⟩
          | succ k ihk =>
            intro x xx l3 mo mm mz hx hxx R1 R2
            subst hxx
            obtain ⟨mo1, mm1, mz1, t1, s1, u1, u2, u3⟩ := r_partCell0 sc d H r c P w B mw mh ms mg mc mo mm mz 1 N O W Hh x y op 0 nu_0 hW hH bW bH (by omega) (by omega) hop (Nat.le_trans (rC_mono (by omega)) (r32R bW bH)) R1
            have R2' := RD_congr R2 (by omega) u1 u2 u3
            obtain ⟨mo2, mm2, mz2, t2, s2, v1, v2, v3⟩ := r_partCell1 sc d H r c P w B mw mh ms mg mc mo1 mm1 mz1 1 N O W Hh x y op (0 + 1) (by decide) hW hH bW bH (by omega) (by omega) hop (Nat.le_trans (rC_mono (by omega)) (r32C bW bH)) R2'
            have s1' := RD_congr s1 (by omega) v1 v2 v3
            obtain ⟨mo', mm', mz', g1, g2⟩ := ihk (x + 1) (nI x + 1) (some (.int (0 + 1 + 1))) mo2 mm2 mz2 (by omega) (nI_1 x) s1' s2
            exact ⟨mo', mm', mz', pm_go1 [37] 60 ⟨fun q => absurd ((nu_le (a := W) (b := x) (by omega) (by omega)).mp (by rw [← hW]; exact q)) (by omega), fun q => ⟨fun q => absurd q (by decide), fun q => ⟨_, _, t1, fun q => absurd q (by decide), fun q => ⟨_, _, t2, fun q => g1, fun q => absurd (by decide) q⟩⟩⟩⟩, g2⟩
        obtain ⟨mo', mm', mz', g1, g2⟩ := inner W 0 0 l3 mo mm mz (by omega) nu_0 R1 R2
        exact ⟨mo', mm', mz', pm_go1 [37] 20 ⟨fun q => absurd ((nu_le (a := Hh) (b := y) (by omega) (by omega)).mp (by rw [← hH]; exact q)) (by omega), fun q => g1⟩, g2⟩
    have zero : ∀ (m k : Nat) (x : Int32) (f : tA), k + m = 64 → x = nI k → (∀ i, i < k → f i = 0) → ∃ mo' mm' mz' : tA, pm_Go sc (d + 4) (pm_cd mX6_part) (19, [some (.ref 27), some (.int x), none, none], [], (hp H r c P w B (mw, mh, ms, mg, mc, mo, upd (upd mm 0 0) 1 0, f, 1) N O)) (fun r2 h2 => r2 = none ∧ h2 = (hp H r c P w B (mw, mh, ms, mg, mc, mo', mm', mz', 1) N O)) ∧ MP W Hh op mo' mm' mz' := by
      intro m
      induction m with
      | zero =>
        intro k x f hk hx hf
        subst hx
        have : k = 64 := by omega
        subst this
        have hz1 : RD op 1 (egR W) (0 * W) 0 mo (upd (upd mm 0 0) 1 0) f := by
          rw [Nat.zero_mul]
          exact ⟨by rw [nu_updN (by decide), nu_updS]; exact nu_0, fun k hk => absurd hk (by omega), fun q hq => by rw [hf _ (by omega), rN_zero]; exact nu_0⟩
        have hz2 : RD op W (egC W) (0 * W) 1 mo (upd (upd mm 0 0) 1 0) f := by
          rw [Nat.zero_mul]
          exact ⟨by rw [nu_updS]; exact nu_0, fun k hk => absurd hk (by omega), fun q hq => by rw [hf _ (by omega), rN_zero]; exact nu_0⟩
        obtain ⟨mo', mm', mz', g1, g2⟩ := outer Hh 0 0 none none mo (upd (upd mm 0 0) 1 0) f (by omega) nu_0 hz1 hz2
        exact ⟨mo', mm', mz', pm_go1 [31] 20 ⟨fun q => g1, fun q => absurd (by decide) q⟩, g2⟩
      | succ m ih =>
        intro k x f hk hx hf
        subst hx
        obtain ⟨mo', mm', mz', g1, g2⟩ := ih (k + 1) (nI k + 1) (upd f (nI k).toNatClampNeg 0) (by omega) (nI_1 k) (fun i hi => by
          rw [nu_cl (by omega), nu_upd]
          split
          · rfl
          · exact hf i (by omega))
        exact ⟨mo', mm', mz', pm_go1 [19] 20 ⟨fun q => absurd ((nu_le (a := 64) (b := k) (by omega) (by omega)).mp (by rw [← nu_64]; exact q)) (by omega), fun q => ⟨nu_in (by omega) (by omega), g1⟩⟩, g2⟩
    obtain ⟨mo', mm', mz', g1, g2⟩ := zero 64 0 0 mz (by omega) nu_0 (fun i hi => absurd hi (by omega))
    have i0 : vp_in (0 : Int32) 2 := by rw [nu_0]; exact nu_in (by omega) (by omega)
    have i1 : vp_in (1 : Int32) 2 := by rw [nu_1]; exact nu_in (by omega) (by omega)
    exact ⟨mo', mm', mz', pm_in (pm_go [19] 40 ⟨fun q => ⟨Or.inr rfl, i0, i1, g1⟩, fun q => absurd rfl q⟩), g2⟩
  · exact ⟨mo, mm, mz, pm_in (pm_go [] 20 ⟨fun q => absurd (show (1 : Int32) = 0 from q) (by decide), fun q => ⟨rfl, rfl⟩⟩), hM⟩
theorem r_isTouched0 (sc : Nat × (Nat → Int32)) (d : Nat) (H : tH) (r : tR) (c : tR) (P : tP) (w : tW) (B : tB) (mw : Int32) (mh : Int32) (ms : tA) (mg : tA) (mc : Int32) (mo : tA) (mm : tA) (mz : tA) (mp : Int32) (N : tN) (O : tO) (W Hh q : Nat) (op gd : Nat → Bool) (hW : mw = nI W) (hH : mh = nI Hh) (bHW : Hh * W ≤ 64) (hq : q < 1000) (hgd : ∀ k, k < 64 → mg k = bI (gd k)) (hR : RD op 1 (egR W) (Hh * W) 0 mo mm mz) : pm_D sc (d + 1) mX6_isTouched [.ref 27, .int 0, .int (nI q)] (hp H r c P w B (mw, mh, ms, mg, mc, mo, mm, mz, mp) N O) (some (.int (bI (decide (0 < rG op 1 (egR W) gd (Hh * W) q))))) (hp H r c P w B (mw, mh, ms, mg, mc, mo, mm, mz, mp) N O) := by
  have hm : mw * mh = nI (Hh * W) := hw_mul hW hH
  have loop : ∀ (m k : Nat) (x y : Int32), k + m = Hh * W → x = bI (decide (0 < ct (fun k => (rO op 1 (egR W) (Hh * W) k == some q) && gd k) k)) → y = nI k → pm_Go sc d (pm_cd mX6_isTouched) (4, [some (.ref 27), some (.int 0), some (.int (nI q)), some (.int x), some (.int y)], [], (hp H r c P w B (mw, mh, ms, mg, mc, mo, mm, mz, mp) N O)) (fun r2 h2 => r2 = some (.int (bI (decide (0 < rG op 1 (egR W) gd (Hh * W) q)))) ∧ h2 = (hp H r c P w B (mw, mh, ms, mg, mc, mo, mm, mz, mp) N O)) := by
    intro m
    induction m with
    | zero =>
      intro k x y hk hx hy
      subst hy
      subst hx
      have : k = Hh * W := by omega
      subst this
      exact pm_go [] 20 ⟨fun q => ⟨bI_01 _, rfl, rfl⟩, fun q => absurd (show mw * mh ≤ nI (Hh * W) by rw [hm, nu_le (by omega) (by omega)]; exact Nat.le_refl _) q⟩
    | succ m ih =>
      intro k x y hk hx hy
      subst hy
      have hn : ¬ mw * mh ≤ nI k := by rw [hm, nu_le (by omega) (by omega)]; omega
      have hin : vp_in (nI k) 64 := nu_in (by omega) (by omega)
      have eg : mg (nI k).toNatClampNeg = bI (gd k) := by rw [nu_cl (by omega)]; exact hgd k (by omega)
      have e64 : (64 : Int32) * 0 + nI k = nI (64 * 0 + k) := by rw [show ((64 : Int32) * 0) = nI (64 * 0) by decide, nI_add]
      have i64 : vp_in ((64 : Int32) * 0 + nI k) 128 := by rw [e64]; exact nu_in (by omega) (by omega)
      have eo : mo ((64 : Int32) * 0 + nI k).toNatClampNeg = en (rO op 1 (egR W) (Hh * W) k) := by rw [e64, nu_cl (by omega)]; exact hR.2.1 k (by omega)
      have hs : ∀ z : Bool, z = (decide (0 < ct (fun k => (rO op 1 (egR W) (Hh * W) k == some q) && gd k) k) || ((rO op 1 (egR W) (Hh * W) k == some q) && gd k)) → pm_Go sc d (pm_cd mX6_isTouched) (4, [some (.ref 27), some (.int 0), some (.int (nI q)), some (.int (bI z)), some (.int (nI k + 1))], [], (hp H r c P w B (mw, mh, ms, mg, mc, mo, mm, mz, mp) N O)) (fun r2 h2 => r2 = some (.int (bI (decide (0 < rG op 1 (egR W) gd (Hh * W) q)))) ∧ h2 = (hp H r c P w B (mw, mh, ms, mg, mc, mo, mm, mz, mp) N O)) := by
        intro z hz
        refine ih (k + 1) (bI z) (nI k + 1) (by omega) ?_ (nI_1 k)
        rw [hz]
        congr 1
        exact (ct_or (fun k => (rO op 1 (egR W) (Hh * W) k == some q) && gd k) k).symm
      subst hx
      cases hb : decide (0 < ct (fun k => (rO op 1 (egR W) (Hh * W) k == some q) && gd k) k) with
      | true =>
        exact pm_go1 [4] 60 ⟨fun q => absurd q hn, fun q => ⟨fun q => hs true (by rw [hb]; rfl), fun q => absurd q (by decide)⟩⟩
      | false =>
        rw [hb] at hs
        cases hG : gd k with
        | false =>
          have eg : mg (nI k).toNatClampNeg = 0 := by rw [eg, hG]; decide
          exact pm_go1 [4] 60 ⟨fun q => absurd q hn, fun q => ⟨fun q => absurd rfl q, fun q => ⟨hin, fun q => hs false (by rw [hG]; simp), fun q => absurd eg q⟩⟩⟩
        | true =>
          have eg : ¬ mg (nI k).toNatClampNeg = 0 := by rw [eg, hG]; decide
          by_cases hrq : rO op 1 (egR W) (Hh * W) k = some q
          · have eo : mo ((64 : Int32) * 0 + nI k).toNatClampNeg = nI q := by rw [eo, hrq]; rfl
            exact pm_go1 [4] 60 ⟨fun q => absurd q hn, fun q => ⟨fun q => absurd rfl q, fun q => ⟨hin, fun q => absurd q eg, fun q => ⟨i64, fun q => absurd eo q, fun q => hs true (by rw [hG, hrq]; simp)⟩⟩⟩⟩
          · have eo : ¬ mo ((64 : Int32) * 0 + nI k).toNatClampNeg = nI q := by
              rw [eo]
              cases hro : rO op 1 (egR W) (Hh * W) k with
              | none => exact fun z => en_ne (q := q) (by omega) z.symm
              | some q' =>
                have h1 := rO_lt _ _ _ hro
                have h2 := rC_le op 1 (egR W) (Hh * W)
                intro z
                have z : nI q' = nI q := z
                rw [nu_eq (by omega) (by omega)] at z
                rw [z] at hro
                exact hrq hro
            exact pm_go1 [4] 60 ⟨fun q => absurd q hn, fun q => ⟨fun q => absurd rfl q, fun q => ⟨hin, fun q => absurd q eg, fun q => ⟨i64, fun q => hs false (by rw [hG]; simp [hrq]), fun q => absurd q eo⟩⟩⟩⟩
  exact pm_in (pm_go [4] 20 (loop (Hh * W) 0 0 0 (by omega) rfl nu_0))
theorem r_isTouched1 (sc : Nat × (Nat → Int32)) (d : Nat) (H : tH) (r : tR) (c : tR) (P : tP) (w : tW) (B : tB) (mw : Int32) (mh : Int32) (ms : tA) (mg : tA) (mc : Int32) (mo : tA) (mm : tA) (mz : tA) (mp : Int32) (N : tN) (O : tO) (W Hh q : Nat) (op gd : Nat → Bool) (hW : mw = nI W) (hH : mh = nI Hh) (bHW : Hh * W ≤ 64) (hq : q < 1000) (hgd : ∀ k, k < 64 → mg k = bI (gd k)) (hR : RD op W (egC W) (Hh * W) 1 mo mm mz) : pm_D sc (d + 1) mX6_isTouched [.ref 27, .int 1, .int (nI q)] (hp H r c P w B (mw, mh, ms, mg, mc, mo, mm, mz, mp) N O) (some (.int (bI (decide (0 < rG op W (egC W) gd (Hh * W) q))))) (hp H r c P w B (mw, mh, ms, mg, mc, mo, mm, mz, mp) N O) := by
  have hm : mw * mh = nI (Hh * W) := hw_mul hW hH
  have loop : ∀ (m k : Nat) (x y : Int32), k + m = Hh * W → x = bI (decide (0 < ct (fun k => (rO op W (egC W) (Hh * W) k == some q) && gd k) k)) → y = nI k → pm_Go sc d (pm_cd mX6_isTouched) (4, [some (.ref 27), some (.int 1), some (.int (nI q)), some (.int x), some (.int y)], [], (hp H r c P w B (mw, mh, ms, mg, mc, mo, mm, mz, mp) N O)) (fun r2 h2 => r2 = some (.int (bI (decide (0 < rG op W (egC W) gd (Hh * W) q)))) ∧ h2 = (hp H r c P w B (mw, mh, ms, mg, mc, mo, mm, mz, mp) N O)) := by
    intro m
    induction m with
    | zero =>
      intro k x y hk hx hy
      subst hy
      subst hx
      have : k = Hh * W := by omega
      subst this
      exact pm_go [] 20 ⟨fun q => ⟨bI_01 _, rfl, rfl⟩, fun q => absurd (show mw * mh ≤ nI (Hh * W) by rw [hm, nu_le (by omega) (by omega)]; exact Nat.le_refl _) q⟩
    | succ m ih =>
      intro k x y hk hx hy
      subst hy
      have hn : ¬ mw * mh ≤ nI k := by rw [hm, nu_le (by omega) (by omega)]; omega
      have hin : vp_in (nI k) 64 := nu_in (by omega) (by omega)
      have eg : mg (nI k).toNatClampNeg = bI (gd k) := by rw [nu_cl (by omega)]; exact hgd k (by omega)
      have e64 : (64 : Int32) * 1 + nI k = nI (64 * 1 + k) := by rw [show ((64 : Int32) * 1) = nI (64 * 1) by decide, nI_add]
      have i64 : vp_in ((64 : Int32) * 1 + nI k) 128 := by rw [e64]; exact nu_in (by omega) (by omega)
      have eo : mo ((64 : Int32) * 1 + nI k).toNatClampNeg = en (rO op W (egC W) (Hh * W) k) := by rw [e64, nu_cl (by omega)]; exact hR.2.1 k (by omega)
      have hs : ∀ z : Bool, z = (decide (0 < ct (fun k => (rO op W (egC W) (Hh * W) k == some q) && gd k) k) || ((rO op W (egC W) (Hh * W) k == some q) && gd k)) → pm_Go sc d (pm_cd mX6_isTouched) (4, [some (.ref 27), some (.int 1), some (.int (nI q)), some (.int (bI z)), some (.int (nI k + 1))], [], (hp H r c P w B (mw, mh, ms, mg, mc, mo, mm, mz, mp) N O)) (fun r2 h2 => r2 = some (.int (bI (decide (0 < rG op W (egC W) gd (Hh * W) q)))) ∧ h2 = (hp H r c P w B (mw, mh, ms, mg, mc, mo, mm, mz, mp) N O)) := by
        intro z hz
        refine ih (k + 1) (bI z) (nI k + 1) (by omega) ?_ (nI_1 k)
        rw [hz]
        congr 1
        exact (ct_or (fun k => (rO op W (egC W) (Hh * W) k == some q) && gd k) k).symm
      subst hx
      cases hb : decide (0 < ct (fun k => (rO op W (egC W) (Hh * W) k == some q) && gd k) k) with
      | true =>
        exact pm_go1 [4] 60 ⟨fun q => absurd q hn, fun q => ⟨fun q => hs true (by rw [hb]; rfl), fun q => absurd q (by decide)⟩⟩
      | false =>
        rw [hb] at hs
        cases hG : gd k with
        | false =>
          have eg : mg (nI k).toNatClampNeg = 0 := by rw [eg, hG]; decide
          exact pm_go1 [4] 60 ⟨fun q => absurd q hn, fun q => ⟨fun q => absurd rfl q, fun q => ⟨hin, fun q => hs false (by rw [hG]; simp), fun q => absurd eg q⟩⟩⟩
        | true =>
          have eg : ¬ mg (nI k).toNatClampNeg = 0 := by rw [eg, hG]; decide
          by_cases hrq : rO op W (egC W) (Hh * W) k = some q
          · have eo : mo ((64 : Int32) * 1 + nI k).toNatClampNeg = nI q := by rw [eo, hrq]; rfl
            exact pm_go1 [4] 60 ⟨fun q => absurd q hn, fun q => ⟨fun q => absurd rfl q, fun q => ⟨hin, fun q => absurd q eg, fun q => ⟨i64, fun q => absurd eo q, fun q => hs true (by rw [hG, hrq]; simp)⟩⟩⟩⟩
          · have eo : ¬ mo ((64 : Int32) * 1 + nI k).toNatClampNeg = nI q := by
              rw [eo]
              cases hro : rO op W (egC W) (Hh * W) k with
              | none => exact fun z => en_ne (q := q) (by omega) z.symm
              | some q' =>
                have h1 := rO_lt _ _ _ hro
                have h2 := rC_le op W (egC W) (Hh * W)
                intro z
                have z : nI q' = nI q := z
                rw [nu_eq (by omega) (by omega)] at z
                rw [z] at hro
                exact hrq hro
            exact pm_go1 [4] 60 ⟨fun q => absurd q hn, fun q => ⟨fun q => absurd rfl q, fun q => ⟨hin, fun q => absurd q eg, fun q => ⟨i64, fun q => hs false (by rw [hG]; simp [hrq]), fun q => absurd q eo⟩⟩⟩⟩
  exact pm_in (pm_go [4] 20 (loop (Hh * W) 0 0 0 (by omega) rfl nu_0))
end
section
theorem r_isSeen (sc : Nat × (Nat → Int32)) (d : Nat) (H : tH) (r : tR) (c : tR) (P : tP) (w : tW) (B : tB) (mw : Int32) (mh : Int32) (ms : tA) (mg : tA) (mc : Int32) (mo : tA) (mm : tA) (mz : tA) (mp : Int32) (N : tN) (O : tO) (W Hh k : Nat) (op gd : Nat → Bool) (hW : mw = nI W) (hH : mh = nI Hh) (bHW : Hh * W ≤ 64) (hk : k < Hh * W) (hop : ∀ k, k < 64 → ms k = bI (!op k)) (hgd : ∀ k, k < 64 → mg k = bI (gd k)) (hR : MP W Hh op mo mm mz) : pm_D sc (d + 2) mX6_isSeen [.ref 27, .int (nI k)] (hp H r c P w B (mw, mh, ms, mg, mc, mo, mm, mz, mp) N O) (some (.int (bI (sE W Hh op gd k)))) (hp H r c P w B (mw, mh, ms, mg, mc, mo, mm, mz, mp) N O) := by
  have hin : vp_in (nI k) 64 := nu_in (by omega) (by omega)
  have hcl : (nI k).toNatClampNeg = k := nu_cl (by omega)
  have es : ms (nI k).toNatClampNeg = bI (!op k) := by rw [hcl]; exact hop k (by omega)
  cases hO : op k with
  | false =>
    have es : ¬ ms (nI k).toNatClampNeg = 0 := by rw [es, hO]; decide
    have h1 : rO op 1 (egR W) (Hh * W) k = none := (rO_op _ k hk).mpr hO
    have h2 : rO op W (egC W) (Hh * W) k = none := (rO_op _ k hk).mpr hO
    unfold sE
    rw [h1, h2]
    exact pm_in (pm_go [] 40 ⟨hin, fun q => ⟨Or.inl rfl, rfl, rfl⟩, fun q => absurd q es⟩)
  | true =>
    have es : ms (nI k).toNatClampNeg = 0 := by rw [es, hO]; decide
    obtain ⟨q1, hq1⟩ := rO_some (st := 1) (eg := egR W) hk hO
    obtain ⟨q2, hq2⟩ := rO_some (st := W) (eg := egC W) hk hO
    have l1 := rO_lt _ _ _ hq1
    have l2 := rO_lt _ _ _ hq2
    have b1 := rC_le op 1 (egR W) (Hh * W)
    have b2 := rC_le op W (egC W) (Hh * W)
    have e1 : mo (nI k).toNatClampNeg = nI q1 := by
      have := hR.1.2.1 k hk
      rw [hq1, Nat.mul_zero, Nat.zero_add] at this
      rw [hcl, this]; rfl
    have e64 : pm_ib 0 64 (nI k) = nI (64 * 1 + k) := by
      rw [pib0, nu_64, nI_add]
    have e2 : mo (pm_ib 0 64 (nI k)).toNatClampNeg = nI q2 := by
      have := hR.2.2.1 k hk
      rw [hq2] at this
      rw [e64, nu_cl (by omega), this]
      rfl
    have i1 : vp_in (nI k) 128 := nu_in (by omega) (by omega)
    have i2 : vp_in (pm_ib 0 64 (nI k)) 128 := by rw [e64]; exact nu_in (by omega) (by omega)
    have h1 := r_isTouched0 sc d H r c P w B mw mh ms mg mc mo mm mz mp N O W Hh q1 op gd hW hH bHW (by omega) hgd hR.1
    have h2 := r_isTouched1 sc d H r c P w B mw mh ms mg mc mo mm mz mp N O W Hh q2 op gd hW hH bHW (by omega) hgd hR.2
    rw [← e1] at h1
    rw [← e2] at h2
    unfold sE
    rw [hq1, hq2]
    unfold rW
    dsimp only
    generalize decide (0 < rG op 1 (egR W) gd (Hh * W) q1) = z1 at h1 ⊢
    generalize decide (0 < rG op W (egC W) gd (Hh * W) q2) = z2 at h2 ⊢
    have key : pm_Go sc (d + 1) (pm_cd mX6_isSeen) (5, [some (.ref 27), some (.int (nI k))], [], (hp H r c P w B (mw, mh, ms, mg, mc, mo, mm, mz, mp) N O)) (fun r2 h2 => r2 = some (.int (bI (z1 || z2))) ∧ h2 = (hp H r c P w B (mw, mh, ms, mg, mc, mo, mm, mz, mp) N O)) := by
      have key2 : z1 = false → pm_Go sc (d + 1) (pm_cd mX6_isSeen) (13, [some (.ref 27), some (.int (nI k))], [], (hp H r c P w B (mw, mh, ms, mg, mc, mo, mm, mz, mp) N O)) (fun r2 h2 => r2 = some (.int (bI (z1 || z2))) ∧ h2 = (hp H r c P w B (mw, mh, ms, mg, mc, mo, mm, mz, mp) N O)) := by
        intro hz
        subst hz
        refine pm_go [] 20 ⟨i2, _, _, h2, fun q => ?_, fun q => ?_⟩
        · have : z2 = false := bI_0.mp q
          subst this
          exact ⟨Or.inl rfl, rfl, rfl⟩
        · have : z2 = true := by
            cases z2 with
            | true => rfl
            | false => exact absurd rfl q
          subst this
          exact ⟨Or.inr rfl, rfl, rfl⟩
      refine pm_go [13] 20 ⟨i1, _, _, h1, fun q => ?_, fun q => ?_⟩
      · have : z1 = true := by
          cases z1 with
          | true => rfl
          | false => exact absurd rfl q
        subst this
        exact ⟨Or.inr rfl, rfl, rfl⟩
      · exact key2 (bI_0.mp q)
    exact pm_in (pm_go [5] 10 ⟨hin, fun q => absurd es q, fun q => key⟩)
end
