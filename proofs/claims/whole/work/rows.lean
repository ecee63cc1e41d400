section
-- ===== PART A: goes FIRST, ahead of the names: the tables' words, and 'selects' of the private methods out of them =====
/-- a private method of a class that the tables say can be made, by its rows of tables_1 -/
def lw_okq (q : MethodName × Nat) : Prop := (q.1.cls ≠ "java/lang/invoke/MethodHandle" ∧ q.1.cls ≠ "java/lang/invoke/VarHandle") ∧ Cond.instantiable q.1.cls q.2 ∈ tables_1 ∧ Cond.privateMethod q.1 ∈ tables_1 ∧ Cond.instanceMethod q.1 ∈ tables_1
theorem lw_p0 : lw_okq (⟨"GuardPacks$Hall", "clear", "(II)V"⟩, 9) := ⟨⟨by decide +kernel, by decide +kernel⟩, List.mem_of_getElem? (i := 19) (by decide +kernel), List.mem_of_getElem? (i := 110) (by decide +kernel), List.mem_of_getElem? (i := 111) (by decide +kernel)⟩
theorem lw_p1 : lw_okq (⟨"GuardPacks$Hall", "numberRuns", "()V"⟩, 9) := ⟨⟨by decide +kernel, by decide +kernel⟩, List.mem_of_getElem? (i := 19) (by decide +kernel), List.mem_of_getElem? (i := 114) (by decide +kernel), List.mem_of_getElem? (i := 115) (by decide +kernel)⟩
theorem lw_p2 : lw_okq (⟨"GuardPacks$Runs", "clear", "(I)V"⟩, 6) := ⟨⟨by decide +kernel, by decide +kernel⟩, List.mem_of_getElem? (i := 25) (by decide +kernel), List.mem_of_getElem? (i := 118) (by decide +kernel), List.mem_of_getElem? (i := 119) (by decide +kernel)⟩
theorem lw_p3 : lw_okq (⟨"GuardPacks$Hall", "numberCell", "(II)V"⟩, 9) := ⟨⟨by decide +kernel, by decide +kernel⟩, List.mem_of_getElem? (i := 19) (by decide +kernel), List.mem_of_getElem? (i := 122) (by decide +kernel), List.mem_of_getElem? (i := 123) (by decide +kernel)⟩
theorem lw_p4 : lw_okq (⟨"GuardPacks$Hall", "numberOf", "(II)I"⟩, 9) := ⟨⟨by decide +kernel, by decide +kernel⟩, List.mem_of_getElem? (i := 19) (by decide +kernel), List.mem_of_getElem? (i := 126) (by decide +kernel), List.mem_of_getElem? (i := 127) (by decide +kernel)⟩
theorem lw_p5 : lw_okq (⟨"GuardPacks$Runs", "takeShut", "(I)V"⟩, 6) := ⟨⟨by decide +kernel, by decide +kernel⟩, List.mem_of_getElem? (i := 25) (by decide +kernel), List.mem_of_getElem? (i := 130) (by decide +kernel), List.mem_of_getElem? (i := 131) (by decide +kernel)⟩
theorem lw_p6 : lw_okq (⟨"GuardPacks$Runs", "takeOpen", "(IZ)V"⟩, 6) := ⟨⟨by decide +kernel, by decide +kernel⟩, List.mem_of_getElem? (i := 25) (by decide +kernel), List.mem_of_getElem? (i := 134) (by decide +kernel), List.mem_of_getElem? (i := 135) (by decide +kernel)⟩
theorem lw_p7 : lw_okq (⟨"GuardPacks$Runs", "addGuards", "(II)V"⟩, 6) := ⟨⟨by decide +kernel, by decide +kernel⟩, List.mem_of_getElem? (i := 25) (by decide +kernel), List.mem_of_getElem? (i := 138) (by decide +kernel), List.mem_of_getElem? (i := 139) (by decide +kernel)⟩
theorem lw_p8 : lw_okq (⟨"GuardPacks$Box", "clear", "(II)V"⟩, 9) := ⟨⟨by decide +kernel, by decide +kernel⟩, List.mem_of_getElem? (i := 172) (by decide +kernel), List.mem_of_getElem? (i := 178) (by decide +kernel), List.mem_of_getElem? (i := 179) (by decide +kernel)⟩
theorem lw_p9 : lw_okq (⟨"GuardPacks$Hall", "holds", "(II)Z"⟩, 9) := ⟨⟨by decide +kernel, by decide +kernel⟩, List.mem_of_getElem? (i := 19) (by decide +kernel), List.mem_of_getElem? (i := 234) (by decide +kernel), List.mem_of_getElem? (i := 235) (by decide +kernel)⟩
theorem lw_p10 : lw_okq (⟨"GuardPacks$Hall", "changeWall", "(IZ)Z"⟩, 9) := ⟨⟨by decide +kernel, by decide +kernel⟩, List.mem_of_getElem? (i := 19) (by decide +kernel), List.mem_of_getElem? (i := 240) (by decide +kernel), List.mem_of_getElem? (i := 241) (by decide +kernel)⟩
theorem lw_p11 : lw_okq (⟨"GuardPacks$Hall", "changeGuard", "(IZ)I"⟩, 9) := ⟨⟨by decide +kernel, by decide +kernel⟩, List.mem_of_getElem? (i := 19) (by decide +kernel), List.mem_of_getElem? (i := 248) (by decide +kernel), List.mem_of_getElem? (i := 249) (by decide +kernel)⟩
theorem lw_p12 : lw_okq (⟨"GuardPacks$Hall", "kindOf", "(I)I"⟩, 9) := ⟨⟨by decide +kernel, by decide +kernel⟩, List.mem_of_getElem? (i := 19) (by decide +kernel), List.mem_of_getElem? (i := 260) (by decide +kernel), List.mem_of_getElem? (i := 261) (by decide +kernel)⟩
theorem lw_p13 : lw_okq (⟨"GuardPacks$Hall", "isSeen", "(I)Z"⟩, 9) := ⟨⟨by decide +kernel, by decide +kernel⟩, List.mem_of_getElem? (i := 19) (by decide +kernel), List.mem_of_getElem? (i := 264) (by decide +kernel), List.mem_of_getElem? (i := 265) (by decide +kernel)⟩
theorem lw_p14 : lw_okq (⟨"GuardPacks$Runs", "isWatched", "(I)Z"⟩, 6) := ⟨⟨by decide +kernel, by decide +kernel⟩, List.mem_of_getElem? (i := 25) (by decide +kernel), List.mem_of_getElem? (i := 268) (by decide +kernel), List.mem_of_getElem? (i := 269) (by decide +kernel)⟩
theorem lw_p15 : lw_okq (⟨"GuardPacks$Hall", "along", "(I)LGuardPacks$Runs;"⟩, 9) := ⟨⟨by decide +kernel, by decide +kernel⟩, List.mem_of_getElem? (i := 19) (by decide +kernel), List.mem_of_getElem? (i := 276) (by decide +kernel), List.mem_of_getElem? (i := 277) (by decide +kernel)⟩
def lw_privs_1 : List (MethodName × Nat) := [(⟨"GuardPacks$Hall", "clear", "(II)V"⟩, 9), (⟨"GuardPacks$Hall", "numberRuns", "()V"⟩, 9), (⟨"GuardPacks$Runs", "clear", "(I)V"⟩, 6), (⟨"GuardPacks$Hall", "numberCell", "(II)V"⟩, 9), (⟨"GuardPacks$Hall", "numberOf", "(II)I"⟩, 9), (⟨"GuardPacks$Runs", "takeShut", "(I)V"⟩, 6), (⟨"GuardPacks$Runs", "takeOpen", "(IZ)V"⟩, 6), (⟨"GuardPacks$Runs", "addGuards", "(II)V"⟩, 6), (⟨"GuardPacks$Box", "clear", "(II)V"⟩, 9), (⟨"GuardPacks$Hall", "holds", "(II)Z"⟩, 9), (⟨"GuardPacks$Hall", "changeWall", "(IZ)Z"⟩, 9), (⟨"GuardPacks$Hall", "changeGuard", "(IZ)I"⟩, 9), (⟨"GuardPacks$Hall", "kindOf", "(I)I"⟩, 9), (⟨"GuardPacks$Hall", "isSeen", "(I)Z"⟩, 9), (⟨"GuardPacks$Runs", "isWatched", "(I)Z"⟩, 6), (⟨"GuardPacks$Hall", "along", "(I)LGuardPacks$Runs;"⟩, 9)]
theorem lw_r1 : ∀ q ∈ lw_privs_1, lw_okq q := List.forall_mem_cons.mpr ⟨lw_p0, List.forall_mem_cons.mpr ⟨lw_p1, List.forall_mem_cons.mpr ⟨lw_p2, List.forall_mem_cons.mpr ⟨lw_p3, List.forall_mem_cons.mpr ⟨lw_p4, List.forall_mem_cons.mpr ⟨lw_p5, List.forall_mem_cons.mpr ⟨lw_p6, List.forall_mem_cons.mpr ⟨lw_p7, List.forall_mem_cons.mpr ⟨lw_p8, List.forall_mem_cons.mpr ⟨lw_p9, List.forall_mem_cons.mpr ⟨lw_p10, List.forall_mem_cons.mpr ⟨lw_p11, List.forall_mem_cons.mpr ⟨lw_p12, List.forall_mem_cons.mpr ⟨lw_p13, List.forall_mem_cons.mpr ⟨lw_p14, List.forall_mem_cons.mpr ⟨lw_p15, fun _ h => absurd h List.not_mem_nil⟩⟩⟩⟩⟩⟩⟩⟩⟩⟩⟩⟩⟩⟩⟩⟩
theorem lw_p16 : lw_okq (⟨"GuardPacks$Hall", "sightFrom", "(I)I"⟩, 9) := ⟨⟨by decide +kernel, by decide +kernel⟩, List.mem_of_getElem? (i := 19) (by decide +kernel), List.mem_of_getElem? (i := 288) (by decide +kernel), List.mem_of_getElem? (i := 289) (by decide +kernel)⟩
theorem lw_p17 : lw_okq (⟨"GuardPacks$Runs", "lengthAt", "(I)I"⟩, 6) := ⟨⟨by decide +kernel, by decide +kernel⟩, List.mem_of_getElem? (i := 25) (by decide +kernel), List.mem_of_getElem? (i := 292) (by decide +kernel), List.mem_of_getElem? (i := 293) (by decide +kernel)⟩
theorem lw_p18 : lw_okq (⟨"GuardPacks$Hall", "countSeen", "()I"⟩, 9) := ⟨⟨by decide +kernel, by decide +kernel⟩, List.mem_of_getElem? (i := 19) (by decide +kernel), List.mem_of_getElem? (i := 300) (by decide +kernel), List.mem_of_getElem? (i := 301) (by decide +kernel)⟩
theorem lw_p19 : lw_okq (⟨"GuardPacks$Hall", "findMissed", "(I)I"⟩, 9) := ⟨⟨by decide +kernel, by decide +kernel⟩, List.mem_of_getElem? (i := 19) (by decide +kernel), List.mem_of_getElem? (i := 308) (by decide +kernel), List.mem_of_getElem? (i := 309) (by decide +kernel)⟩
theorem lw_p20 : lw_okq (⟨"GuardPacks$Hall", "leastMore", "()I"⟩, 9) := ⟨⟨by decide +kernel, by decide +kernel⟩, List.mem_of_getElem? (i := 19) (by decide +kernel), List.mem_of_getElem? (i := 316) (by decide +kernel), List.mem_of_getElem? (i := 317) (by decide +kernel)⟩
theorem lw_p21 : lw_okq (⟨"GuardPacks$Watch", "leastGuards", "(LGuardPacks$Runs;LGuardPacks$Runs;)I"⟩, 5) := ⟨⟨by decide +kernel, by decide +kernel⟩, List.mem_of_getElem? (i := 87) (by decide +kernel), List.mem_of_getElem? (i := 320) (by decide +kernel), List.mem_of_getElem? (i := 321) (by decide +kernel)⟩
theorem lw_p22 : lw_okq (⟨"GuardPacks$Watch", "findUnseenFar", "(I)J"⟩, 5) := ⟨⟨by decide +kernel, by decide +kernel⟩, List.mem_of_getElem? (i := 87) (by decide +kernel), List.mem_of_getElem? (i := 324) (by decide +kernel), List.mem_of_getElem? (i := 325) (by decide +kernel)⟩
theorem lw_p23 : lw_okq (⟨"GuardPacks$Runs", "cellOf", "(II)I"⟩, 6) := ⟨⟨by decide +kernel, by decide +kernel⟩, List.mem_of_getElem? (i := 25) (by decide +kernel), List.mem_of_getElem? (i := 328) (by decide +kernel), List.mem_of_getElem? (i := 329) (by decide +kernel)⟩
theorem lw_p24 : lw_okq (⟨"GuardPacks$Watch", "choose", "(IJJ)V"⟩, 5) := ⟨⟨by decide +kernel, by decide +kernel⟩, List.mem_of_getElem? (i := 87) (by decide +kernel), List.mem_of_getElem? (i := 332) (by decide +kernel), List.mem_of_getElem? (i := 333) (by decide +kernel)⟩
theorem lw_p25 : lw_okq (⟨"GuardPacks$Pairing", "most", "(LGuardPacks$Runs;LGuardPacks$Runs;JJ)I"⟩, 6) := ⟨⟨by decide +kernel, by decide +kernel⟩, List.mem_of_getElem? (i := 62) (by decide +kernel), List.mem_of_getElem? (i := 342) (by decide +kernel), List.mem_of_getElem? (i := 343) (by decide +kernel)⟩
theorem lw_p26 : lw_okq (⟨"GuardPacks$Pairing", "findPair", "(IJ)Z"⟩, 6) := ⟨⟨by decide +kernel, by decide +kernel⟩, List.mem_of_getElem? (i := 62) (by decide +kernel), List.mem_of_getElem? (i := 346) (by decide +kernel), List.mem_of_getElem? (i := 347) (by decide +kernel)⟩
theorem lw_p27 : lw_okq (⟨"GuardPacks$Pairing", "pairBack", "(I)V"⟩, 6) := ⟨⟨by decide +kernel, by decide +kernel⟩, List.mem_of_getElem? (i := 62) (by decide +kernel), List.mem_of_getElem? (i := 352) (by decide +kernel), List.mem_of_getElem? (i := 353) (by decide +kernel)⟩
theorem lw_p28 : lw_okq (⟨"GuardPacks$Hall", "mostPeaceful", "()I"⟩, 9) := ⟨⟨by decide +kernel, by decide +kernel⟩, List.mem_of_getElem? (i := 19) (by decide +kernel), List.mem_of_getElem? (i := 363) (by decide +kernel), List.mem_of_getElem? (i := 364) (by decide +kernel)⟩
theorem lw_p29 : lw_okq (⟨"GuardPacks$Box", "append", "(I)I"⟩, 9) := ⟨⟨by decide +kernel, by decide +kernel⟩, List.mem_of_getElem? (i := 172) (by decide +kernel), List.mem_of_getElem? (i := 378) (by decide +kernel), List.mem_of_getElem? (i := 379) (by decide +kernel)⟩
theorem lw_p30 : lw_okq (⟨"GuardPacks$Box", "removeLast", "()I"⟩, 9) := ⟨⟨by decide +kernel, by decide +kernel⟩, List.mem_of_getElem? (i := 172) (by decide +kernel), List.mem_of_getElem? (i := 386) (by decide +kernel), List.mem_of_getElem? (i := 387) (by decide +kernel)⟩
theorem lw_p31 : lw_okq (⟨"GuardPacks$Box", "fill", "(I)I"⟩, 9) := ⟨⟨by decide +kernel, by decide +kernel⟩, List.mem_of_getElem? (i := 172) (by decide +kernel), List.mem_of_getElem? (i := 395) (by decide +kernel), List.mem_of_getElem? (i := 396) (by decide +kernel)⟩
def lw_privs_2 : List (MethodName × Nat) := [(⟨"GuardPacks$Hall", "sightFrom", "(I)I"⟩, 9), (⟨"GuardPacks$Runs", "lengthAt", "(I)I"⟩, 6), (⟨"GuardPacks$Hall", "countSeen", "()I"⟩, 9), (⟨"GuardPacks$Hall", "findMissed", "(I)I"⟩, 9), (⟨"GuardPacks$Hall", "leastMore", "()I"⟩, 9), (⟨"GuardPacks$Watch", "leastGuards", "(LGuardPacks$Runs;LGuardPacks$Runs;)I"⟩, 5), (⟨"GuardPacks$Watch", "findUnseenFar", "(I)J"⟩, 5), (⟨"GuardPacks$Runs", "cellOf", "(II)I"⟩, 6), (⟨"GuardPacks$Watch", "choose", "(IJJ)V"⟩, 5), (⟨"GuardPacks$Pairing", "most", "(LGuardPacks$Runs;LGuardPacks$Runs;JJ)I"⟩, 6), (⟨"GuardPacks$Pairing", "findPair", "(IJ)Z"⟩, 6), (⟨"GuardPacks$Pairing", "pairBack", "(I)V"⟩, 6), (⟨"GuardPacks$Hall", "mostPeaceful", "()I"⟩, 9), (⟨"GuardPacks$Box", "append", "(I)I"⟩, 9), (⟨"GuardPacks$Box", "removeLast", "()I"⟩, 9), (⟨"GuardPacks$Box", "fill", "(I)I"⟩, 9)]
theorem lw_r2 : ∀ q ∈ lw_privs_2, lw_okq q := List.forall_mem_cons.mpr ⟨lw_p16, List.forall_mem_cons.mpr ⟨lw_p17, List.forall_mem_cons.mpr ⟨lw_p18, List.forall_mem_cons.mpr ⟨lw_p19, List.forall_mem_cons.mpr ⟨lw_p20, List.forall_mem_cons.mpr ⟨lw_p21, List.forall_mem_cons.mpr ⟨lw_p22, List.forall_mem_cons.mpr ⟨lw_p23, List.forall_mem_cons.mpr ⟨lw_p24, List.forall_mem_cons.mpr ⟨lw_p25, List.forall_mem_cons.mpr ⟨lw_p26, List.forall_mem_cons.mpr ⟨lw_p27, List.forall_mem_cons.mpr ⟨lw_p28, List.forall_mem_cons.mpr ⟨lw_p29, List.forall_mem_cons.mpr ⟨lw_p30, List.forall_mem_cons.mpr ⟨lw_p31, fun _ h => absurd h List.not_mem_nil⟩⟩⟩⟩⟩⟩⟩⟩⟩⟩⟩⟩⟩⟩⟩⟩
theorem lw_p32 : lw_okq (⟨"GuardPacks$Box", "layAll", "(I)I"⟩, 9) := ⟨⟨by decide +kernel, by decide +kernel⟩, List.mem_of_getElem? (i := 172) (by decide +kernel), List.mem_of_getElem? (i := 399) (by decide +kernel), List.mem_of_getElem? (i := 400) (by decide +kernel)⟩
theorem lw_p33 : lw_okq (⟨"GuardPacks$Box", "emptyBox", "()V"⟩, 9) := ⟨⟨by decide +kernel, by decide +kernel⟩, List.mem_of_getElem? (i := 172) (by decide +kernel), List.mem_of_getElem? (i := 403) (by decide +kernel), List.mem_of_getElem? (i := 404) (by decide +kernel)⟩
theorem lw_p34 : lw_okq (⟨"GuardPacks$Box", "startOver", "(I)V"⟩, 9) := ⟨⟨by decide +kernel, by decide +kernel⟩, List.mem_of_getElem? (i := 172) (by decide +kernel), List.mem_of_getElem? (i := 407) (by decide +kernel), List.mem_of_getElem? (i := 408) (by decide +kernel)⟩
theorem lw_p35 : lw_okq (⟨"GuardPacks$Box", "hasPlace", "(I)Z"⟩, 9) := ⟨⟨by decide +kernel, by decide +kernel⟩, List.mem_of_getElem? (i := 172) (by decide +kernel), List.mem_of_getElem? (i := 412) (by decide +kernel), List.mem_of_getElem? (i := 413) (by decide +kernel)⟩
theorem lw_p36 : lw_okq (⟨"GuardPacks$Box", "layOrLift", "(I)V"⟩, 9) := ⟨⟨by decide +kernel, by decide +kernel⟩, List.mem_of_getElem? (i := 172) (by decide +kernel), List.mem_of_getElem? (i := 416) (by decide +kernel), List.mem_of_getElem? (i := 417) (by decide +kernel)⟩
theorem lw_p37 : lw_okq (⟨"GuardPacks$Box", "breadthOf", "(I)I"⟩, 9) := ⟨⟨by decide +kernel, by decide +kernel⟩, List.mem_of_getElem? (i := 172) (by decide +kernel), List.mem_of_getElem? (i := 420) (by decide +kernel), List.mem_of_getElem? (i := 421) (by decide +kernel)⟩
theorem lw_p38 : lw_okq (⟨"GuardPacks$Box", "goOn", "(I)V"⟩, 9) := ⟨⟨by decide +kernel, by decide +kernel⟩, List.mem_of_getElem? (i := 172) (by decide +kernel), List.mem_of_getElem? (i := 425) (by decide +kernel), List.mem_of_getElem? (i := 426) (by decide +kernel)⟩
theorem lw_p39 : lw_okq (⟨"GuardPacks$Box", "tryPlace", "(I)Z"⟩, 9) := ⟨⟨by decide +kernel, by decide +kernel⟩, List.mem_of_getElem? (i := 172) (by decide +kernel), List.mem_of_getElem? (i := 429) (by decide +kernel), List.mem_of_getElem? (i := 430) (by decide +kernel)⟩
theorem lw_p40 : lw_okq (⟨"GuardPacks$Box", "isFree", "(I)Z"⟩, 9) := ⟨⟨by decide +kernel, by decide +kernel⟩, List.mem_of_getElem? (i := 172) (by decide +kernel), List.mem_of_getElem? (i := 433) (by decide +kernel), List.mem_of_getElem? (i := 434) (by decide +kernel)⟩
theorem lw_p41 : lw_okq (⟨"GuardPacks$Box", "countLeft", "()I"⟩, 9) := ⟨⟨by decide +kernel, by decide +kernel⟩, List.mem_of_getElem? (i := 172) (by decide +kernel), List.mem_of_getElem? (i := 449) (by decide +kernel), List.mem_of_getElem? (i := 450) (by decide +kernel)⟩
theorem lw_p42 : lw_okq (⟨"GuardPacksModel", "isCell", "(II)Z"⟩, 22) := ⟨⟨by decide +kernel, by decide +kernel⟩, List.mem_of_getElem? (i := 453) (by decide +kernel), List.mem_of_getElem? (i := 537) (by decide +kernel), List.mem_of_getElem? (i := 538) (by decide +kernel)⟩
theorem lw_p43 : lw_okq (⟨"GuardPacksModel", "part", "()V"⟩, 22) := ⟨⟨by decide +kernel, by decide +kernel⟩, List.mem_of_getElem? (i := 453) (by decide +kernel), List.mem_of_getElem? (i := 553) (by decide +kernel), List.mem_of_getElem? (i := 554) (by decide +kernel)⟩
theorem lw_p44 : lw_okq (⟨"GuardPacksModel", "partCell", "(III)V"⟩, 22) := ⟨⟨by decide +kernel, by decide +kernel⟩, List.mem_of_getElem? (i := 453) (by decide +kernel), List.mem_of_getElem? (i := 557) (by decide +kernel), List.mem_of_getElem? (i := 558) (by decide +kernel)⟩
theorem lw_p45 : lw_okq (⟨"GuardPacksModel", "isOpen", "(II)Z"⟩, 22) := ⟨⟨by decide +kernel, by decide +kernel⟩, List.mem_of_getElem? (i := 453) (by decide +kernel), List.mem_of_getElem? (i := 561) (by decide +kernel), List.mem_of_getElem? (i := 562) (by decide +kernel)⟩
theorem lw_p46 : lw_okq (⟨"GuardPacksModel", "isSeen", "(I)Z"⟩, 22) := ⟨⟨by decide +kernel, by decide +kernel⟩, List.mem_of_getElem? (i := 453) (by decide +kernel), List.mem_of_getElem? (i := 565) (by decide +kernel), List.mem_of_getElem? (i := 566) (by decide +kernel)⟩
theorem lw_p47 : lw_okq (⟨"GuardPacksModel", "isTouched", "(II)Z"⟩, 22) := ⟨⟨by decide +kernel, by decide +kernel⟩, List.mem_of_getElem? (i := 453) (by decide +kernel), List.mem_of_getElem? (i := 569) (by decide +kernel), List.mem_of_getElem? (i := 570) (by decide +kernel)⟩
def lw_privs_3 : List (MethodName × Nat) := [(⟨"GuardPacks$Box", "layAll", "(I)I"⟩, 9), (⟨"GuardPacks$Box", "emptyBox", "()V"⟩, 9), (⟨"GuardPacks$Box", "startOver", "(I)V"⟩, 9), (⟨"GuardPacks$Box", "hasPlace", "(I)Z"⟩, 9), (⟨"GuardPacks$Box", "layOrLift", "(I)V"⟩, 9), (⟨"GuardPacks$Box", "breadthOf", "(I)I"⟩, 9), (⟨"GuardPacks$Box", "goOn", "(I)V"⟩, 9), (⟨"GuardPacks$Box", "tryPlace", "(I)Z"⟩, 9), (⟨"GuardPacks$Box", "isFree", "(I)Z"⟩, 9), (⟨"GuardPacks$Box", "countLeft", "()I"⟩, 9), (⟨"GuardPacksModel", "isCell", "(II)Z"⟩, 22), (⟨"GuardPacksModel", "part", "()V"⟩, 22), (⟨"GuardPacksModel", "partCell", "(III)V"⟩, 22), (⟨"GuardPacksModel", "isOpen", "(II)Z"⟩, 22), (⟨"GuardPacksModel", "isSeen", "(I)Z"⟩, 22), (⟨"GuardPacksModel", "isTouched", "(II)Z"⟩, 22)]
theorem lw_r3 : ∀ q ∈ lw_privs_3, lw_okq q := List.forall_mem_cons.mpr ⟨lw_p32, List.forall_mem_cons.mpr ⟨lw_p33, List.forall_mem_cons.mpr ⟨lw_p34, List.forall_mem_cons.mpr ⟨lw_p35, List.forall_mem_cons.mpr ⟨lw_p36, List.forall_mem_cons.mpr ⟨lw_p37, List.forall_mem_cons.mpr ⟨lw_p38, List.forall_mem_cons.mpr ⟨lw_p39, List.forall_mem_cons.mpr ⟨lw_p40, List.forall_mem_cons.mpr ⟨lw_p41, List.forall_mem_cons.mpr ⟨lw_p42, List.forall_mem_cons.mpr ⟨lw_p43, List.forall_mem_cons.mpr ⟨lw_p44, List.forall_mem_cons.mpr ⟨lw_p45, List.forall_mem_cons.mpr ⟨lw_p46, List.forall_mem_cons.mpr ⟨lw_p47, fun _ h => absurd h List.not_mem_nil⟩⟩⟩⟩⟩⟩⟩⟩⟩⟩⟩⟩⟩⟩⟩⟩
theorem lw_p48 : lw_okq (⟨"GuardPacksModel", "cross", "(I)V"⟩, 22) := ⟨⟨by decide +kernel, by decide +kernel⟩, List.mem_of_getElem? (i := 453) (by decide +kernel), List.mem_of_getElem? (i := 597) (by decide +kernel), List.mem_of_getElem? (i := 598) (by decide +kernel)⟩
theorem lw_p49 : lw_okq (⟨"GuardPacksModel", "touched", "(I)J"⟩, 22) := ⟨⟨by decide +kernel, by decide +kernel⟩, List.mem_of_getElem? (i := 453) (by decide +kernel), List.mem_of_getElem? (i := 601) (by decide +kernel), List.mem_of_getElem? (i := 602) (by decide +kernel)⟩
theorem lw_p50 : lw_okq (⟨"GuardPacksModel", "count", "(J)I"⟩, 22) := ⟨⟨by decide +kernel, by decide +kernel⟩, List.mem_of_getElem? (i := 453) (by decide +kernel), List.mem_of_getElem? (i := 606) (by decide +kernel), List.mem_of_getElem? (i := 607) (by decide +kernel)⟩
theorem lw_p51 : lw_okq (⟨"GuardPacksModel", "most", "(IJ)I"⟩, 22) := ⟨⟨by decide +kernel, by decide +kernel⟩, List.mem_of_getElem? (i := 453) (by decide +kernel), List.mem_of_getElem? (i := 611) (by decide +kernel), List.mem_of_getElem? (i := 612) (by decide +kernel)⟩
theorem lw_p52 : lw_okq (⟨"GuardPacksModel", "finds", "(I)Z"⟩, 22) := ⟨⟨by decide +kernel, by decide +kernel⟩, List.mem_of_getElem? (i := 453) (by decide +kernel), List.mem_of_getElem? (i := 619) (by decide +kernel), List.mem_of_getElem? (i := 620) (by decide +kernel)⟩
theorem lw_p53 : lw_okq (⟨"GuardPacksModel", "doCross", "(II)Z"⟩, 22) := ⟨⟨by decide +kernel, by decide +kernel⟩, List.mem_of_getElem? (i := 453) (by decide +kernel), List.mem_of_getElem? (i := 623) (by decide +kernel), List.mem_of_getElem? (i := 624) (by decide +kernel)⟩
theorem lw_p54 : lw_okq (⟨"GuardPacksModel", "turn", "(II)V"⟩, 22) := ⟨⟨by decide +kernel, by decide +kernel⟩, List.mem_of_getElem? (i := 453) (by decide +kernel), List.mem_of_getElem? (i := 627) (by decide +kernel), List.mem_of_getElem? (i := 628) (by decide +kernel)⟩
theorem lw_p55 : lw_okq (⟨"GuardPacksModel", "goesOn", "(I)Z"⟩, 22) := ⟨⟨by decide +kernel, by decide +kernel⟩, List.mem_of_getElem? (i := 453) (by decide +kernel), List.mem_of_getElem? (i := 648) (by decide +kernel), List.mem_of_getElem? (i := 649) (by decide +kernel)⟩
theorem lw_p56 : lw_okq (⟨"GuardPacksModel", "lies", "(I)Z"⟩, 22) := ⟨⟨by decide +kernel, by decide +kernel⟩, List.mem_of_getElem? (i := 453) (by decide +kernel), List.mem_of_getElem? (i := 652) (by decide +kernel), List.mem_of_getElem? (i := 653) (by decide +kernel)⟩
theorem lw_p57 : lw_okq (⟨"GuardPacksModel", "isApart", "(II)Z"⟩, 22) := ⟨⟨by decide +kernel, by decide +kernel⟩, List.mem_of_getElem? (i := 453) (by decide +kernel), List.mem_of_getElem? (i := 656) (by decide +kernel), List.mem_of_getElem? (i := 657) (by decide +kernel)⟩
def lw_privs_4 : List (MethodName × Nat) := [(⟨"GuardPacksModel", "cross", "(I)V"⟩, 22), (⟨"GuardPacksModel", "touched", "(I)J"⟩, 22), (⟨"GuardPacksModel", "count", "(J)I"⟩, 22), (⟨"GuardPacksModel", "most", "(IJ)I"⟩, 22), (⟨"GuardPacksModel", "finds", "(I)Z"⟩, 22), (⟨"GuardPacksModel", "doCross", "(II)Z"⟩, 22), (⟨"GuardPacksModel", "turn", "(II)V"⟩, 22), (⟨"GuardPacksModel", "goesOn", "(I)Z"⟩, 22), (⟨"GuardPacksModel", "lies", "(I)Z"⟩, 22), (⟨"GuardPacksModel", "isApart", "(II)Z"⟩, 22)]
theorem lw_r4 : ∀ q ∈ lw_privs_4, lw_okq q := List.forall_mem_cons.mpr ⟨lw_p48, List.forall_mem_cons.mpr ⟨lw_p49, List.forall_mem_cons.mpr ⟨lw_p50, List.forall_mem_cons.mpr ⟨lw_p51, List.forall_mem_cons.mpr ⟨lw_p52, List.forall_mem_cons.mpr ⟨lw_p53, List.forall_mem_cons.mpr ⟨lw_p54, List.forall_mem_cons.mpr ⟨lw_p55, List.forall_mem_cons.mpr ⟨lw_p56, List.forall_mem_cons.mpr ⟨lw_p57, fun _ h => absurd h List.not_mem_nil⟩⟩⟩⟩⟩⟩⟩⟩⟩⟩
def lw_privs : List (MethodName × Nat) := lw_privs_1 ++ (lw_privs_2 ++ (lw_privs_3 ++ (lw_privs_4)))
def lw_tbl : List Cond := k2_sels lw_privs ++ tables_1
theorem lw_privs_ok : ∀ q ∈ lw_privs, lw_okq q := by
  show ∀ q ∈ lw_privs_1 ++ (lw_privs_2 ++ (lw_privs_3 ++ (lw_privs_4))), lw_okq q
  exact List.forall_mem_append.mpr ⟨lw_r1, List.forall_mem_append.mpr ⟨lw_r2, List.forall_mem_append.mpr ⟨lw_r3, lw_r4⟩⟩⟩
end
section
def RX0 : String := "GuardPacks$Box"
def TX0 : u_T := fun k => match k with
  | 0 => ("GuardPacks$Box", "width", "I", false)
  | 1 => ("GuardPacks$Box", "height", "I", false)
  | 2 => ("GuardPacks$Box", "count", "I", false)
  | 3 => ("GuardPacks$Box", "placesTried", "I", false)
  | 4 => ("GuardPacks$Box", "packed", "Z", false)
  | 5 => ("GuardPacks$Box", "side", "[I", true)
  | 6 => ("GuardPacks$Box", "atX", "[I", true)
  | 7 => ("GuardPacks$Box", "atY", "[I", true)
  | _ => ("GuardPacks$Box", "taken", "[I", true)
def tyX0 : Nat → FieldType := fun k => match k with
  | 0 => .int
  | 1 => .int
  | 2 => .int
  | 3 => .int
  | 4 => .boolean
  | 5 => .array .int
  | 6 => .array .int
  | 7 => .array .int
  | _ => .array .int
theorem nmX0 : ∀ a, a < 9 → ∀ b, b < 9 → a ≠ b → (TX0 a).2.1 ≠ (TX0 b).2.1 := by decide +kernel
theorem tyX0_ok : ∀ k, k < 9 → parseFieldDescriptor (TX0 k).2.2.1 = some (tyX0 k) := by decide +kernel
abbrev cX0_init : ByteArray := prog_2_method_1_code
def yX0_init : MethodName := ⟨RX0, "<init>", "()V"⟩
abbrev cX0_clear : ByteArray := prog_2_method_2_code
def yX0_clear : MethodName := ⟨RX0, "clear", "(II)V"⟩
abbrev cX0_append : ByteArray := prog_2_method_3_code
def yX0_append : MethodName := ⟨RX0, "append", "(I)I"⟩
abbrev cX0_removeLast : ByteArray := prog_2_method_4_code
def yX0_removeLast : MethodName := ⟨RX0, "removeLast", "()I"⟩
abbrev cX0_countLeft : ByteArray := prog_2_method_5_code
def yX0_countLeft : MethodName := ⟨RX0, "countLeft", "()I"⟩
abbrev cX0_fill : ByteArray := prog_2_method_6_code
def yX0_fill : MethodName := ⟨RX0, "fill", "(I)I"⟩
abbrev cX0_layAll : ByteArray := prog_2_method_7_code
def yX0_layAll : MethodName := ⟨RX0, "layAll", "(I)I"⟩
abbrev cX0_emptyBox : ByteArray := prog_2_method_8_code
def yX0_emptyBox : MethodName := ⟨RX0, "emptyBox", "()V"⟩
abbrev cX0_startOver : ByteArray := prog_2_method_9_code
def yX0_startOver : MethodName := ⟨RX0, "startOver", "(I)V"⟩
abbrev cX0_hasPlace : ByteArray := prog_2_method_10_code
def yX0_hasPlace : MethodName := ⟨RX0, "hasPlace", "(I)Z"⟩
abbrev cX0_goOn : ByteArray := prog_2_method_11_code
def yX0_goOn : MethodName := ⟨RX0, "goOn", "(I)V"⟩
abbrev cX0_tryPlace : ByteArray := prog_2_method_12_code
def yX0_tryPlace : MethodName := ⟨RX0, "tryPlace", "(I)Z"⟩
abbrev cX0_breadthOf : ByteArray := prog_2_method_13_code
def yX0_breadthOf : MethodName := ⟨RX0, "breadthOf", "(I)I"⟩
abbrev cX0_isFree : ByteArray := prog_2_method_14_code
def yX0_isFree : MethodName := ⟨RX0, "isFree", "(I)Z"⟩
abbrev cX0_layOrLift : ByteArray := prog_2_method_15_code
def yX0_layOrLift : MethodName := ⟨RX0, "layOrLift", "(I)V"⟩
def RX1 : String := "GuardPacks$Hall"
def TX1 : u_T := fun k => match k with
  | 0 => ("GuardPacks$Hall", "width", "I", false)
  | 1 => ("GuardPacks$Hall", "height", "I", false)
  | 2 => ("GuardPacks$Hall", "guardCount", "I", false)
  | 3 => ("GuardPacks$Hall", "open", "[Z", true)
  | 4 => ("GuardPacks$Hall", "guarded", "[Z", true)
  | 5 => ("GuardPacks$Hall", "rows", "LGuardPacks$Runs;", true)
  | 6 => ("GuardPacks$Hall", "columns", "LGuardPacks$Runs;", true)
  | 7 => ("GuardPacks$Hall", "pairing", "LGuardPacks$Pairing;", true)
  | _ => ("GuardPacks$Hall", "watch", "LGuardPacks$Watch;", true)
def tyX1 : Nat → FieldType := fun k => match k with
  | 0 => .int
  | 1 => .int
  | 2 => .int
  | 3 => .array .boolean
  | 4 => .array .boolean
  | 5 => .object "GuardPacks$Runs"
  | 6 => .object "GuardPacks$Runs"
  | 7 => .object "GuardPacks$Pairing"
  | _ => .object "GuardPacks$Watch"
theorem nmX1 : ∀ a, a < 9 → ∀ b, b < 9 → a ≠ b → (TX1 a).2.1 ≠ (TX1 b).2.1 := by decide +kernel
theorem tyX1_ok : ∀ k, k < 9 → parseFieldDescriptor (TX1 k).2.2.1 = some (tyX1 k) := by decide +kernel
abbrev cX1_init : ByteArray := prog_3_method_1_code
def yX1_init : MethodName := ⟨RX1, "<init>", "()V"⟩
abbrev cX1_clear : ByteArray := prog_3_method_2_code
def yX1_clear : MethodName := ⟨RX1, "clear", "(II)V"⟩
abbrev cX1_holds : ByteArray := prog_3_method_3_code
def yX1_holds : MethodName := ⟨RX1, "holds", "(II)Z"⟩
abbrev cX1_numberOf : ByteArray := prog_3_method_4_code
def yX1_numberOf : MethodName := ⟨RX1, "numberOf", "(II)I"⟩
abbrev cX1_along : ByteArray := prog_3_method_5_code
def yX1_along : MethodName := ⟨RX1, "along", "(I)LGuardPacks$Runs;"⟩
abbrev cX1_numberRuns : ByteArray := prog_3_method_6_code
def yX1_numberRuns : MethodName := ⟨RX1, "numberRuns", "()V"⟩
abbrev cX1_numberCell : ByteArray := prog_3_method_7_code
def yX1_numberCell : MethodName := ⟨RX1, "numberCell", "(II)V"⟩
abbrev cX1_changeWall : ByteArray := prog_3_method_8_code
def yX1_changeWall : MethodName := ⟨RX1, "changeWall", "(IZ)Z"⟩
abbrev cX1_changeGuard : ByteArray := prog_3_method_9_code
def yX1_changeGuard : MethodName := ⟨RX1, "changeGuard", "(IZ)I"⟩
abbrev cX1_isSeen : ByteArray := prog_3_method_10_code
def yX1_isSeen : MethodName := ⟨RX1, "isSeen", "(I)Z"⟩
abbrev cX1_kindOf : ByteArray := prog_3_method_11_code
def yX1_kindOf : MethodName := ⟨RX1, "kindOf", "(I)I"⟩
abbrev cX1_sightFrom : ByteArray := prog_3_method_12_code
def yX1_sightFrom : MethodName := ⟨RX1, "sightFrom", "(I)I"⟩
abbrev cX1_countSeen : ByteArray := prog_3_method_13_code
def yX1_countSeen : MethodName := ⟨RX1, "countSeen", "()I"⟩
abbrev cX1_findMissed : ByteArray := prog_3_method_14_code
def yX1_findMissed : MethodName := ⟨RX1, "findMissed", "(I)I"⟩
abbrev cX1_leastMore : ByteArray := prog_3_method_15_code
def yX1_leastMore : MethodName := ⟨RX1, "leastMore", "()I"⟩
abbrev cX1_mostPeaceful : ByteArray := prog_3_method_16_code
def yX1_mostPeaceful : MethodName := ⟨RX1, "mostPeaceful", "()I"⟩
def RX2 : String := "GuardPacks$Pairing"
def TX2 : u_T := fun k => match k with
  | 0 => ("GuardPacks$Pairing", "near", "LGuardPacks$Runs;", false)
  | 1 => ("GuardPacks$Pairing", "far", "LGuardPacks$Runs;", false)
  | 2 => ("GuardPacks$Pairing", "farOf", "[I", true)
  | 3 => ("GuardPacks$Pairing", "nearOf", "[I", true)
  | 4 => ("GuardPacks$Pairing", "reachedFrom", "[I", true)
  | _ => ("GuardPacks$Pairing", "waiting", "[I", true)
def tyX2 : Nat → FieldType := fun k => match k with
  | 0 => .object "GuardPacks$Runs"
  | 1 => .object "GuardPacks$Runs"
  | 2 => .array .int
  | 3 => .array .int
  | 4 => .array .int
  | _ => .array .int
theorem nmX2 : ∀ a, a < 6 → ∀ b, b < 6 → a ≠ b → (TX2 a).2.1 ≠ (TX2 b).2.1 := by decide +kernel
theorem tyX2_ok : ∀ k, k < 6 → parseFieldDescriptor (TX2 k).2.2.1 = some (tyX2 k) := by decide +kernel
abbrev cX2_init : ByteArray := prog_4_method_1_code
def yX2_init : MethodName := ⟨RX2, "<init>", "()V"⟩
abbrev cX2_most : ByteArray := prog_4_method_2_code
def yX2_most : MethodName := ⟨RX2, "most", "(LGuardPacks$Runs;LGuardPacks$Runs;JJ)I"⟩
abbrev cX2_findPair : ByteArray := prog_4_method_3_code
def yX2_findPair : MethodName := ⟨RX2, "findPair", "(IJ)Z"⟩
abbrev cX2_pairBack : ByteArray := prog_4_method_4_code
def yX2_pairBack : MethodName := ⟨RX2, "pairBack", "(I)V"⟩
def RX3 : String := "GuardPacks$Runs"
def TX3 : u_T := fun k => match k with
  | 0 => ("GuardPacks$Runs", "count", "I", false)
  | 1 => ("GuardPacks$Runs", "stride", "I", false)
  | 2 => ("GuardPacks$Runs", "of", "[I", true)
  | 3 => ("GuardPacks$Runs", "least", "[I", true)
  | 4 => ("GuardPacks$Runs", "length", "[I", true)
  | _ => ("GuardPacks$Runs", "guards", "[I", true)
def tyX3 : Nat → FieldType := fun k => match k with
  | 0 => .int
  | 1 => .int
  | 2 => .array .int
  | 3 => .array .int
  | 4 => .array .int
  | _ => .array .int
theorem nmX3 : ∀ a, a < 6 → ∀ b, b < 6 → a ≠ b → (TX3 a).2.1 ≠ (TX3 b).2.1 := by decide +kernel
theorem tyX3_ok : ∀ k, k < 6 → parseFieldDescriptor (TX3 k).2.2.1 = some (tyX3 k) := by decide +kernel
abbrev cX3_init : ByteArray := prog_5_method_1_code
def yX3_init : MethodName := ⟨RX3, "<init>", "()V"⟩
abbrev cX3_clear : ByteArray := prog_5_method_2_code
def yX3_clear : MethodName := ⟨RX3, "clear", "(I)V"⟩
abbrev cX3_takeShut : ByteArray := prog_5_method_3_code
def yX3_takeShut : MethodName := ⟨RX3, "takeShut", "(I)V"⟩
abbrev cX3_takeOpen : ByteArray := prog_5_method_4_code
def yX3_takeOpen : MethodName := ⟨RX3, "takeOpen", "(IZ)V"⟩
abbrev cX3_addGuards : ByteArray := prog_5_method_5_code
def yX3_addGuards : MethodName := ⟨RX3, "addGuards", "(II)V"⟩
abbrev cX3_isWatched : ByteArray := prog_5_method_6_code
def yX3_isWatched : MethodName := ⟨RX3, "isWatched", "(I)Z"⟩
abbrev cX3_lengthAt : ByteArray := prog_5_method_7_code
def yX3_lengthAt : MethodName := ⟨RX3, "lengthAt", "(I)I"⟩
abbrev cX3_cellOf : ByteArray := prog_5_method_8_code
def yX3_cellOf : MethodName := ⟨RX3, "cellOf", "(II)I"⟩
def RX4 : String := "GuardPacks$Watch"
def TX4 : u_T := fun k => match k with
  | 0 => ("GuardPacks$Watch", "near", "LGuardPacks$Runs;", false)
  | 1 => ("GuardPacks$Watch", "far", "LGuardPacks$Runs;", false)
  | 2 => ("GuardPacks$Watch", "best", "I", false)
  | 3 => ("GuardPacks$Watch", "unseenFar", "[J", true)
  | _ => ("GuardPacks$Watch", "pairing", "LGuardPacks$Pairing;", true)
def tyX4 : Nat → FieldType := fun k => match k with
  | 0 => .object "GuardPacks$Runs"
  | 1 => .object "GuardPacks$Runs"
  | 2 => .int
  | 3 => .array .long
  | _ => .object "GuardPacks$Pairing"
theorem nmX4 : ∀ a, a < 5 → ∀ b, b < 5 → a ≠ b → (TX4 a).2.1 ≠ (TX4 b).2.1 := by decide +kernel
theorem tyX4_ok : ∀ k, k < 5 → parseFieldDescriptor (TX4 k).2.2.1 = some (tyX4 k) := by decide +kernel
abbrev cX4_init : ByteArray := prog_6_method_1_code
def yX4_init : MethodName := ⟨RX4, "<init>", "(LGuardPacks$Pairing;)V"⟩
abbrev cX4_leastGuards : ByteArray := prog_6_method_2_code
def yX4_leastGuards : MethodName := ⟨RX4, "leastGuards", "(LGuardPacks$Runs;LGuardPacks$Runs;)I"⟩
abbrev cX4_findUnseenFar : ByteArray := prog_6_method_3_code
def yX4_findUnseenFar : MethodName := ⟨RX4, "findUnseenFar", "(I)J"⟩
abbrev cX4_choose : ByteArray := prog_6_method_4_code
def yX4_choose : MethodName := ⟨RX4, "choose", "(IJJ)V"⟩
def RX5 : String := "GuardPacks"
def TX5 : u_T := fun k => match k with
  | 0 => ("GuardPacks", "myHall", "LGuardPacks$Hall;", true)
  | _ => ("GuardPacks", "myBox", "LGuardPacks$Box;", true)
def tyX5 : Nat → FieldType := fun k => match k with
  | 0 => .object "GuardPacks$Hall"
  | _ => .object "GuardPacks$Box"
theorem nmX5 : ∀ a, a < 2 → ∀ b, b < 2 → a ≠ b → (TX5 a).2.1 ≠ (TX5 b).2.1 := by decide +kernel
theorem tyX5_ok : ∀ k, k < 2 → parseFieldDescriptor (TX5 k).2.2.1 = some (tyX5 k) := by decide +kernel
abbrev cX5_init : ByteArray := prog_1_method_1_code
def yX5_init : MethodName := ⟨RX5, "<init>", "()V"⟩
abbrev cX5_hall : ByteArray := prog_1_method_2_code
def yX5_hall : MethodName := ⟨RX5, "hall", "(II)I"⟩
abbrev cX5_wall : ByteArray := prog_1_method_3_code
def yX5_wall : MethodName := ⟨RX5, "wall", "(IIZ)I"⟩
abbrev cX5_guard : ByteArray := prog_1_method_4_code
def yX5_guard : MethodName := ⟨RX5, "guard", "(II)I"⟩
abbrev cX5_leave : ByteArray := prog_1_method_5_code
def yX5_leave : MethodName := ⟨RX5, "leave", "(II)I"⟩
abbrev cX5_cell : ByteArray := prog_1_method_6_code
def yX5_cell : MethodName := ⟨RX5, "cell", "(II)I"⟩
abbrev cX5_runs : ByteArray := prog_1_method_7_code
def yX5_runs : MethodName := ⟨RX5, "runs", "(I)I"⟩
abbrev cX5_run : ByteArray := prog_1_method_8_code
def yX5_run : MethodName := ⟨RX5, "run", "(III)I"⟩
abbrev cX5_sees : ByteArray := prog_1_method_9_code
def yX5_sees : MethodName := ⟨RX5, "sees", "(II)I"⟩
abbrev cX5_seen : ByteArray := prog_1_method_10_code
def yX5_seen : MethodName := ⟨RX5, "seen", "()I"⟩
abbrev cX5_missed : ByteArray := prog_1_method_11_code
def yX5_missed : MethodName := ⟨RX5, "missed", "(I)I"⟩
abbrev cX5_more : ByteArray := prog_1_method_12_code
def yX5_more : MethodName := ⟨RX5, "more", "()I"⟩
abbrev cX5_peace : ByteArray := prog_1_method_13_code
def yX5_peace : MethodName := ⟨RX5, "peace", "()I"⟩
abbrev cX5_box : ByteArray := prog_1_method_14_code
def yX5_box : MethodName := ⟨RX5, "box", "(II)I"⟩
abbrev cX5_square : ByteArray := prog_1_method_15_code
def yX5_square : MethodName := ⟨RX5, "square", "(I)I"⟩
abbrev cX5_drop : ByteArray := prog_1_method_16_code
def yX5_drop : MethodName := ⟨RX5, "drop", "()I"⟩
abbrev cX5_pack : ByteArray := prog_1_method_17_code
def yX5_pack : MethodName := ⟨RX5, "pack", "(I)I"⟩
abbrev cX5_tried : ByteArray := prog_1_method_18_code
def yX5_tried : MethodName := ⟨RX5, "tried", "()I"⟩
abbrev cX5_place : ByteArray := prog_1_method_19_code
def yX5_place : MethodName := ⟨RX5, "place", "(II)I"⟩
abbrev cX5_left : ByteArray := prog_1_method_20_code
def yX5_left : MethodName := ⟨RX5, "left", "()I"⟩
abbrev cX5_isWithin : ByteArray := prog_1_method_21_code
def yX5_isWithin : MethodName := ⟨RX5, "isWithin", "(III)Z"⟩
def RX6 : String := "GuardPacksModel"
def TX6 : u_T := fun k => match k with
  | 0 => ("GuardPacksModel", "wide", "I", false)
  | 1 => ("GuardPacksModel", "high", "I", false)
  | 2 => ("GuardPacksModel", "shut", "[Z", true)
  | 3 => ("GuardPacksModel", "guards", "[Z", true)
  | 4 => ("GuardPacksModel", "guardMany", "I", false)
  | 5 => ("GuardPacksModel", "runOf", "[I", true)
  | 6 => ("GuardPacksModel", "runMany", "[I", true)
  | 7 => ("GuardPacksModel", "runSize", "[I", true)
  | 8 => ("GuardPacksModel", "isParted", "Z", false)
  | 9 => ("GuardPacksModel", "boxA", "I", false)
  | 10 => ("GuardPacksModel", "boxB", "I", false)
  | 11 => ("GuardPacksModel", "squares", "I", false)
  | 12 => ("GuardPacksModel", "sides", "[I", true)
  | 13 => ("GuardPacksModel", "atX", "[I", true)
  | 14 => ("GuardPacksModel", "atY", "[I", true)
  | 15 => ("GuardPacksModel", "isPacked", "Z", false)
  | 16 => ("GuardPacksModel", "tried", "I", false)
  | 17 => ("GuardPacksModel", "bits", "[I", true)
  | 18 => ("GuardPacksModel", "crossed", "[J", true)
  | 19 => ("GuardPacksModel", "partner", "[I", true)
  | 20 => ("GuardPacksModel", "cameFrom", "[I", true)
  | _ => ("GuardPacksModel", "waiting", "[I", true)
def tyX6 : Nat → FieldType := fun k => match k with
  | 0 => .int
  | 1 => .int
  | 2 => .array .boolean
  | 3 => .array .boolean
  | 4 => .int
  | 5 => .array .int
  | 6 => .array .int
  | 7 => .array .int
  | 8 => .boolean
  | 9 => .int
  | 10 => .int
  | 11 => .int
  | 12 => .array .int
  | 13 => .array .int
  | 14 => .array .int
  | 15 => .boolean
  | 16 => .int
  | 17 => .array .int
  | 18 => .array .long
  | 19 => .array .int
  | 20 => .array .int
  | _ => .array .int
theorem nmX6 : ∀ a, a < 22 → ∀ b, b < 22 → a ≠ b → (TX6 a).2.1 ≠ (TX6 b).2.1 := by decide +kernel
theorem tyX6_ok : ∀ k, k < 22 → parseFieldDescriptor (TX6 k).2.2.1 = some (tyX6 k) := by decide +kernel
abbrev cX6_init : ByteArray := prog_8_method_1_code
def yX6_init : MethodName := ⟨RX6, "<init>", "()V"⟩
abbrev cX6_within : ByteArray := prog_8_method_3_code
def yX6_within : MethodName := ⟨RX6, "within", "(III)Z"⟩
abbrev cX6_hall : ByteArray := prog_8_method_4_code
def yX6_hall : MethodName := ⟨RX6, "hall", "(II)I"⟩
abbrev cX6_isCell : ByteArray := prog_8_method_5_code
def yX6_isCell : MethodName := ⟨RX6, "isCell", "(II)Z"⟩
abbrev cX6_wall : ByteArray := prog_8_method_6_code
def yX6_wall : MethodName := ⟨RX6, "wall", "(IIZ)I"⟩
abbrev cX6_guard : ByteArray := prog_8_method_7_code
def yX6_guard : MethodName := ⟨RX6, "guard", "(II)I"⟩
abbrev cX6_leave : ByteArray := prog_8_method_8_code
def yX6_leave : MethodName := ⟨RX6, "leave", "(II)I"⟩
abbrev cX6_isOpen : ByteArray := prog_8_method_9_code
def yX6_isOpen : MethodName := ⟨RX6, "isOpen", "(II)Z"⟩
abbrev cX6_part : ByteArray := prog_8_method_10_code
def yX6_part : MethodName := ⟨RX6, "part", "()V"⟩
abbrev cX6_partCell : ByteArray := prog_8_method_11_code
def yX6_partCell : MethodName := ⟨RX6, "partCell", "(III)V"⟩
abbrev cX6_isTouched : ByteArray := prog_8_method_12_code
def yX6_isTouched : MethodName := ⟨RX6, "isTouched", "(II)Z"⟩
abbrev cX6_isSeen : ByteArray := prog_8_method_13_code
def yX6_isSeen : MethodName := ⟨RX6, "isSeen", "(I)Z"⟩
abbrev cX6_cell : ByteArray := prog_8_method_14_code
def yX6_cell : MethodName := ⟨RX6, "cell", "(II)I"⟩
abbrev cX6_runs : ByteArray := prog_8_method_15_code
def yX6_runs : MethodName := ⟨RX6, "runs", "(I)I"⟩
abbrev cX6_run : ByteArray := prog_8_method_16_code
def yX6_run : MethodName := ⟨RX6, "run", "(III)I"⟩
abbrev cX6_sees : ByteArray := prog_8_method_17_code
def yX6_sees : MethodName := ⟨RX6, "sees", "(II)I"⟩
abbrev cX6_seen : ByteArray := prog_8_method_18_code
def yX6_seen : MethodName := ⟨RX6, "seen", "()I"⟩
abbrev cX6_missed : ByteArray := prog_8_method_19_code
def yX6_missed : MethodName := ⟨RX6, "missed", "(I)I"⟩
abbrev cX6_count : ByteArray := prog_8_method_20_code
def yX6_count : MethodName := ⟨RX6, "count", "(J)I"⟩
abbrev cX6_cross : ByteArray := prog_8_method_21_code
def yX6_cross : MethodName := ⟨RX6, "cross", "(I)V"⟩
abbrev cX6_touched : ByteArray := prog_8_method_22_code
def yX6_touched : MethodName := ⟨RX6, "touched", "(I)J"⟩
abbrev cX6_more : ByteArray := prog_8_method_23_code
def yX6_more : MethodName := ⟨RX6, "more", "()I"⟩
abbrev cX6_most : ByteArray := prog_8_method_24_code
def yX6_most : MethodName := ⟨RX6, "most", "(IJ)I"⟩
abbrev cX6_peace : ByteArray := prog_8_method_25_code
def yX6_peace : MethodName := ⟨RX6, "peace", "()I"⟩
abbrev cX6_doCross : ByteArray := prog_8_method_26_code
def yX6_doCross : MethodName := ⟨RX6, "doCross", "(II)Z"⟩
abbrev cX6_finds : ByteArray := prog_8_method_27_code
def yX6_finds : MethodName := ⟨RX6, "finds", "(I)Z"⟩
abbrev cX6_turn : ByteArray := prog_8_method_28_code
def yX6_turn : MethodName := ⟨RX6, "turn", "(II)V"⟩
abbrev cX6_box : ByteArray := prog_8_method_29_code
def yX6_box : MethodName := ⟨RX6, "box", "(II)I"⟩
abbrev cX6_square : ByteArray := prog_8_method_30_code
def yX6_square : MethodName := ⟨RX6, "square", "(I)I"⟩
abbrev cX6_drop : ByteArray := prog_8_method_31_code
def yX6_drop : MethodName := ⟨RX6, "drop", "()I"⟩
abbrev cX6_isApart : ByteArray := prog_8_method_32_code
def yX6_isApart : MethodName := ⟨RX6, "isApart", "(II)Z"⟩
abbrev cX6_lies : ByteArray := prog_8_method_33_code
def yX6_lies : MethodName := ⟨RX6, "lies", "(I)Z"⟩
abbrev cX6_goesOn : ByteArray := prog_8_method_34_code
def yX6_goesOn : MethodName := ⟨RX6, "goesOn", "(I)Z"⟩
abbrev cX6_pack : ByteArray := prog_8_method_35_code
def yX6_pack : MethodName := ⟨RX6, "pack", "(I)I"⟩
abbrev cX6_tried : ByteArray := prog_8_method_36_code
def yX6_tried : MethodName := ⟨RX6, "tried", "()I"⟩
abbrev cX6_place : ByteArray := prog_8_method_37_code
def yX6_place : MethodName := ⟨RX6, "place", "(II)I"⟩
abbrev cX6_left : ByteArray := prog_8_method_38_code
def yX6_left : MethodName := ⟨RX6, "left", "()I"⟩
def RJ13 : String := "java/lang/Long"
def TJ13 : u_T := fun k => match k with
  | _ => ("", "", "", false)
def tyJ13 : Nat → FieldType := fun k => match k with
  | _ => .int
theorem nmJ13 : ∀ a, a < 0 → ∀ b, b < 0 → a ≠ b → (TJ13 a).2.1 ≠ (TJ13 b).2.1 := by decide +kernel
theorem tyJ13_ok : ∀ k, k < 0 → parseFieldDescriptor (TJ13 k).2.2.1 = some (tyJ13 k) := by decide +kernel
abbrev cJ13_bitCount_95d88 : ByteArray := prog_9_method_50_code
def yJ13_bitCount_95d88 : MethodName := ⟨RJ13, "bitCount", "(J)I"⟩
def RJ9 : String := "java/lang/Math"
def TJ9 : u_T := fun k => match k with
  | _ => ("", "", "", false)
def tyJ9 : Nat → FieldType := fun k => match k with
  | _ => .int
theorem nmJ9 : ∀ a, a < 0 → ∀ b, b < 0 → a ≠ b → (TJ9 a).2.1 ≠ (TJ9 b).2.1 := by decide +kernel
theorem tyJ9_ok : ∀ k, k < 0 → parseFieldDescriptor (TJ9 k).2.2.1 = some (tyJ9 k) := by decide +kernel
abbrev cJ9_min_7cf53 : ByteArray := prog_10_method_69_code
def yJ9_min_7cf53 : MethodName := ⟨RJ9, "min", "(II)I"⟩
def RL : String := "GuardPacksLaw"
abbrev cL_law : ByteArray := code
def yL_law : MethodName := ⟨RL, "law", "([I)Z"⟩
abbrev pm_cl : List vw_C := [(RX0, TX0, 9), (RX1, TX1, 9), (RX2, TX2, 6), (RX3, TX3, 6), (RX4, TX4, 5), (RX5, TX5, 2), (RX6, TX6, 22)]
/-- what lies in a new object -/
def pm_df (c : Nat) : List Value := match c with
  | 0 => [.int 0, .int 0, .int 0, .int 0, .int 0, .null, .null, .null, .null]
  | 1 => [.int 0, .int 0, .int 0, .null, .null, .null, .null, .null, .null]
  | 2 => [.null, .null, .null, .null, .null, .null]
  | 3 => [.int 0, .int 0, .null, .null, .null, .null]
  | 4 => [.null, .null, .int 0, .null, .null]
  | 5 => [.null, .null]
  | _ => [.int 0, .int 0, .null, .null, .int 0, .null, .null, .null, .int 0, .int 0, .int 0, .int 0, .null, .null, .null, .int 0, .int 0, .null, .null, .null, .null, .null]
abbrev pm_I : Type := Nat × Nat × Nat × Value × List Nat
abbrev mX0_init : Nat := 0
def cd_X0_init : List pm_I := [(1, 0, 2, .null, []), (28, 0, 0, .null, []), (1, 0, 2, .null, []), (0, 0, 0, .int 8, []), (24, 0, 8, .null, []), (19, 0, 5, .null, [2]), (1, 0, 2, .null, []), (0, 0, 0, .int 8, []), (24, 0, 8, .null, []), (19, 0, 6, .null, [2]), (1, 0, 2, .null, []), (0, 0, 0, .int 8, []), (24, 0, 8, .null, []), (19, 0, 7, .null, [2]), (1, 0, 2, .null, []), (0, 0, 0, .int 12, []), (24, 0, 12, .null, []), (19, 0, 8, .null, [2]), (1, 0, 2, .null, []), (0, 0, 0, .int 1, []), (0, 0, 0, .int 1, []), (25, 1, 3, .null, [0]), (26, 0, 0, .null, [])]
abbrev mX0_clear : Nat := 1
def cd_X0_clear : List pm_I := [(1, 0, 2, .null, []), (1, 1, 0, .null, []), (19, 0, 0, .null, [0]), (1, 0, 2, .null, []), (1, 2, 0, .null, []), (19, 0, 1, .null, [0]), (1, 0, 2, .null, []), (0, 0, 0, .int 0, []), (19, 0, 2, .null, [0]), (1, 0, 2, .null, []), (0, 0, 0, .int 0, []), (19, 0, 4, .null, [3]), (26, 0, 0, .null, [])]
abbrev mX0_append : Nat := 2
def cd_X0_append : List pm_I := [(1, 0, 2, .null, []), (0, 0, 0, .int 0, []), (19, 0, 4, .null, [3]), (1, 0, 2, .null, []), (18, 0, 5, .null, []), (1, 0, 2, .null, []), (18, 0, 2, .null, []), (1, 1, 0, .null, []), (21, 0, 0, .null, []), (1, 0, 2, .null, []), (11, 0, 0, .null, []), (18, 0, 2, .null, []), (12, 0, 0, .null, []), (0, 0, 0, .int 1, []), (4, 0, 0, .null, []), (19, 0, 2, .null, [0]), (26, 1, 0, .null, [])]
abbrev mX0_removeLast : Nat := 3
def cd_X0_removeLast : List pm_I := [(1, 0, 2, .null, []), (0, 0, 0, .int 0, []), (19, 0, 4, .null, [3]), (1, 0, 2, .null, []), (11, 0, 0, .null, []), (18, 0, 2, .null, []), (0, 0, 0, .int 1, []), (4, 0, 1, .null, []), (12, 0, 0, .null, []), (19, 0, 2, .null, [0]), (26, 1, 0, .null, [])]
abbrev mX0_countLeft : Nat := 4
def cd_X0_countLeft : List pm_I := [(1, 0, 2, .null, []), (18, 0, 0, .null, []), (1, 0, 2, .null, []), (18, 0, 1, .null, []), (4, 0, 2, .null, []), (2, 1, 0, .null, []), (0, 0, 0, .int 0, []), (2, 2, 0, .null, []), (1, 2, 0, .null, []), (1, 0, 2, .null, []), (18, 0, 2, .null, []), (16, 26, 3, .null, []), (1, 1, 0, .null, []), (1, 0, 2, .null, []), (18, 0, 5, .null, []), (1, 2, 0, .null, []), (20, 0, 0, .null, []), (1, 0, 2, .null, []), (18, 0, 5, .null, []), (1, 2, 0, .null, []), (20, 0, 0, .null, []), (4, 0, 2, .null, []), (4, 0, 1, .null, []), (2, 1, 0, .null, []), (3, 2, 0, .int 1, []), (17, 8, 0, .null, []), (1, 1, 0, .null, []), (26, 1, 0, .null, [])]
abbrev mX0_fill : Nat := 5
def cd_X0_fill : List pm_I := [(1, 0, 2, .null, []), (0, 0, 0, .int 0, []), (19, 0, 3, .null, [0]), (1, 0, 2, .null, []), (1, 1, 0, .null, []), (25, 6, 2, .null, [0]), (2, 2, 0, .null, []), (1, 0, 2, .null, []), (1, 2, 0, .null, []), (0, 0, 0, .int 1, []), (16, 13, 1, .null, []), (0, 0, 0, .int 1, []), (17, 14, 0, .null, []), (0, 0, 0, .int 0, []), (19, 0, 4, .null, [3]), (1, 2, 0, .null, []), (26, 1, 0, .null, [])]
abbrev mX0_layAll : Nat := 6
def cd_X0_layAll : List pm_I := [(1, 0, 2, .null, []), (25, 7, 1, .null, [0]), (0, 0, 0, .int 0, []), (2, 2, 0, .null, []), (0, 0, 0, .int 0, []), (2, 3, 0, .null, []), (1, 3, 0, .null, []), (0, 0, 0, .int 200002, []), (16, 48, 3, .null, []), (1, 2, 0, .null, []), (1, 0, 2, .null, []), (18, 0, 2, .null, []), (16, 15, 2, .null, []), (0, 0, 0, .int 1, []), (26, 1, 0, .null, []), (1, 0, 2, .null, []), (1, 2, 0, .null, []), (25, 9, 2, .null, [0]), (15, 31, 1, .null, []), (1, 2, 0, .null, []), (15, 23, 1, .null, []), (0, 0, 0, .int 0, []), (26, 1, 0, .null, []), (3, 2, 0, .int (-1), []), (1, 0, 2, .null, []), (1, 2, 0, .null, []), (25, 14, 2, .null, [0]), (1, 0, 2, .null, []), (1, 2, 0, .null, []), (25, 10, 2, .null, [0]), (17, 46, 0, .null, []), (1, 0, 2, .null, []), (18, 0, 3, .null, []), (1, 1, 0, .null, []), (16, 37, 2, .null, []), (0, 0, 0, .int 2, []), (26, 1, 0, .null, []), (1, 0, 2, .null, []), (1, 2, 0, .null, []), (25, 11, 2, .null, [0]), (15, 43, 0, .null, []), (3, 2, 0, .int 1, []), (17, 46, 0, .null, []), (1, 0, 2, .null, []), (1, 2, 0, .null, []), (25, 10, 2, .null, [0]), (3, 3, 0, .int 1, []), (17, 6, 0, .null, []), (0, 0, 0, .int 2, []), (26, 1, 0, .null, [])]
abbrev mX0_emptyBox : Nat := 7
def cd_X0_emptyBox : List pm_I := [(0, 0, 0, .int 0, []), (2, 1, 0, .null, []), (1, 1, 0, .null, []), (0, 0, 0, .int 12, []), (16, 12, 3, .null, []), (1, 0, 2, .null, []), (18, 0, 8, .null, []), (1, 1, 0, .null, []), (0, 0, 0, .int 0, []), (21, 0, 0, .null, []), (3, 1, 0, .int 1, []), (17, 2, 0, .null, []), (1, 0, 2, .null, []), (0, 0, 0, .int 0, []), (25, 8, 2, .null, [0]), (26, 0, 0, .null, [])]
abbrev mX0_startOver : Nat := 8
def cd_X0_startOver : List pm_I := [(1, 1, 0, .null, []), (0, 0, 0, .int 8, []), (16, 13, 3, .null, []), (1, 0, 2, .null, []), (18, 0, 6, .null, []), (1, 1, 0, .null, []), (0, 0, 0, .int 0, []), (21, 0, 0, .null, []), (1, 0, 2, .null, []), (18, 0, 7, .null, []), (1, 1, 0, .null, []), (0, 0, 0, .int 0, []), (21, 0, 0, .null, []), (26, 0, 0, .null, [])]
abbrev mX0_hasPlace : Nat := 9
def cd_X0_hasPlace : List pm_I := [(1, 0, 2, .null, []), (18, 0, 6, .null, []), (1, 1, 0, .null, []), (20, 0, 0, .null, []), (1, 0, 2, .null, []), (18, 0, 5, .null, []), (1, 1, 0, .null, []), (20, 0, 0, .null, []), (4, 0, 0, .null, []), (1, 0, 2, .null, []), (18, 0, 0, .null, []), (16, 26, 4, .null, []), (1, 0, 2, .null, []), (18, 0, 7, .null, []), (1, 1, 0, .null, []), (20, 0, 0, .null, []), (1, 0, 2, .null, []), (18, 0, 5, .null, []), (1, 1, 0, .null, []), (20, 0, 0, .null, []), (4, 0, 0, .null, []), (1, 0, 2, .null, []), (18, 0, 1, .null, []), (16, 26, 4, .null, []), (0, 0, 0, .int 1, []), (17, 27, 0, .null, []), (0, 0, 0, .int 0, []), (26, 2, 0, .null, [])]
abbrev mX0_goOn : Nat := 10
def cd_X0_goOn : List pm_I := [(1, 0, 2, .null, []), (18, 0, 6, .null, []), (1, 1, 0, .null, []), (13, 0, 0, .null, []), (20, 0, 0, .null, []), (0, 0, 0, .int 1, []), (4, 0, 0, .null, []), (21, 0, 0, .null, []), (1, 0, 2, .null, []), (18, 0, 6, .null, []), (1, 1, 0, .null, []), (20, 0, 0, .null, []), (1, 0, 2, .null, []), (18, 0, 5, .null, []), (1, 1, 0, .null, []), (20, 0, 0, .null, []), (4, 0, 0, .null, []), (1, 0, 2, .null, []), (18, 0, 0, .null, []), (16, 33, 5, .null, []), (1, 0, 2, .null, []), (18, 0, 6, .null, []), (1, 1, 0, .null, []), (0, 0, 0, .int 0, []), (21, 0, 0, .null, []), (1, 0, 2, .null, []), (18, 0, 7, .null, []), (1, 1, 0, .null, []), (13, 0, 0, .null, []), (20, 0, 0, .null, []), (0, 0, 0, .int 1, []), (4, 0, 0, .null, []), (21, 0, 0, .null, []), (26, 0, 0, .null, [])]
abbrev mX0_tryPlace : Nat := 11
def cd_X0_tryPlace : List pm_I := [(1, 0, 2, .null, []), (11, 0, 0, .null, []), (18, 0, 3, .null, []), (0, 0, 0, .int 1, []), (4, 0, 0, .null, []), (19, 0, 3, .null, [0]), (1, 0, 2, .null, []), (1, 1, 0, .null, []), (25, 13, 2, .null, [0]), (15, 12, 1, .null, []), (0, 0, 0, .int 0, []), (26, 2, 0, .null, []), (1, 0, 2, .null, []), (1, 1, 0, .null, []), (25, 14, 2, .null, [0]), (1, 0, 2, .null, []), (1, 1, 0, .null, []), (0, 0, 0, .int 1, []), (4, 0, 0, .null, []), (25, 8, 2, .null, [0]), (0, 0, 0, .int 1, []), (26, 2, 0, .null, [])]
abbrev mX0_breadthOf : Nat := 12
def cd_X0_breadthOf : List pm_I := [(0, 0, 0, .int 1, []), (1, 0, 2, .null, []), (18, 0, 5, .null, []), (1, 1, 0, .null, []), (20, 0, 0, .null, []), (4, 0, 6, .null, []), (0, 0, 0, .int 1, []), (4, 0, 1, .null, []), (1, 0, 2, .null, []), (18, 0, 6, .null, []), (1, 1, 0, .null, []), (20, 0, 0, .null, []), (4, 0, 6, .null, []), (26, 1, 0, .null, [])]
abbrev mX0_isFree : Nat := 13
def cd_X0_isFree : List pm_I := [(1, 0, 2, .null, []), (1, 1, 0, .null, []), (25, 12, 2, .null, [0]), (2, 2, 0, .null, []), (1, 0, 2, .null, []), (18, 0, 7, .null, []), (1, 1, 0, .null, []), (20, 0, 0, .null, []), (1, 0, 2, .null, []), (18, 0, 5, .null, []), (1, 1, 0, .null, []), (20, 0, 0, .null, []), (4, 0, 0, .null, []), (0, 0, 0, .int 12, []), (30, 0, 0, .null, []), (2, 3, 0, .null, []), (1, 0, 2, .null, []), (18, 0, 7, .null, []), (1, 1, 0, .null, []), (20, 0, 0, .null, []), (2, 4, 0, .null, []), (1, 4, 0, .null, []), (1, 3, 0, .null, []), (16, 35, 3, .null, []), (1, 0, 2, .null, []), (18, 0, 8, .null, []), (1, 4, 0, .null, []), (20, 0, 0, .null, []), (1, 2, 0, .null, []), (4, 0, 3, .null, []), (15, 33, 0, .null, []), (0, 0, 0, .int 0, []), (26, 2, 0, .null, []), (3, 4, 0, .int 1, []), (17, 21, 0, .null, []), (0, 0, 0, .int 1, []), (26, 2, 0, .null, [])]
abbrev mX0_layOrLift : Nat := 14
def cd_X0_layOrLift : List pm_I := [(1, 0, 2, .null, []), (1, 1, 0, .null, []), (25, 12, 2, .null, [0]), (2, 2, 0, .null, []), (1, 0, 2, .null, []), (18, 0, 7, .null, []), (1, 1, 0, .null, []), (20, 0, 0, .null, []), (1, 0, 2, .null, []), (18, 0, 5, .null, []), (1, 1, 0, .null, []), (20, 0, 0, .null, []), (4, 0, 0, .null, []), (0, 0, 0, .int 12, []), (30, 0, 0, .null, []), (2, 3, 0, .null, []), (1, 0, 2, .null, []), (18, 0, 7, .null, []), (1, 1, 0, .null, []), (20, 0, 0, .null, []), (2, 4, 0, .null, []), (1, 4, 0, .null, []), (1, 3, 0, .null, []), (16, 34, 3, .null, []), (1, 0, 2, .null, []), (18, 0, 8, .null, []), (1, 4, 0, .null, []), (13, 0, 0, .null, []), (20, 0, 0, .null, []), (1, 2, 0, .null, []), (4, 0, 5, .null, []), (21, 0, 0, .null, []), (3, 4, 0, .int 1, []), (17, 21, 0, .null, []), (26, 0, 0, .null, [])]
abbrev mX1_init : Nat := 15
def cd_X1_init : List pm_I := [(1, 0, 2, .null, []), (28, 0, 0, .null, []), (1, 0, 2, .null, []), (0, 0, 0, .int 64, []), (24, 1, 64, .null, []), (19, 1, 3, .null, [2]), (1, 0, 2, .null, []), (0, 0, 0, .int 64, []), (24, 1, 64, .null, []), (19, 1, 4, .null, [2]), (1, 0, 2, .null, []), (23, 3, 0, .null, []), (11, 0, 0, .null, []), (25, 35, 1, .null, [3]), (19, 1, 5, .null, [2]), (1, 0, 2, .null, []), (23, 3, 0, .null, []), (11, 0, 0, .null, []), (25, 35, 1, .null, [3]), (19, 1, 6, .null, [2]), (1, 0, 2, .null, []), (23, 2, 0, .null, []), (11, 0, 0, .null, []), (25, 31, 1, .null, [2]), (19, 1, 7, .null, [2]), (1, 0, 2, .null, []), (23, 4, 0, .null, []), (11, 0, 0, .null, []), (1, 0, 2, .null, []), (18, 1, 7, .null, []), (25, 43, 2, .null, [4]), (19, 1, 8, .null, [2]), (1, 0, 2, .null, []), (0, 0, 0, .int 1, []), (0, 0, 0, .int 1, []), (25, 16, 3, .null, [1]), (26, 0, 0, .null, [])]
abbrev mX1_clear : Nat := 16
def cd_X1_clear : List pm_I := [(1, 0, 2, .null, []), (1, 1, 0, .null, []), (19, 1, 0, .null, [0]), (1, 0, 2, .null, []), (1, 2, 0, .null, []), (19, 1, 1, .null, [0]), (1, 0, 2, .null, []), (0, 0, 0, .int 0, []), (19, 1, 2, .null, [0]), (0, 0, 0, .int 0, []), (2, 3, 0, .null, []), (1, 3, 0, .null, []), (0, 0, 0, .int 64, []), (16, 26, 3, .null, []), (1, 0, 2, .null, []), (18, 1, 3, .null, []), (1, 3, 0, .null, []), (0, 0, 0, .int 1, []), (21, 0, 1, .null, []), (1, 0, 2, .null, []), (18, 1, 4, .null, []), (1, 3, 0, .null, []), (0, 0, 0, .int 0, []), (21, 0, 1, .null, []), (3, 3, 0, .int 1, []), (17, 11, 0, .null, []), (1, 0, 2, .null, []), (25, 20, 1, .null, [1]), (26, 0, 0, .null, [])]
abbrev mX1_holds : Nat := 17
def cd_X1_holds : List pm_I := [(1, 1, 0, .null, []), (0, 0, 0, .int 0, []), (1, 0, 2, .null, []), (18, 1, 0, .null, []), (0, 0, 0, .int 1, []), (4, 0, 1, .null, []), (25, 67, 3, .null, []), (15, 18, 0, .null, []), (1, 2, 0, .null, []), (0, 0, 0, .int 0, []), (1, 0, 2, .null, []), (18, 1, 1, .null, []), (0, 0, 0, .int 1, []), (4, 0, 1, .null, []), (25, 67, 3, .null, []), (15, 18, 0, .null, []), (0, 0, 0, .int 1, []), (17, 19, 0, .null, []), (0, 0, 0, .int 0, []), (26, 2, 0, .null, [])]
abbrev mX1_numberOf : Nat := 18
def cd_X1_numberOf : List pm_I := [(1, 2, 0, .null, []), (1, 0, 2, .null, []), (18, 1, 0, .null, []), (4, 0, 2, .null, []), (1, 1, 0, .null, []), (4, 0, 0, .null, []), (26, 1, 0, .null, [])]
abbrev mX1_along : Nat := 19
def cd_X1_along : List pm_I := [(1, 1, 0, .null, []), (15, 5, 1, .null, []), (1, 0, 2, .null, []), (18, 1, 5, .null, []), (17, 7, 0, .null, []), (1, 0, 2, .null, []), (18, 1, 6, .null, []), (26, 4, 0, .null, [])]
abbrev mX1_numberRuns : Nat := 20
def cd_X1_numberRuns : List pm_I := [(1, 0, 2, .null, []), (18, 1, 5, .null, []), (0, 0, 0, .int 1, []), (25, 36, 2, .null, [3]), (1, 0, 2, .null, []), (18, 1, 6, .null, []), (1, 0, 2, .null, []), (18, 1, 0, .null, []), (25, 36, 2, .null, [3]), (0, 0, 0, .int 0, []), (2, 1, 0, .null, []), (1, 1, 0, .null, []), (1, 0, 2, .null, []), (18, 1, 1, .null, []), (16, 29, 3, .null, []), (0, 0, 0, .int 0, []), (2, 2, 0, .null, []), (1, 2, 0, .null, []), (1, 0, 2, .null, []), (18, 1, 0, .null, []), (16, 27, 3, .null, []), (1, 0, 2, .null, []), (1, 2, 0, .null, []), (1, 1, 0, .null, []), (25, 21, 3, .null, [1]), (3, 2, 0, .int 1, []), (17, 17, 0, .null, []), (3, 1, 0, .int 1, []), (17, 11, 0, .null, []), (26, 0, 0, .null, [])]
abbrev mX1_numberCell : Nat := 21
def cd_X1_numberCell : List pm_I := [(1, 0, 2, .null, []), (1, 1, 0, .null, []), (1, 2, 0, .null, []), (25, 18, 3, .null, [1]), (2, 3, 0, .null, []), (1, 0, 2, .null, []), (18, 1, 3, .null, []), (1, 3, 0, .null, []), (20, 0, 1, .null, []), (15, 19, 1, .null, []), (1, 0, 2, .null, []), (18, 1, 5, .null, []), (1, 3, 0, .null, []), (25, 37, 2, .null, [3]), (1, 0, 2, .null, []), (18, 1, 6, .null, []), (1, 3, 0, .null, []), (25, 37, 2, .null, [3]), (26, 0, 0, .null, []), (1, 0, 2, .null, []), (18, 1, 5, .null, []), (1, 3, 0, .null, []), (1, 1, 0, .null, []), (15, 26, 1, .null, []), (0, 0, 0, .int 1, []), (17, 27, 0, .null, []), (0, 0, 0, .int 0, []), (25, 38, 3, .null, [3]), (1, 0, 2, .null, []), (18, 1, 6, .null, []), (1, 3, 0, .null, []), (1, 2, 0, .null, []), (15, 35, 1, .null, []), (0, 0, 0, .int 1, []), (17, 36, 0, .null, []), (0, 0, 0, .int 0, []), (25, 38, 3, .null, [3]), (1, 0, 2, .null, []), (18, 1, 4, .null, []), (1, 3, 0, .null, []), (20, 0, 1, .null, []), (15, 52, 0, .null, []), (1, 0, 2, .null, []), (18, 1, 5, .null, []), (1, 3, 0, .null, []), (0, 0, 0, .int 1, []), (25, 39, 3, .null, [3]), (1, 0, 2, .null, []), (18, 1, 6, .null, []), (1, 3, 0, .null, []), (0, 0, 0, .int 1, []), (25, 39, 3, .null, [3]), (26, 0, 0, .null, [])]
abbrev mX1_changeWall : Nat := 22
def cd_X1_changeWall : List pm_I := [(1, 0, 2, .null, []), (18, 1, 3, .null, []), (1, 1, 0, .null, []), (20, 0, 1, .null, []), (1, 2, 0, .null, []), (16, 8, 1, .null, []), (0, 0, 0, .int 0, []), (26, 2, 0, .null, []), (1, 0, 2, .null, []), (18, 1, 3, .null, []), (1, 1, 0, .null, []), (1, 2, 0, .null, []), (21, 0, 1, .null, []), (1, 0, 2, .null, []), (25, 20, 1, .null, [1]), (0, 0, 0, .int 1, []), (26, 2, 0, .null, [])]
abbrev mX1_changeGuard : Nat := 23
def cd_X1_changeGuard : List pm_I := [(1, 2, 0, .null, []), (15, 4, 0, .null, []), (0, 0, 0, .int 1, []), (17, 5, 0, .null, []), (0, 0, 0, .int (-1), []), (2, 3, 0, .null, []), (1, 0, 2, .null, []), (18, 1, 4, .null, []), (1, 1, 0, .null, []), (1, 2, 0, .null, []), (21, 0, 1, .null, []), (1, 0, 2, .null, []), (18, 1, 5, .null, []), (1, 1, 0, .null, []), (1, 3, 0, .null, []), (25, 39, 3, .null, [3]), (1, 0, 2, .null, []), (18, 1, 6, .null, []), (1, 1, 0, .null, []), (1, 3, 0, .null, []), (25, 39, 3, .null, [3]), (1, 0, 2, .null, []), (11, 0, 0, .null, []), (18, 1, 2, .null, []), (1, 3, 0, .null, []), (4, 0, 0, .null, []), (19, 1, 2, .null, [0]), (1, 0, 2, .null, []), (18, 1, 2, .null, []), (26, 1, 0, .null, [])]
abbrev mX1_isSeen : Nat := 24
def cd_X1_isSeen : List pm_I := [(1, 0, 2, .null, []), (18, 1, 5, .null, []), (1, 1, 0, .null, []), (25, 40, 2, .null, [3]), (15, 10, 1, .null, []), (1, 0, 2, .null, []), (18, 1, 6, .null, []), (1, 1, 0, .null, []), (25, 40, 2, .null, [3]), (15, 12, 0, .null, []), (0, 0, 0, .int 1, []), (17, 13, 0, .null, []), (0, 0, 0, .int 0, []), (26, 2, 0, .null, [])]
abbrev mX1_kindOf : Nat := 25
def cd_X1_kindOf : List pm_I := [(1, 0, 2, .null, []), (18, 1, 3, .null, []), (1, 1, 0, .null, []), (20, 0, 1, .null, []), (15, 7, 1, .null, []), (0, 0, 0, .int 0, []), (26, 1, 0, .null, []), (1, 0, 2, .null, []), (18, 1, 4, .null, []), (1, 1, 0, .null, []), (20, 0, 1, .null, []), (15, 14, 0, .null, []), (0, 0, 0, .int 3, []), (26, 1, 0, .null, []), (1, 0, 2, .null, []), (1, 1, 0, .null, []), (25, 24, 2, .null, [1]), (15, 20, 0, .null, []), (0, 0, 0, .int 2, []), (17, 21, 0, .null, []), (0, 0, 0, .int 1, []), (26, 1, 0, .null, [])]
abbrev mX1_sightFrom : Nat := 26
def cd_X1_sightFrom : List pm_I := [(1, 0, 2, .null, []), (18, 1, 3, .null, []), (1, 1, 0, .null, []), (20, 0, 1, .null, []), (15, 17, 0, .null, []), (1, 0, 2, .null, []), (18, 1, 5, .null, []), (1, 1, 0, .null, []), (25, 41, 2, .null, [3]), (1, 0, 2, .null, []), (18, 1, 6, .null, []), (1, 1, 0, .null, []), (25, 41, 2, .null, [3]), (4, 0, 0, .null, []), (0, 0, 0, .int 1, []), (4, 0, 1, .null, []), (17, 18, 0, .null, []), (0, 0, 0, .int 0, []), (26, 1, 0, .null, [])]
abbrev mX1_countSeen : Nat := 27
def cd_X1_countSeen : List pm_I := [(0, 0, 0, .int 0, []), (2, 1, 0, .null, []), (0, 0, 0, .int 0, []), (2, 2, 0, .null, []), (1, 2, 0, .null, []), (1, 0, 2, .null, []), (18, 1, 0, .null, []), (1, 0, 2, .null, []), (18, 1, 1, .null, []), (4, 0, 2, .null, []), (16, 18, 3, .null, []), (1, 0, 2, .null, []), (1, 2, 0, .null, []), (25, 24, 2, .null, [1]), (15, 16, 0, .null, []), (3, 1, 0, .int 1, []), (3, 2, 0, .int 1, []), (17, 4, 0, .null, []), (1, 1, 0, .null, []), (26, 1, 0, .null, [])]
abbrev mX1_findMissed : Nat := 28
def cd_X1_findMissed : List pm_I := [(0, 0, 0, .int 0, []), (2, 2, 0, .null, []), (0, 0, 0, .int 0, []), (2, 3, 0, .null, []), (1, 3, 0, .null, []), (1, 0, 2, .null, []), (18, 1, 0, .null, []), (1, 0, 2, .null, []), (18, 1, 1, .null, []), (4, 0, 2, .null, []), (16, 28, 3, .null, []), (1, 0, 2, .null, []), (18, 1, 3, .null, []), (1, 3, 0, .null, []), (20, 0, 1, .null, []), (15, 26, 0, .null, []), (1, 0, 2, .null, []), (1, 3, 0, .null, []), (25, 24, 2, .null, [1]), (15, 26, 1, .null, []), (1, 2, 0, .null, []), (1, 1, 0, .null, []), (16, 25, 1, .null, []), (1, 3, 0, .null, []), (26, 1, 0, .null, []), (3, 2, 0, .int 1, []), (3, 3, 0, .int 1, []), (17, 4, 0, .null, []), (0, 0, 0, .int (-1), []), (26, 1, 0, .null, [])]
abbrev mX1_leastMore : Nat := 29
def cd_X1_leastMore : List pm_I := [(1, 0, 2, .null, []), (18, 1, 5, .null, []), (18, 3, 0, .null, []), (1, 0, 2, .null, []), (18, 1, 6, .null, []), (18, 3, 0, .null, []), (16, 9, 4, .null, []), (0, 0, 0, .int 1, []), (17, 10, 0, .null, []), (0, 0, 0, .int 0, []), (2, 1, 0, .null, []), (1, 1, 0, .null, []), (15, 16, 0, .null, []), (1, 0, 2, .null, []), (18, 1, 5, .null, []), (17, 18, 0, .null, []), (1, 0, 2, .null, []), (18, 1, 6, .null, []), (2, 2, 2, .null, []), (1, 1, 0, .null, []), (15, 24, 0, .null, []), (1, 0, 2, .null, []), (18, 1, 6, .null, []), (17, 26, 0, .null, []), (1, 0, 2, .null, []), (18, 1, 5, .null, []), (2, 3, 2, .null, []), (1, 2, 2, .null, []), (18, 3, 0, .null, []), (0, 0, 0, .int 12, []), (16, 33, 5, .null, []), (0, 0, 0, .int (-5), []), (17, 38, 0, .null, []), (1, 0, 2, .null, []), (18, 1, 8, .null, []), (1, 2, 2, .null, []), (1, 3, 2, .null, []), (25, 44, 3, .null, [4]), (26, 1, 0, .null, [])]
abbrev mX1_mostPeaceful : Nat := 30
def cd_X1_mostPeaceful : List pm_I := [(1, 0, 2, .null, []), (18, 1, 7, .null, []), (1, 0, 2, .null, []), (18, 1, 5, .null, []), (1, 0, 2, .null, []), (18, 1, 6, .null, []), (0, 0, 0, .long (-1), []), (0, 0, 0, .long (-1), []), (25, 32, 5, .null, [2]), (26, 1, 0, .null, [])]
abbrev mX2_init : Nat := 31
def cd_X2_init : List pm_I := [(1, 0, 2, .null, []), (28, 0, 0, .null, []), (1, 0, 2, .null, []), (0, 0, 0, .int 64, []), (24, 0, 64, .null, []), (19, 2, 2, .null, [2]), (1, 0, 2, .null, []), (0, 0, 0, .int 64, []), (24, 0, 64, .null, []), (19, 2, 3, .null, [2]), (1, 0, 2, .null, []), (0, 0, 0, .int 64, []), (24, 0, 64, .null, []), (19, 2, 4, .null, [2]), (1, 0, 2, .null, []), (0, 0, 0, .int 64, []), (24, 0, 64, .null, []), (19, 2, 5, .null, [2]), (26, 0, 0, .null, [])]
abbrev mX2_most : Nat := 32
def cd_X2_most : List pm_I := [(1, 0, 2, .null, []), (1, 1, 2, .null, []), (19, 2, 0, .null, [2]), (1, 0, 2, .null, []), (1, 2, 2, .null, []), (19, 2, 1, .null, [2]), (0, 0, 0, .int 0, []), (2, 7, 0, .null, []), (1, 7, 0, .null, []), (0, 0, 0, .int 64, []), (16, 23, 3, .null, []), (1, 0, 2, .null, []), (18, 2, 2, .null, []), (1, 7, 0, .null, []), (0, 0, 0, .int (-1), []), (21, 0, 0, .null, []), (1, 0, 2, .null, []), (18, 2, 3, .null, []), (1, 7, 0, .null, []), (0, 0, 0, .int (-1), []), (21, 0, 0, .null, []), (3, 7, 0, .int 1, []), (17, 8, 0, .null, []), (0, 0, 0, .int 0, []), (2, 7, 0, .null, []), (0, 0, 0, .int 0, []), (2, 8, 0, .null, []), (1, 8, 0, .null, []), (1, 0, 2, .null, []), (18, 2, 0, .null, []), (18, 3, 0, .null, []), (16, 48, 3, .null, []), (1, 3, 1, .null, []), (1, 8, 0, .null, []), (7, 0, 2, .null, []), (0, 0, 0, .long 1, []), (6, 0, 3, .null, []), (0, 0, 0, .long 0, []), (10, 0, 0, .null, []), (15, 46, 0, .null, []), (1, 0, 2, .null, []), (1, 8, 0, .null, []), (1, 5, 1, .null, []), (25, 33, 3, .null, [2]), (15, 46, 0, .null, []), (3, 7, 0, .int 1, []), (3, 8, 0, .int 1, []), (17, 27, 0, .null, []), (1, 7, 0, .null, []), (26, 1, 0, .null, [])]
abbrev mX2_findPair : Nat := 33
def cd_X2_findPair : List pm_I := [(1, 2, 1, .null, []), (2, 4, 1, .null, []), (0, 0, 0, .int 1, []), (2, 6, 0, .null, []), (1, 0, 2, .null, []), (18, 2, 5, .null, []), (0, 0, 0, .int 0, []), (1, 1, 0, .null, []), (21, 0, 0, .null, []), (0, 0, 0, .int 0, []), (2, 7, 0, .null, []), (1, 7, 0, .null, []), (1, 6, 0, .null, []), (16, 90, 3, .null, []), (1, 0, 2, .null, []), (18, 2, 5, .null, []), (1, 7, 0, .null, []), (20, 0, 0, .null, []), (2, 8, 0, .null, []), (0, 0, 0, .int 0, []), (2, 9, 0, .null, []), (1, 9, 0, .null, []), (1, 0, 2, .null, []), (18, 2, 0, .null, []), (18, 3, 4, .null, []), (1, 8, 0, .null, []), (20, 0, 0, .null, []), (16, 88, 3, .null, []), (1, 0, 2, .null, []), (18, 2, 1, .null, []), (18, 3, 2, .null, []), (1, 0, 2, .null, []), (18, 2, 0, .null, []), (1, 8, 0, .null, []), (1, 9, 0, .null, []), (25, 42, 3, .null, [3]), (20, 0, 0, .null, []), (2, 10, 0, .null, []), (1, 10, 0, .null, []), (0, 0, 0, .int (-1), []), (16, 86, 0, .null, []), (1, 4, 1, .null, []), (1, 10, 0, .null, []), (7, 0, 2, .null, []), (0, 0, 0, .long 1, []), (6, 0, 3, .null, []), (0, 0, 0, .long 0, []), (10, 0, 0, .null, []), (15, 50, 1, .null, []), (17, 86, 0, .null, []), (1, 4, 1, .null, []), (0, 0, 0, .long 1, []), (1, 10, 0, .null, []), (7, 0, 0, .null, []), (0, 0, 0, .long (-1), []), (6, 0, 5, .null, []), (6, 0, 3, .null, []), (2, 4, 1, .null, []), (1, 0, 2, .null, []), (18, 2, 4, .null, []), (1, 10, 0, .null, []), (1, 8, 0, .null, []), (21, 0, 0, .null, []), (1, 0, 2, .null, []), (18, 2, 3, .null, []), (1, 10, 0, .null, []), (20, 0, 0, .null, []), (0, 0, 0, .int (-1), []), (16, 74, 1, .null, []), (1, 0, 2, .null, []), (1, 10, 0, .null, []), (25, 34, 2, .null, [2]), (0, 0, 0, .int 1, []), (26, 2, 0, .null, []), (1, 6, 0, .null, []), (0, 0, 0, .int 64, []), (16, 86, 3, .null, []), (1, 0, 2, .null, []), (18, 2, 5, .null, []), (1, 6, 0, .null, []), (3, 6, 0, .int 1, []), (1, 0, 2, .null, []), (18, 2, 3, .null, []), (1, 10, 0, .null, []), (20, 0, 0, .null, []), (21, 0, 0, .null, []), (3, 9, 0, .int 1, []), (17, 21, 0, .null, []), (3, 7, 0, .int 1, []), (17, 11, 0, .null, []), (0, 0, 0, .int 0, []), (26, 2, 0, .null, [])]
abbrev mX2_pairBack : Nat := 34
def cd_X2_pairBack : List pm_I := [(1, 1, 0, .null, []), (2, 2, 0, .null, []), (0, 0, 0, .int 0, []), (2, 3, 0, .null, []), (1, 3, 0, .null, []), (0, 0, 0, .int 64, []), (16, 34, 3, .null, []), (1, 2, 0, .null, []), (0, 0, 0, .int (-1), []), (16, 34, 0, .null, []), (1, 0, 2, .null, []), (18, 2, 4, .null, []), (1, 2, 0, .null, []), (20, 0, 0, .null, []), (2, 4, 0, .null, []), (1, 0, 2, .null, []), (18, 2, 2, .null, []), (1, 4, 0, .null, []), (20, 0, 0, .null, []), (2, 5, 0, .null, []), (1, 0, 2, .null, []), (18, 2, 2, .null, []), (1, 4, 0, .null, []), (1, 2, 0, .null, []), (21, 0, 0, .null, []), (1, 0, 2, .null, []), (18, 2, 3, .null, []), (1, 2, 0, .null, []), (1, 4, 0, .null, []), (21, 0, 0, .null, []), (1, 5, 0, .null, []), (2, 2, 0, .null, []), (3, 3, 0, .int 1, []), (17, 4, 0, .null, []), (26, 0, 0, .null, [])]
abbrev mX3_init : Nat := 35
def cd_X3_init : List pm_I := [(1, 0, 2, .null, []), (28, 0, 0, .null, []), (1, 0, 2, .null, []), (0, 0, 0, .int 64, []), (24, 0, 64, .null, []), (19, 3, 2, .null, [2]), (1, 0, 2, .null, []), (0, 0, 0, .int 64, []), (24, 0, 64, .null, []), (19, 3, 3, .null, [2]), (1, 0, 2, .null, []), (0, 0, 0, .int 64, []), (24, 0, 64, .null, []), (19, 3, 4, .null, [2]), (1, 0, 2, .null, []), (0, 0, 0, .int 64, []), (24, 0, 64, .null, []), (19, 3, 5, .null, [2]), (26, 0, 0, .null, [])]
abbrev mX3_clear : Nat := 36
def cd_X3_clear : List pm_I := [(1, 0, 2, .null, []), (0, 0, 0, .int 0, []), (19, 3, 0, .null, [0]), (1, 0, 2, .null, []), (1, 1, 0, .null, []), (19, 3, 1, .null, [0]), (26, 0, 0, .null, [])]
abbrev mX3_takeShut : Nat := 37
def cd_X3_takeShut : List pm_I := [(1, 0, 2, .null, []), (18, 3, 2, .null, []), (1, 1, 0, .null, []), (0, 0, 0, .int (-1), []), (21, 0, 0, .null, []), (26, 0, 0, .null, [])]
abbrev mX3_takeOpen : Nat := 38
def cd_X3_takeOpen : List pm_I := [(1, 2, 0, .null, []), (15, 4, 0, .null, []), (0, 0, 0, .int (-1), []), (17, 11, 0, .null, []), (1, 0, 2, .null, []), (18, 3, 2, .null, []), (1, 1, 0, .null, []), (1, 0, 2, .null, []), (18, 3, 1, .null, []), (4, 0, 1, .null, []), (20, 0, 0, .null, []), (2, 3, 0, .null, []), (1, 3, 0, .null, []), (0, 0, 0, .int (-1), []), (16, 38, 1, .null, []), (1, 0, 2, .null, []), (11, 0, 0, .null, []), (18, 3, 0, .null, []), (12, 0, 0, .null, []), (0, 0, 0, .int 1, []), (4, 0, 0, .null, []), (19, 3, 0, .null, [0]), (2, 3, 0, .null, []), (1, 0, 2, .null, []), (18, 3, 3, .null, []), (1, 3, 0, .null, []), (1, 1, 0, .null, []), (21, 0, 0, .null, []), (1, 0, 2, .null, []), (18, 3, 4, .null, []), (1, 3, 0, .null, []), (0, 0, 0, .int 0, []), (21, 0, 0, .null, []), (1, 0, 2, .null, []), (18, 3, 5, .null, []), (1, 3, 0, .null, []), (0, 0, 0, .int 0, []), (21, 0, 0, .null, []), (1, 0, 2, .null, []), (18, 3, 2, .null, []), (1, 1, 0, .null, []), (1, 3, 0, .null, []), (21, 0, 0, .null, []), (1, 0, 2, .null, []), (18, 3, 4, .null, []), (1, 3, 0, .null, []), (13, 0, 0, .null, []), (20, 0, 0, .null, []), (0, 0, 0, .int 1, []), (4, 0, 0, .null, []), (21, 0, 0, .null, []), (26, 0, 0, .null, [])]
abbrev mX3_addGuards : Nat := 39
def cd_X3_addGuards : List pm_I := [(1, 0, 2, .null, []), (18, 3, 2, .null, []), (1, 1, 0, .null, []), (20, 0, 0, .null, []), (2, 3, 0, .null, []), (1, 3, 0, .null, []), (0, 0, 0, .int (-1), []), (16, 16, 0, .null, []), (1, 0, 2, .null, []), (18, 3, 5, .null, []), (1, 3, 0, .null, []), (13, 0, 0, .null, []), (20, 0, 0, .null, []), (1, 2, 0, .null, []), (4, 0, 0, .null, []), (21, 0, 0, .null, []), (26, 0, 0, .null, [])]
abbrev mX3_isWatched : Nat := 40
def cd_X3_isWatched : List pm_I := [(1, 0, 2, .null, []), (18, 3, 2, .null, []), (1, 1, 0, .null, []), (20, 0, 0, .null, []), (2, 2, 0, .null, []), (1, 2, 0, .null, []), (0, 0, 0, .int (-1), []), (16, 15, 0, .null, []), (1, 0, 2, .null, []), (18, 3, 5, .null, []), (1, 2, 0, .null, []), (20, 0, 0, .null, []), (15, 15, 5, .null, []), (0, 0, 0, .int 1, []), (17, 16, 0, .null, []), (0, 0, 0, .int 0, []), (26, 2, 0, .null, [])]
abbrev mX3_lengthAt : Nat := 41
def cd_X3_lengthAt : List pm_I := [(1, 0, 2, .null, []), (18, 3, 2, .null, []), (1, 1, 0, .null, []), (20, 0, 0, .null, []), (2, 2, 0, .null, []), (1, 2, 0, .null, []), (0, 0, 0, .int (-1), []), (16, 10, 1, .null, []), (0, 0, 0, .int 0, []), (17, 14, 0, .null, []), (1, 0, 2, .null, []), (18, 3, 4, .null, []), (1, 2, 0, .null, []), (20, 0, 0, .null, []), (26, 1, 0, .null, [])]
abbrev mX3_cellOf : Nat := 42
def cd_X3_cellOf : List pm_I := [(1, 0, 2, .null, []), (18, 3, 3, .null, []), (1, 1, 0, .null, []), (20, 0, 0, .null, []), (1, 2, 0, .null, []), (1, 0, 2, .null, []), (18, 3, 1, .null, []), (4, 0, 2, .null, []), (4, 0, 0, .null, []), (26, 1, 0, .null, [])]
abbrev mX4_init : Nat := 43
def cd_X4_init : List pm_I := [(1, 0, 2, .null, []), (28, 0, 0, .null, []), (1, 0, 2, .null, []), (0, 0, 0, .int 12, []), (24, 2, 12, .null, []), (19, 4, 3, .null, [2]), (1, 0, 2, .null, []), (1, 1, 2, .null, []), (19, 4, 4, .null, [2]), (26, 0, 0, .null, [])]
abbrev mX4_leastGuards : Nat := 44
def cd_X4_leastGuards : List pm_I := [(1, 0, 2, .null, []), (1, 1, 2, .null, []), (19, 4, 0, .null, [2]), (1, 0, 2, .null, []), (1, 2, 2, .null, []), (19, 4, 1, .null, [2]), (1, 0, 2, .null, []), (0, 0, 0, .int 0, []), (19, 4, 2, .null, [0]), (0, 0, 0, .int 0, []), (2, 3, 0, .null, []), (1, 3, 0, .null, []), (1, 0, 2, .null, []), (18, 4, 0, .null, []), (18, 3, 0, .null, []), (16, 41, 3, .null, []), (1, 3, 0, .null, []), (0, 0, 0, .int 12, []), (16, 41, 3, .null, []), (1, 0, 2, .null, []), (18, 4, 3, .null, []), (1, 3, 0, .null, []), (1, 0, 2, .null, []), (1, 3, 0, .null, []), (25, 45, 2, .null, [4]), (21, 0, 2, .null, []), (1, 0, 2, .null, []), (18, 4, 3, .null, []), (1, 3, 0, .null, []), (20, 0, 2, .null, []), (0, 0, 0, .long 0, []), (10, 0, 0, .null, []), (15, 39, 0, .null, []), (1, 0, 2, .null, []), (11, 0, 0, .null, []), (18, 4, 2, .null, []), (0, 0, 0, .int 1, []), (4, 0, 0, .null, []), (19, 4, 2, .null, [0]), (3, 3, 0, .int 1, []), (17, 11, 0, .null, []), (1, 0, 2, .null, []), (0, 0, 0, .int 0, []), (0, 0, 0, .long 0, []), (0, 0, 0, .long 0, []), (25, 46, 4, .null, [4]), (1, 0, 2, .null, []), (18, 4, 2, .null, []), (26, 1, 0, .null, [])]
abbrev mX4_findUnseenFar : Nat := 45
def cd_X4_findUnseenFar : List pm_I := [(0, 0, 0, .long 0, []), (2, 2, 1, .null, []), (1, 0, 2, .null, []), (18, 4, 0, .null, []), (18, 3, 5, .null, []), (1, 1, 0, .null, []), (20, 0, 0, .null, []), (15, 10, 5, .null, []), (1, 2, 1, .null, []), (26, 3, 0, .null, []), (0, 0, 0, .int 0, []), (2, 4, 0, .null, []), (1, 4, 0, .null, []), (1, 0, 2, .null, []), (18, 4, 0, .null, []), (18, 3, 4, .null, []), (1, 1, 0, .null, []), (20, 0, 0, .null, []), (16, 46, 3, .null, []), (1, 0, 2, .null, []), (18, 4, 1, .null, []), (18, 3, 2, .null, []), (1, 0, 2, .null, []), (18, 4, 0, .null, []), (1, 1, 0, .null, []), (1, 4, 0, .null, []), (25, 42, 3, .null, [3]), (20, 0, 0, .null, []), (2, 5, 0, .null, []), (1, 5, 0, .null, []), (0, 0, 0, .int (-1), []), (16, 44, 0, .null, []), (1, 0, 2, .null, []), (18, 4, 1, .null, []), (18, 3, 5, .null, []), (1, 5, 0, .null, []), (20, 0, 0, .null, []), (15, 44, 1, .null, []), (1, 2, 1, .null, []), (0, 0, 0, .long 1, []), (1, 5, 0, .null, []), (7, 0, 0, .null, []), (6, 0, 4, .null, []), (2, 2, 1, .null, []), (3, 4, 0, .int 1, []), (17, 12, 0, .null, []), (1, 2, 1, .null, []), (26, 3, 0, .null, [])]
abbrev mX4_choose : Nat := 46
def cd_X4_choose : List pm_I := [(1, 2, 1, .null, []), (25, 105, 1, .null, []), (2, 6, 0, .null, []), (1, 4, 1, .null, []), (25, 105, 1, .null, []), (2, 7, 0, .null, []), (1, 6, 0, .null, []), (1, 0, 2, .null, []), (18, 4, 2, .null, []), (16, 14, 3, .null, []), (1, 7, 0, .null, []), (1, 0, 2, .null, []), (18, 4, 2, .null, []), (16, 15, 2, .null, []), (26, 0, 0, .null, []), (1, 1, 0, .null, []), (1, 0, 2, .null, []), (18, 4, 0, .null, []), (18, 3, 0, .null, []), (16, 23, 3, .null, []), (1, 1, 0, .null, []), (0, 0, 0, .int 12, []), (16, 44, 2, .null, []), (1, 6, 0, .null, []), (1, 7, 0, .null, []), (4, 0, 0, .null, []), (1, 0, 2, .null, []), (18, 4, 4, .null, []), (1, 0, 2, .null, []), (18, 4, 0, .null, []), (1, 0, 2, .null, []), (18, 4, 1, .null, []), (1, 2, 1, .null, []), (1, 4, 1, .null, []), (25, 32, 5, .null, [2]), (4, 0, 1, .null, []), (2, 8, 0, .null, []), (1, 0, 2, .null, []), (1, 0, 2, .null, []), (18, 4, 2, .null, []), (1, 8, 0, .null, []), (30, 0, 0, .null, []), (19, 4, 2, .null, [0]), (26, 0, 0, .null, []), (1, 4, 1, .null, []), (1, 0, 2, .null, []), (18, 4, 3, .null, []), (1, 1, 0, .null, []), (20, 0, 2, .null, []), (6, 0, 4, .null, []), (2, 8, 1, .null, []), (1, 0, 2, .null, []), (1, 1, 0, .null, []), (0, 0, 0, .int 1, []), (4, 0, 0, .null, []), (1, 2, 1, .null, []), (1, 8, 1, .null, []), (25, 46, 4, .null, [4]), (1, 8, 1, .null, []), (1, 4, 1, .null, []), (10, 0, 0, .null, []), (15, 73, 0, .null, []), (1, 0, 2, .null, []), (1, 1, 0, .null, []), (0, 0, 0, .int 1, []), (4, 0, 0, .null, []), (1, 2, 1, .null, []), (0, 0, 0, .long 1, []), (1, 1, 0, .null, []), (7, 0, 0, .null, []), (6, 0, 4, .null, []), (1, 4, 1, .null, []), (25, 46, 4, .null, [4]), (26, 0, 0, .null, [])]
abbrev mX5_init : Nat := 47
def cd_X5_init : List pm_I := [(1, 0, 2, .null, []), (28, 0, 0, .null, []), (1, 0, 2, .null, []), (23, 1, 0, .null, []), (11, 0, 0, .null, []), (25, 15, 1, .null, [1]), (19, 5, 0, .null, [2]), (1, 0, 2, .null, []), (23, 0, 0, .null, []), (11, 0, 0, .null, []), (25, 0, 1, .null, [0]), (19, 5, 1, .null, [2]), (26, 0, 0, .null, [])]
abbrev mX5_hall : Nat := 48
def cd_X5_hall : List pm_I := [(1, 1, 0, .null, []), (0, 0, 0, .int 1, []), (0, 0, 0, .int 8, []), (25, 67, 3, .null, []), (15, 10, 0, .null, []), (1, 2, 0, .null, []), (0, 0, 0, .int 1, []), (0, 0, 0, .int 8, []), (25, 67, 3, .null, []), (15, 12, 1, .null, []), (0, 0, 0, .int (-2), []), (26, 1, 0, .null, []), (1, 0, 2, .null, []), (18, 5, 0, .null, []), (1, 1, 0, .null, []), (1, 2, 0, .null, []), (25, 16, 3, .null, [1]), (1, 1, 0, .null, []), (1, 2, 0, .null, []), (4, 0, 2, .null, []), (26, 1, 0, .null, [])]
abbrev mX5_wall : Nat := 49
def cd_X5_wall : List pm_I := [(1, 0, 2, .null, []), (18, 5, 0, .null, []), (1, 1, 0, .null, []), (1, 2, 0, .null, []), (25, 17, 3, .null, [1]), (15, 8, 1, .null, []), (0, 0, 0, .int (-2), []), (26, 1, 0, .null, []), (1, 0, 2, .null, []), (18, 5, 0, .null, []), (1, 1, 0, .null, []), (1, 2, 0, .null, []), (25, 18, 3, .null, [1]), (2, 4, 0, .null, []), (1, 0, 2, .null, []), (18, 5, 0, .null, []), (18, 1, 4, .null, []), (1, 4, 0, .null, []), (20, 0, 1, .null, []), (15, 22, 0, .null, []), (0, 0, 0, .int (-3), []), (26, 1, 0, .null, []), (1, 0, 2, .null, []), (18, 5, 0, .null, []), (1, 4, 0, .null, []), (1, 3, 0, .null, []), (25, 22, 3, .null, [1]), (15, 30, 0, .null, []), (0, 0, 0, .int 1, []), (17, 31, 0, .null, []), (0, 0, 0, .int 0, []), (26, 1, 0, .null, [])]
abbrev mX5_guard : Nat := 50
def cd_X5_guard : List pm_I := [(1, 0, 2, .null, []), (18, 5, 0, .null, []), (1, 1, 0, .null, []), (1, 2, 0, .null, []), (25, 17, 3, .null, [1]), (15, 8, 1, .null, []), (0, 0, 0, .int (-2), []), (26, 1, 0, .null, []), (1, 0, 2, .null, []), (18, 5, 0, .null, []), (1, 1, 0, .null, []), (1, 2, 0, .null, []), (25, 18, 3, .null, [1]), (2, 3, 0, .null, []), (1, 0, 2, .null, []), (18, 5, 0, .null, []), (18, 1, 3, .null, []), (1, 3, 0, .null, []), (20, 0, 1, .null, []), (15, 26, 0, .null, []), (1, 0, 2, .null, []), (18, 5, 0, .null, []), (18, 1, 4, .null, []), (1, 3, 0, .null, []), (20, 0, 1, .null, []), (15, 28, 0, .null, []), (0, 0, 0, .int (-3), []), (26, 1, 0, .null, []), (1, 0, 2, .null, []), (18, 5, 0, .null, []), (1, 3, 0, .null, []), (0, 0, 0, .int 1, []), (25, 23, 3, .null, [1]), (26, 1, 0, .null, [])]
abbrev mX5_leave : Nat := 51
def cd_X5_leave : List pm_I := [(1, 0, 2, .null, []), (18, 5, 0, .null, []), (1, 1, 0, .null, []), (1, 2, 0, .null, []), (25, 17, 3, .null, [1]), (15, 8, 1, .null, []), (0, 0, 0, .int (-2), []), (26, 1, 0, .null, []), (1, 0, 2, .null, []), (18, 5, 0, .null, []), (1, 1, 0, .null, []), (1, 2, 0, .null, []), (25, 18, 3, .null, [1]), (2, 3, 0, .null, []), (1, 0, 2, .null, []), (18, 5, 0, .null, []), (18, 1, 4, .null, []), (1, 3, 0, .null, []), (20, 0, 1, .null, []), (15, 22, 1, .null, []), (0, 0, 0, .int (-3), []), (26, 1, 0, .null, []), (1, 0, 2, .null, []), (18, 5, 0, .null, []), (1, 3, 0, .null, []), (0, 0, 0, .int 0, []), (25, 23, 3, .null, [1]), (26, 1, 0, .null, [])]
abbrev mX5_cell : Nat := 52
def cd_X5_cell : List pm_I := [(1, 0, 2, .null, []), (18, 5, 0, .null, []), (1, 1, 0, .null, []), (1, 2, 0, .null, []), (25, 17, 3, .null, [1]), (15, 8, 1, .null, []), (0, 0, 0, .int (-2), []), (26, 1, 0, .null, []), (1, 0, 2, .null, []), (18, 5, 0, .null, []), (1, 0, 2, .null, []), (18, 5, 0, .null, []), (1, 1, 0, .null, []), (1, 2, 0, .null, []), (25, 18, 3, .null, [1]), (25, 25, 2, .null, [1]), (26, 1, 0, .null, [])]
abbrev mX5_runs : Nat := 53
def cd_X5_runs : List pm_I := [(1, 1, 0, .null, []), (0, 0, 0, .int 0, []), (0, 0, 0, .int 1, []), (25, 67, 3, .null, []), (15, 7, 1, .null, []), (0, 0, 0, .int (-2), []), (26, 1, 0, .null, []), (1, 0, 2, .null, []), (18, 5, 0, .null, []), (1, 1, 0, .null, []), (25, 19, 2, .null, [1]), (18, 3, 0, .null, []), (26, 1, 0, .null, [])]
abbrev mX5_run : Nat := 54
def cd_X5_run : List pm_I := [(1, 0, 2, .null, []), (18, 5, 0, .null, []), (1, 1, 0, .null, []), (1, 2, 0, .null, []), (25, 17, 3, .null, [1]), (15, 11, 0, .null, []), (1, 3, 0, .null, []), (0, 0, 0, .int 0, []), (0, 0, 0, .int 1, []), (25, 67, 3, .null, []), (15, 13, 1, .null, []), (0, 0, 0, .int (-2), []), (26, 1, 0, .null, []), (1, 0, 2, .null, []), (18, 5, 0, .null, []), (1, 3, 0, .null, []), (25, 19, 2, .null, [1]), (18, 3, 2, .null, []), (1, 0, 2, .null, []), (18, 5, 0, .null, []), (1, 1, 0, .null, []), (1, 2, 0, .null, []), (25, 18, 3, .null, [1]), (20, 0, 0, .null, []), (26, 1, 0, .null, [])]
abbrev mX5_sees : Nat := 55
def cd_X5_sees : List pm_I := [(1, 0, 2, .null, []), (18, 5, 0, .null, []), (1, 1, 0, .null, []), (1, 2, 0, .null, []), (25, 17, 3, .null, [1]), (15, 8, 1, .null, []), (0, 0, 0, .int (-2), []), (26, 1, 0, .null, []), (1, 0, 2, .null, []), (18, 5, 0, .null, []), (1, 0, 2, .null, []), (18, 5, 0, .null, []), (1, 1, 0, .null, []), (1, 2, 0, .null, []), (25, 18, 3, .null, [1]), (25, 26, 2, .null, [1]), (26, 1, 0, .null, [])]
abbrev mX5_seen : Nat := 56
def cd_X5_seen : List pm_I := [(1, 0, 2, .null, []), (18, 5, 0, .null, []), (25, 27, 1, .null, [1]), (26, 1, 0, .null, [])]
abbrev mX5_missed : Nat := 57
def cd_X5_missed : List pm_I := [(1, 0, 2, .null, []), (18, 5, 0, .null, []), (1, 1, 0, .null, []), (25, 28, 2, .null, [1]), (26, 1, 0, .null, [])]
abbrev mX5_more : Nat := 58
def cd_X5_more : List pm_I := [(1, 0, 2, .null, []), (18, 5, 0, .null, []), (25, 29, 1, .null, [1]), (26, 1, 0, .null, [])]
abbrev mX5_peace : Nat := 59
def cd_X5_peace : List pm_I := [(1, 0, 2, .null, []), (18, 5, 0, .null, []), (25, 30, 1, .null, [1]), (26, 1, 0, .null, [])]
abbrev mX5_box : Nat := 60
def cd_X5_box : List pm_I := [(1, 1, 0, .null, []), (0, 0, 0, .int 1, []), (0, 0, 0, .int 12, []), (25, 67, 3, .null, []), (15, 10, 0, .null, []), (1, 2, 0, .null, []), (0, 0, 0, .int 1, []), (0, 0, 0, .int 12, []), (25, 67, 3, .null, []), (15, 12, 1, .null, []), (0, 0, 0, .int (-2), []), (26, 1, 0, .null, []), (1, 0, 2, .null, []), (18, 5, 1, .null, []), (1, 1, 0, .null, []), (1, 2, 0, .null, []), (25, 1, 3, .null, [0]), (1, 1, 0, .null, []), (1, 2, 0, .null, []), (4, 0, 2, .null, []), (26, 1, 0, .null, [])]
abbrev mX5_square : Nat := 61
def cd_X5_square : List pm_I := [(1, 1, 0, .null, []), (0, 0, 0, .int 1, []), (0, 0, 0, .int 12, []), (25, 67, 3, .null, []), (15, 7, 1, .null, []), (0, 0, 0, .int (-2), []), (26, 1, 0, .null, []), (1, 0, 2, .null, []), (18, 5, 1, .null, []), (18, 0, 2, .null, []), (0, 0, 0, .int 8, []), (16, 14, 2, .null, []), (0, 0, 0, .int (-4), []), (26, 1, 0, .null, []), (1, 0, 2, .null, []), (18, 5, 1, .null, []), (1, 1, 0, .null, []), (25, 2, 2, .null, [0]), (26, 1, 0, .null, [])]
abbrev mX5_drop : Nat := 62
def cd_X5_drop : List pm_I := [(1, 0, 2, .null, []), (18, 5, 1, .null, []), (18, 0, 2, .null, []), (15, 6, 4, .null, []), (0, 0, 0, .int (-3), []), (26, 1, 0, .null, []), (1, 0, 2, .null, []), (18, 5, 1, .null, []), (25, 3, 1, .null, [0]), (26, 1, 0, .null, [])]
abbrev mX5_pack : Nat := 63
def cd_X5_pack : List pm_I := [(1, 1, 0, .null, []), (0, 0, 0, .int 0, []), (0, 0, 0, .int 100000, []), (25, 67, 3, .null, []), (15, 7, 1, .null, []), (0, 0, 0, .int (-2), []), (26, 1, 0, .null, []), (1, 0, 2, .null, []), (18, 5, 1, .null, []), (1, 1, 0, .null, []), (25, 5, 2, .null, [0]), (26, 1, 0, .null, [])]
abbrev mX5_tried : Nat := 64
def cd_X5_tried : List pm_I := [(1, 0, 2, .null, []), (18, 5, 1, .null, []), (18, 0, 3, .null, []), (26, 1, 0, .null, [])]
abbrev mX5_place : Nat := 65
def cd_X5_place : List pm_I := [(1, 2, 0, .null, []), (0, 0, 0, .int 0, []), (0, 0, 0, .int 1, []), (25, 67, 3, .null, []), (15, 7, 1, .null, []), (0, 0, 0, .int (-2), []), (26, 1, 0, .null, []), (1, 0, 2, .null, []), (18, 5, 1, .null, []), (18, 0, 4, .null, []), (15, 20, 0, .null, []), (1, 1, 0, .null, []), (0, 0, 0, .int 0, []), (1, 0, 2, .null, []), (18, 5, 1, .null, []), (18, 0, 2, .null, []), (0, 0, 0, .int 1, []), (4, 0, 1, .null, []), (25, 67, 3, .null, []), (15, 22, 1, .null, []), (0, 0, 0, .int (-1), []), (26, 1, 0, .null, []), (1, 2, 0, .null, []), (15, 30, 1, .null, []), (1, 0, 2, .null, []), (18, 5, 1, .null, []), (18, 0, 6, .null, []), (1, 1, 0, .null, []), (20, 0, 0, .null, []), (17, 35, 0, .null, []), (1, 0, 2, .null, []), (18, 5, 1, .null, []), (18, 0, 7, .null, []), (1, 1, 0, .null, []), (20, 0, 0, .null, []), (26, 1, 0, .null, [])]
abbrev mX5_left : Nat := 66
def cd_X5_left : List pm_I := [(1, 0, 2, .null, []), (18, 5, 1, .null, []), (25, 4, 1, .null, [0]), (26, 1, 0, .null, [])]
abbrev mX5_isWithin : Nat := 67
def cd_X5_isWithin : List pm_I := [(1, 0, 0, .null, []), (1, 1, 0, .null, []), (16, 8, 2, .null, []), (1, 0, 0, .null, []), (1, 2, 0, .null, []), (16, 8, 4, .null, []), (0, 0, 0, .int 1, []), (17, 9, 0, .null, []), (0, 0, 0, .int 0, []), (26, 2, 0, .null, [])]
abbrev mX6_init : Nat := 68
def cd_X6_init : List pm_I := [(1, 0, 2, .null, []), (28, 0, 0, .null, []), (1, 0, 2, .null, []), (0, 0, 0, .int 1, []), (19, 6, 0, .null, [0]), (1, 0, 2, .null, []), (0, 0, 0, .int 1, []), (19, 6, 1, .null, [0]), (1, 0, 2, .null, []), (0, 0, 0, .int 64, []), (24, 1, 64, .null, []), (19, 6, 2, .null, [2]), (1, 0, 2, .null, []), (0, 0, 0, .int 64, []), (24, 1, 64, .null, []), (19, 6, 3, .null, [2]), (1, 0, 2, .null, []), (0, 0, 0, .int 128, []), (24, 0, 128, .null, []), (19, 6, 5, .null, [2]), (1, 0, 2, .null, []), (0, 0, 0, .int 2, []), (24, 0, 2, .null, []), (19, 6, 6, .null, [2]), (1, 0, 2, .null, []), (0, 0, 0, .int 64, []), (24, 0, 64, .null, []), (19, 6, 7, .null, [2]), (1, 0, 2, .null, []), (0, 0, 0, .int 1, []), (19, 6, 9, .null, [0]), (1, 0, 2, .null, []), (0, 0, 0, .int 1, []), (19, 6, 10, .null, [0]), (1, 0, 2, .null, []), (0, 0, 0, .int 8, []), (24, 0, 8, .null, []), (19, 6, 12, .null, [2]), (1, 0, 2, .null, []), (0, 0, 0, .int 8, []), (24, 0, 8, .null, []), (19, 6, 13, .null, [2]), (1, 0, 2, .null, []), (0, 0, 0, .int 8, []), (24, 0, 8, .null, []), (19, 6, 14, .null, [2]), (1, 0, 2, .null, []), (0, 0, 0, .int 256, []), (24, 0, 256, .null, []), (19, 6, 17, .null, [2]), (1, 0, 2, .null, []), (0, 0, 0, .int 4096, []), (24, 2, 4096, .null, []), (19, 6, 18, .null, [2]), (1, 0, 2, .null, []), (0, 0, 0, .int 32, []), (24, 0, 32, .null, []), (19, 6, 19, .null, [2]), (1, 0, 2, .null, []), (0, 0, 0, .int 32, []), (24, 0, 32, .null, []), (19, 6, 20, .null, [2]), (1, 0, 2, .null, []), (0, 0, 0, .int 32, []), (24, 0, 32, .null, []), (19, 6, 21, .null, [2]), (0, 0, 0, .int 1, []), (2, 1, 0, .null, []), (1, 1, 0, .null, []), (0, 0, 0, .int 256, []), (16, 87, 3, .null, []), (1, 0, 2, .null, []), (18, 6, 17, .null, []), (1, 1, 0, .null, []), (1, 0, 2, .null, []), (18, 6, 17, .null, []), (1, 1, 0, .null, []), (0, 0, 0, .int 2, []), (31, 0, 0, .null, []), (20, 0, 0, .null, []), (1, 1, 0, .null, []), (0, 0, 0, .int 2, []), (32, 0, 0, .null, []), (4, 0, 0, .null, []), (21, 0, 0, .null, []), (3, 1, 0, .int 1, []), (17, 68, 0, .null, []), (26, 0, 0, .null, [])]
abbrev mX6_within : Nat := 69
def cd_X6_within : List pm_I := [(1, 0, 0, .null, []), (1, 1, 0, .null, []), (16, 8, 2, .null, []), (1, 0, 0, .null, []), (1, 2, 0, .null, []), (16, 8, 4, .null, []), (0, 0, 0, .int 1, []), (17, 9, 0, .null, []), (0, 0, 0, .int 0, []), (26, 2, 0, .null, [])]
abbrev mX6_hall : Nat := 70
def cd_X6_hall : List pm_I := [(1, 1, 0, .null, []), (0, 0, 0, .int 1, []), (0, 0, 0, .int 8, []), (25, 69, 3, .null, []), (15, 10, 0, .null, []), (1, 2, 0, .null, []), (0, 0, 0, .int 1, []), (0, 0, 0, .int 8, []), (25, 69, 3, .null, []), (15, 12, 1, .null, []), (0, 0, 0, .int (-2), []), (26, 1, 0, .null, []), (1, 0, 2, .null, []), (1, 1, 0, .null, []), (19, 6, 0, .null, [0]), (1, 0, 2, .null, []), (1, 2, 0, .null, []), (19, 6, 1, .null, [0]), (1, 0, 2, .null, []), (0, 0, 0, .int 0, []), (19, 6, 4, .null, [0]), (0, 0, 0, .int 0, []), (2, 3, 0, .null, []), (1, 3, 0, .null, []), (0, 0, 0, .int 64, []), (16, 38, 3, .null, []), (1, 0, 2, .null, []), (18, 6, 2, .null, []), (1, 3, 0, .null, []), (0, 0, 0, .int 0, []), (21, 0, 1, .null, []), (1, 0, 2, .null, []), (18, 6, 3, .null, []), (1, 3, 0, .null, []), (0, 0, 0, .int 0, []), (21, 0, 1, .null, []), (3, 3, 0, .int 1, []), (17, 23, 0, .null, []), (1, 0, 2, .null, []), (0, 0, 0, .int 0, []), (19, 6, 8, .null, [3]), (1, 1, 0, .null, []), (1, 2, 0, .null, []), (4, 0, 2, .null, []), (26, 1, 0, .null, [])]
abbrev mX6_isCell : Nat := 71
def cd_X6_isCell : List pm_I := [(1, 1, 0, .null, []), (0, 0, 0, .int 0, []), (1, 0, 2, .null, []), (18, 6, 0, .null, []), (0, 0, 0, .int 1, []), (4, 0, 1, .null, []), (25, 69, 3, .null, []), (15, 18, 0, .null, []), (1, 2, 0, .null, []), (0, 0, 0, .int 0, []), (1, 0, 2, .null, []), (18, 6, 1, .null, []), (0, 0, 0, .int 1, []), (4, 0, 1, .null, []), (25, 69, 3, .null, []), (15, 18, 0, .null, []), (0, 0, 0, .int 1, []), (17, 19, 0, .null, []), (0, 0, 0, .int 0, []), (26, 2, 0, .null, [])]
abbrev mX6_wall : Nat := 72
def cd_X6_wall : List pm_I := [(1, 0, 2, .null, []), (1, 1, 0, .null, []), (1, 2, 0, .null, []), (25, 71, 3, .null, [6]), (15, 7, 1, .null, []), (0, 0, 0, .int (-2), []), (26, 1, 0, .null, []), (1, 2, 0, .null, []), (1, 0, 2, .null, []), (18, 6, 0, .null, []), (4, 0, 2, .null, []), (1, 1, 0, .null, []), (4, 0, 0, .null, []), (2, 4, 0, .null, []), (1, 0, 2, .null, []), (18, 6, 3, .null, []), (1, 4, 0, .null, []), (20, 0, 1, .null, []), (15, 21, 0, .null, []), (0, 0, 0, .int (-3), []), (26, 1, 0, .null, []), (1, 0, 2, .null, []), (18, 6, 2, .null, []), (1, 4, 0, .null, []), (20, 0, 1, .null, []), (1, 3, 0, .null, []), (16, 29, 1, .null, []), (0, 0, 0, .int 1, []), (17, 30, 0, .null, []), (0, 0, 0, .int 0, []), (2, 5, 0, .null, []), (1, 0, 2, .null, []), (18, 6, 2, .null, []), (1, 4, 0, .null, []), (1, 3, 0, .null, []), (15, 38, 1, .null, []), (0, 0, 0, .int 1, []), (17, 39, 0, .null, []), (0, 0, 0, .int 0, []), (21, 0, 1, .null, []), (1, 0, 2, .null, []), (0, 0, 0, .int 0, []), (19, 6, 8, .null, [3]), (1, 5, 0, .null, []), (26, 1, 0, .null, [])]
abbrev mX6_guard : Nat := 73
def cd_X6_guard : List pm_I := [(1, 0, 2, .null, []), (1, 1, 0, .null, []), (1, 2, 0, .null, []), (25, 71, 3, .null, [6]), (15, 7, 1, .null, []), (0, 0, 0, .int (-2), []), (26, 1, 0, .null, []), (1, 2, 0, .null, []), (1, 0, 2, .null, []), (18, 6, 0, .null, []), (4, 0, 2, .null, []), (1, 1, 0, .null, []), (4, 0, 0, .null, []), (2, 3, 0, .null, []), (1, 0, 2, .null, []), (18, 6, 2, .null, []), (1, 3, 0, .null, []), (20, 0, 1, .null, []), (15, 24, 1, .null, []), (1, 0, 2, .null, []), (18, 6, 3, .null, []), (1, 3, 0, .null, []), (20, 0, 1, .null, []), (15, 26, 0, .null, []), (0, 0, 0, .int (-3), []), (26, 1, 0, .null, []), (1, 0, 2, .null, []), (18, 6, 3, .null, []), (1, 3, 0, .null, []), (0, 0, 0, .int 1, []), (21, 0, 1, .null, []), (1, 0, 2, .null, []), (11, 0, 0, .null, []), (18, 6, 4, .null, []), (0, 0, 0, .int 1, []), (4, 0, 0, .null, []), (19, 6, 4, .null, [0]), (1, 0, 2, .null, []), (18, 6, 4, .null, []), (26, 1, 0, .null, [])]
abbrev mX6_leave : Nat := 74
def cd_X6_leave : List pm_I := [(1, 0, 2, .null, []), (1, 1, 0, .null, []), (1, 2, 0, .null, []), (25, 71, 3, .null, [6]), (15, 7, 1, .null, []), (0, 0, 0, .int (-2), []), (26, 1, 0, .null, []), (1, 2, 0, .null, []), (1, 0, 2, .null, []), (18, 6, 0, .null, []), (4, 0, 2, .null, []), (1, 1, 0, .null, []), (4, 0, 0, .null, []), (2, 3, 0, .null, []), (1, 0, 2, .null, []), (18, 6, 3, .null, []), (1, 3, 0, .null, []), (20, 0, 1, .null, []), (15, 21, 1, .null, []), (0, 0, 0, .int (-3), []), (26, 1, 0, .null, []), (1, 0, 2, .null, []), (18, 6, 3, .null, []), (1, 3, 0, .null, []), (0, 0, 0, .int 0, []), (21, 0, 1, .null, []), (1, 0, 2, .null, []), (11, 0, 0, .null, []), (18, 6, 4, .null, []), (0, 0, 0, .int 1, []), (4, 0, 1, .null, []), (19, 6, 4, .null, [0]), (1, 0, 2, .null, []), (18, 6, 4, .null, []), (26, 1, 0, .null, [])]
abbrev mX6_isOpen : Nat := 75
def cd_X6_isOpen : List pm_I := [(1, 0, 2, .null, []), (1, 1, 0, .null, []), (1, 2, 0, .null, []), (25, 71, 3, .null, [6]), (15, 17, 0, .null, []), (1, 0, 2, .null, []), (18, 6, 2, .null, []), (1, 2, 0, .null, []), (1, 0, 2, .null, []), (18, 6, 0, .null, []), (4, 0, 2, .null, []), (1, 1, 0, .null, []), (4, 0, 0, .null, []), (20, 0, 1, .null, []), (15, 17, 1, .null, []), (0, 0, 0, .int 1, []), (17, 18, 0, .null, []), (0, 0, 0, .int 0, []), (26, 2, 0, .null, [])]
abbrev mX6_part : Nat := 76
def cd_X6_part : List pm_I := [(1, 0, 2, .null, []), (18, 6, 8, .null, []), (15, 4, 0, .null, []), (26, 0, 0, .null, []), (1, 0, 2, .null, []), (0, 0, 0, .int 1, []), (19, 6, 8, .null, [3]), (1, 0, 2, .null, []), (18, 6, 6, .null, []), (0, 0, 0, .int 0, []), (0, 0, 0, .int 0, []), (21, 0, 0, .null, []), (1, 0, 2, .null, []), (18, 6, 6, .null, []), (0, 0, 0, .int 1, []), (0, 0, 0, .int 0, []), (21, 0, 0, .null, []), (0, 0, 0, .int 0, []), (2, 1, 0, .null, []), (1, 1, 0, .null, []), (0, 0, 0, .int 64, []), (16, 29, 3, .null, []), (1, 0, 2, .null, []), (18, 6, 7, .null, []), (1, 1, 0, .null, []), (0, 0, 0, .int 0, []), (21, 0, 0, .null, []), (3, 1, 0, .int 1, []), (17, 19, 0, .null, []), (0, 0, 0, .int 0, []), (2, 1, 0, .null, []), (1, 1, 0, .null, []), (1, 0, 2, .null, []), (18, 6, 1, .null, []), (16, 57, 3, .null, []), (0, 0, 0, .int 0, []), (2, 2, 0, .null, []), (1, 2, 0, .null, []), (1, 0, 2, .null, []), (18, 6, 0, .null, []), (16, 55, 3, .null, []), (0, 0, 0, .int 0, []), (2, 3, 0, .null, []), (1, 3, 0, .null, []), (0, 0, 0, .int 2, []), (16, 53, 3, .null, []), (1, 0, 2, .null, []), (1, 2, 0, .null, []), (1, 1, 0, .null, []), (1, 3, 0, .null, []), (25, 77, 4, .null, [6]), (3, 3, 0, .int 1, []), (17, 43, 0, .null, []), (3, 2, 0, .int 1, []), (17, 37, 0, .null, []), (3, 1, 0, .int 1, []), (17, 31, 0, .null, []), (26, 0, 0, .null, [])]
abbrev mX6_partCell : Nat := 77
def cd_X6_partCell : List pm_I := [(1, 2, 0, .null, []), (1, 0, 2, .null, []), (18, 6, 0, .null, []), (4, 0, 2, .null, []), (1, 1, 0, .null, []), (4, 0, 0, .null, []), (2, 4, 0, .null, []), (0, 0, 0, .int (-1), []), (2, 5, 0, .null, []), (1, 0, 2, .null, []), (18, 6, 2, .null, []), (1, 4, 0, .null, []), (20, 0, 1, .null, []), (15, 76, 1, .null, []), (1, 3, 0, .null, []), (15, 23, 1, .null, []), (1, 0, 2, .null, []), (1, 1, 0, .null, []), (0, 0, 0, .int 1, []), (4, 0, 1, .null, []), (1, 2, 0, .null, []), (25, 75, 3, .null, [6]), (17, 29, 0, .null, []), (1, 0, 2, .null, []), (1, 1, 0, .null, []), (1, 2, 0, .null, []), (0, 0, 0, .int 1, []), (4, 0, 1, .null, []), (25, 75, 3, .null, [6]), (2, 6, 0, .null, []), (1, 6, 0, .null, []), (15, 51, 0, .null, []), (1, 0, 2, .null, []), (18, 6, 5, .null, []), (0, 0, 0, .int 64, []), (1, 3, 0, .null, []), (4, 0, 2, .null, []), (1, 3, 0, .null, []), (15, 43, 1, .null, []), (1, 4, 0, .null, []), (0, 0, 0, .int 1, []), (4, 0, 1, .null, []), (17, 47, 0, .null, []), (1, 4, 0, .null, []), (1, 0, 2, .null, []), (18, 6, 0, .null, []), (4, 0, 1, .null, []), (4, 0, 0, .null, []), (20, 0, 0, .null, []), (2, 5, 0, .null, []), (17, 64, 0, .null, []), (1, 0, 2, .null, []), (18, 6, 6, .null, []), (1, 3, 0, .null, []), (20, 0, 0, .null, []), (2, 5, 0, .null, []), (1, 0, 2, .null, []), (18, 6, 6, .null, []), (1, 3, 0, .null, []), (13, 0, 0, .null, []), (20, 0, 0, .null, []), (0, 0, 0, .int 1, []), (4, 0, 0, .null, []), (21, 0, 0, .null, []), (1, 0, 2, .null, []), (18, 6, 7, .null, []), (0, 0, 0, .int 32, []), (1, 3, 0, .null, []), (4, 0, 2, .null, []), (1, 5, 0, .null, []), (4, 0, 0, .null, []), (13, 0, 0, .null, []), (20, 0, 0, .null, []), (0, 0, 0, .int 1, []), (4, 0, 0, .null, []), (21, 0, 0, .null, []), (1, 0, 2, .null, []), (18, 6, 5, .null, []), (0, 0, 0, .int 64, []), (1, 3, 0, .null, []), (4, 0, 2, .null, []), (1, 4, 0, .null, []), (4, 0, 0, .null, []), (1, 5, 0, .null, []), (21, 0, 0, .null, []), (26, 0, 0, .null, [])]
abbrev mX6_isTouched : Nat := 78
def cd_X6_isTouched : List pm_I := [(0, 0, 0, .int 0, []), (2, 3, 0, .null, []), (0, 0, 0, .int 0, []), (2, 4, 0, .null, []), (1, 4, 0, .null, []), (1, 0, 2, .null, []), (18, 6, 0, .null, []), (1, 0, 2, .null, []), (18, 6, 1, .null, []), (4, 0, 2, .null, []), (16, 34, 3, .null, []), (1, 3, 0, .null, []), (15, 28, 1, .null, []), (1, 0, 2, .null, []), (18, 6, 3, .null, []), (1, 4, 0, .null, []), (20, 0, 1, .null, []), (15, 30, 0, .null, []), (1, 0, 2, .null, []), (18, 6, 5, .null, []), (0, 0, 0, .int 64, []), (1, 1, 0, .null, []), (4, 0, 2, .null, []), (1, 4, 0, .null, []), (4, 0, 0, .null, []), (20, 0, 0, .null, []), (1, 2, 0, .null, []), (16, 30, 1, .null, []), (0, 0, 0, .int 1, []), (17, 31, 0, .null, []), (0, 0, 0, .int 0, []), (2, 3, 0, .null, []), (3, 4, 0, .int 1, []), (17, 4, 0, .null, []), (1, 3, 0, .null, []), (26, 2, 0, .null, [])]
abbrev mX6_isSeen : Nat := 79
def cd_X6_isSeen : List pm_I := [(1, 0, 2, .null, []), (18, 6, 2, .null, []), (1, 1, 0, .null, []), (20, 0, 1, .null, []), (15, 25, 1, .null, []), (1, 0, 2, .null, []), (0, 0, 0, .int 0, []), (1, 0, 2, .null, []), (18, 6, 5, .null, []), (1, 1, 0, .null, []), (20, 0, 0, .null, []), (25, 78, 3, .null, [6]), (15, 23, 1, .null, []), (1, 0, 2, .null, []), (0, 0, 0, .int 1, []), (1, 0, 2, .null, []), (18, 6, 5, .null, []), (0, 0, 0, .int 64, []), (1, 1, 0, .null, []), (4, 0, 0, .null, []), (20, 0, 0, .null, []), (25, 78, 3, .null, [6]), (15, 25, 0, .null, []), (0, 0, 0, .int 1, []), (17, 26, 0, .null, []), (0, 0, 0, .int 0, []), (26, 2, 0, .null, [])]
abbrev mX6_cell : Nat := 80
def cd_X6_cell : List pm_I := [(1, 0, 2, .null, []), (1, 1, 0, .null, []), (1, 2, 0, .null, []), (25, 71, 3, .null, [6]), (15, 7, 1, .null, []), (0, 0, 0, .int (-2), []), (26, 1, 0, .null, []), (1, 0, 2, .null, []), (25, 76, 1, .null, [6]), (1, 2, 0, .null, []), (1, 0, 2, .null, []), (18, 6, 0, .null, []), (4, 0, 2, .null, []), (1, 1, 0, .null, []), (4, 0, 0, .null, []), (2, 3, 0, .null, []), (1, 0, 2, .null, []), (18, 6, 2, .null, []), (1, 3, 0, .null, []), (20, 0, 1, .null, []), (15, 23, 0, .null, []), (0, 0, 0, .int 0, []), (26, 1, 0, .null, []), (1, 0, 2, .null, []), (18, 6, 3, .null, []), (1, 3, 0, .null, []), (20, 0, 1, .null, []), (15, 30, 0, .null, []), (0, 0, 0, .int 3, []), (17, 37, 0, .null, []), (1, 0, 2, .null, []), (1, 3, 0, .null, []), (25, 79, 2, .null, [6]), (15, 36, 0, .null, []), (0, 0, 0, .int 2, []), (17, 37, 0, .null, []), (0, 0, 0, .int 1, []), (26, 1, 0, .null, [])]
abbrev mX6_runs : Nat := 81
def cd_X6_runs : List pm_I := [(1, 1, 0, .null, []), (0, 0, 0, .int 0, []), (0, 0, 0, .int 1, []), (25, 69, 3, .null, []), (15, 7, 1, .null, []), (0, 0, 0, .int (-2), []), (26, 1, 0, .null, []), (1, 0, 2, .null, []), (25, 76, 1, .null, [6]), (1, 0, 2, .null, []), (18, 6, 6, .null, []), (1, 1, 0, .null, []), (20, 0, 0, .null, []), (26, 1, 0, .null, [])]
abbrev mX6_run : Nat := 82
def cd_X6_run : List pm_I := [(1, 0, 2, .null, []), (1, 1, 0, .null, []), (1, 2, 0, .null, []), (25, 71, 3, .null, [6]), (15, 10, 0, .null, []), (1, 3, 0, .null, []), (0, 0, 0, .int 0, []), (0, 0, 0, .int 1, []), (25, 69, 3, .null, []), (15, 12, 1, .null, []), (0, 0, 0, .int (-2), []), (26, 1, 0, .null, []), (1, 0, 2, .null, []), (25, 76, 1, .null, [6]), (1, 0, 2, .null, []), (18, 6, 5, .null, []), (0, 0, 0, .int 64, []), (1, 3, 0, .null, []), (4, 0, 2, .null, []), (1, 2, 0, .null, []), (1, 0, 2, .null, []), (18, 6, 0, .null, []), (4, 0, 2, .null, []), (4, 0, 0, .null, []), (1, 1, 0, .null, []), (4, 0, 0, .null, []), (20, 0, 0, .null, []), (26, 1, 0, .null, [])]
abbrev mX6_sees : Nat := 83
def cd_X6_sees : List pm_I := [(1, 0, 2, .null, []), (1, 1, 0, .null, []), (1, 2, 0, .null, []), (25, 71, 3, .null, [6]), (15, 7, 1, .null, []), (0, 0, 0, .int (-2), []), (26, 1, 0, .null, []), (1, 0, 2, .null, []), (25, 76, 1, .null, [6]), (1, 2, 0, .null, []), (1, 0, 2, .null, []), (18, 6, 0, .null, []), (4, 0, 2, .null, []), (1, 1, 0, .null, []), (4, 0, 0, .null, []), (2, 3, 0, .null, []), (1, 0, 2, .null, []), (18, 6, 2, .null, []), (1, 3, 0, .null, []), (20, 0, 1, .null, []), (15, 23, 0, .null, []), (0, 0, 0, .int 0, []), (17, 44, 0, .null, []), (1, 0, 2, .null, []), (18, 6, 7, .null, []), (1, 0, 2, .null, []), (18, 6, 5, .null, []), (1, 3, 0, .null, []), (20, 0, 0, .null, []), (20, 0, 0, .null, []), (1, 0, 2, .null, []), (18, 6, 7, .null, []), (0, 0, 0, .int 32, []), (1, 0, 2, .null, []), (18, 6, 5, .null, []), (0, 0, 0, .int 64, []), (1, 3, 0, .null, []), (4, 0, 0, .null, []), (20, 0, 0, .null, []), (4, 0, 0, .null, []), (20, 0, 0, .null, []), (4, 0, 0, .null, []), (0, 0, 0, .int 1, []), (4, 0, 1, .null, []), (26, 1, 0, .null, [])]
abbrev mX6_seen : Nat := 84
def cd_X6_seen : List pm_I := [(1, 0, 2, .null, []), (25, 76, 1, .null, [6]), (0, 0, 0, .int 0, []), (2, 1, 0, .null, []), (0, 0, 0, .int 0, []), (2, 2, 0, .null, []), (1, 2, 0, .null, []), (1, 0, 2, .null, []), (18, 6, 0, .null, []), (1, 0, 2, .null, []), (18, 6, 1, .null, []), (4, 0, 2, .null, []), (16, 25, 3, .null, []), (1, 1, 0, .null, []), (1, 0, 2, .null, []), (1, 2, 0, .null, []), (25, 79, 2, .null, [6]), (15, 20, 0, .null, []), (0, 0, 0, .int 1, []), (17, 21, 0, .null, []), (0, 0, 0, .int 0, []), (4, 0, 0, .null, []), (2, 1, 0, .null, []), (3, 2, 0, .int 1, []), (17, 6, 0, .null, []), (1, 1, 0, .null, []), (26, 1, 0, .null, [])]
abbrev mX6_missed : Nat := 85
def cd_X6_missed : List pm_I := [(1, 0, 2, .null, []), (25, 76, 1, .null, [6]), (0, 0, 0, .int 0, []), (2, 2, 0, .null, []), (0, 0, 0, .int 0, []), (2, 3, 0, .null, []), (1, 3, 0, .null, []), (1, 0, 2, .null, []), (18, 6, 0, .null, []), (1, 0, 2, .null, []), (18, 6, 1, .null, []), (4, 0, 2, .null, []), (16, 30, 3, .null, []), (1, 0, 2, .null, []), (18, 6, 2, .null, []), (1, 3, 0, .null, []), (20, 0, 1, .null, []), (15, 28, 1, .null, []), (1, 0, 2, .null, []), (1, 3, 0, .null, []), (25, 79, 2, .null, [6]), (15, 28, 1, .null, []), (1, 2, 0, .null, []), (1, 1, 0, .null, []), (16, 27, 1, .null, []), (1, 3, 0, .null, []), (26, 1, 0, .null, []), (3, 2, 0, .int 1, []), (3, 3, 0, .int 1, []), (17, 6, 0, .null, []), (0, 0, 0, .int (-1), []), (26, 1, 0, .null, [])]
abbrev mX6_count : Nat := 86
def cd_X6_count : List pm_I := [(0, 0, 0, .int 0, []), (2, 3, 0, .null, []), (1, 1, 1, .null, []), (2, 4, 1, .null, []), (1, 4, 1, .null, []), (0, 0, 0, .long 0, []), (10, 0, 0, .null, []), (15, 23, 0, .null, []), (1, 3, 0, .null, []), (1, 0, 2, .null, []), (18, 6, 17, .null, []), (1, 4, 1, .null, []), (0, 0, 0, .long 255, []), (6, 0, 3, .null, []), (9, 0, 0, .null, []), (20, 0, 0, .null, []), (4, 0, 0, .null, []), (2, 3, 0, .null, []), (1, 4, 1, .null, []), (0, 0, 0, .int 8, []), (7, 0, 2, .null, []), (2, 4, 1, .null, []), (17, 4, 0, .null, []), (1, 3, 0, .null, []), (26, 1, 0, .null, [])]
abbrev mX6_cross : Nat := 87
def cd_X6_cross : List pm_I := [(1, 0, 2, .null, []), (18, 6, 18, .null, []), (0, 0, 0, .int 0, []), (0, 0, 0, .long 0, []), (21, 0, 2, .null, []), (0, 0, 0, .int 0, []), (2, 2, 0, .null, []), (1, 2, 0, .null, []), (1, 0, 2, .null, []), (18, 6, 6, .null, []), (1, 1, 0, .null, []), (20, 0, 0, .null, []), (16, 76, 3, .null, []), (0, 0, 0, .long 0, []), (2, 3, 1, .null, []), (0, 0, 0, .int 0, []), (2, 5, 0, .null, []), (1, 5, 0, .null, []), (1, 0, 2, .null, []), (18, 6, 0, .null, []), (1, 0, 2, .null, []), (18, 6, 1, .null, []), (4, 0, 2, .null, []), (16, 51, 3, .null, []), (1, 0, 2, .null, []), (18, 6, 5, .null, []), (0, 0, 0, .int 64, []), (1, 1, 0, .null, []), (4, 0, 2, .null, []), (1, 5, 0, .null, []), (4, 0, 0, .null, []), (20, 0, 0, .null, []), (1, 2, 0, .null, []), (16, 49, 1, .null, []), (1, 3, 1, .null, []), (0, 0, 0, .long 1, []), (1, 0, 2, .null, []), (18, 6, 5, .null, []), (0, 0, 0, .int 64, []), (0, 0, 0, .int 1, []), (1, 1, 0, .null, []), (4, 0, 1, .null, []), (4, 0, 2, .null, []), (1, 5, 0, .null, []), (4, 0, 0, .null, []), (20, 0, 0, .null, []), (7, 0, 0, .null, []), (6, 0, 4, .null, []), (2, 3, 1, .null, []), (3, 5, 0, .int 1, []), (17, 17, 0, .null, []), (0, 0, 0, .int 0, []), (2, 5, 0, .null, []), (1, 5, 0, .null, []), (0, 0, 0, .int 1, []), (1, 2, 0, .null, []), (4, 0, 6, .null, []), (16, 74, 3, .null, []), (1, 0, 2, .null, []), (18, 6, 18, .null, []), (1, 5, 0, .null, []), (0, 0, 0, .int 1, []), (1, 2, 0, .null, []), (4, 0, 6, .null, []), (4, 0, 4, .null, []), (1, 0, 2, .null, []), (18, 6, 18, .null, []), (1, 5, 0, .null, []), (20, 0, 2, .null, []), (1, 3, 1, .null, []), (6, 0, 4, .null, []), (21, 0, 2, .null, []), (3, 5, 0, .int 1, []), (17, 53, 0, .null, []), (3, 2, 0, .int 1, []), (17, 7, 0, .null, []), (26, 0, 0, .null, [])]
abbrev mX6_touched : Nat := 88
def cd_X6_touched : List pm_I := [(0, 0, 0, .long 0, []), (2, 2, 1, .null, []), (0, 0, 0, .int 0, []), (2, 4, 0, .null, []), (1, 4, 0, .null, []), (1, 0, 2, .null, []), (18, 6, 0, .null, []), (1, 0, 2, .null, []), (18, 6, 1, .null, []), (4, 0, 2, .null, []), (16, 31, 3, .null, []), (1, 0, 2, .null, []), (18, 6, 3, .null, []), (1, 4, 0, .null, []), (20, 0, 1, .null, []), (15, 29, 0, .null, []), (1, 2, 1, .null, []), (0, 0, 0, .long 1, []), (1, 0, 2, .null, []), (18, 6, 5, .null, []), (0, 0, 0, .int 64, []), (1, 1, 0, .null, []), (4, 0, 2, .null, []), (1, 4, 0, .null, []), (4, 0, 0, .null, []), (20, 0, 0, .null, []), (7, 0, 0, .null, []), (6, 0, 4, .null, []), (2, 2, 1, .null, []), (3, 4, 0, .int 1, []), (17, 4, 0, .null, []), (1, 2, 1, .null, []), (26, 3, 0, .null, [])]
abbrev mX6_more : Nat := 89
def cd_X6_more : List pm_I := [(1, 0, 2, .null, []), (25, 76, 1, .null, [6]), (1, 0, 2, .null, []), (18, 6, 6, .null, []), (0, 0, 0, .int 0, []), (20, 0, 0, .null, []), (0, 0, 0, .int 12, []), (16, 10, 4, .null, []), (0, 0, 0, .int 0, []), (17, 11, 0, .null, []), (0, 0, 0, .int 1, []), (2, 1, 0, .null, []), (1, 0, 2, .null, []), (18, 6, 6, .null, []), (1, 1, 0, .null, []), (20, 0, 0, .null, []), (0, 0, 0, .int 12, []), (16, 20, 5, .null, []), (0, 0, 0, .int (-5), []), (26, 1, 0, .null, []), (1, 0, 2, .null, []), (1, 1, 0, .null, []), (25, 87, 2, .null, [6]), (0, 0, 0, .int 1, []), (1, 0, 2, .null, []), (18, 6, 6, .null, []), (1, 1, 0, .null, []), (20, 0, 0, .null, []), (4, 0, 6, .null, []), (0, 0, 0, .int 1, []), (4, 0, 1, .null, []), (2, 2, 0, .null, []), (1, 0, 2, .null, []), (1, 1, 0, .null, []), (25, 88, 2, .null, [6]), (9, 0, 0, .null, []), (2, 3, 0, .null, []), (1, 0, 2, .null, []), (0, 0, 0, .int 1, []), (1, 1, 0, .null, []), (4, 0, 1, .null, []), (25, 88, 2, .null, [6]), (2, 4, 1, .null, []), (0, 0, 0, .int (-1), []), (2, 6, 0, .null, []), (0, 0, 0, .int 0, []), (2, 7, 0, .null, []), (1, 7, 0, .null, []), (1, 2, 0, .null, []), (16, 104, 4, .null, []), (1, 7, 0, .null, []), (1, 3, 0, .null, []), (4, 0, 3, .null, []), (1, 3, 0, .null, []), (16, 102, 1, .null, []), (1, 0, 2, .null, []), (18, 6, 18, .null, []), (1, 2, 0, .null, []), (1, 7, 0, .null, []), (0, 0, 0, .int (-1), []), (4, 0, 5, .null, []), (4, 0, 3, .null, []), (20, 0, 2, .null, []), (1, 4, 1, .null, []), (0, 0, 0, .long (-1), []), (6, 0, 5, .null, []), (6, 0, 3, .null, []), (2, 8, 1, .null, []), (1, 8, 1, .null, []), (1, 0, 2, .null, []), (18, 6, 18, .null, []), (1, 7, 0, .null, []), (20, 0, 2, .null, []), (0, 0, 0, .long (-1), []), (6, 0, 5, .null, []), (6, 0, 3, .null, []), (0, 0, 0, .long 0, []), (10, 0, 0, .null, []), (15, 102, 1, .null, []), (1, 0, 2, .null, []), (1, 8, 1, .null, []), (25, 86, 2, .null, [6]), (1, 0, 2, .null, []), (1, 7, 0, .null, []), (1, 3, 0, .null, []), (0, 0, 0, .int (-1), []), (4, 0, 5, .null, []), (4, 0, 3, .null, []), (1, 8, 1, .null, []), (25, 90, 3, .null, [6]), (4, 0, 0, .null, []), (2, 10, 0, .null, []), (1, 6, 0, .null, []), (0, 0, 0, .int (-1), []), (16, 98, 0, .null, []), (1, 10, 0, .null, []), (1, 6, 0, .null, []), (16, 100, 3, .null, []), (1, 10, 0, .null, []), (17, 101, 0, .null, []), (1, 6, 0, .null, []), (2, 6, 0, .null, []), (3, 7, 0, .int 1, []), (17, 47, 0, .null, []), (1, 6, 0, .null, []), (26, 1, 0, .null, [])]
abbrev mX6_most : Nat := 90
def cd_X6_most : List pm_I := [(0, 0, 0, .int 0, []), (2, 4, 0, .null, []), (1, 1, 0, .null, []), (2, 5, 0, .null, []), (1, 5, 0, .null, []), (15, 34, 5, .null, []), (1, 0, 2, .null, []), (1, 5, 0, .null, []), (8, 0, 0, .null, []), (25, 86, 2, .null, [6]), (1, 0, 2, .null, []), (1, 0, 2, .null, []), (18, 6, 18, .null, []), (1, 5, 0, .null, []), (20, 0, 2, .null, []), (1, 2, 1, .null, []), (6, 0, 3, .null, []), (25, 86, 2, .null, [6]), (4, 0, 1, .null, []), (2, 6, 0, .null, []), (1, 6, 0, .null, []), (1, 4, 0, .null, []), (16, 25, 5, .null, []), (1, 6, 0, .null, []), (17, 26, 0, .null, []), (1, 4, 0, .null, []), (2, 4, 0, .null, []), (1, 5, 0, .null, []), (0, 0, 0, .int 1, []), (4, 0, 1, .null, []), (1, 1, 0, .null, []), (4, 0, 3, .null, []), (2, 5, 0, .null, []), (17, 4, 0, .null, []), (1, 4, 0, .null, []), (26, 1, 0, .null, [])]
abbrev mX6_peace : Nat := 91
def cd_X6_peace : List pm_I := [(1, 0, 2, .null, []), (25, 76, 1, .null, [6]), (0, 0, 0, .int 0, []), (2, 1, 0, .null, []), (1, 1, 0, .null, []), (0, 0, 0, .int 32, []), (16, 14, 3, .null, []), (1, 0, 2, .null, []), (18, 6, 19, .null, []), (1, 1, 0, .null, []), (0, 0, 0, .int (-1), []), (21, 0, 0, .null, []), (3, 1, 0, .int 1, []), (17, 4, 0, .null, []), (0, 0, 0, .int 0, []), (2, 1, 0, .null, []), (0, 0, 0, .int 0, []), (2, 2, 0, .null, []), (1, 2, 0, .null, []), (1, 0, 2, .null, []), (18, 6, 6, .null, []), (0, 0, 0, .int 0, []), (20, 0, 0, .null, []), (16, 36, 3, .null, []), (1, 1, 0, .null, []), (1, 0, 2, .null, []), (1, 2, 0, .null, []), (25, 93, 2, .null, [6]), (15, 31, 0, .null, []), (0, 0, 0, .int 1, []), (17, 32, 0, .null, []), (0, 0, 0, .int 0, []), (4, 0, 0, .null, []), (2, 1, 0, .null, []), (3, 2, 0, .int 1, []), (17, 18, 0, .null, []), (1, 1, 0, .null, []), (26, 1, 0, .null, [])]
abbrev mX6_doCross : Nat := 92
def cd_X6_doCross : List pm_I := [(0, 0, 0, .int 0, []), (2, 3, 0, .null, []), (0, 0, 0, .int 0, []), (2, 4, 0, .null, []), (1, 4, 0, .null, []), (1, 0, 2, .null, []), (18, 6, 0, .null, []), (1, 0, 2, .null, []), (18, 6, 1, .null, []), (4, 0, 2, .null, []), (16, 33, 3, .null, []), (1, 3, 0, .null, []), (15, 27, 1, .null, []), (1, 0, 2, .null, []), (18, 6, 5, .null, []), (1, 4, 0, .null, []), (20, 0, 0, .null, []), (1, 1, 0, .null, []), (16, 29, 1, .null, []), (1, 0, 2, .null, []), (18, 6, 5, .null, []), (0, 0, 0, .int 64, []), (1, 4, 0, .null, []), (4, 0, 0, .null, []), (20, 0, 0, .null, []), (1, 2, 0, .null, []), (16, 29, 1, .null, []), (0, 0, 0, .int 1, []), (17, 30, 0, .null, []), (0, 0, 0, .int 0, []), (2, 3, 0, .null, []), (3, 4, 0, .int 1, []), (17, 4, 0, .null, []), (1, 3, 0, .null, []), (26, 2, 0, .null, [])]
abbrev mX6_finds : Nat := 93
def cd_X6_finds : List pm_I := [(0, 0, 0, .int 0, []), (2, 2, 0, .null, []), (1, 2, 0, .null, []), (0, 0, 0, .int 32, []), (16, 12, 3, .null, []), (1, 0, 2, .null, []), (18, 6, 20, .null, []), (1, 2, 0, .null, []), (0, 0, 0, .int (-1), []), (21, 0, 0, .null, []), (3, 2, 0, .int 1, []), (17, 2, 0, .null, []), (0, 0, 0, .int 1, []), (2, 2, 0, .null, []), (1, 0, 2, .null, []), (18, 6, 21, .null, []), (0, 0, 0, .int 0, []), (1, 1, 0, .null, []), (21, 0, 0, .null, []), (0, 0, 0, .int 0, []), (2, 3, 0, .null, []), (1, 3, 0, .null, []), (1, 2, 0, .null, []), (16, 78, 3, .null, []), (1, 0, 2, .null, []), (18, 6, 21, .null, []), (1, 3, 0, .null, []), (20, 0, 0, .null, []), (2, 4, 0, .null, []), (0, 0, 0, .int 0, []), (2, 5, 0, .null, []), (1, 5, 0, .null, []), (1, 0, 2, .null, []), (18, 6, 6, .null, []), (0, 0, 0, .int 1, []), (20, 0, 0, .null, []), (16, 76, 3, .null, []), (1, 0, 2, .null, []), (18, 6, 20, .null, []), (1, 5, 0, .null, []), (20, 0, 0, .null, []), (0, 0, 0, .int (-1), []), (16, 74, 1, .null, []), (1, 0, 2, .null, []), (1, 4, 0, .null, []), (1, 5, 0, .null, []), (25, 92, 3, .null, [6]), (15, 74, 0, .null, []), (1, 0, 2, .null, []), (18, 6, 20, .null, []), (1, 5, 0, .null, []), (1, 4, 0, .null, []), (21, 0, 0, .null, []), (1, 0, 2, .null, []), (18, 6, 19, .null, []), (1, 5, 0, .null, []), (20, 0, 0, .null, []), (0, 0, 0, .int (-1), []), (16, 65, 1, .null, []), (1, 0, 2, .null, []), (1, 5, 0, .null, []), (1, 1, 0, .null, []), (25, 94, 3, .null, [6]), (0, 0, 0, .int 1, []), (26, 2, 0, .null, []), (1, 0, 2, .null, []), (18, 6, 21, .null, []), (1, 2, 0, .null, []), (1, 0, 2, .null, []), (18, 6, 19, .null, []), (1, 5, 0, .null, []), (20, 0, 0, .null, []), (21, 0, 0, .null, []), (3, 2, 0, .int 1, []), (3, 5, 0, .int 1, []), (17, 31, 0, .null, []), (3, 3, 0, .int 1, []), (17, 21, 0, .null, []), (0, 0, 0, .int 0, []), (26, 2, 0, .null, [])]
abbrev mX6_turn : Nat := 94
def cd_X6_turn : List pm_I := [(1, 1, 0, .null, []), (2, 3, 0, .null, []), (0, 0, 0, .int 1, []), (2, 4, 0, .null, []), (1, 4, 0, .null, []), (15, 48, 0, .null, []), (1, 0, 2, .null, []), (18, 6, 20, .null, []), (1, 3, 0, .null, []), (20, 0, 0, .null, []), (2, 5, 0, .null, []), (0, 0, 0, .int (-1), []), (2, 6, 0, .null, []), (0, 0, 0, .int 0, []), (2, 7, 0, .null, []), (1, 7, 0, .null, []), (1, 0, 2, .null, []), (18, 6, 6, .null, []), (0, 0, 0, .int 1, []), (20, 0, 0, .null, []), (16, 33, 3, .null, []), (1, 0, 2, .null, []), (18, 6, 19, .null, []), (1, 7, 0, .null, []), (20, 0, 0, .null, []), (1, 5, 0, .null, []), (16, 29, 1, .null, []), (1, 7, 0, .null, []), (17, 30, 0, .null, []), (1, 6, 0, .null, []), (2, 6, 0, .null, []), (3, 7, 0, .int 1, []), (17, 15, 0, .null, []), (1, 0, 2, .null, []), (18, 6, 19, .null, []), (1, 3, 0, .null, []), (1, 5, 0, .null, []), (21, 0, 0, .null, []), (1, 5, 0, .null, []), (1, 2, 0, .null, []), (16, 43, 0, .null, []), (0, 0, 0, .int 1, []), (17, 44, 0, .null, []), (0, 0, 0, .int 0, []), (2, 4, 0, .null, []), (1, 6, 0, .null, []), (2, 3, 0, .null, []), (17, 4, 0, .null, []), (26, 0, 0, .null, [])]
abbrev mX6_box : Nat := 95
def cd_X6_box : List pm_I := [(1, 1, 0, .null, []), (0, 0, 0, .int 1, []), (0, 0, 0, .int 12, []), (25, 69, 3, .null, []), (15, 10, 0, .null, []), (1, 2, 0, .null, []), (0, 0, 0, .int 1, []), (0, 0, 0, .int 12, []), (25, 69, 3, .null, []), (15, 12, 1, .null, []), (0, 0, 0, .int (-2), []), (26, 1, 0, .null, []), (1, 0, 2, .null, []), (1, 1, 0, .null, []), (19, 6, 9, .null, [0]), (1, 0, 2, .null, []), (1, 2, 0, .null, []), (19, 6, 10, .null, [0]), (1, 0, 2, .null, []), (0, 0, 0, .int 0, []), (19, 6, 11, .null, [0]), (1, 0, 2, .null, []), (0, 0, 0, .int 0, []), (19, 6, 15, .null, [3]), (1, 1, 0, .null, []), (1, 2, 0, .null, []), (4, 0, 2, .null, []), (26, 1, 0, .null, [])]
abbrev mX6_square : Nat := 96
def cd_X6_square : List pm_I := [(1, 1, 0, .null, []), (0, 0, 0, .int 1, []), (0, 0, 0, .int 12, []), (25, 69, 3, .null, []), (15, 7, 1, .null, []), (0, 0, 0, .int (-2), []), (26, 1, 0, .null, []), (1, 0, 2, .null, []), (18, 6, 11, .null, []), (0, 0, 0, .int 8, []), (16, 13, 1, .null, []), (0, 0, 0, .int (-4), []), (26, 1, 0, .null, []), (1, 0, 2, .null, []), (18, 6, 12, .null, []), (1, 0, 2, .null, []), (18, 6, 11, .null, []), (1, 1, 0, .null, []), (21, 0, 0, .null, []), (1, 0, 2, .null, []), (11, 0, 0, .null, []), (18, 6, 11, .null, []), (0, 0, 0, .int 1, []), (4, 0, 0, .null, []), (19, 6, 11, .null, [0]), (1, 0, 2, .null, []), (0, 0, 0, .int 0, []), (19, 6, 15, .null, [3]), (1, 0, 2, .null, []), (18, 6, 11, .null, []), (0, 0, 0, .int 1, []), (4, 0, 1, .null, []), (26, 1, 0, .null, [])]
abbrev mX6_drop : Nat := 97
def cd_X6_drop : List pm_I := [(1, 0, 2, .null, []), (18, 6, 11, .null, []), (15, 5, 1, .null, []), (0, 0, 0, .int (-3), []), (26, 1, 0, .null, []), (1, 0, 2, .null, []), (11, 0, 0, .null, []), (18, 6, 11, .null, []), (0, 0, 0, .int 1, []), (4, 0, 1, .null, []), (19, 6, 11, .null, [0]), (1, 0, 2, .null, []), (0, 0, 0, .int 0, []), (19, 6, 15, .null, [3]), (1, 0, 2, .null, []), (18, 6, 11, .null, []), (26, 1, 0, .null, [])]
abbrev mX6_isApart : Nat := 98
def cd_X6_isApart : List pm_I := [(1, 0, 2, .null, []), (18, 6, 13, .null, []), (1, 1, 0, .null, []), (20, 0, 0, .null, []), (1, 0, 2, .null, []), (18, 6, 13, .null, []), (1, 2, 0, .null, []), (20, 0, 0, .null, []), (1, 0, 2, .null, []), (18, 6, 12, .null, []), (1, 2, 0, .null, []), (20, 0, 0, .null, []), (4, 0, 0, .null, []), (16, 56, 3, .null, []), (1, 0, 2, .null, []), (18, 6, 13, .null, []), (1, 2, 0, .null, []), (20, 0, 0, .null, []), (1, 0, 2, .null, []), (18, 6, 13, .null, []), (1, 1, 0, .null, []), (20, 0, 0, .null, []), (1, 0, 2, .null, []), (18, 6, 12, .null, []), (1, 1, 0, .null, []), (20, 0, 0, .null, []), (4, 0, 0, .null, []), (16, 56, 3, .null, []), (1, 0, 2, .null, []), (18, 6, 14, .null, []), (1, 1, 0, .null, []), (20, 0, 0, .null, []), (1, 0, 2, .null, []), (18, 6, 14, .null, []), (1, 2, 0, .null, []), (20, 0, 0, .null, []), (1, 0, 2, .null, []), (18, 6, 12, .null, []), (1, 2, 0, .null, []), (20, 0, 0, .null, []), (4, 0, 0, .null, []), (16, 56, 3, .null, []), (1, 0, 2, .null, []), (18, 6, 14, .null, []), (1, 2, 0, .null, []), (20, 0, 0, .null, []), (1, 0, 2, .null, []), (18, 6, 14, .null, []), (1, 1, 0, .null, []), (20, 0, 0, .null, []), (1, 0, 2, .null, []), (18, 6, 12, .null, []), (1, 1, 0, .null, []), (20, 0, 0, .null, []), (4, 0, 0, .null, []), (16, 58, 2, .null, []), (0, 0, 0, .int 1, []), (17, 59, 0, .null, []), (0, 0, 0, .int 0, []), (26, 2, 0, .null, [])]
abbrev mX6_lies : Nat := 99
def cd_X6_lies : List pm_I := [(0, 0, 0, .int 1, []), (2, 2, 0, .null, []), (0, 0, 0, .int 0, []), (2, 3, 0, .null, []), (1, 3, 0, .null, []), (1, 1, 0, .null, []), (16, 20, 3, .null, []), (1, 2, 0, .null, []), (15, 16, 0, .null, []), (1, 0, 2, .null, []), (1, 1, 0, .null, []), (1, 3, 0, .null, []), (25, 98, 3, .null, [6]), (15, 16, 0, .null, []), (0, 0, 0, .int 1, []), (17, 17, 0, .null, []), (0, 0, 0, .int 0, []), (2, 2, 0, .null, []), (3, 3, 0, .int 1, []), (17, 4, 0, .null, []), (1, 2, 0, .null, []), (26, 2, 0, .null, [])]
abbrev mX6_goesOn : Nat := 100
def cd_X6_goesOn : List pm_I := [(1, 0, 2, .null, []), (18, 6, 9, .null, []), (1, 0, 2, .null, []), (18, 6, 12, .null, []), (1, 1, 0, .null, []), (20, 0, 0, .null, []), (4, 0, 1, .null, []), (2, 2, 0, .null, []), (1, 0, 2, .null, []), (18, 6, 10, .null, []), (1, 0, 2, .null, []), (18, 6, 12, .null, []), (1, 1, 0, .null, []), (20, 0, 0, .null, []), (4, 0, 1, .null, []), (2, 3, 0, .null, []), (1, 0, 2, .null, []), (18, 6, 13, .null, []), (1, 1, 0, .null, []), (13, 0, 0, .null, []), (20, 0, 0, .null, []), (0, 0, 0, .int 1, []), (4, 0, 0, .null, []), (21, 0, 0, .null, []), (1, 0, 2, .null, []), (18, 6, 13, .null, []), (1, 1, 0, .null, []), (20, 0, 0, .null, []), (1, 2, 0, .null, []), (16, 43, 5, .null, []), (1, 0, 2, .null, []), (18, 6, 13, .null, []), (1, 1, 0, .null, []), (0, 0, 0, .int 0, []), (21, 0, 0, .null, []), (1, 0, 2, .null, []), (18, 6, 14, .null, []), (1, 1, 0, .null, []), (13, 0, 0, .null, []), (20, 0, 0, .null, []), (0, 0, 0, .int 1, []), (4, 0, 0, .null, []), (21, 0, 0, .null, []), (1, 2, 0, .null, []), (15, 53, 2, .null, []), (1, 0, 2, .null, []), (18, 6, 14, .null, []), (1, 1, 0, .null, []), (20, 0, 0, .null, []), (1, 3, 0, .null, []), (16, 53, 4, .null, []), (0, 0, 0, .int 1, []), (17, 54, 0, .null, []), (0, 0, 0, .int 0, []), (26, 2, 0, .null, [])]
abbrev mX6_pack : Nat := 101
def cd_X6_pack : List pm_I := [(1, 1, 0, .null, []), (0, 0, 0, .int 0, []), (0, 0, 0, .int 100000, []), (25, 69, 3, .null, []), (15, 7, 1, .null, []), (0, 0, 0, .int (-2), []), (26, 1, 0, .null, []), (1, 0, 2, .null, []), (0, 0, 0, .int 0, []), (19, 6, 15, .null, [3]), (1, 0, 2, .null, []), (0, 0, 0, .int 0, []), (19, 6, 16, .null, [0]), (0, 0, 0, .int 0, []), (2, 2, 0, .null, []), (1, 0, 2, .null, []), (18, 6, 11, .null, []), (15, 28, 5, .null, []), (1, 0, 2, .null, []), (18, 6, 13, .null, []), (0, 0, 0, .int 0, []), (0, 0, 0, .int (-1), []), (21, 0, 0, .null, []), (1, 0, 2, .null, []), (18, 6, 14, .null, []), (0, 0, 0, .int 0, []), (0, 0, 0, .int 0, []), (21, 0, 0, .null, []), (1, 2, 0, .null, []), (15, 72, 2, .null, []), (1, 2, 0, .null, []), (1, 0, 2, .null, []), (18, 6, 11, .null, []), (16, 72, 3, .null, []), (1, 0, 2, .null, []), (1, 2, 0, .null, []), (25, 100, 2, .null, [6]), (15, 40, 1, .null, []), (3, 2, 0, .int (-1), []), (17, 28, 0, .null, []), (1, 0, 2, .null, []), (18, 6, 16, .null, []), (1, 1, 0, .null, []), (16, 46, 1, .null, []), (0, 0, 0, .int 2, []), (26, 1, 0, .null, []), (1, 0, 2, .null, []), (11, 0, 0, .null, []), (18, 6, 16, .null, []), (0, 0, 0, .int 1, []), (4, 0, 0, .null, []), (19, 6, 16, .null, [0]), (1, 0, 2, .null, []), (1, 2, 0, .null, []), (25, 99, 2, .null, [6]), (15, 28, 0, .null, []), (3, 2, 0, .int 1, []), (1, 2, 0, .null, []), (1, 0, 2, .null, []), (18, 6, 11, .null, []), (16, 28, 3, .null, []), (1, 0, 2, .null, []), (18, 6, 13, .null, []), (1, 2, 0, .null, []), (0, 0, 0, .int (-1), []), (21, 0, 0, .null, []), (1, 0, 2, .null, []), (18, 6, 14, .null, []), (1, 2, 0, .null, []), (0, 0, 0, .int 0, []), (21, 0, 0, .null, []), (17, 28, 0, .null, []), (1, 0, 2, .null, []), (1, 2, 0, .null, []), (15, 77, 2, .null, []), (0, 0, 0, .int 1, []), (17, 78, 0, .null, []), (0, 0, 0, .int 0, []), (19, 6, 15, .null, [3]), (1, 0, 2, .null, []), (18, 6, 15, .null, []), (15, 84, 0, .null, []), (0, 0, 0, .int 1, []), (17, 85, 0, .null, []), (0, 0, 0, .int 0, []), (26, 1, 0, .null, [])]
abbrev mX6_tried : Nat := 102
def cd_X6_tried : List pm_I := [(1, 0, 2, .null, []), (18, 6, 16, .null, []), (26, 1, 0, .null, [])]
abbrev mX6_place : Nat := 103
def cd_X6_place : List pm_I := [(1, 2, 0, .null, []), (0, 0, 0, .int 0, []), (0, 0, 0, .int 1, []), (25, 69, 3, .null, []), (15, 7, 1, .null, []), (0, 0, 0, .int (-2), []), (26, 1, 0, .null, []), (1, 0, 2, .null, []), (18, 6, 15, .null, []), (15, 18, 0, .null, []), (1, 1, 0, .null, []), (0, 0, 0, .int 0, []), (1, 0, 2, .null, []), (18, 6, 11, .null, []), (0, 0, 0, .int 1, []), (4, 0, 1, .null, []), (25, 69, 3, .null, []), (15, 20, 1, .null, []), (0, 0, 0, .int (-1), []), (26, 1, 0, .null, []), (1, 2, 0, .null, []), (15, 27, 1, .null, []), (1, 0, 2, .null, []), (18, 6, 13, .null, []), (1, 1, 0, .null, []), (20, 0, 0, .null, []), (17, 31, 0, .null, []), (1, 0, 2, .null, []), (18, 6, 14, .null, []), (1, 1, 0, .null, []), (20, 0, 0, .null, []), (26, 1, 0, .null, [])]
abbrev mX6_left : Nat := 104
def cd_X6_left : List pm_I := [(1, 0, 2, .null, []), (18, 6, 9, .null, []), (1, 0, 2, .null, []), (18, 6, 10, .null, []), (4, 0, 2, .null, []), (2, 1, 0, .null, []), (0, 0, 0, .int 0, []), (2, 2, 0, .null, []), (1, 2, 0, .null, []), (1, 0, 2, .null, []), (18, 6, 11, .null, []), (16, 26, 3, .null, []), (1, 1, 0, .null, []), (1, 0, 2, .null, []), (18, 6, 12, .null, []), (1, 2, 0, .null, []), (20, 0, 0, .null, []), (1, 0, 2, .null, []), (18, 6, 12, .null, []), (1, 2, 0, .null, []), (20, 0, 0, .null, []), (4, 0, 2, .null, []), (4, 0, 1, .null, []), (2, 1, 0, .null, []), (3, 2, 0, .int 1, []), (17, 8, 0, .null, []), (1, 1, 0, .null, []), (26, 1, 0, .null, [])]
abbrev mJ13_bitCount_95d88 : Nat := 105
def cd_J13_bitCount_95d88 : List pm_I := [(1, 0, 1, .null, []), (1, 0, 1, .null, []), (0, 0, 0, .int 1, []), (7, 0, 2, .null, []), (0, 0, 0, .long 6148914691236517205, []), (6, 0, 3, .null, []), (6, 0, 1, .null, []), (2, 0, 1, .null, []), (1, 0, 1, .null, []), (0, 0, 0, .long 3689348814741910323, []), (6, 0, 3, .null, []), (1, 0, 1, .null, []), (0, 0, 0, .int 2, []), (7, 0, 2, .null, []), (0, 0, 0, .long 3689348814741910323, []), (6, 0, 3, .null, []), (6, 0, 0, .null, []), (2, 0, 1, .null, []), (1, 0, 1, .null, []), (1, 0, 1, .null, []), (0, 0, 0, .int 4, []), (7, 0, 2, .null, []), (6, 0, 0, .null, []), (0, 0, 0, .long 1085102592571150095, []), (6, 0, 3, .null, []), (2, 0, 1, .null, []), (1, 0, 1, .null, []), (1, 0, 1, .null, []), (0, 0, 0, .int 8, []), (7, 0, 2, .null, []), (6, 0, 0, .null, []), (2, 0, 1, .null, []), (1, 0, 1, .null, []), (1, 0, 1, .null, []), (0, 0, 0, .int 16, []), (7, 0, 2, .null, []), (6, 0, 0, .null, []), (2, 0, 1, .null, []), (1, 0, 1, .null, []), (1, 0, 1, .null, []), (0, 0, 0, .int 32, []), (7, 0, 2, .null, []), (6, 0, 0, .null, []), (2, 0, 1, .null, []), (1, 0, 1, .null, []), (9, 0, 0, .null, []), (0, 0, 0, .int 127, []), (4, 0, 3, .null, []), (26, 1, 0, .null, [])]
abbrev mL_law : Nat := 106
def cd_L_law : List pm_I := [(23, 5, 0, .null, []), (11, 0, 0, .null, []), (25, 47, 1, .null, [5]), (2, 1, 2, .null, []), (23, 6, 0, .null, []), (11, 0, 0, .null, []), (25, 68, 1, .null, [6]), (2, 2, 2, .null, []), (0, 0, 0, .int 0, []), (2, 3, 0, .null, []), (1, 3, 0, .null, []), (1, 0, 2, .null, []), (22, 0, 0, .null, []), (0, 0, 0, .int 4, []), (4, 0, 1, .null, []), (16, 405, 4, .null, []), (1, 0, 2, .null, []), (1, 3, 0, .null, []), (20, 0, 0, .null, []), (0, 0, 0, .int 31, []), (4, 0, 3, .null, []), (29, 403, 0, .null, [22, 49, 94, 121, 148, 175, 192, 229, 256, 263, 280, 287, 294, 321, 338, 345, 362, 369, 396]), (1, 1, 2, .null, []), (1, 0, 2, .null, []), (1, 3, 0, .null, []), (0, 0, 0, .int 1, []), (4, 0, 0, .null, []), (20, 0, 0, .null, []), (1, 0, 2, .null, []), (1, 3, 0, .null, []), (0, 0, 0, .int 2, []), (4, 0, 0, .null, []), (20, 0, 0, .null, []), (25, 48, 3, .null, [5]), (1, 2, 2, .null, []), (1, 0, 2, .null, []), (1, 3, 0, .null, []), (0, 0, 0, .int 1, []), (4, 0, 0, .null, []), (20, 0, 0, .null, []), (1, 0, 2, .null, []), (1, 3, 0, .null, []), (0, 0, 0, .int 2, []), (4, 0, 0, .null, []), (20, 0, 0, .null, []), (25, 70, 3, .null, [6]), (16, 403, 0, .null, []), (0, 0, 0, .int 0, []), (26, 2, 0, .null, []), (1, 1, 2, .null, []), (1, 0, 2, .null, []), (1, 3, 0, .null, []), (0, 0, 0, .int 1, []), (4, 0, 0, .null, []), (20, 0, 0, .null, []), (1, 0, 2, .null, []), (1, 3, 0, .null, []), (0, 0, 0, .int 2, []), (4, 0, 0, .null, []), (20, 0, 0, .null, []), (1, 0, 2, .null, []), (1, 3, 0, .null, []), (0, 0, 0, .int 3, []), (4, 0, 0, .null, []), (20, 0, 0, .null, []), (15, 68, 0, .null, []), (0, 0, 0, .int 1, []), (17, 69, 0, .null, []), (0, 0, 0, .int 0, []), (25, 49, 4, .null, [5]), (1, 2, 2, .null, []), (1, 0, 2, .null, []), (1, 3, 0, .null, []), (0, 0, 0, .int 1, []), (4, 0, 0, .null, []), (20, 0, 0, .null, []), (1, 0, 2, .null, []), (1, 3, 0, .null, []), (0, 0, 0, .int 2, []), (4, 0, 0, .null, []), (20, 0, 0, .null, []), (1, 0, 2, .null, []), (1, 3, 0, .null, []), (0, 0, 0, .int 3, []), (4, 0, 0, .null, []), (20, 0, 0, .null, []), (15, 89, 0, .null, []), (0, 0, 0, .int 1, []), (17, 90, 0, .null, []), (0, 0, 0, .int 0, []), (25, 72, 4, .null, [6]), (16, 403, 0, .null, []), (0, 0, 0, .int 0, []), (26, 2, 0, .null, []), (1, 1, 2, .null, []), (1, 0, 2, .null, []), (1, 3, 0, .null, []), (0, 0, 0, .int 1, []), (4, 0, 0, .null, []), (20, 0, 0, .null, []), (1, 0, 2, .null, []), (1, 3, 0, .null, []), (0, 0, 0, .int 2, []), (4, 0, 0, .null, []), (20, 0, 0, .null, []), (25, 50, 3, .null, [5]), (1, 2, 2, .null, []), (1, 0, 2, .null, []), (1, 3, 0, .null, []), (0, 0, 0, .int 1, []), (4, 0, 0, .null, []), (20, 0, 0, .null, []), (1, 0, 2, .null, []), (1, 3, 0, .null, []), (0, 0, 0, .int 2, []), (4, 0, 0, .null, []), (20, 0, 0, .null, []), (25, 73, 3, .null, [6]), (16, 403, 0, .null, []), (0, 0, 0, .int 0, []), (26, 2, 0, .null, []), (1, 1, 2, .null, []), (1, 0, 2, .null, []), (1, 3, 0, .null, []), (0, 0, 0, .int 1, []), (4, 0, 0, .null, []), (20, 0, 0, .null, []), (1, 0, 2, .null, []), (1, 3, 0, .null, []), (0, 0, 0, .int 2, []), (4, 0, 0, .null, []), (20, 0, 0, .null, []), (25, 51, 3, .null, [5]), (1, 2, 2, .null, []), (1, 0, 2, .null, []), (1, 3, 0, .null, []), (0, 0, 0, .int 1, []), (4, 0, 0, .null, []), (20, 0, 0, .null, []), (1, 0, 2, .null, []), (1, 3, 0, .null, []), (0, 0, 0, .int 2, []), (4, 0, 0, .null, []), (20, 0, 0, .null, []), (25, 74, 3, .null, [6]), (16, 403, 0, .null, []), (0, 0, 0, .int 0, []), (26, 2, 0, .null, []), (1, 1, 2, .null, []), (1, 0, 2, .null, []), (1, 3, 0, .null, []), (0, 0, 0, .int 1, []), (4, 0, 0, .null, []), (20, 0, 0, .null, []), (1, 0, 2, .null, []), (1, 3, 0, .null, []), (0, 0, 0, .int 2, []), (4, 0, 0, .null, []), (20, 0, 0, .null, []), (25, 52, 3, .null, [5]), (1, 2, 2, .null, []), (1, 0, 2, .null, []), (1, 3, 0, .null, []), (0, 0, 0, .int 1, []), (4, 0, 0, .null, []), (20, 0, 0, .null, []), (1, 0, 2, .null, []), (1, 3, 0, .null, []), (0, 0, 0, .int 2, []), (4, 0, 0, .null, []), (20, 0, 0, .null, []), (25, 80, 3, .null, [6]), (16, 403, 0, .null, []), (0, 0, 0, .int 0, []), (26, 2, 0, .null, []), (1, 1, 2, .null, []), (1, 0, 2, .null, []), (1, 3, 0, .null, []), (0, 0, 0, .int 1, []), (4, 0, 0, .null, []), (20, 0, 0, .null, []), (25, 53, 2, .null, [5]), (1, 2, 2, .null, []), (1, 0, 2, .null, []), (1, 3, 0, .null, []), (0, 0, 0, .int 1, []), (4, 0, 0, .null, []), (20, 0, 0, .null, []), (25, 81, 2, .null, [6]), (16, 403, 0, .null, []), (0, 0, 0, .int 0, []), (26, 2, 0, .null, []), (1, 1, 2, .null, []), (1, 0, 2, .null, []), (1, 3, 0, .null, []), (0, 0, 0, .int 1, []), (4, 0, 0, .null, []), (20, 0, 0, .null, []), (1, 0, 2, .null, []), (1, 3, 0, .null, []), (0, 0, 0, .int 2, []), (4, 0, 0, .null, []), (20, 0, 0, .null, []), (1, 0, 2, .null, []), (1, 3, 0, .null, []), (0, 0, 0, .int 3, []), (4, 0, 0, .null, []), (20, 0, 0, .null, []), (25, 54, 4, .null, [5]), (1, 2, 2, .null, []), (1, 0, 2, .null, []), (1, 3, 0, .null, []), (0, 0, 0, .int 1, []), (4, 0, 0, .null, []), (20, 0, 0, .null, []), (1, 0, 2, .null, []), (1, 3, 0, .null, []), (0, 0, 0, .int 2, []), (4, 0, 0, .null, []), (20, 0, 0, .null, []), (1, 0, 2, .null, []), (1, 3, 0, .null, []), (0, 0, 0, .int 3, []), (4, 0, 0, .null, []), (20, 0, 0, .null, []), (25, 82, 4, .null, [6]), (16, 403, 0, .null, []), (0, 0, 0, .int 0, []), (26, 2, 0, .null, []), (1, 1, 2, .null, []), (1, 0, 2, .null, []), (1, 3, 0, .null, []), (0, 0, 0, .int 1, []), (4, 0, 0, .null, []), (20, 0, 0, .null, []), (1, 0, 2, .null, []), (1, 3, 0, .null, []), (0, 0, 0, .int 2, []), (4, 0, 0, .null, []), (20, 0, 0, .null, []), (25, 55, 3, .null, [5]), (1, 2, 2, .null, []), (1, 0, 2, .null, []), (1, 3, 0, .null, []), (0, 0, 0, .int 1, []), (4, 0, 0, .null, []), (20, 0, 0, .null, []), (1, 0, 2, .null, []), (1, 3, 0, .null, []), (0, 0, 0, .int 2, []), (4, 0, 0, .null, []), (20, 0, 0, .null, []), (25, 83, 3, .null, [6]), (16, 403, 0, .null, []), (0, 0, 0, .int 0, []), (26, 2, 0, .null, []), (1, 1, 2, .null, []), (25, 56, 1, .null, [5]), (1, 2, 2, .null, []), (25, 84, 1, .null, [6]), (16, 403, 0, .null, []), (0, 0, 0, .int 0, []), (26, 2, 0, .null, []), (1, 1, 2, .null, []), (1, 0, 2, .null, []), (1, 3, 0, .null, []), (0, 0, 0, .int 1, []), (4, 0, 0, .null, []), (20, 0, 0, .null, []), (25, 57, 2, .null, [5]), (1, 2, 2, .null, []), (1, 0, 2, .null, []), (1, 3, 0, .null, []), (0, 0, 0, .int 1, []), (4, 0, 0, .null, []), (20, 0, 0, .null, []), (25, 85, 2, .null, [6]), (16, 403, 0, .null, []), (0, 0, 0, .int 0, []), (26, 2, 0, .null, []), (1, 1, 2, .null, []), (25, 58, 1, .null, [5]), (1, 2, 2, .null, []), (25, 89, 1, .null, [6]), (16, 403, 0, .null, []), (0, 0, 0, .int 0, []), (26, 2, 0, .null, []), (1, 1, 2, .null, []), (25, 59, 1, .null, [5]), (1, 2, 2, .null, []), (25, 91, 1, .null, [6]), (16, 403, 0, .null, []), (0, 0, 0, .int 0, []), (26, 2, 0, .null, []), (1, 1, 2, .null, []), (1, 0, 2, .null, []), (1, 3, 0, .null, []), (0, 0, 0, .int 1, []), (4, 0, 0, .null, []), (20, 0, 0, .null, []), (1, 0, 2, .null, []), (1, 3, 0, .null, []), (0, 0, 0, .int 2, []), (4, 0, 0, .null, []), (20, 0, 0, .null, []), (25, 60, 3, .null, [5]), (1, 2, 2, .null, []), (1, 0, 2, .null, []), (1, 3, 0, .null, []), (0, 0, 0, .int 1, []), (4, 0, 0, .null, []), (20, 0, 0, .null, []), (1, 0, 2, .null, []), (1, 3, 0, .null, []), (0, 0, 0, .int 2, []), (4, 0, 0, .null, []), (20, 0, 0, .null, []), (25, 95, 3, .null, [6]), (16, 403, 0, .null, []), (0, 0, 0, .int 0, []), (26, 2, 0, .null, []), (1, 1, 2, .null, []), (1, 0, 2, .null, []), (1, 3, 0, .null, []), (0, 0, 0, .int 1, []), (4, 0, 0, .null, []), (20, 0, 0, .null, []), (25, 61, 2, .null, [5]), (1, 2, 2, .null, []), (1, 0, 2, .null, []), (1, 3, 0, .null, []), (0, 0, 0, .int 1, []), (4, 0, 0, .null, []), (20, 0, 0, .null, []), (25, 96, 2, .null, [6]), (16, 403, 0, .null, []), (0, 0, 0, .int 0, []), (26, 2, 0, .null, []), (1, 1, 2, .null, []), (25, 62, 1, .null, [5]), (1, 2, 2, .null, []), (25, 97, 1, .null, [6]), (16, 403, 0, .null, []), (0, 0, 0, .int 0, []), (26, 2, 0, .null, []), (1, 1, 2, .null, []), (1, 0, 2, .null, []), (1, 3, 0, .null, []), (0, 0, 0, .int 1, []), (4, 0, 0, .null, []), (20, 0, 0, .null, []), (25, 63, 2, .null, [5]), (1, 2, 2, .null, []), (1, 0, 2, .null, []), (1, 3, 0, .null, []), (0, 0, 0, .int 1, []), (4, 0, 0, .null, []), (20, 0, 0, .null, []), (25, 101, 2, .null, [6]), (16, 403, 0, .null, []), (0, 0, 0, .int 0, []), (26, 2, 0, .null, []), (1, 1, 2, .null, []), (25, 64, 1, .null, [5]), (1, 2, 2, .null, []), (25, 102, 1, .null, [6]), (16, 403, 0, .null, []), (0, 0, 0, .int 0, []), (26, 2, 0, .null, []), (1, 1, 2, .null, []), (1, 0, 2, .null, []), (1, 3, 0, .null, []), (0, 0, 0, .int 1, []), (4, 0, 0, .null, []), (20, 0, 0, .null, []), (1, 0, 2, .null, []), (1, 3, 0, .null, []), (0, 0, 0, .int 2, []), (4, 0, 0, .null, []), (20, 0, 0, .null, []), (25, 65, 3, .null, [5]), (1, 2, 2, .null, []), (1, 0, 2, .null, []), (1, 3, 0, .null, []), (0, 0, 0, .int 1, []), (4, 0, 0, .null, []), (20, 0, 0, .null, []), (1, 0, 2, .null, []), (1, 3, 0, .null, []), (0, 0, 0, .int 2, []), (4, 0, 0, .null, []), (20, 0, 0, .null, []), (25, 103, 3, .null, [6]), (16, 403, 0, .null, []), (0, 0, 0, .int 0, []), (26, 2, 0, .null, []), (1, 1, 2, .null, []), (25, 66, 1, .null, [5]), (1, 2, 2, .null, []), (25, 104, 1, .null, [6]), (16, 403, 0, .null, []), (0, 0, 0, .int 0, []), (26, 2, 0, .null, []), (3, 3, 0, .int 4, []), (17, 10, 0, .null, []), (0, 0, 0, .int 1, []), (26, 2, 0, .null, [])]
def pm_cd (mi : Nat) : List pm_I := match mi with
  | 0 => cd_X0_init
  | 1 => cd_X0_clear
  | 2 => cd_X0_append
  | 3 => cd_X0_removeLast
  | 4 => cd_X0_countLeft
  | 5 => cd_X0_fill
  | 6 => cd_X0_layAll
  | 7 => cd_X0_emptyBox
  | 8 => cd_X0_startOver
  | 9 => cd_X0_hasPlace
  | 10 => cd_X0_goOn
  | 11 => cd_X0_tryPlace
  | 12 => cd_X0_breadthOf
  | 13 => cd_X0_isFree
  | 14 => cd_X0_layOrLift
  | 15 => cd_X1_init
  | 16 => cd_X1_clear
  | 17 => cd_X1_holds
  | 18 => cd_X1_numberOf
  | 19 => cd_X1_along
  | 20 => cd_X1_numberRuns
  | 21 => cd_X1_numberCell
  | 22 => cd_X1_changeWall
  | 23 => cd_X1_changeGuard
  | 24 => cd_X1_isSeen
  | 25 => cd_X1_kindOf
  | 26 => cd_X1_sightFrom
  | 27 => cd_X1_countSeen
  | 28 => cd_X1_findMissed
  | 29 => cd_X1_leastMore
  | 30 => cd_X1_mostPeaceful
  | 31 => cd_X2_init
  | 32 => cd_X2_most
  | 33 => cd_X2_findPair
  | 34 => cd_X2_pairBack
  | 35 => cd_X3_init
  | 36 => cd_X3_clear
  | 37 => cd_X3_takeShut
  | 38 => cd_X3_takeOpen
  | 39 => cd_X3_addGuards
  | 40 => cd_X3_isWatched
  | 41 => cd_X3_lengthAt
  | 42 => cd_X3_cellOf
  | 43 => cd_X4_init
  | 44 => cd_X4_leastGuards
  | 45 => cd_X4_findUnseenFar
  | 46 => cd_X4_choose
  | 47 => cd_X5_init
  | 48 => cd_X5_hall
  | 49 => cd_X5_wall
  | 50 => cd_X5_guard
  | 51 => cd_X5_leave
  | 52 => cd_X5_cell
  | 53 => cd_X5_runs
  | 54 => cd_X5_run
  | 55 => cd_X5_sees
  | 56 => cd_X5_seen
  | 57 => cd_X5_missed
  | 58 => cd_X5_more
  | 59 => cd_X5_peace
  | 60 => cd_X5_box
  | 61 => cd_X5_square
  | 62 => cd_X5_drop
  | 63 => cd_X5_pack
  | 64 => cd_X5_tried
  | 65 => cd_X5_place
  | 66 => cd_X5_left
  | 67 => cd_X5_isWithin
  | 68 => cd_X6_init
  | 69 => cd_X6_within
  | 70 => cd_X6_hall
  | 71 => cd_X6_isCell
  | 72 => cd_X6_wall
  | 73 => cd_X6_guard
  | 74 => cd_X6_leave
  | 75 => cd_X6_isOpen
  | 76 => cd_X6_part
  | 77 => cd_X6_partCell
  | 78 => cd_X6_isTouched
  | 79 => cd_X6_isSeen
  | 80 => cd_X6_cell
  | 81 => cd_X6_runs
  | 82 => cd_X6_run
  | 83 => cd_X6_sees
  | 84 => cd_X6_seen
  | 85 => cd_X6_missed
  | 86 => cd_X6_count
  | 87 => cd_X6_cross
  | 88 => cd_X6_touched
  | 89 => cd_X6_more
  | 90 => cd_X6_most
  | 91 => cd_X6_peace
  | 92 => cd_X6_doCross
  | 93 => cd_X6_finds
  | 94 => cd_X6_turn
  | 95 => cd_X6_box
  | 96 => cd_X6_square
  | 97 => cd_X6_drop
  | 98 => cd_X6_isApart
  | 99 => cd_X6_lies
  | 100 => cd_X6_goesOn
  | 101 => cd_X6_pack
  | 102 => cd_X6_tried
  | 103 => cd_X6_place
  | 104 => cd_X6_left
  | 105 => cd_J13_bitCount_95d88
  | _ => cd_L_law
def pm_pcs (mi : Nat) : List Nat := match mi with
  | 0 => [0, 1, 4, 5, 7, 9, 12, 13, 15, 17, 20, 21, 23, 25, 28, 29, 31, 33, 36, 37, 38, 39, 42, 43]
  | 1 => [0, 1, 2, 5, 6, 7, 10, 11, 12, 15, 16, 17, 20, 21]
  | 2 => [0, 1, 2, 5, 6, 9, 10, 13, 14, 15, 16, 17, 20, 21, 22, 23, 26, 27]
  | 3 => [0, 1, 2, 5, 6, 7, 10, 11, 12, 13, 16, 17]
  | 4 => [0, 1, 4, 5, 8, 9, 10, 11, 12, 13, 14, 17, 20, 21, 22, 25, 26, 27, 28, 31, 32, 33, 34, 35, 36, 39, 42, 43, 44]
  | 5 => [0, 1, 2, 5, 6, 7, 10, 11, 12, 13, 14, 17, 18, 21, 22, 25, 26, 27]
  | 6 => [0, 1, 4, 5, 6, 7, 8, 9, 11, 14, 15, 16, 19, 22, 23, 24, 25, 26, 29, 32, 33, 36, 37, 38, 41, 42, 43, 46, 47, 48, 51, 54, 55, 58, 59, 62, 63, 64, 65, 66, 69, 72, 75, 78, 79, 80, 83, 86, 89, 90, 91]
  | 7 => [0, 1, 2, 3, 5, 8, 9, 12, 13, 14, 15, 18, 21, 22, 23, 26, 27]
  | 8 => [0, 1, 3, 6, 7, 10, 11, 12, 13, 14, 17, 18, 19, 20, 21]
  | 9 => [0, 1, 4, 5, 6, 7, 10, 11, 12, 13, 14, 17, 20, 21, 24, 25, 26, 27, 30, 31, 32, 33, 34, 37, 40, 41, 44, 45, 46]
  | 10 => [0, 1, 4, 5, 6, 7, 8, 9, 10, 11, 14, 15, 16, 17, 20, 21, 22, 23, 24, 27, 30, 31, 34, 35, 36, 37, 38, 41, 42, 43, 44, 45, 46, 47, 48]
  | 11 => [0, 1, 2, 5, 6, 7, 10, 11, 12, 15, 18, 19, 20, 21, 22, 25, 26, 27, 28, 29, 32, 33, 34]
  | 12 => [0, 1, 2, 5, 6, 7, 8, 9, 10, 11, 14, 15, 16, 17, 18]
  | 13 => [0, 1, 2, 5, 6, 7, 10, 11, 12, 13, 16, 17, 18, 19, 21, 24, 25, 26, 29, 30, 31, 33, 35, 36, 39, 40, 43, 45, 46, 47, 48, 51, 52, 53, 56, 59, 60, 61]
  | 14 => [0, 1, 2, 5, 6, 7, 10, 11, 12, 13, 16, 17, 18, 19, 21, 24, 25, 26, 29, 30, 31, 33, 35, 36, 39, 40, 43, 45, 46, 47, 48, 49, 50, 53, 56, 57]
  | 15 => [0, 1, 4, 5, 7, 9, 12, 13, 15, 17, 20, 21, 24, 25, 28, 31, 32, 35, 36, 39, 42, 43, 46, 47, 50, 53, 54, 57, 58, 59, 62, 65, 68, 69, 70, 71, 74, 75]
  | 16 => [0, 1, 2, 5, 6, 7, 10, 11, 12, 15, 16, 17, 18, 20, 23, 24, 27, 28, 29, 30, 31, 34, 35, 36, 37, 40, 43, 44, 47, 48]
  | 17 => [0, 1, 2, 3, 6, 7, 8, 11, 14, 15, 16, 17, 20, 21, 22, 25, 28, 29, 32, 33, 34]
  | 18 => [0, 1, 2, 5, 6, 7, 8, 9]
  | 19 => [0, 1, 4, 5, 8, 11, 12, 15, 16]
  | 20 => [0, 1, 4, 5, 8, 9, 12, 13, 16, 19, 20, 21, 22, 23, 26, 29, 30, 31, 32, 33, 36, 39, 40, 41, 42, 45, 48, 51, 54, 57, 58]
  | 21 => [0, 1, 2, 3, 6, 7, 8, 11, 12, 13, 16, 17, 20, 21, 24, 25, 28, 29, 32, 33, 34, 37, 38, 39, 42, 43, 46, 47, 50, 51, 54, 55, 56, 59, 60, 63, 64, 67, 68, 71, 72, 73, 76, 77, 80, 81, 82, 85, 86, 89, 90, 91, 94, 95]
  | 22 => [0, 1, 4, 5, 6, 7, 10, 11, 12, 13, 16, 17, 18, 19, 20, 23, 24, 25]
  | 23 => [0, 1, 4, 5, 8, 9, 10, 11, 14, 15, 16, 17, 18, 21, 22, 23, 26, 27, 30, 31, 32, 35, 36, 37, 40, 41, 42, 45, 46, 49, 50]
  | 24 => [0, 1, 4, 5, 8, 11, 12, 15, 16, 19, 22, 23, 26, 27, 28]
  | 25 => [0, 1, 4, 5, 6, 9, 10, 11, 12, 15, 16, 17, 20, 21, 22, 23, 24, 27, 30, 31, 34, 35, 36]
  | 26 => [0, 1, 4, 5, 6, 9, 10, 13, 14, 17, 18, 21, 22, 25, 26, 27, 28, 31, 32, 33]
  | 27 => [0, 1, 2, 3, 4, 5, 6, 9, 10, 13, 14, 17, 18, 19, 22, 25, 28, 31, 34, 35, 36]
  | 28 => [0, 1, 2, 3, 4, 5, 6, 9, 10, 13, 14, 17, 18, 21, 22, 23, 26, 27, 28, 31, 34, 35, 36, 39, 40, 41, 44, 47, 50, 51, 52]
  | 29 => [0, 1, 4, 7, 8, 11, 14, 17, 18, 21, 22, 23, 24, 27, 28, 31, 34, 35, 38, 39, 40, 43, 44, 47, 50, 51, 54, 55, 56, 59, 61, 64, 66, 69, 70, 73, 74, 75, 78, 79]
  | 30 => [0, 1, 4, 5, 8, 9, 12, 15, 18, 21, 22]
  | 31 => [0, 1, 4, 5, 7, 9, 12, 13, 15, 17, 20, 21, 23, 25, 28, 29, 31, 33, 36, 37]
  | 32 => [0, 1, 2, 5, 6, 7, 10, 11, 13, 15, 17, 20, 21, 24, 26, 27, 28, 29, 32, 34, 35, 36, 39, 42, 43, 45, 46, 48, 50, 51, 54, 57, 60, 61, 63, 64, 65, 66, 67, 68, 71, 72, 74, 76, 79, 82, 85, 88, 91, 93, 94]
  | 33 => [0, 1, 3, 4, 6, 7, 10, 11, 12, 13, 14, 16, 18, 20, 23, 24, 27, 29, 30, 32, 33, 35, 37, 38, 41, 44, 46, 47, 50, 51, 54, 57, 58, 61, 63, 65, 68, 69, 71, 73, 74, 77, 79, 81, 82, 83, 84, 85, 86, 89, 92, 94, 95, 97, 98, 101, 102, 103, 105, 106, 109, 111, 113, 114, 115, 118, 120, 121, 122, 125, 126, 128, 131, 132, 133, 135, 137, 140, 141, 144, 146, 149, 150, 153, 155, 156, 157, 160, 163, 166, 169, 170, 171]
  | 34 => [0, 1, 2, 3, 4, 5, 7, 10, 11, 12, 15, 16, 19, 20, 21, 23, 24, 27, 29, 30, 32, 33, 36, 38, 39, 40, 41, 44, 45, 47, 48, 50, 51, 54, 57, 58]
  | 35 => [0, 1, 4, 5, 7, 9, 12, 13, 15, 17, 20, 21, 23, 25, 28, 29, 31, 33, 36, 37]
  | 36 => [0, 1, 2, 5, 6, 7, 10, 11]
  | 37 => [0, 1, 4, 5, 6, 7, 8]
  | 38 => [0, 1, 4, 5, 8, 9, 12, 13, 14, 17, 18, 19, 20, 21, 22, 25, 26, 27, 30, 31, 32, 33, 36, 37, 38, 41, 42, 43, 44, 45, 48, 49, 50, 51, 52, 55, 56, 57, 58, 59, 62, 63, 64, 65, 66, 69, 70, 71, 72, 73, 74, 75, 76]
  | 39 => [0, 1, 4, 5, 6, 7, 8, 9, 12, 13, 16, 17, 18, 19, 20, 21, 22, 23]
  | 40 => [0, 1, 4, 5, 6, 7, 8, 9, 12, 13, 16, 17, 18, 21, 22, 25, 26, 27]
  | 41 => [0, 1, 4, 5, 6, 7, 8, 9, 12, 13, 16, 17, 20, 21, 22, 23]
  | 42 => [0, 1, 4, 5, 6, 7, 8, 11, 12, 13, 14]
  | 43 => [0, 1, 4, 5, 7, 9, 12, 13, 14, 17, 18]
  | 44 => [0, 1, 2, 5, 6, 7, 10, 11, 12, 15, 16, 17, 18, 19, 22, 25, 28, 29, 31, 34, 35, 38, 39, 40, 41, 44, 45, 46, 49, 50, 51, 52, 53, 56, 57, 58, 61, 62, 63, 66, 69, 72, 73, 74, 75, 76, 79, 80, 83, 84]
  | 45 => [0, 1, 2, 3, 6, 9, 10, 11, 14, 15, 16, 17, 19, 21, 22, 25, 28, 29, 30, 33, 34, 37, 40, 41, 44, 45, 47, 50, 51, 53, 55, 56, 59, 60, 63, 66, 68, 69, 72, 73, 74, 76, 77, 78, 79, 82, 85, 86, 87]
  | 46 => [0, 1, 4, 6, 8, 11, 13, 15, 16, 19, 22, 24, 25, 28, 31, 32, 33, 34, 37, 40, 43, 44, 46, 49, 51, 53, 54, 55, 58, 59, 62, 63, 66, 67, 69, 72, 73, 75, 76, 77, 80, 82, 85, 88, 89, 91, 92, 95, 96, 97, 98, 100, 101, 102, 103, 104, 105, 107, 110, 112, 114, 115, 118, 119, 120, 121, 122, 123, 124, 125, 126, 127, 129, 132, 133]
  | 47 => [0, 1, 4, 5, 8, 9, 12, 15, 16, 19, 20, 23, 26, 27]
  | 48 => [0, 1, 2, 4, 7, 10, 11, 12, 14, 17, 20, 22, 23, 24, 27, 28, 29, 32, 33, 34, 35, 36]
  | 49 => [0, 1, 4, 5, 6, 9, 12, 14, 15, 16, 19, 20, 21, 24, 26, 27, 30, 33, 35, 36, 39, 41, 42, 43, 46, 48, 49, 52, 55, 56, 59, 60, 61]
  | 50 => [0, 1, 4, 5, 6, 9, 12, 14, 15, 16, 19, 20, 21, 24, 25, 26, 29, 32, 33, 34, 37, 38, 41, 44, 45, 46, 49, 51, 52, 53, 56, 57, 58, 61, 62]
  | 51 => [0, 1, 4, 5, 6, 9, 12, 14, 15, 16, 19, 20, 21, 24, 25, 26, 29, 32, 33, 34, 37, 39, 40, 41, 44, 45, 46, 49, 50]
  | 52 => [0, 1, 4, 5, 6, 9, 12, 14, 15, 16, 19, 20, 23, 24, 25, 28, 31, 32]
  | 53 => [0, 1, 2, 3, 6, 9, 11, 12, 13, 16, 17, 20, 23, 24]
  | 54 => [0, 1, 4, 5, 6, 9, 12, 13, 14, 15, 18, 21, 23, 24, 25, 28, 29, 32, 35, 36, 39, 40, 41, 44, 45, 46]
  | 55 => [0, 1, 4, 5, 6, 9, 12, 14, 15, 16, 19, 20, 23, 24, 25, 28, 31, 32]
  | 56 => [0, 1, 4, 7, 8]
  | 57 => [0, 1, 4, 5, 8, 9]
  | 58 => [0, 1, 4, 7, 8]
  | 59 => [0, 1, 4, 7, 8]
  | 60 => [0, 1, 2, 4, 7, 10, 11, 12, 14, 17, 20, 22, 23, 24, 27, 28, 29, 32, 33, 34, 35, 36]
  | 61 => [0, 1, 2, 4, 7, 10, 12, 13, 14, 17, 20, 22, 25, 27, 28, 29, 32, 33, 36, 37]
  | 62 => [0, 1, 4, 7, 10, 12, 13, 14, 17, 20, 21]
  | 63 => [0, 1, 2, 4, 7, 10, 12, 13, 14, 17, 18, 21, 22]
  | 64 => [0, 1, 4, 7, 8]
  | 65 => [0, 1, 2, 3, 6, 9, 11, 12, 13, 16, 19, 22, 23, 24, 25, 28, 31, 32, 33, 36, 39, 40, 41, 42, 45, 46, 49, 52, 53, 54, 57, 58, 61, 64, 65, 66, 67]
  | 66 => [0, 1, 4, 7, 8]
  | 67 => [0, 1, 2, 5, 6, 7, 10, 11, 14, 15, 16]
  | 68 => [0, 1, 4, 5, 6, 9, 10, 11, 14, 15, 17, 19, 22, 23, 25, 27, 30, 31, 34, 36, 39, 40, 41, 43, 46, 47, 49, 51, 54, 55, 56, 59, 60, 61, 64, 65, 67, 69, 72, 73, 75, 77, 80, 81, 83, 85, 88, 89, 92, 94, 97, 98, 101, 103, 106, 107, 109, 111, 114, 115, 117, 119, 122, 123, 125, 127, 130, 131, 132, 133, 136, 139, 140, 143, 144, 145, 148, 149, 150, 151, 152, 153, 154, 155, 156, 157, 160, 163, 164]
  | 69 => [0, 1, 2, 5, 6, 7, 10, 11, 14, 15, 16]
  | 70 => [0, 1, 2, 4, 7, 10, 11, 12, 14, 17, 20, 22, 23, 24, 25, 28, 29, 30, 33, 34, 35, 38, 39, 40, 41, 43, 46, 47, 50, 51, 52, 53, 54, 57, 58, 59, 60, 63, 66, 67, 68, 71, 72, 73, 74, 75]
  | 71 => [0, 1, 2, 3, 6, 7, 8, 11, 14, 15, 16, 17, 20, 21, 22, 25, 28, 29, 32, 33, 34]
  | 72 => [0, 1, 2, 3, 6, 9, 11, 12, 13, 14, 17, 18, 19, 20, 22, 23, 26, 28, 29, 32, 34, 35, 36, 39, 41, 42, 43, 46, 47, 50, 51, 53, 54, 57, 59, 60, 63, 64, 67, 68, 69, 70, 71, 74, 76, 77]
  | 73 => [0, 1, 2, 3, 6, 9, 11, 12, 13, 14, 17, 18, 19, 20, 21, 22, 25, 26, 27, 30, 31, 34, 35, 36, 39, 41, 42, 43, 46, 47, 48, 49, 50, 51, 54, 55, 56, 59, 60, 63, 64]
  | 74 => [0, 1, 2, 3, 6, 9, 11, 12, 13, 14, 17, 18, 19, 20, 21, 22, 25, 26, 27, 30, 32, 33, 34, 37, 38, 39, 40, 41, 42, 45, 46, 47, 50, 51, 54, 55]
  | 75 => [0, 1, 2, 3, 6, 9, 10, 13, 14, 15, 18, 19, 20, 21, 22, 25, 26, 29, 30, 31]
  | 76 => [0, 1, 4, 7, 8, 9, 10, 13, 14, 17, 18, 19, 20, 21, 24, 25, 26, 27, 28, 29, 30, 32, 35, 36, 39, 40, 41, 42, 45, 48, 49, 50, 51, 52, 55, 58, 59, 60, 61, 62, 65, 68, 69, 70, 71, 72, 75, 76, 77, 78, 79, 82, 85, 88, 91, 94, 97, 100, 101]
  | 77 => [0, 1, 2, 5, 6, 7, 8, 10, 11, 13, 14, 17, 19, 20, 23, 24, 27, 28, 29, 30, 31, 32, 35, 38, 39, 40, 41, 42, 43, 46, 48, 50, 53, 54, 57, 59, 60, 61, 62, 65, 67, 68, 69, 72, 74, 75, 78, 79, 80, 81, 83, 86, 87, 90, 91, 92, 94, 95, 98, 99, 100, 101, 102, 103, 104, 105, 108, 110, 111, 112, 114, 115, 116, 117, 118, 119, 120, 121, 124, 126, 127, 128, 130, 131, 133, 134, 135]
  | 78 => [0, 1, 2, 3, 5, 7, 8, 11, 12, 15, 16, 19, 20, 23, 24, 27, 29, 30, 33, 34, 37, 39, 40, 41, 43, 44, 45, 46, 49, 50, 53, 54, 55, 58, 61, 62, 63]
  | 79 => [0, 1, 4, 5, 6, 9, 10, 11, 12, 15, 16, 17, 20, 23, 24, 25, 26, 29, 31, 32, 33, 34, 37, 40, 41, 44, 45, 46]
  | 80 => [0, 1, 2, 3, 6, 9, 11, 12, 13, 16, 17, 18, 21, 22, 23, 24, 25, 26, 29, 30, 31, 34, 35, 36, 37, 40, 41, 42, 45, 46, 49, 50, 51, 54, 57, 58, 61, 62, 63]
  | 81 => [0, 1, 2, 3, 6, 9, 11, 12, 13, 16, 17, 20, 21, 22, 23]
  | 82 => [0, 1, 2, 3, 6, 9, 10, 11, 12, 15, 18, 20, 21, 22, 25, 26, 29, 31, 32, 33, 34, 35, 38, 39, 40, 41, 42, 43, 44]
  | 83 => [0, 1, 2, 3, 6, 9, 11, 12, 13, 16, 17, 18, 21, 22, 23, 24, 25, 26, 29, 30, 31, 34, 35, 38, 39, 42, 43, 46, 47, 48, 49, 50, 53, 55, 56, 59, 61, 62, 63, 64, 65, 66, 67, 68, 69, 70]
  | 84 => [0, 1, 4, 5, 6, 7, 8, 9, 10, 13, 14, 17, 18, 21, 22, 23, 24, 27, 30, 31, 34, 35, 36, 37, 40, 43, 44, 45]
  | 85 => [0, 1, 4, 5, 6, 7, 8, 9, 10, 13, 14, 17, 18, 21, 22, 25, 26, 27, 30, 31, 32, 35, 38, 39, 40, 43, 44, 45, 48, 51, 54, 55, 56]
  | 86 => [0, 1, 2, 3, 5, 7, 8, 9, 12, 13, 14, 17, 19, 22, 23, 24, 25, 26, 27, 29, 31, 32, 34, 37, 38, 39]
  | 87 => [0, 1, 4, 5, 6, 7, 8, 9, 10, 11, 14, 15, 16, 19, 20, 21, 22, 24, 26, 27, 30, 31, 34, 35, 38, 39, 42, 44, 45, 46, 48, 49, 50, 51, 54, 55, 56, 57, 60, 62, 63, 64, 65, 66, 68, 69, 70, 71, 72, 73, 76, 79, 80, 82, 84, 85, 86, 87, 90, 91, 94, 96, 97, 98, 99, 100, 101, 104, 106, 107, 108, 109, 110, 113, 116, 119, 122, 123]
  | 88 => [0, 1, 2, 3, 5, 7, 8, 11, 12, 15, 16, 19, 20, 23, 25, 26, 29, 30, 31, 32, 35, 37, 38, 39, 41, 42, 43, 44, 45, 46, 49, 52, 53, 54]
  | 89 => [0, 1, 4, 5, 8, 9, 10, 12, 15, 16, 19, 20, 21, 22, 25, 26, 27, 29, 32, 34, 35, 36, 37, 40, 41, 42, 45, 46, 47, 48, 49, 50, 51, 52, 53, 56, 57, 58, 59, 60, 61, 62, 65, 67, 68, 70, 71, 73, 75, 76, 79, 81, 82, 83, 84, 87, 88, 91, 92, 94, 95, 96, 97, 98, 100, 103, 104, 105, 107, 109, 110, 113, 115, 116, 119, 120, 121, 122, 123, 126, 127, 129, 132, 133, 135, 136, 137, 138, 139, 141, 144, 145, 147, 149, 150, 153, 155, 157, 160, 162, 165, 167, 169, 172, 175, 177, 178]
  | 90 => [0, 1, 3, 4, 6, 8, 11, 12, 14, 15, 18, 19, 20, 23, 25, 26, 27, 28, 31, 32, 34, 36, 38, 41, 43, 46, 48, 50, 52, 53, 54, 55, 56, 58, 61, 63, 64]
  | 91 => [0, 1, 4, 5, 6, 7, 9, 12, 13, 16, 17, 18, 19, 22, 25, 26, 27, 28, 29, 30, 31, 34, 35, 36, 39, 40, 41, 42, 45, 48, 49, 52, 53, 54, 55, 58, 61, 62, 63]
  | 92 => [0, 1, 2, 3, 5, 7, 8, 11, 12, 15, 16, 19, 20, 23, 24, 27, 29, 30, 31, 34, 35, 38, 40, 42, 43, 44, 45, 48, 49, 52, 53, 54, 57, 60, 61, 62]
  | 93 => [0, 1, 2, 3, 5, 8, 9, 12, 13, 14, 15, 18, 21, 22, 23, 24, 27, 28, 29, 30, 31, 32, 33, 34, 37, 38, 41, 42, 43, 45, 46, 48, 50, 51, 54, 55, 56, 59, 60, 63, 65, 66, 67, 70, 71, 73, 75, 78, 81, 82, 85, 87, 89, 90, 91, 94, 96, 97, 98, 101, 102, 104, 105, 108, 109, 110, 111, 114, 115, 116, 119, 121, 122, 123, 126, 129, 132, 135, 138, 139, 140]
  | 94 => [0, 1, 2, 3, 5, 7, 10, 11, 14, 15, 16, 18, 19, 21, 22, 24, 26, 27, 30, 31, 32, 35, 36, 39, 41, 42, 44, 47, 49, 52, 54, 56, 59, 62, 63, 66, 67, 69, 70, 72, 73, 76, 77, 80, 81, 83, 85, 86, 89, 90]
  | 95 => [0, 1, 2, 4, 7, 10, 11, 12, 14, 17, 20, 22, 23, 24, 25, 28, 29, 30, 33, 34, 35, 38, 39, 40, 43, 44, 45, 46, 47]
  | 96 => [0, 1, 2, 4, 7, 10, 12, 13, 14, 17, 19, 22, 24, 25, 26, 29, 30, 33, 34, 35, 36, 37, 40, 41, 42, 45, 46, 47, 50, 51, 54, 55, 56, 57]
  | 97 => [0, 1, 4, 7, 9, 10, 11, 12, 15, 16, 17, 20, 21, 22, 25, 26, 29, 30]
  | 98 => [0, 1, 4, 5, 6, 7, 10, 11, 12, 13, 16, 17, 18, 19, 22, 23, 26, 27, 28, 29, 32, 33, 34, 35, 38, 39, 40, 41, 44, 45, 48, 49, 50, 51, 54, 55, 56, 57, 60, 61, 62, 63, 66, 67, 70, 71, 72, 73, 76, 77, 78, 79, 82, 83, 84, 85, 88, 89, 92, 93, 94]
  | 99 => [0, 1, 2, 3, 4, 5, 6, 9, 10, 13, 14, 15, 16, 19, 22, 23, 26, 27, 28, 31, 34, 35, 36]
  | 100 => [0, 1, 4, 5, 8, 9, 10, 11, 12, 13, 16, 17, 20, 21, 22, 23, 24, 25, 28, 29, 30, 31, 32, 33, 34, 35, 38, 39, 40, 41, 44, 45, 48, 49, 50, 51, 52, 55, 56, 57, 58, 59, 60, 61, 62, 65, 66, 69, 70, 71, 72, 75, 76, 79, 80, 81]
  | 101 => [0, 1, 2, 4, 7, 10, 12, 13, 14, 15, 18, 19, 20, 23, 24, 25, 26, 29, 32, 33, 36, 37, 38, 39, 40, 43, 44, 45, 46, 47, 50, 51, 52, 55, 58, 59, 60, 63, 66, 69, 72, 73, 76, 77, 80, 81, 82, 83, 84, 87, 88, 89, 92, 93, 94, 97, 100, 103, 104, 105, 108, 111, 112, 115, 116, 117, 118, 119, 122, 123, 124, 125, 128, 129, 130, 133, 134, 137, 138, 141, 142, 145, 148, 149, 152, 153, 154]
  | 102 => [0, 1, 4, 5]
  | 103 => [0, 1, 2, 3, 6, 9, 11, 12, 13, 16, 19, 20, 21, 22, 25, 26, 27, 30, 33, 34, 35, 36, 39, 40, 43, 44, 45, 48, 49, 52, 53, 54, 55]
  | 104 => [0, 1, 4, 5, 8, 9, 10, 11, 12, 13, 14, 17, 20, 21, 22, 25, 26, 27, 28, 31, 32, 33, 34, 35, 36, 39, 42, 43, 44]
  | 105 => [0, 1, 2, 3, 4, 7, 8, 9, 10, 11, 14, 15, 16, 17, 18, 21, 22, 23, 24, 25, 26, 27, 28, 29, 32, 33, 34, 35, 36, 38, 39, 40, 41, 42, 43, 45, 46, 47, 48, 49, 50, 52, 53, 54, 55, 56, 57, 59, 60, 61]
  | _ => [0, 3, 4, 7, 8, 11, 12, 15, 16, 17, 18, 19, 20, 21, 22, 23, 26, 27, 28, 29, 31, 32, 124, 125, 126, 127, 128, 129, 130, 131, 132, 133, 134, 135, 138, 139, 140, 141, 142, 143, 144, 145, 146, 147, 148, 149, 152, 155, 156, 157, 158, 159, 160, 161, 162, 163, 164, 165, 166, 167, 168, 169, 170, 171, 172, 173, 176, 177, 180, 181, 184, 185, 186, 187, 188, 189, 190, 191, 192, 193, 194, 195, 196, 197, 198, 199, 200, 203, 204, 207, 208, 211, 214, 215, 216, 217, 218, 219, 220, 221, 222, 223, 224, 225, 226, 227, 230, 231, 232, 233, 234, 235, 236, 237, 238, 239, 240, 241, 244, 247, 248, 249, 250, 251, 252, 253, 254, 255, 256, 257, 258, 259, 260, 263, 264, 265, 266, 267, 268, 269, 270, 271, 272, 273, 274, 277, 280, 281, 282, 283, 284, 285, 286, 287, 288, 289, 290, 291, 292, 293, 296, 297, 298, 299, 300, 301, 302, 303, 304, 305, 306, 307, 310, 313, 314, 315, 316, 317, 318, 319, 320, 321, 324, 325, 326, 327, 328, 329, 330, 333, 336, 337, 338, 339, 340, 341, 342, 343, 344, 345, 346, 347, 348, 349, 350, 351, 352, 353, 354, 357, 358, 359, 360, 361, 362, 363, 364, 365, 366, 367, 368, 369, 370, 371, 372, 373, 376, 379, 380, 381, 382, 383, 384, 385, 386, 387, 388, 389, 390, 391, 392, 395, 396, 397, 398, 399, 400, 401, 402, 403, 404, 405, 406, 409, 412, 413, 414, 415, 418, 419, 422, 425, 426, 427, 428, 429, 430, 431, 432, 433, 436, 437, 438, 439, 440, 441, 442, 445, 448, 449, 450, 451, 454, 455, 458, 461, 462, 463, 464, 467, 468, 471, 474, 475, 476, 477, 478, 479, 480, 481, 482, 483, 484, 485, 486, 487, 490, 491, 492, 493, 494, 495, 496, 497, 498, 499, 500, 501, 504, 507, 508, 509, 510, 511, 512, 513, 514, 515, 518, 519, 520, 521, 522, 523, 524, 527, 530, 531, 532, 533, 536, 537, 540, 543, 544, 545, 546, 547, 548, 549, 550, 551, 554, 555, 556, 557, 558, 559, 560, 563, 566, 567, 568, 569, 572, 573, 576, 579, 580, 581, 582, 583, 584, 585, 586, 587, 588, 589, 590, 591, 592, 595, 596, 597, 598, 599, 600, 601, 602, 603, 604, 605, 606, 609, 612, 613, 614, 615, 618, 619, 622, 625, 626, 627, 630, 633, 634, 635]
def pm_y (mi : Nat) : MethodName := match mi with
  | 0 => yX0_init
  | 1 => yX0_clear
  | 2 => yX0_append
  | 3 => yX0_removeLast
  | 4 => yX0_countLeft
  | 5 => yX0_fill
  | 6 => yX0_layAll
  | 7 => yX0_emptyBox
  | 8 => yX0_startOver
  | 9 => yX0_hasPlace
  | 10 => yX0_goOn
  | 11 => yX0_tryPlace
  | 12 => yX0_breadthOf
  | 13 => yX0_isFree
  | 14 => yX0_layOrLift
  | 15 => yX1_init
  | 16 => yX1_clear
  | 17 => yX1_holds
  | 18 => yX1_numberOf
  | 19 => yX1_along
  | 20 => yX1_numberRuns
  | 21 => yX1_numberCell
  | 22 => yX1_changeWall
  | 23 => yX1_changeGuard
  | 24 => yX1_isSeen
  | 25 => yX1_kindOf
  | 26 => yX1_sightFrom
  | 27 => yX1_countSeen
  | 28 => yX1_findMissed
  | 29 => yX1_leastMore
  | 30 => yX1_mostPeaceful
  | 31 => yX2_init
  | 32 => yX2_most
  | 33 => yX2_findPair
  | 34 => yX2_pairBack
  | 35 => yX3_init
  | 36 => yX3_clear
  | 37 => yX3_takeShut
  | 38 => yX3_takeOpen
  | 39 => yX3_addGuards
  | 40 => yX3_isWatched
  | 41 => yX3_lengthAt
  | 42 => yX3_cellOf
  | 43 => yX4_init
  | 44 => yX4_leastGuards
  | 45 => yX4_findUnseenFar
  | 46 => yX4_choose
  | 47 => yX5_init
  | 48 => yX5_hall
  | 49 => yX5_wall
  | 50 => yX5_guard
  | 51 => yX5_leave
  | 52 => yX5_cell
  | 53 => yX5_runs
  | 54 => yX5_run
  | 55 => yX5_sees
  | 56 => yX5_seen
  | 57 => yX5_missed
  | 58 => yX5_more
  | 59 => yX5_peace
  | 60 => yX5_box
  | 61 => yX5_square
  | 62 => yX5_drop
  | 63 => yX5_pack
  | 64 => yX5_tried
  | 65 => yX5_place
  | 66 => yX5_left
  | 67 => yX5_isWithin
  | 68 => yX6_init
  | 69 => yX6_within
  | 70 => yX6_hall
  | 71 => yX6_isCell
  | 72 => yX6_wall
  | 73 => yX6_guard
  | 74 => yX6_leave
  | 75 => yX6_isOpen
  | 76 => yX6_part
  | 77 => yX6_partCell
  | 78 => yX6_isTouched
  | 79 => yX6_isSeen
  | 80 => yX6_cell
  | 81 => yX6_runs
  | 82 => yX6_run
  | 83 => yX6_sees
  | 84 => yX6_seen
  | 85 => yX6_missed
  | 86 => yX6_count
  | 87 => yX6_cross
  | 88 => yX6_touched
  | 89 => yX6_more
  | 90 => yX6_most
  | 91 => yX6_peace
  | 92 => yX6_doCross
  | 93 => yX6_finds
  | 94 => yX6_turn
  | 95 => yX6_box
  | 96 => yX6_square
  | 97 => yX6_drop
  | 98 => yX6_isApart
  | 99 => yX6_lies
  | 100 => yX6_goesOn
  | 101 => yX6_pack
  | 102 => yX6_tried
  | 103 => yX6_place
  | 104 => yX6_left
  | 105 => yJ13_bitCount_95d88
  | _ => x
def pm_b (mi : Nat) : ByteArray := match mi with
  | 0 => cX0_init
  | 1 => cX0_clear
  | 2 => cX0_append
  | 3 => cX0_removeLast
  | 4 => cX0_countLeft
  | 5 => cX0_fill
  | 6 => cX0_layAll
  | 7 => cX0_emptyBox
  | 8 => cX0_startOver
  | 9 => cX0_hasPlace
  | 10 => cX0_goOn
  | 11 => cX0_tryPlace
  | 12 => cX0_breadthOf
  | 13 => cX0_isFree
  | 14 => cX0_layOrLift
  | 15 => cX1_init
  | 16 => cX1_clear
  | 17 => cX1_holds
  | 18 => cX1_numberOf
  | 19 => cX1_along
  | 20 => cX1_numberRuns
  | 21 => cX1_numberCell
  | 22 => cX1_changeWall
  | 23 => cX1_changeGuard
  | 24 => cX1_isSeen
  | 25 => cX1_kindOf
  | 26 => cX1_sightFrom
  | 27 => cX1_countSeen
  | 28 => cX1_findMissed
  | 29 => cX1_leastMore
  | 30 => cX1_mostPeaceful
  | 31 => cX2_init
  | 32 => cX2_most
  | 33 => cX2_findPair
  | 34 => cX2_pairBack
  | 35 => cX3_init
  | 36 => cX3_clear
  | 37 => cX3_takeShut
  | 38 => cX3_takeOpen
  | 39 => cX3_addGuards
  | 40 => cX3_isWatched
  | 41 => cX3_lengthAt
  | 42 => cX3_cellOf
  | 43 => cX4_init
  | 44 => cX4_leastGuards
  | 45 => cX4_findUnseenFar
  | 46 => cX4_choose
  | 47 => cX5_init
  | 48 => cX5_hall
  | 49 => cX5_wall
  | 50 => cX5_guard
  | 51 => cX5_leave
  | 52 => cX5_cell
  | 53 => cX5_runs
  | 54 => cX5_run
  | 55 => cX5_sees
  | 56 => cX5_seen
  | 57 => cX5_missed
  | 58 => cX5_more
  | 59 => cX5_peace
  | 60 => cX5_box
  | 61 => cX5_square
  | 62 => cX5_drop
  | 63 => cX5_pack
  | 64 => cX5_tried
  | 65 => cX5_place
  | 66 => cX5_left
  | 67 => cX5_isWithin
  | 68 => cX6_init
  | 69 => cX6_within
  | 70 => cX6_hall
  | 71 => cX6_isCell
  | 72 => cX6_wall
  | 73 => cX6_guard
  | 74 => cX6_leave
  | 75 => cX6_isOpen
  | 76 => cX6_part
  | 77 => cX6_partCell
  | 78 => cX6_isTouched
  | 79 => cX6_isSeen
  | 80 => cX6_cell
  | 81 => cX6_runs
  | 82 => cX6_run
  | 83 => cX6_sees
  | 84 => cX6_seen
  | 85 => cX6_missed
  | 86 => cX6_count
  | 87 => cX6_cross
  | 88 => cX6_touched
  | 89 => cX6_more
  | 90 => cX6_most
  | 91 => cX6_peace
  | 92 => cX6_doCross
  | 93 => cX6_finds
  | 94 => cX6_turn
  | 95 => cX6_box
  | 96 => cX6_square
  | 97 => cX6_drop
  | 98 => cX6_isApart
  | 99 => cX6_lies
  | 100 => cX6_goesOn
  | 101 => cX6_pack
  | 102 => cX6_tried
  | 103 => cX6_place
  | 104 => cX6_left
  | 105 => cJ13_bitCount_95d88
  | _ => cL_law
def pm_nl (mi : Nat) : Nat := match mi with
  | 0 => 1
  | 1 => 3
  | 2 => 2
  | 3 => 1
  | 4 => 3
  | 5 => 3
  | 6 => 4
  | 7 => 2
  | 8 => 2
  | 9 => 2
  | 10 => 2
  | 11 => 2
  | 12 => 2
  | 13 => 5
  | 14 => 5
  | 15 => 1
  | 16 => 4
  | 17 => 3
  | 18 => 3
  | 19 => 2
  | 20 => 3
  | 21 => 4
  | 22 => 3
  | 23 => 4
  | 24 => 2
  | 25 => 2
  | 26 => 2
  | 27 => 3
  | 28 => 4
  | 29 => 4
  | 30 => 1
  | 31 => 1
  | 32 => 9
  | 33 => 11
  | 34 => 6
  | 35 => 1
  | 36 => 2
  | 37 => 2
  | 38 => 4
  | 39 => 4
  | 40 => 3
  | 41 => 3
  | 42 => 3
  | 43 => 2
  | 44 => 4
  | 45 => 6
  | 46 => 10
  | 47 => 1
  | 48 => 3
  | 49 => 5
  | 50 => 4
  | 51 => 4
  | 52 => 3
  | 53 => 2
  | 54 => 4
  | 55 => 3
  | 56 => 1
  | 57 => 2
  | 58 => 1
  | 59 => 1
  | 60 => 3
  | 61 => 2
  | 62 => 1
  | 63 => 2
  | 64 => 1
  | 65 => 3
  | 66 => 1
  | 67 => 3
  | 68 => 2
  | 69 => 3
  | 70 => 4
  | 71 => 3
  | 72 => 6
  | 73 => 4
  | 74 => 4
  | 75 => 3
  | 76 => 4
  | 77 => 7
  | 78 => 5
  | 79 => 2
  | 80 => 4
  | 81 => 2
  | 82 => 4
  | 83 => 4
  | 84 => 3
  | 85 => 4
  | 86 => 6
  | 87 => 6
  | 88 => 5
  | 89 => 11
  | 90 => 7
  | 91 => 3
  | 92 => 5
  | 93 => 6
  | 94 => 8
  | 95 => 3
  | 96 => 2
  | 97 => 1
  | 98 => 3
  | 99 => 4
  | 100 => 4
  | 101 => 3
  | 102 => 1
  | 103 => 3
  | 104 => 3
  | 105 => 2
  | _ => 4
def pm_r (mi : Nat) : Option FieldType := match mi with
  | 0 => none
  | 1 => none
  | 2 => some .int
  | 3 => some .int
  | 4 => some .int
  | 5 => some .int
  | 6 => some .int
  | 7 => none
  | 8 => none
  | 9 => some .boolean
  | 10 => none
  | 11 => some .boolean
  | 12 => some .int
  | 13 => some .boolean
  | 14 => none
  | 15 => none
  | 16 => none
  | 17 => some .boolean
  | 18 => some .int
  | 19 => some (.object "GuardPacks$Runs")
  | 20 => none
  | 21 => none
  | 22 => some .boolean
  | 23 => some .int
  | 24 => some .boolean
  | 25 => some .int
  | 26 => some .int
  | 27 => some .int
  | 28 => some .int
  | 29 => some .int
  | 30 => some .int
  | 31 => none
  | 32 => some .int
  | 33 => some .boolean
  | 34 => none
  | 35 => none
  | 36 => none
  | 37 => none
  | 38 => none
  | 39 => none
  | 40 => some .boolean
  | 41 => some .int
  | 42 => some .int
  | 43 => none
  | 44 => some .int
  | 45 => some .long
  | 46 => none
  | 47 => none
  | 48 => some .int
  | 49 => some .int
  | 50 => some .int
  | 51 => some .int
  | 52 => some .int
  | 53 => some .int
  | 54 => some .int
  | 55 => some .int
  | 56 => some .int
  | 57 => some .int
  | 58 => some .int
  | 59 => some .int
  | 60 => some .int
  | 61 => some .int
  | 62 => some .int
  | 63 => some .int
  | 64 => some .int
  | 65 => some .int
  | 66 => some .int
  | 67 => some .boolean
  | 68 => none
  | 69 => some .boolean
  | 70 => some .int
  | 71 => some .boolean
  | 72 => some .int
  | 73 => some .int
  | 74 => some .int
  | 75 => some .boolean
  | 76 => none
  | 77 => none
  | 78 => some .boolean
  | 79 => some .boolean
  | 80 => some .int
  | 81 => some .int
  | 82 => some .int
  | 83 => some .int
  | 84 => some .int
  | 85 => some .int
  | 86 => some .int
  | 87 => none
  | 88 => some .long
  | 89 => some .int
  | 90 => some .int
  | 91 => some .int
  | 92 => some .boolean
  | 93 => some .boolean
  | 94 => none
  | 95 => some .int
  | 96 => some .int
  | 97 => some .int
  | 98 => some .boolean
  | 99 => some .boolean
  | 100 => some .boolean
  | 101 => some .int
  | 102 => some .int
  | 103 => some .int
  | 104 => some .int
  | 105 => some .int
  | _ => some .boolean
def pm_pc (mi k : Nat) : Nat := (pm_pcs mi).getD k 0
/-- words of a nest: they go with a method's start, not with its words -/
def pm_isN : Jvm.Cond → Bool
  | .fieldLinkNest .. => true
  | .methodLinkNest .. => true
  | _ => false
def pm_use (w : Jvm.Cond) : Bool := goodWord w || pm_isN w
/-- the tables' words that are used -/
def pm_tbl : List Jvm.Cond := lw_tbl.filter pm_use
theorem pm_tb {w : Jvm.Cond} (i : Nat) (h : tables_1[i]? = some w ∧ pm_use w = true) : w ∈ pm_tbl := List.mem_filter.mpr ⟨List.mem_append_right _ (List.mem_of_getElem? h.1), h.2⟩
theorem pm_tp {w : Jvm.Cond} (i : Nat) (h : (k2_sels lw_privs)[i]? = some w ∧ pm_use w = true) : w ∈ pm_tbl := List.mem_filter.mpr ⟨List.mem_append_left _ (List.mem_of_getElem? h.1), h.2⟩
theorem pm_cw0 : ∀ w ∈ u_ws RX0 TX0 9, w ∈ pm_tbl := by decide +kernel
theorem pm_dfX0 : ∀ j, j < 9 → defaultValue (tyX0 j) = vp_V (pm_df 0) j := by decide +kernel
theorem pm_cw1 : ∀ w ∈ u_ws RX1 TX1 9, w ∈ pm_tbl := by decide +kernel
theorem pm_dfX1 : ∀ j, j < 9 → defaultValue (tyX1 j) = vp_V (pm_df 1) j := by decide +kernel
theorem pm_cw2 : ∀ w ∈ u_ws RX2 TX2 6, w ∈ pm_tbl := by decide +kernel
theorem pm_dfX2 : ∀ j, j < 6 → defaultValue (tyX2 j) = vp_V (pm_df 2) j := by decide +kernel
theorem pm_cw3 : ∀ w ∈ u_ws RX3 TX3 6, w ∈ pm_tbl := by decide +kernel
theorem pm_dfX3 : ∀ j, j < 6 → defaultValue (tyX3 j) = vp_V (pm_df 3) j := by decide +kernel
theorem pm_cw4 : ∀ w ∈ u_ws RX4 TX4 5, w ∈ pm_tbl := by decide +kernel
theorem pm_dfX4 : ∀ j, j < 5 → defaultValue (tyX4 j) = vp_V (pm_df 4) j := by decide +kernel
theorem pm_cw5 : ∀ w ∈ u_ws RX5 TX5 2, w ∈ pm_tbl := by decide +kernel
theorem pm_dfX5 : ∀ j, j < 2 → defaultValue (tyX5 j) = vp_V (pm_df 5) j := by decide +kernel
theorem pm_cw6 : ∀ w ∈ u_ws RX6 TX6 22, w ∈ pm_tbl := by decide +kernel
theorem pm_dfX6 : ∀ j, j < 22 → defaultValue (tyX6 j) = vp_V (pm_df 6) j := by decide +kernel
end
section
/-! A PURE MACHINE: a few opcodes over a list of cells; the class's, the reference's and the law's code stands in tables (pm_cd); part 04 proves that what it does, the JVM does. -/
abbrev pm_E : Type := (Nat × vp_A) ⊕ (Nat × List Value)
abbrev pm_H : Type := List pm_E
abbrev pm_L : Type := List (Option Value)
abbrev pm_S : Type := Nat × pm_L × List Value × pm_H
abbrev pm_C : Type := Nat → List Value → pm_H → Option Value → pm_H → Prop
def pm_get (h : pm_H) (r : Nat) : Option pm_E := match r with
  | 0 => none
  | k + 1 => h[k]?
def pm_set (h : pm_H) (r : Nat) (x : pm_E) : pm_H := match r with
  | 0 => h
  | k + 1 => h.set k x
def pm_kd (b : Nat) (w : Value) : Bool := match b, w with
  | 0, .int _ => true
  | 1, .long _ => true
  | 2, .ref _ => true
  | 2, .null => true
  | _, _ => false
def pm_clr (ls : pm_L) (i : Nat) : pm_L := match i with
  | 0 => ls
  | j + 1 => match ls[j]? with
    | some (some w) => match Nat.beq w.category 2 with
      | true => ls.set j none
      | false => ls
    | _ => ls
def pm_sto (ls : pm_L) (i : Nat) (w : Value) : pm_L := match Nat.beq w.category 2 with
  | true => ((pm_clr ls i).set (i + 1) none).set i (some w)
  | false => (pm_clr ls i).set i (some w)
def pm_ib (b : Nat) (x y : Int32) : Int32 := match b with
  | 0 => x + y
  | 1 => x - y
  | 2 => x * y
  | 3 => x &&& y
  | 4 => x ||| y
  | 5 => x ^^^ y
  | 6 => x <<< (y &&& 31)
  | 7 => x >>> (y &&& 31)
  | _ => (x.toUInt32 >>> (y.toUInt32 &&& Int32.toUInt32 31)).toInt32
def pm_lb (b : Nat) (x y : Int64) : Int64 := match b with
  | 0 => x + y
  | 1 => x - y
  | 2 => x * y
  | 3 => x &&& y
  | 4 => x ||| y
  | _ => x ^^^ y
def pm_ls (b : Nat) (x : Int64) (y : Int32) : Int64 := match b with
  | 0 => x <<< (y.toInt64 &&& 63)
  | 1 => x >>> (y.toInt64 &&& 63)
  | _ => (x.toUInt64 >>> (y.toInt64.toUInt64 &&& Int64.toUInt64 63)).toInt64
def pm_br (b : Nat) (x y : Int32) (A B : Prop) : Prop := match b with
  | 0 => (x = y → A) ∧ (¬ x = y → B)
  | 1 => (¬ x = y → A) ∧ (x = y → B)
  | 2 => (x < y → A) ∧ (¬ x < y → B)
  | 3 => (y ≤ x → A) ∧ (¬ y ≤ x → B)
  | 4 => (y < x → A) ∧ (¬ y < x → B)
  | _ => (x ≤ y → A) ∧ (¬ x ≤ y → B)
/-- a class's receiver check -/
def pm_rcv (tl : List Nat) (st : List Value) (na : Nat) (h : pm_H) : Bool := match tl with
  | [] => true
  | ci :: _ => match st[na - 1]? with
    | some (.ref o) => match pm_get h o with
      | some (.inr (cj, _)) => Nat.beq ci cj
      | _ => false
    | _ => false
def pm_cat (st : List Value) : Nat := (st.map fun v => v.category).sum
def pm_rk (a : Nat) (st : List Value) (F : Option Value → Prop) : Prop := match a with
  | 0 => match st with
    | [] => F none
    | _ => False
  | 1 => match st with
    | [.int x] => F (some (.int x))
    | _ => False
  | 2 => match st with
    | [.int x] => (x = 0 ∨ x = 1) ∧ F (some (.int x))
    | _ => False
  | 3 => match st with
    | [.long x] => F (some (.long x))
    | _ => False
  | 4 => match st with
    | [.ref o] => F (some (.ref o))
    | [.null] => F (some .null)
    | _ => False
  | _ => False
/-- a store in a field: kind 3 is boolean -/
def pm_fk (b : Nat) (w : Value) (A : Prop) : Prop := match b with
  | 3 => match w with
    | .int x => (x = 0 ∨ x = 1) ∧ A
    | _ => False
  | _ => match pm_kd b w with
    | true => A
    | false => False
/-- a load from an array -/
def pm_al (sc : Nat × (Nat → Int32)) (b : Nat) (h : pm_H) (o : Nat) (i : Int32) (K : Value → Prop) : Prop := match o with
  | 0 => match b with
    | 0 => vp_in i sc.1 ∧ K (.int (sc.2 i.toNatClampNeg))
    | _ => False
  | o' + 1 => match h[o']? with
    | some (.inl (kk, n, .inl f)) => match Nat.beq kk b && Nat.ble b 1 with
      | true => vp_in i n ∧ K (.int (f i.toNatClampNeg))
      | false => False
    | some (.inl (kk, n, .inr (.inl f))) => match Nat.beq kk b && Nat.beq b 2 with
      | true => vp_in i n ∧ K (.long (f i.toNatClampNeg))
      | false => False
    | _ => False
/-- a store in an array -/
def pm_as (b : Nat) (h : pm_H) (o : Nat) (i : Int32) (w : Value) (K : pm_H → Prop) : Prop := match o with
  | 0 => False
  | o' + 1 => match h[o']? with
    | some (.inl (kk, n, .inl f)) => match w with
      | .int x => match Nat.beq kk b with
        | true => match b with
          | 0 => vp_in i n ∧ K (h.set o' (.inl (kk, n, .inl (upd f i.toNatClampNeg x))))
          | 1 => vp_in i n ∧ (x = 0 ∨ x = 1) ∧ K (h.set o' (.inl (kk, n, .inl (upd f i.toNatClampNeg x))))
          | _ => False
        | false => False
      | _ => False
    | some (.inl (kk, n, .inr (.inl f))) => match w with
      | .long x => match Nat.beq kk b && Nat.beq b 2 with
        | true => vp_in i n ∧ K (h.set o' (.inl (kk, n, .inr (.inl (vp_updL f i.toNatClampNeg x)))))
        | false => False
      | _ => False
    | _ => False
def pm_len (sc : Nat × (Nat → Int32)) (_ : pm_H) (o : Nat) : Option Nat := match o with
  | 0 => some sc.1
  | _ => none
def pm_zero (k n : Nat) : pm_E := match k with
  | 2 => .inl (2, n, .inr (.inl (fun _ => 0)))
  | k => .inl (k, n, .inl (fun _ => 0))
def pm_fl (av : List Value) : pm_L := match av with
  | [] => []
  | v :: r => match Nat.beq v.category 2 with
    | true => some v :: none :: pm_fl r
    | false => some v :: pm_fl r
/-- one instruction: K takes the state behind it, F what is returned -/
def pm_sk (sc : Nat × (Nat → Int32)) (Cl : pm_C) (e : pm_I) (s : pm_S) (K : pm_S → Prop) (F : Option Value → pm_H → Prop) : Prop :=
  match e with
  | (op, a, b, v, tl) => match s with
    | (k, ls, st, h) => match op with
      | 0 => K (k + 1, ls, v :: st, h)
      | 1 => match ls[a]? with
        | some (some w) => match pm_kd b w with
          | true => K (k + 1, ls, w :: st, h)
          | false => False
        | _ => False
      | 2 => match st with
        | w :: r => match pm_kd b w && Nat.blt (a + b % 2) ls.length with
          | true => K (k + 1, pm_sto ls a w, r, h)
          | false => False
        | _ => False
      | 3 => match ls[a]? with
        | some (some (.int x)) => match v with
          | .int c => K (k + 1, pm_sto ls a (.int (x + c)), st, h)
          | _ => False
        | _ => False
      | 4 => match st with
        | .int y :: .int x :: r => K (k + 1, ls, .int (pm_ib b x y) :: r, h)
        | _ => False
      | 6 => match st with
        | .long y :: .long x :: r => K (k + 1, ls, .long (pm_lb b x y) :: r, h)
        | _ => False
      | 7 => match st with
        | .int y :: .long x :: r => K (k + 1, ls, .long (pm_ls b x y) :: r, h)
        | _ => False
      | 8 => match st with
        | .int x :: r => K (k + 1, ls, .long x.toInt64 :: r, h)
        | _ => False
      | 9 => match st with
        | .long x :: r => K (k + 1, ls, .int x.toInt32 :: r, h)
        | _ => False
      | 10 => match st with
        | .long y :: .long x :: r => K (k + 1, ls, .int (lg_cmp x y) :: r, h)
        | _ => False
      | 11 => match st with
        | w :: r => match Nat.beq w.category 1 with
          | true => K (k + 1, ls, w :: w :: r, h)
          | false => False
        | _ => False
      | 12 => match st with
        | w :: z :: r => match Nat.beq w.category 1 && Nat.beq z.category 1 with
          | true => K (k + 1, ls, w :: z :: w :: r, h)
          | false => False
        | _ => False
      | 13 => match st with
        | w :: z :: r => match Nat.beq w.category 1 && Nat.beq z.category 1 with
          | true => K (k + 1, ls, w :: z :: w :: z :: r, h)
          | false => False
        | _ => False
      | 15 => match st with
        | .int x :: r => pm_br b x 0 (K (a, ls, r, h)) (K (k + 1, ls, r, h))
        | _ => False
      | 16 => match st with
        | .int y :: .int x :: r => pm_br b x y (K (a, ls, r, h)) (K (k + 1, ls, r, h))
        | _ => False
      | 17 => K (a, ls, st, h)
      | 18 => match st with
        | .ref o :: r => match pm_get h o with
          | some (.inr (ci, fs)) => match Nat.beq ci a with
            | true => match fs[b]? with
              | some w => K (k + 1, ls, w :: r, h)
              | none => False
            | false => False
          | _ => False
        | _ => False
      | 19 => match st with
        | w :: .ref o :: r => match pm_get h o with
          | some (.inr (ci, fs)) => match Nat.beq ci a && Nat.blt b fs.length with
            | true => pm_fk (tl.headD 9) w (K (k + 1, ls, r, pm_set h o (.inr (ci, fs.set b w))))
            | false => False
          | _ => False
        | _ => False
      | 20 => match st with
        | .int i :: .ref o :: r => pm_al sc b h o i (fun w => K (k + 1, ls, w :: r, h))
        | _ => False
      | 21 => match st with
        | w :: .int i :: .ref o :: r => pm_as b h o i w (fun h' => K (k + 1, ls, r, h'))
        | _ => False
      | 22 => match st with
        | .ref o :: r => match pm_len sc h o with
          | some n => K (k + 1, ls, .int (Int32.ofNat n) :: r, h)
          | none => False
        | _ => False
      | 23 => K (k + 1, ls, .ref (h.length + 1) :: st, h ++ [.inr (a, pm_df a)])
      | 24 => match st with
        | .int n :: r => match decide (n = Int32.ofNat b) && Nat.ble b 100000 with
          | true => K (k + 1, ls, .ref (h.length + 1) :: r, h ++ [pm_zero a b])
          | false => False
        | _ => False
      | 25 => match Nat.ble b st.length && pm_rcv tl st b h && Nat.ble (pm_cat (st.drop b)) 8 && Nat.ble (pm_fl (st.take b).reverse).length (pm_nl a) with
        | true => ∃ (rv : Option Value) (h2 : pm_H), Cl a (st.take b).reverse h rv h2 ∧ K (k + 1, ls, rv.toList ++ st.drop b, h2)
        | false => False
      | 26 => pm_rk a st (fun w => F w h)
      | 28 => match st with
        | .ref _ :: r => match Nat.ble (pm_cat r) 8 with
          | true => K (k + 1, ls, r, h)
          | false => False
        | _ => False
      | 29 => match st with
        | .int x :: r => match Nat.ble tl.length 1000 with
          | true => (∀ j : Nat, j < tl.length → x = Int32.ofNat j → K (tl.getD j 0, ls, r, h)) ∧ ((x.toInt < 0 ∨ (tl.length : Int) ≤ x.toInt) → K (a, ls, r, h))
          | false => False
        | _ => False
      | 30 => match st with
        | .int y :: .int x :: r => match Nat.ble (pm_cat r) 8 with
          | true => K (k + 1, ls, .int (if y < x then y else x) :: r, h)
          | false => False
        | _ => False
      | 31 => match st with
        | .int y :: .int x :: r => (¬ y = 0) ∧ K (k + 1, ls, .int (x / y) :: r, h)
        | _ => False
      | 32 => match st with
        | .int y :: .int x :: r => (¬ y = 0) ∧ K (k + 1, ls, .int (x - x / y * y) :: r, h)
        | _ => False
      | _ => False
def pm_ent (av : List Value) (n : Nat) : pm_L := pm_fl av ++ List.replicate (n - (pm_fl av).length) none
def pm_st (sc : Nat × (Nat → Int32)) (Cl : pm_C) (cd : List pm_I) (s : pm_S) (K : pm_S → Prop) (F : Option Value → pm_H → Prop) : Prop := match cd[s.1]? with
  | some e => pm_sk sc Cl e s K F
  | none => False
def pm_ev (sc : Nat × (Nat → Int32)) (Cl : pm_C) (cd : List pm_I) : Nat → pm_S → Option Value → pm_H → Prop
  | 0, _, _, _ => False
  | n + 1, s, r, h' => pm_st sc Cl cd s (fun s' => pm_ev sc Cl cd n s' r h') (fun w hh => w = r ∧ hh = h')
def pm_D (sc : Nat × (Nat → Int32)) : Nat → pm_C
  | 0 => fun _ _ _ _ _ => False
  | d + 1 => fun mi av h r h' => ∃ n, pm_ev sc (pm_D sc d) (pm_cd mi) n (0, pm_ent av (pm_nl mi), [], h) r h'
/-- how many fields and elements -/
def pm_sz1 (x : pm_E) : Nat := match x with
  | .inl a => a.2.1
  | .inr o => o.2.length
def pm_sz (h : pm_H) : Nat := (h.map pm_sz1).sum
/-! WHAT AN ENTRY OF THE TABLES SAYS OF THE CLASS FILE: the bytes at its place are that instruction; what it links is among the tables' words -/
def pm_cnd (b : Nat) : ClassFile.Cond := match b with
  | 0 => .eq
  | 1 => .ne
  | 2 => .lt
  | 3 => .ge
  | 4 => .gt
  | _ => .le
def pm_ibi (b : Nat) : Instr := match b with
  | 0 => .iadd
  | 1 => .isub
  | 2 => .imul
  | 3 => .iand
  | 4 => .ior
  | 5 => .ixor
  | 6 => .ishl
  | 7 => .ishr
  | _ => .iushr
def pm_lbi (b : Nat) : Instr := match b with
  | 0 => .ladd
  | 1 => .lsub
  | 2 => .lmul
  | 3 => .land
  | 4 => .lor
  | _ => .lxor
def pm_lsi (b : Nat) : Instr := match b with
  | 0 => .lshl
  | 1 => .lshr
  | _ => .lushr
def pm_ali (b : Nat) : Instr := match b with
  | 0 => .iaload
  | 1 => .baload
  | _ => .laload
def pm_asi (b : Nat) : Instr := match b with
  | 0 => .iastore
  | 1 => .bastore
  | _ => .lastore
def pm_aty (a : Nat) : ArrayType := match a with
  | 0 => .int
  | 1 => .boolean
  | _ => .long
def pm_fty (kd : Nat) (ty : FieldType) : Bool := match kd, ty with
  | 0, .int => true
  | 1, .long => true
  | 3, .boolean => true
  | 2, .object _ => true
  | 2, .array _ => true
  | _, _ => false
def pm_ok (mi k : Nat) (e : pm_I) : Prop :=
  match e with
  | (op, a, b, v, tl) => match op with
    | 0 => (∃ n : Int, decode (pm_b mi) (pm_pc mi k) = .ok (.iconst n, 1) ∧ v = .int (Int32.ofInt n) ∧ pm_pc mi (k + 1) = pm_pc mi k + 1) ∨ (∃ n : Int, decode (pm_b mi) (pm_pc mi k) = .ok (.bipush n, 2) ∧ v = .int (Int8.ofInt n).toInt32 ∧ pm_pc mi (k + 1) = pm_pc mi k + 2) ∨ (∃ n : Int, decode (pm_b mi) (pm_pc mi k) = .ok (.sipush n, 3) ∧ v = .int (Int16.ofInt n).toInt32 ∧ pm_pc mi (k + 1) = pm_pc mi k + 3) ∨ (∃ n : Fin 2, decode (pm_b mi) (pm_pc mi k) = .ok (.lconst n, 1) ∧ v = .long (Int64.ofNat (n : Nat)) ∧ pm_pc mi (k + 1) = pm_pc mi k + 1) ∨ (∃ (i : Nat) (c : Int32), decode (pm_b mi) (pm_pc mi k) = .ok (.ldc i, 2) ∧ Jvm.Cond.constant (pm_y mi).cls i c ∈ pm_tbl ∧ v = .int c ∧ pm_pc mi (k + 1) = pm_pc mi k + 2) ∨ (∃ (i : Nat) (c : Int64), decode (pm_b mi) (pm_pc mi k) = .ok (.ldc2_w i, 3) ∧ Jvm.Cond.constantLong (pm_y mi).cls i c ∈ pm_tbl ∧ v = .long c ∧ pm_pc mi (k + 1) = pm_pc mi k + 3)
    | 1 => match b with
      | 0 => (∃ n : Fin 4, decode (pm_b mi) (pm_pc mi k) = .ok (.iload_n n, 1) ∧ (n : Nat) = a ∧ pm_pc mi (k + 1) = pm_pc mi k + 1) ∨ (decode (pm_b mi) (pm_pc mi k) = .ok (.iload a, 2) ∧ pm_pc mi (k + 1) = pm_pc mi k + 2)
      | 1 => (∃ n : Fin 4, decode (pm_b mi) (pm_pc mi k) = .ok (.lload_n n, 1) ∧ (n : Nat) = a ∧ pm_pc mi (k + 1) = pm_pc mi k + 1) ∨ (decode (pm_b mi) (pm_pc mi k) = .ok (.lload a, 2) ∧ pm_pc mi (k + 1) = pm_pc mi k + 2)
      | 2 => (∃ n : Fin 4, decode (pm_b mi) (pm_pc mi k) = .ok (.aload_n n, 1) ∧ (n : Nat) = a ∧ pm_pc mi (k + 1) = pm_pc mi k + 1) ∨ (decode (pm_b mi) (pm_pc mi k) = .ok (.aload a, 2) ∧ pm_pc mi (k + 1) = pm_pc mi k + 2)
      | _ => False
    | 2 => match b with
      | 0 => (∃ n : Fin 4, decode (pm_b mi) (pm_pc mi k) = .ok (.istore_n n, 1) ∧ (n : Nat) = a ∧ pm_pc mi (k + 1) = pm_pc mi k + 1) ∨ (decode (pm_b mi) (pm_pc mi k) = .ok (.istore a, 2) ∧ pm_pc mi (k + 1) = pm_pc mi k + 2)
      | 1 => (∃ n : Fin 4, decode (pm_b mi) (pm_pc mi k) = .ok (.lstore_n n, 1) ∧ (n : Nat) = a ∧ pm_pc mi (k + 1) = pm_pc mi k + 1) ∨ (decode (pm_b mi) (pm_pc mi k) = .ok (.lstore a, 2) ∧ pm_pc mi (k + 1) = pm_pc mi k + 2)
      | 2 => (∃ n : Fin 4, decode (pm_b mi) (pm_pc mi k) = .ok (.astore_n n, 1) ∧ (n : Nat) = a ∧ pm_pc mi (k + 1) = pm_pc mi k + 1) ∨ (decode (pm_b mi) (pm_pc mi k) = .ok (.astore a, 2) ∧ pm_pc mi (k + 1) = pm_pc mi k + 2)
      | _ => False
    | 3 => ∃ n : Int, decode (pm_b mi) (pm_pc mi k) = .ok (.iinc a n, 3) ∧ v = .int (Int32.ofInt n) ∧ pm_pc mi (k + 1) = pm_pc mi k + 3
    | 4 => decode (pm_b mi) (pm_pc mi k) = .ok (pm_ibi b, 1) ∧ pm_pc mi (k + 1) = pm_pc mi k + 1
    | 6 => decode (pm_b mi) (pm_pc mi k) = .ok (pm_lbi b, 1) ∧ pm_pc mi (k + 1) = pm_pc mi k + 1
    | 7 => decode (pm_b mi) (pm_pc mi k) = .ok (pm_lsi b, 1) ∧ pm_pc mi (k + 1) = pm_pc mi k + 1
    | 8 => decode (pm_b mi) (pm_pc mi k) = .ok (.i2l, 1) ∧ pm_pc mi (k + 1) = pm_pc mi k + 1
    | 9 => decode (pm_b mi) (pm_pc mi k) = .ok (.l2i, 1) ∧ pm_pc mi (k + 1) = pm_pc mi k + 1
    | 10 => decode (pm_b mi) (pm_pc mi k) = .ok (.lcmp, 1) ∧ pm_pc mi (k + 1) = pm_pc mi k + 1
    | 11 => decode (pm_b mi) (pm_pc mi k) = .ok (.dup, 1) ∧ pm_pc mi (k + 1) = pm_pc mi k + 1
    | 12 => decode (pm_b mi) (pm_pc mi k) = .ok (.dup_x1, 1) ∧ pm_pc mi (k + 1) = pm_pc mi k + 1
    | 13 => decode (pm_b mi) (pm_pc mi k) = .ok (.dup2, 1) ∧ pm_pc mi (k + 1) = pm_pc mi k + 1
    | 15 => ∃ off : Int, decode (pm_b mi) (pm_pc mi k) = .ok (.ifCond (pm_cnd b) off, 3) ∧ (pm_pc mi k : Int) + off = (pm_pc mi a : Int) ∧ pm_pc mi (k + 1) = pm_pc mi k + 3
    | 16 => ∃ off : Int, decode (pm_b mi) (pm_pc mi k) = .ok (.if_icmp (pm_cnd b) off, 3) ∧ (pm_pc mi k : Int) + off = (pm_pc mi a : Int) ∧ pm_pc mi (k + 1) = pm_pc mi k + 3
    | 17 => ∃ off : Int, decode (pm_b mi) (pm_pc mi k) = .ok (.goto off, 3) ∧ (pm_pc mi k : Int) + off = (pm_pc mi a : Int)
    | 18 => ∃ (i : Nat) (C : String) (T : u_T) (N : Nat), decode (pm_b mi) (pm_pc mi k) = .ok (.getfield i, 3) ∧ pm_pc mi (k + 1) = pm_pc mi k + 3 ∧ pm_cl[a]? = some (C, T, N) ∧ b < N ∧ (∀ w ∈ u_ws C T N, w ∈ pm_tbl) ∧ (Jvm.Cond.fieldLink (pm_y mi).cls i (T b).1 (T b).2.1 (T b).2.2.1 ∈ pm_tbl ∨ ∃ host : String, Jvm.Cond.fieldLinkNest (pm_y mi).cls i (T b).1 (T b).2.1 (T b).2.2.1 host ∈ pm_tbl)
    | 19 => ∃ (i : Nat) (C : String) (T : u_T) (N : Nat) (ty : Nat → FieldType), decode (pm_b mi) (pm_pc mi k) = .ok (.putfield i, 3) ∧ pm_pc mi (k + 1) = pm_pc mi k + 3 ∧ pm_cl[a]? = some (C, T, N) ∧ b < N ∧ (∀ w ∈ u_ws C T N, w ∈ pm_tbl) ∧ (∀ k, k < N → parseFieldDescriptor (T k).2.2.1 = some (ty k)) ∧ (∀ a, a < N → ∀ b, b < N → a ≠ b → (T a).2.1 ≠ (T b).2.1) ∧ pm_fty (tl.headD 9) (ty b) = true ∧ (((T b).2.2.2 = false ∧ (Jvm.Cond.fieldLink (pm_y mi).cls i (T b).1 (T b).2.1 (T b).2.2.1 ∈ pm_tbl ∨ ∃ host : String, Jvm.Cond.fieldLinkNest (pm_y mi).cls i (T b).1 (T b).2.1 (T b).2.2.1 host ∈ pm_tbl)) ∨ ((T b).2.2.2 = true ∧ (pm_y mi).name = "<init>" ∧ (T b).1 = (pm_y mi).cls ∧ Jvm.Cond.fieldLink (pm_y mi).cls i (T b).1 (T b).2.1 (T b).2.2.1 ∈ pm_tbl))
    | 20 => decode (pm_b mi) (pm_pc mi k) = .ok (pm_ali b, 1) ∧ pm_pc mi (k + 1) = pm_pc mi k + 1
    | 21 => decode (pm_b mi) (pm_pc mi k) = .ok (pm_asi b, 1) ∧ pm_pc mi (k + 1) = pm_pc mi k + 1
    | 22 => decode (pm_b mi) (pm_pc mi k) = .ok (.arraylength, 1) ∧ pm_pc mi (k + 1) = pm_pc mi k + 1
    | 23 => ∃ (i : Nat) (C : String) (T : u_T) (N : Nat) (ty : Nat → FieldType), decode (pm_b mi) (pm_pc mi k) = .ok (.new i, 3) ∧ pm_pc mi (k + 1) = pm_pc mi k + 3 ∧ pm_cl[a]? = some (C, T, N) ∧ (∀ w ∈ u_ws C T N, w ∈ pm_tbl) ∧ (∀ k, k < N → parseFieldDescriptor (T k).2.2.1 = some (ty k)) ∧ (∀ j, j < N → defaultValue (ty j) = vp_V (pm_df a) j) ∧ (pm_df a).length = N ∧ Jvm.Cond.classLink (pm_y mi).cls i C ∈ pm_tbl ∧ Jvm.Cond.instantiable C N ∈ pm_tbl ∧ Jvm.Cond.initialized C ∈ pm_tbl
    | 24 => a < 3 ∧ decode (pm_b mi) (pm_pc mi k) = .ok (.newarray (pm_aty a), 2) ∧ pm_pc mi (k + 1) = pm_pc mi k + 2 ∧ Jvm.Cond.arrayClass (newarray.typeOf (pm_aty a)) ∈ pm_tbl
    | 25 => ∃ i : Nat, a < 106 ∧ pm_pc mi (k + 1) = pm_pc mi k + 3 ∧ (Jvm.Cond.methodLink (pm_y mi).cls i (pm_y a) ∈ pm_tbl ∨ ∃ host : String, Jvm.Cond.methodLinkNest (pm_y mi).cls i (pm_y a) host ∈ pm_tbl) ∧
      ((decode (pm_b mi) (pm_pc mi k) = .ok (.invokevirtual i, 3) ∧ ∃ (ci : Nat) (T : u_T) (N : Nat), tl = [ci] ∧ pm_cl[ci]? = some ((pm_y a).cls, T, N) ∧ 1 ≤ b ∧ (parseMethodDescriptor (pm_y a).desc).map (fun d => d.parameters.length) = some (b - 1) ∧ Jvm.Cond.instanceMethod (pm_y a) ∈ pm_tbl ∧ Jvm.Cond.selects (pm_y a).cls (pm_y a) (pm_y a) ∈ pm_tbl)
      ∨ (decode (pm_b mi) (pm_pc mi k) = .ok (.invokespecial i, 3) ∧ ∃ ci : Nat, tl = [ci] ∧ (pm_y a).name = "<init>" ∧ pm_r a = none ∧ 1 ≤ b ∧ (parseMethodDescriptor (pm_y a).desc).map (fun d => d.parameters.length) = some (b - 1) ∧ Jvm.Cond.instanceMethod (pm_y a) ∈ pm_tbl)
      ∨ (decode (pm_b mi) (pm_pc mi k) = .ok (.invokestatic i, 3) ∧ tl = [] ∧ (parseMethodDescriptor (pm_y a).desc).map (fun d => d.parameters.length) = some b ∧ Jvm.Cond.static (pm_y a) ∈ pm_tbl))
    | 26 => match a with
      | 0 => decode (pm_b mi) (pm_pc mi k) = .ok (.return_, 1) ∧ pm_r mi = none
      | 1 => decode (pm_b mi) (pm_pc mi k) = .ok (.ireturn, 1) ∧ pm_r mi = some .int
      | 2 => decode (pm_b mi) (pm_pc mi k) = .ok (.ireturn, 1) ∧ pm_r mi = some .boolean
      | 3 => decode (pm_b mi) (pm_pc mi k) = .ok (.lreturn, 1) ∧ pm_r mi = some .long
      | 4 => decode (pm_b mi) (pm_pc mi k) = .ok (.areturn, 1) ∧ ∃ C : String, pm_r mi = some (.object C)
      | _ => False
    | 28 => ∃ i : Nat, decode (pm_b mi) (pm_pc mi k) = .ok (.invokespecial i, 3) ∧ pm_pc mi (k + 1) = pm_pc mi k + 3 ∧ Jvm.Cond.methodLink (pm_y mi).cls i Lib.objectInit ∈ pm_tbl ∧ Jvm.Cond.instanceMethod Lib.objectInit ∈ pm_tbl ∧ Jvm.Cond.code Lib.objectInit ⟨#[0xb1]⟩ 1 none ∈ pm_tbl
    | 29 => ∃ (df hi : Int) (offs : Array Int) (len : Nat), decode (pm_b mi) (pm_pc mi k) = .ok (.tableswitch df 0 hi offs, len) ∧ (pm_pc mi k : Int) + df = (pm_pc mi a : Int) ∧ hi + 1 = (tl.length : Int) ∧ ∀ j : Nat, j < tl.length → (offs[j]?).map (fun o => (pm_pc mi k : Int) + o) = some ((pm_pc mi (tl.getD j 0) : Nat) : Int)
    | 30 => ∃ i : Nat, decode (pm_b mi) (pm_pc mi k) = .ok (.invokestatic i, 3) ∧ pm_pc mi (k + 1) = pm_pc mi k + 3 ∧ Jvm.Cond.methodLink (pm_y mi).cls i Lib.Math.min.name ∈ pm_tbl ∧ Jvm.Cond.static Lib.Math.min.name ∈ pm_tbl ∧ Jvm.Cond.code Lib.Math.min.name Lib.Math.min.code 2 (some .int) ∈ pm_tbl ∧ Jvm.Cond.initialized "java/lang/Math" ∈ pm_tbl
    | 31 => decode (pm_b mi) (pm_pc mi k) = .ok (.idiv, 1) ∧ pm_pc mi (k + 1) = pm_pc mi k + 1
    | 32 => decode (pm_b mi) (pm_pc mi k) = .ok (.irem, 1) ∧ pm_pc mi (k + 1) = pm_pc mi k + 1
    | _ => False
def pm_oks (mi : Nat) : Nat → List pm_I → Prop
  | _, [] => True
  | k, e :: l => pm_ok mi k e ∧ pm_oks mi (k + 1) l
theorem pm_oks_at {mi : Nat} : ∀ (l : List pm_I) (k j : Nat) (e : pm_I), pm_oks mi k l → l[j]? = some e → pm_ok mi (k + j) e
  | [], _, _, _, _, h => by simp at h
  | x :: l, k, 0, e, h, hj => by
    have : x = e := by simpa using hj
    subst this
    exact h.1
  | x :: l, k, j + 1, e, h, hj => by
    have h1 := pm_oks_at l (k + 1) j e h.2 (by simpa using hj)
    rw [show k + (j + 1) = k + 1 + j by omega]
    exact h1
/-- of a method that is called -/
def pm_okm (mi : Nat) : Prop := plainName (pm_y mi).cls = true ∧ Jvm.Cond.code (pm_y mi) (pm_b mi) (pm_nl mi) (pm_r mi) ∈ pm_tbl ∧ Jvm.Cond.initialized (pm_y mi).cls ∈ pm_tbl ∧ (pm_y mi).cls ≠ "java/lang/invoke/MethodHandle" ∧ (pm_y mi).cls ≠ "java/lang/invoke/VarHandle" ∧ pm_nl mi ≤ 20 ∧ pm_pc mi 0 = 0
end
section
/-! WHAT THE PURE MACHINE DOES, THE JVM DOES. Cell i + 1 of the pure heap lies at address n0 + i; reference 0 is the law's script, at b. -/
def pm_ad (b n0 i : Nat) : Nat := match i with
  | 0 => b
  | k + 1 => n0 + k
def pm_sh (b n0 : Nat) (v : Value) : Value := match v with
  | .ref i => .ref (pm_ad b n0 i)
  | .int x => .int x
  | .long x => .long x
  | .float x => .float x
  | .double x => .double x
  | .null => .null
  | .retAddr x => .retAddr x
def pm_tr (dA : Nat → ClassId) (b n0 : Nat) (x : pm_E) : va_E := match x with
  | .inl q => .inl (dA q.1, q.2)
  | .inr o => .inr (o.1, o.2.map (pm_sh b n0))
def pm_wo (dA : Nat → ClassId) (b n0 : Nat) (h : pm_H) : va_W := h.mapIdx (fun i x => (n0 + i, pm_tr dA b n0 x))
theorem pm_sh_cat (b n0 : Nat) (v : Value) : (pm_sh b n0 v).category = v.category := by cases v <;> rfl
theorem pm_wo_at (dA : Nat → ClassId) (b n0 : Nat) (h : pm_H) (i : Nat) : (pm_wo dA b n0 h)[i]? = (h[i]?).map (fun x => (n0 + i, pm_tr dA b n0 x)) := by
  simp [pm_wo]
theorem pm_wo_some {dA : Nat → ClassId} {b n0 : Nat} {h : pm_H} {i : Nat} {x : pm_E} (e : h[i]? = some x) : (pm_wo dA b n0 h)[i]? = some (n0 + i, pm_tr dA b n0 x) := by
  rw [pm_wo_at, e]; rfl
theorem pm_wo_len (dA : Nat → ClassId) (b n0 : Nat) (h : pm_H) : (pm_wo dA b n0 h).length = h.length := by simp [pm_wo]
theorem pm_wo_set (dA : Nat → ClassId) (b n0 : Nat) (h : pm_H) (i : Nat) (x : pm_E) : pm_wo dA b n0 (h.set i x) = (pm_wo dA b n0 h).set i (n0 + i, pm_tr dA b n0 x) := by
  apply List.ext_getElem?
  intro j
  rw [pm_wo_at, List.getElem?_set, List.getElem?_set, pm_wo_at, pm_wo_len]
  by_cases hij : i = j
  · subst hij
    by_cases hl : i < h.length
    · simp [hl]
    · simp [hl]
  · simp [hij]
theorem pm_wo_app (dA : Nat → ClassId) (b n0 : Nat) (h : pm_H) (x : pm_E) : pm_wo dA b n0 (h ++ [x]) = pm_wo dA b n0 h ++ [(n0 + h.length, pm_tr dA b n0 x)] := by
  simp [pm_wo, List.mapIdx_concat]
theorem pm_wo_D (dA : Nat → ClassId) (b n0 : Nat) (h : pm_H) : va_D (fun q => n0 ≤ q) (pm_wo dA b n0 h) := by
  refine ⟨fun i j p q hi hj hpq => ?_, fun k q hk => ?_⟩
  · rw [pm_wo_at, Option.map_eq_some_iff] at hi hj
    obtain ⟨x, -, rfl⟩ := hi
    obtain ⟨y, -, rfl⟩ := hj
    have : n0 + i = n0 + j := hpq
    omega
  · rw [pm_wo_at, Option.map_eq_some_iff] at hk
    obtain ⟨x, -, rfl⟩ := hk
    exact Nat.le_add_right _ _
/-- the heap reaches behind the world's last cell -/
theorem pm_wo_le {D : va_G} {dA : Nat → ClassId} {b n0 : Nat} {h : pm_H} {H : Heap} (hn : n0 ≤ H.size) (hP : va_P D pm_cl (pm_wo dA b n0 h) H) : n0 + h.length ≤ H.size := by
  by_cases h0 : h.length = 0
  · omega
  · have hl : h.length - 1 < h.length := by omega
    have h1 := (hP (h.length - 1) _ (pm_wo_some (List.getElem?_eq_getElem hl))).lt
    have h2 : n0 + (h.length - 1) < H.size := h1
    omega
/-- locals -/
def pm_pr (b n0 : Nat) (ls : pm_L) : List (Nat × Value) := (List.range ls.length).filterMap (fun i => match ls[i]? with
  | some (some w) => some (i, pm_sh b n0 w)
  | _ => none)
theorem pm_pr_mem {b n0 : Nat} {ls : pm_L} {i : Nat} {v : Value} : (i, v) ∈ pm_pr b n0 ls ↔ ∃ w, ls[i]? = some (some w) ∧ v = pm_sh b n0 w := by
  constructor
  · intro h
    obtain ⟨j, hj, he⟩ := List.mem_filterMap.mp h
    split at he
    · rename_i w hw
      cases he
      exact ⟨w, hw, rfl⟩
    · cases he
  · rintro ⟨w, hw, rfl⟩
    refine List.mem_filterMap.mpr ⟨i, List.mem_range.mpr (List.getElem?_eq_some_iff.mp hw).1, ?_⟩
    rw [hw]
def pm_lo (b n0 : Nat) (rls : Array Slot) (nL : Nat) (ls : pm_L) : Prop := ls.length = nL ∧ lv_has rls nL (pm_pr b n0 ls)
theorem pm_lo.at {b n0 : Nat} {rls : Array Slot} {nL : Nat} {ls : pm_L} (h : pm_lo b n0 rls nL ls) {a : Nat} {w : Value} (e : ls[a]? = some (some w)) : rls[a]? = some (.val (pm_sh b n0 w)) :=
  h.2.2.2 (a, pm_sh b n0 w) (pm_pr_mem.mpr ⟨w, e, rfl⟩)
theorem pm_clr_len (ls : pm_L) (a : Nat) : (pm_clr ls a).length = ls.length := by
  unfold pm_clr
  split
  · rfl
  · split
    · split <;> simp
    · rfl
theorem pm_clr_at {ls : pm_L} {a i : Nat} {w : Value} (h : (pm_clr ls a)[i]? = some (some w)) : ls[i]? = some (some w) ∧ ¬ (i + 1 = a ∧ w.category = 2) := by
  unfold pm_clr at h
  split at h
  · exact ⟨h, by omega⟩
  · rename_i j
    split at h
    · rename_i z hz
      split at h
      · rename_i hb
        rw [List.getElem?_set] at h
        by_cases hij : j = i
        · subst hij
          rw [if_pos rfl] at h
          split at h
          · cases h
          · cases h
        · rw [if_neg hij] at h
          exact ⟨h, by omega⟩
      · rename_i hb
        refine ⟨h, fun q => ?_⟩
        have hij : i = j := by omega
        subst hij
        rw [hz] at h
        cases h
        rw [q.2] at hb
        cases hb
    · rename_i hz
      refine ⟨h, fun q => ?_⟩
      have hij : i = j := by omega
      subst hij
      exact hz w h
theorem pm_lo.sto1 {b n0 : Nat} {rls rls' : Array Slot} {nL : Nat} {ls : pm_L} {a : Nat} {w : Value} (h : pm_lo b n0 rls nL ls) (hc : w.category = 1)
    (h' : lv_has rls' nL ((a, pm_sh b n0 w) :: (pm_pr b n0 ls).filter (fun q => !(q.1 == a) && !(q.1 + 1 == a && q.2.category == 2)))) : pm_lo b n0 rls' nL (pm_sto ls a w) := by
  have e : pm_sto ls a w = (pm_clr ls a).set a (some w) := by
    unfold pm_sto
    rw [hc]
  rw [e]
  refine ⟨by rw [List.length_set, pm_clr_len]; exact h.1, h'.1, h'.2.1, fun q hq => h'.2.2 q ?_⟩
  obtain ⟨i, v⟩ := q
  obtain ⟨z, hz, rfl⟩ := pm_pr_mem.mp hq
  rw [List.getElem?_set] at hz
  by_cases hia : a = i
  · subst hia
    rw [if_pos rfl] at hz
    split at hz
    · cases hz
      exact List.mem_cons_self
    · cases hz
  · rw [if_neg hia] at hz
    obtain ⟨h1, h2⟩ := pm_clr_at hz
    refine List.mem_cons_of_mem _ (List.mem_filter.mpr ⟨pm_pr_mem.mpr ⟨z, h1, rfl⟩, ?_⟩)
    have n1 : (i == a) = false := by simpa using Ne.symm hia
    simp only [n1, Bool.not_false, Bool.true_and, Bool.not_eq_true', Bool.and_eq_false_iff, beq_eq_false_iff_ne, ne_eq]
    by_cases h3 : i + 1 = a
    · right
      rw [pm_sh_cat]
      exact fun q => h2 ⟨h3, q⟩
    · exact Or.inl h3
theorem pm_lo.sto2 {b n0 : Nat} {rls rls' : Array Slot} {nL : Nat} {ls : pm_L} {a : Nat} {w : Value} (h : pm_lo b n0 rls nL ls) (hc : w.category = 2)
    (h' : lv_has rls' nL ((a, pm_sh b n0 w) :: (pm_pr b n0 ls).filter (fun q => !(q.1 == a) && (!(q.1 == a + 1) && !(q.1 + 1 == a && q.2.category == 2))))) : pm_lo b n0 rls' nL (pm_sto ls a w) := by
  have e : pm_sto ls a w = ((pm_clr ls a).set (a + 1) none).set a (some w) := by
    unfold pm_sto
    rw [hc]
  rw [e]
  refine ⟨by rw [List.length_set, List.length_set, pm_clr_len]; exact h.1, h'.1, h'.2.1, fun q hq => h'.2.2 q ?_⟩
  obtain ⟨i, v⟩ := q
  obtain ⟨z, hz, rfl⟩ := pm_pr_mem.mp hq
  rw [List.getElem?_set] at hz
  by_cases hia : a = i
  · subst hia
    rw [if_pos rfl] at hz
    split at hz
    · cases hz
      exact List.mem_cons_self
    · cases hz
  · rw [if_neg hia, List.getElem?_set] at hz
    by_cases hib : a + 1 = i
    · rw [if_pos hib] at hz
      split at hz <;> cases hz
    · rw [if_neg hib] at hz
      obtain ⟨h1, h2⟩ := pm_clr_at hz
      refine List.mem_cons_of_mem _ (List.mem_filter.mpr ⟨pm_pr_mem.mpr ⟨z, h1, rfl⟩, ?_⟩)
      have n1 : (i == a) = false := by simpa using Ne.symm hia
      have n2 : (i == a + 1) = false := by simpa using Ne.symm hib
      simp only [n1, n2, Bool.not_false, Bool.true_and, Bool.not_eq_true', Bool.and_eq_false_iff, beq_eq_false_iff_ne, ne_eq]
      by_cases h3 : i + 1 = a
      · right
        rw [pm_sh_cat]
        exact fun q => h2 ⟨h3, q⟩
      · exact Or.inl h3
theorem pm_fl_len (b n0 : Nat) : ∀ av : List Value, (lg_sl (av.map (pm_sh b n0))).length = (pm_fl av).length
  | [] => rfl
  | v :: r => by
    have ih := pm_fl_len b n0 r
    unfold pm_fl
    have h1 : lg_sl ((v :: r).map (pm_sh b n0)) = (if (pm_sh b n0 v).category = 2 then [Slot.val (pm_sh b n0 v), Slot.second] else [Slot.val (pm_sh b n0 v)]) ++ lg_sl (r.map (pm_sh b n0)) := by
      simp [lg_sl]
    rw [h1, pm_sh_cat]
    rcases lv_cat v with hv | hv
    · rw [hv]; simp [ih]
    · rw [hv]; simp [ih]
theorem pm_fl_args (b n0 : Nat) : ∀ (av : List Value) (j i : Nat) (w : Value), (pm_fl av)[i]? = some (some w) → (j + i, pm_sh b n0 w) ∈ lv_args j (av.map (pm_sh b n0))
  | [], _, _, _, h => by simp [pm_fl] at h
  | v :: r, j, i, w, h => by
    unfold pm_fl at h
    show _ ∈ (j, pm_sh b n0 v) :: lv_args (if (pm_sh b n0 v).category = 2 then j + 2 else j + 1) (r.map (pm_sh b n0))
    rw [pm_sh_cat]
    rcases lv_cat v with hv | hv
    · rw [hv] at h ⊢
      match i, h with
      | 0, h =>
        have : v = w := by simpa using h
        subst this
        exact List.mem_cons_self
      | i + 1, h =>
        refine List.mem_cons_of_mem _ ?_
        have h2 : (pm_fl r)[i]? = some (some w) := h
        have := pm_fl_args b n0 r (j + 1) i w h2
        rw [show j + (i + 1) = j + 1 + i by omega]
        simpa using this
    · rw [hv] at h ⊢
      match i, h with
      | 0, h =>
        have : v = w := by simpa using h
        subst this
        exact List.mem_cons_self
      | 1, h => exact absurd h (by simp)
      | i + 2, h =>
        refine List.mem_cons_of_mem _ ?_
        have h2 : (pm_fl r)[i]? = some (some w) := h
        have := pm_fl_args b n0 r (j + 2) i w h2
        rw [show j + (i + 2) = j + 2 + i by omega]
        simpa using this
theorem pm_lo_ent (b n0 : Nat) {av : List Value} {n : Nat} (h : (pm_fl av).length ≤ n) : pm_lo b n0 ((lg_sl (av.map (pm_sh b n0)) ++ List.replicate (n - (lg_sl (av.map (pm_sh b n0))).length) Slot.unset).toArray) n (pm_ent av n) := by
  have h1 := lv_entry (av.map (pm_sh b n0)) (n := n) (by rw [pm_fl_len]; exact h)
  refine ⟨by unfold pm_ent; simp; omega, h1.1, h1.2.1, fun q hq => h1.2.2 q ?_⟩
  obtain ⟨i, v⟩ := q
  obtain ⟨z, hz, rfl⟩ := pm_pr_mem.mp hq
  unfold pm_ent at hz
  by_cases hi : i < (pm_fl av).length
  · rw [List.getElem?_append_left hi] at hz
    have := pm_fl_args b n0 av 0 i z hz
    simpa using this
  · rw [List.getElem?_append_right (by omega), List.getElem?_replicate] at hz
    split at hz <;> cases hz
end
section
def pm_tys (dA : Nat → ClassId) : List (ClassId × FieldType) := [(dA 0, .int), (dA 1, .boolean), (dA 2, .long)]
/-- what holds while method mi runs -/
def pm_X (p : Program) (s : State) (m : MethodId) (args : Array Value) (meth : Method) (c : Code) (D : va_G) (dA : Nat → ClassId) (b n0 : Nat) (sc : Nat × (Nat → Int32)) (h0 : pm_H) (mi : Nat) : Prop :=
  p.tables.exec = Jvm.exec ∧ c.code = pm_b mi ∧ c.maxLocals = pm_nl mi ∧ s.vm.findClass (pm_y mi).cls = some m.cls ∧ (∀ w ∈ pm_tbl, w.before args s = true) ∧ va_K D pm_cl (pm_tys dA) s ∧ va_X b sc.1 sc.2 s s.heap ∧ b < n0 ∧ s.heap.size = n0 + h0.length ∧ ((pm_y mi).name = "<init>" → meth.name = "<init>")
/-- the JVM goes on from the state t -/
def pm_G (p : Program) (l : Launch) (e : Env) (R : Room) (s : State) (m : MethodId) (args : Array Value) (below : List Frame) (meth : Method) (c : Code) (Q : State → Prop) (D : va_G) (dA : Nat → ClassId) (b n0 : Nat) (h0 : pm_H) (mi : Nat) (t : pm_S) : Prop :=
  ∀ (H : Heap) (locs : List Loc) (rls : Array Slot) (cells slots : Nat), va_P D pm_cl (pm_wo dA b n0 t.2.2.2) H → va_S (fun q => n0 ≤ q) s.heap H locs → pm_lo b n0 rls (pm_nl mi) t.2.1 → cells + h0.length = t.2.2.2.length → slots + pm_sz h0 = pm_sz t.2.2.2 →
    W p l e R s m args below meth c H locs cells slots Q (F0 m (pm_pc mi t.1) rls (t.2.2.1.map (pm_sh b n0)))
section PMW
variable {p : Program} {l : Launch} {e : Env} {R : Room} {s : State} {m : MethodId} {args : Array Value} {below : List Frame} {meth : Method} {c : Code} {Q : State → Prop}
variable {D : va_G} {dA : Nat → ClassId} {b n0 : Nat} {h0 : pm_H} {sc : Nat × (Nat → Int32)} {mi : Nat} {Cl : pm_C} {K : pm_S → Prop} {F : Option Value → pm_H → Prop}
variable {k a bb : Nat} {v : Value} {tl : List Nat} {ls : pm_L} {st : List Value} {h : pm_H}
theorem pm_size {H : Heap} {locs : List Loc} {cells slots : Nat} {g : JFrame} (kk : H.size ≤ s.heap.size + cells → W p l e R s m args below meth c H locs cells slots Q g) : W p l e R s m args below meth c H locs cells slots Q g :=
  fun T hT X => kk (by rw [← hT]; exact X.heapSize) T hT X
theorem pm_w0 (X : pm_X p s m args meth c D dA b n0 sc h0 mi) (ok : pm_ok mi k (0, a, bb, v, tl)) (hs : pm_sk sc Cl (0, a, bb, v, tl) (k, ls, st, h) K F) (hK : ∀ t, K t → pm_G p l e R s m args below meth c Q D dA b n0 h0 mi t) : pm_G p l e R s m args below meth c Q D dA b n0 h0 mi (k, ls, st, h) := by
  obtain ⟨hx, hb, hml, hown, hts, -⟩ := X
  intro H locs rls cells slots hP hS hl hc hz
  have hW := hK _ hs H locs rls cells slots hP hS hl hc hz
  dsimp only at hW ⊢
  rcases ok with ⟨n, hd, rfl, hp⟩ | ⟨n, hd, rfl, hp⟩ | ⟨n, hd, rfl, hp⟩ | ⟨n, hd, rfl, hp⟩ | ⟨i, cc, hd, hm, rfl, hp⟩ | ⟨i, cc, hd, hm, rfl, hp⟩
  · rw [hp] at hW
    exact lv_iconst hx hb hd rfl hW
  · rw [hp] at hW
    exact lv_bipush hx hb hd rfl hW
  · rw [hp] at hW
    exact lv_sipush hx hb hd rfl hW
  · rw [hp] at hW
    exact lv_lconst hx hb hd rfl hW
  · rw [hp] at hW
    exact lv_ldc hx hb hown (hts _ hm) hd hW
  · rw [hp] at hW
    exact lv_ldc2 hx hb hown (hts _ hm) hd hW
theorem pm_w1 (X : pm_X p s m args meth c D dA b n0 sc h0 mi) (ok : pm_ok mi k (1, a, bb, v, tl)) (hs : pm_sk sc Cl (1, a, bb, v, tl) (k, ls, st, h) K F) (hK : ∀ t, K t → pm_G p l e R s m args below meth c Q D dA b n0 h0 mi t) : pm_G p l e R s m args below meth c Q D dA b n0 h0 mi (k, ls, st, h) := by
  obtain ⟨hx, hb, hml, hown, hts, -⟩ := X
  intro H locs rls cells slots hP hS hl hc hz
  obtain ⟨w, hw, hkd, hs⟩ : ∃ w, ls[a]? = some (some w) ∧ pm_kd bb w = true ∧ K (k + 1, ls, w :: st, h) := by
    simp only [pm_sk] at hs
    split at hs
    · rename_i w hw
      split at hs
      · rename_i hkd
        exact ⟨w, hw, hkd, hs⟩
      · exact hs.elim
    · exact hs.elim
  have hW := hK _ hs H locs rls cells slots hP hS hl hc hz
  have hr := hl.at hw
  dsimp only at hW ⊢
  match bb, hkd, ok with
  | 0, hkd, ok =>
    cases w <;> try (simp [pm_kd] at hkd; done)
    rcases ok with ⟨n, hd, hn, hp⟩ | ⟨hd, hp⟩
    · rw [hp] at hW
      exact lv_iload_n hx hb hd hn hr hW
    · rw [hp] at hW
      exact lv_iload hx hb hd hr hW
  | 1, hkd, ok =>
    cases w <;> try (simp [pm_kd] at hkd; done)
    rcases ok with ⟨n, hd, hn, hp⟩ | ⟨hd, hp⟩
    · rw [hp] at hW
      exact lv_lload_n hx hb hd hn hr hW
    · rw [hp] at hW
      exact lv_lload hx hb hd hr hW
  | 2, hkd, ok =>
    cases w <;> try (simp [pm_kd] at hkd; done)
    · rcases ok with ⟨n, hd, hn, hp⟩ | ⟨hd, hp⟩
      · rw [hp] at hW
        exact lv_aload_nN hx hb hd hn hr hW
      · rw [hp] at hW
        exact lv_aloadN hx hb hd hr hW
    · rcases ok with ⟨n, hd, hn, hp⟩ | ⟨hd, hp⟩
      · rw [hp] at hW
        exact lv_aload_n hx hb hd hn hr hW
      · rw [hp] at hW
        exact lv_aload hx hb hd hr hW
theorem pm_w2 (X : pm_X p s m args meth c D dA b n0 sc h0 mi) (ok : pm_ok mi k (2, a, bb, v, tl)) (hs : pm_sk sc Cl (2, a, bb, v, tl) (k, ls, st, h) K F) (hK : ∀ t, K t → pm_G p l e R s m args below meth c Q D dA b n0 h0 mi t) : pm_G p l e R s m args below meth c Q D dA b n0 h0 mi (k, ls, st, h) := by
  obtain ⟨hx, hb, hml, hown, hts, -⟩ := X
  intro H locs rls cells slots hP hS hl hc hz
  obtain ⟨w, r, rfl, hkd, hlt, hs⟩ : ∃ w r, st = w :: r ∧ pm_kd bb w = true ∧ a + bb % 2 < ls.length ∧ K (k + 1, pm_sto ls a w, r, h) := by
    simp only [pm_sk] at hs
    split at hs
    · rename_i w r
      split at hs
      · rename_i hkd
        rw [Bool.and_eq_true] at hkd
        exact ⟨w, r, rfl, hkd.1, Nat.le_of_ble_eq_true hkd.2, hs⟩
      · exact hs.elim
    · exact hs.elim
  have hG := hK _ hs
  have hlt' : a + bb % 2 < pm_nl mi := by rw [← hl.1]; exact hlt
  have hW1 : ∀ rls', w.category = 1 → lv_has rls' (pm_nl mi) ((a, pm_sh b n0 w) :: (pm_pr b n0 ls).filter (fun q => !(q.1 == a) && !(q.1 + 1 == a && q.2.category == 2))) → W p l e R s m args below meth c H locs cells slots Q (F0 m (pm_pc mi (k + 1)) rls' (r.map (pm_sh b n0))) :=
    fun rls' hc1 h' => hG H locs rls' cells slots hP hS (hl.sto1 hc1 h') hc hz
  have hW2 : ∀ rls', w.category = 2 → lv_has rls' (pm_nl mi) ((a, pm_sh b n0 w) :: (pm_pr b n0 ls).filter (fun q => !(q.1 == a) && (!(q.1 == a + 1) && !(q.1 + 1 == a && q.2.category == 2)))) → W p l e R s m args below meth c H locs cells slots Q (F0 m (pm_pc mi (k + 1)) rls' (r.map (pm_sh b n0))) :=
    fun rls' hc1 h' => hG H locs rls' cells slots hP hS (hl.sto2 hc1 h') hc hz
  dsimp only
  match bb, hkd, ok, hlt' with
  | 0, hkd, ok, hlt' =>
    cases w <;> try (simp [pm_kd] at hkd; done)
    rcases ok with ⟨n, hd, hn, hp⟩ | ⟨hd, hp⟩
    · rw [hp] at hW1
      exact lv_istore_n hx hb hd hn hl.2 hlt' rfl (fun rls' h' => hW1 rls' rfl h')
    · rw [hp] at hW1
      exact lv_istore hx hb hd hl.2 hlt' rfl (fun rls' h' => hW1 rls' rfl h')
  | 1, hkd, ok, hlt' =>
    cases w <;> try (simp [pm_kd] at hkd; done)
    rcases ok with ⟨n, hd, hn, hp⟩ | ⟨hd, hp⟩
    · rw [hp] at hW2
      exact lv_lstore_n hx hb hd hn hl.2 hlt' rfl (fun rls' h' => hW2 rls' rfl h')
    · rw [hp] at hW2
      exact lv_lstore hx hb hd hl.2 hlt' rfl (fun rls' h' => hW2 rls' rfl h')
  | 2, hkd, ok, hlt' =>
    cases w <;> try (simp [pm_kd] at hkd; done)
    · rcases ok with ⟨n, hd, hn, hp⟩ | ⟨hd, hp⟩
      · rw [hp] at hW1
        exact lv_astore_nN hx hb hd hn hl.2 hlt' rfl (fun rls' h' => hW1 rls' rfl h')
      · rw [hp] at hW1
        exact lv_astoreN hx hb hd hl.2 hlt' rfl (fun rls' h' => hW1 rls' rfl h')
    · rcases ok with ⟨n, hd, hn, hp⟩ | ⟨hd, hp⟩
      · rw [hp] at hW1
        exact lv_astore_n hx hb hd hn hl.2 hlt' rfl (fun rls' h' => hW1 rls' rfl h')
      · rw [hp] at hW1
        exact lv_astore hx hb hd hl.2 hlt' rfl (fun rls' h' => hW1 rls' rfl h')
theorem pm_w3 (X : pm_X p s m args meth c D dA b n0 sc h0 mi) (ok : pm_ok mi k (3, a, bb, v, tl)) (hs : pm_sk sc Cl (3, a, bb, v, tl) (k, ls, st, h) K F) (hK : ∀ t, K t → pm_G p l e R s m args below meth c Q D dA b n0 h0 mi t) : pm_G p l e R s m args below meth c Q D dA b n0 h0 mi (k, ls, st, h) := by
  obtain ⟨hx, hb, hml, hown, hts, -⟩ := X
  intro H locs rls cells slots hP hS hl hc hz
  obtain ⟨n, hd, rfl, hp⟩ := ok
  obtain ⟨x, hw, hs⟩ : ∃ x, ls[a]? = some (some (.int x)) ∧ K (k + 1, pm_sto ls a (.int (x + Int32.ofInt n)), st, h) := by
    simp only [pm_sk] at hs
    split at hs
    · rename_i x hx
      exact ⟨x, hx, hs⟩
    · exact hs.elim
  have hlt' : a < pm_nl mi := by rw [← hl.1]; exact (List.getElem?_eq_some_iff.mp hw).1
  obtain ⟨j, hj⟩ := List.getElem?_of_mem (pm_pr_mem (b := b) (n0 := n0).mpr ⟨_, hw, rfl⟩)
  dsimp only
  refine lv_iinc hx hb hd hl.2 hj rfl hlt' rfl (fun rls' h' => ?_)
  have hl' : pm_lo b n0 rls' (pm_nl mi) (pm_sto ls a (.int (x + Int32.ofInt n))) := pm_lo.sto1 (ls := ls) hl rfl h'
  have hW := hK _ hs H locs rls' cells slots hP hS hl' hc hz
  dsimp only at hW
  rw [hp] at hW
  exact hW
theorem pm_w4 (X : pm_X p s m args meth c D dA b n0 sc h0 mi) (ok : pm_ok mi k (4, a, bb, v, tl)) (hs : pm_sk sc Cl (4, a, bb, v, tl) (k, ls, st, h) K F) (hK : ∀ t, K t → pm_G p l e R s m args below meth c Q D dA b n0 h0 mi t) : pm_G p l e R s m args below meth c Q D dA b n0 h0 mi (k, ls, st, h) := by
  obtain ⟨hx, hb, hml, hown, hts, -⟩ := X
  intro H locs rls cells slots hP hS hl hc hz
  obtain ⟨x, y, r, rfl, hs⟩ : ∃ (x y : Int32) (r : List Value), st = .int y :: .int x :: r ∧ K (k + 1, ls, .int (pm_ib bb x y) :: r, h) := by
    simp only [pm_sk] at hs
    split at hs
    · exact ⟨_, _, _, rfl, hs⟩
    · exact hs.elim
  have hW := hK _ hs H locs rls cells slots hP hS hl hc hz
  obtain ⟨hd, hp⟩ := ok
  dsimp only at hW ⊢
  rw [hp] at hW
  match bb, hd, hW with
  | 0, hd, hW => exact lv_iadd hx hb hd hW
  | 1, hd, hW => exact lv_isub hx hb hd hW
  | 2, hd, hW => exact lv_imul hx hb hd hW
  | 3, hd, hW => exact lv_iand hx hb hd hW
  | 4, hd, hW => exact lv_ior hx hb hd hW
  | 5, hd, hW => exact lv_ixor hx hb hd hW
  | 6, hd, hW => exact lv_ishl hx hb hd hW
  | 7, hd, hW => exact lv_ishr hx hb hd hW
  | n + 8, hd, hW => exact lv_iushr hx hb hd rfl hW
theorem pm_w6 (X : pm_X p s m args meth c D dA b n0 sc h0 mi) (ok : pm_ok mi k (6, a, bb, v, tl)) (hs : pm_sk sc Cl (6, a, bb, v, tl) (k, ls, st, h) K F) (hK : ∀ t, K t → pm_G p l e R s m args below meth c Q D dA b n0 h0 mi t) : pm_G p l e R s m args below meth c Q D dA b n0 h0 mi (k, ls, st, h) := by
  obtain ⟨hx, hb, hml, hown, hts, -⟩ := X
  intro H locs rls cells slots hP hS hl hc hz
  obtain ⟨x, y, r, rfl, hs⟩ : ∃ (x y : Int64) (r : List Value), st = .long y :: .long x :: r ∧ K (k + 1, ls, .long (pm_lb bb x y) :: r, h) := by
    simp only [pm_sk] at hs
    split at hs
    · exact ⟨_, _, _, rfl, hs⟩
    · exact hs.elim
  have hW := hK _ hs H locs rls cells slots hP hS hl hc hz
  obtain ⟨hd, hp⟩ := ok
  dsimp only at hW ⊢
  rw [hp] at hW
  match bb, hd, hW with
  | 0, hd, hW => exact lv_ladd hx hb hd hW
  | 1, hd, hW => exact lv_lsub hx hb hd hW
  | 2, hd, hW => exact lv_lmul hx hb hd hW
  | 3, hd, hW => exact lv_land hx hb hd hW
  | 4, hd, hW => exact lv_lor hx hb hd hW
  | n + 5, hd, hW => exact lv_lxor hx hb hd hW
theorem pm_w7 (X : pm_X p s m args meth c D dA b n0 sc h0 mi) (ok : pm_ok mi k (7, a, bb, v, tl)) (hs : pm_sk sc Cl (7, a, bb, v, tl) (k, ls, st, h) K F) (hK : ∀ t, K t → pm_G p l e R s m args below meth c Q D dA b n0 h0 mi t) : pm_G p l e R s m args below meth c Q D dA b n0 h0 mi (k, ls, st, h) := by
  obtain ⟨hx, hb, hml, hown, hts, -⟩ := X
  intro H locs rls cells slots hP hS hl hc hz
  obtain ⟨x, y, r, rfl, hs⟩ : ∃ (x : Int64) (y : Int32) (r : List Value), st = .int y :: .long x :: r ∧ K (k + 1, ls, .long (pm_ls bb x y) :: r, h) := by
    simp only [pm_sk] at hs
    split at hs
    · exact ⟨_, _, _, rfl, hs⟩
    · exact hs.elim
  have hW := hK _ hs H locs rls cells slots hP hS hl hc hz
  obtain ⟨hd, hp⟩ := ok
  dsimp only at hW ⊢
  rw [hp] at hW
  match bb, hd, hW with
  | 0, hd, hW => exact lv_lshl hx hb hd rfl hW
  | 1, hd, hW => exact lv_lshr hx hb hd rfl hW
  | n + 2, hd, hW => exact lv_lushr hx hb hd rfl hW
theorem pm_w8 (X : pm_X p s m args meth c D dA b n0 sc h0 mi) (ok : pm_ok mi k (8, a, bb, v, tl)) (hs : pm_sk sc Cl (8, a, bb, v, tl) (k, ls, st, h) K F) (hK : ∀ t, K t → pm_G p l e R s m args below meth c Q D dA b n0 h0 mi t) : pm_G p l e R s m args below meth c Q D dA b n0 h0 mi (k, ls, st, h) := by
  obtain ⟨hx, hb, hml, hown, hts, -⟩ := X
  intro H locs rls cells slots hP hS hl hc hz
  obtain ⟨x, r, rfl, hs⟩ : ∃ (x : Int32) (r : List Value), st = .int x :: r ∧ K (k + 1, ls, .long x.toInt64 :: r, h) := by
    simp only [pm_sk] at hs
    split at hs
    · exact ⟨_, _, rfl, hs⟩
    · exact hs.elim
  have hW := hK _ hs H locs rls cells slots hP hS hl hc hz
  obtain ⟨hd, hp⟩ := ok
  dsimp only at hW ⊢
  rw [hp] at hW
  exact lv_i2l hx hb hd rfl hW
theorem pm_w9 (X : pm_X p s m args meth c D dA b n0 sc h0 mi) (ok : pm_ok mi k (9, a, bb, v, tl)) (hs : pm_sk sc Cl (9, a, bb, v, tl) (k, ls, st, h) K F) (hK : ∀ t, K t → pm_G p l e R s m args below meth c Q D dA b n0 h0 mi t) : pm_G p l e R s m args below meth c Q D dA b n0 h0 mi (k, ls, st, h) := by
  obtain ⟨hx, hb, hml, hown, hts, -⟩ := X
  intro H locs rls cells slots hP hS hl hc hz
  obtain ⟨x, r, rfl, hs⟩ : ∃ (x : Int64) (r : List Value), st = .long x :: r ∧ K (k + 1, ls, .int x.toInt32 :: r, h) := by
    simp only [pm_sk] at hs
    split at hs
    · exact ⟨_, _, rfl, hs⟩
    · exact hs.elim
  have hW := hK _ hs H locs rls cells slots hP hS hl hc hz
  obtain ⟨hd, hp⟩ := ok
  dsimp only at hW ⊢
  rw [hp] at hW
  exact lv_l2i hx hb hd rfl hW
theorem pm_w10 (X : pm_X p s m args meth c D dA b n0 sc h0 mi) (ok : pm_ok mi k (10, a, bb, v, tl)) (hs : pm_sk sc Cl (10, a, bb, v, tl) (k, ls, st, h) K F) (hK : ∀ t, K t → pm_G p l e R s m args below meth c Q D dA b n0 h0 mi t) : pm_G p l e R s m args below meth c Q D dA b n0 h0 mi (k, ls, st, h) := by
  obtain ⟨hx, hb, hml, hown, hts, -⟩ := X
  intro H locs rls cells slots hP hS hl hc hz
  obtain ⟨x, y, r, rfl, hs⟩ : ∃ (x y : Int64) (r : List Value), st = .long y :: .long x :: r ∧ K (k + 1, ls, .int (lg_cmp x y) :: r, h) := by
    simp only [pm_sk] at hs
    split at hs
    · exact ⟨_, _, _, rfl, hs⟩
    · exact hs.elim
  have hW := hK _ hs H locs rls cells slots hP hS hl hc hz
  obtain ⟨hd, hp⟩ := ok
  dsimp only at hW ⊢
  rw [hp] at hW
  exact W.lcmp hx hb hd hW
theorem pm_w31 (X : pm_X p s m args meth c D dA b n0 sc h0 mi) (ok : pm_ok mi k (31, a, bb, v, tl)) (hs : pm_sk sc Cl (31, a, bb, v, tl) (k, ls, st, h) K F) (hK : ∀ t, K t → pm_G p l e R s m args below meth c Q D dA b n0 h0 mi t) : pm_G p l e R s m args below meth c Q D dA b n0 h0 mi (k, ls, st, h) := by
  obtain ⟨hx, hb, hml, hown, hts, -⟩ := X
  intro H locs rls cells slots hP hS hl hc hz
  obtain ⟨x, y, r, rfl, hne, hs⟩ : ∃ (x y : Int32) (r : List Value), st = .int y :: .int x :: r ∧ (¬ y = 0) ∧ K (k + 1, ls, .int (x / y) :: r, h) := by
    simp only [pm_sk] at hs
    split at hs
    · exact ⟨_, _, _, rfl, hs⟩
    · exact hs.elim
  have hW := hK _ hs H locs rls cells slots hP hS hl hc hz
  obtain ⟨hd, hp⟩ := ok
  dsimp only at hW ⊢
  rw [hp] at hW
  exact lv_idiv hx hb hd hne hW
theorem pm_w32 (X : pm_X p s m args meth c D dA b n0 sc h0 mi) (ok : pm_ok mi k (32, a, bb, v, tl)) (hs : pm_sk sc Cl (32, a, bb, v, tl) (k, ls, st, h) K F) (hK : ∀ t, K t → pm_G p l e R s m args below meth c Q D dA b n0 h0 mi t) : pm_G p l e R s m args below meth c Q D dA b n0 h0 mi (k, ls, st, h) := by
  obtain ⟨hx, hb, hml, hown, hts, -⟩ := X
  intro H locs rls cells slots hP hS hl hc hz
  obtain ⟨x, y, r, rfl, hne, hs⟩ : ∃ (x y : Int32) (r : List Value), st = .int y :: .int x :: r ∧ (¬ y = 0) ∧ K (k + 1, ls, .int (x - x / y * y) :: r, h) := by
    simp only [pm_sk] at hs
    split at hs
    · exact ⟨_, _, _, rfl, hs⟩
    · exact hs.elim
  have hW := hK _ hs H locs rls cells slots hP hS hl hc hz
  obtain ⟨hd, hp⟩ := ok
  dsimp only at hW ⊢
  rw [hp] at hW
  exact lv_irem hx hb hd hne hW
theorem pm_w11 (X : pm_X p s m args meth c D dA b n0 sc h0 mi) (ok : pm_ok mi k (11, a, bb, v, tl)) (hs : pm_sk sc Cl (11, a, bb, v, tl) (k, ls, st, h) K F) (hK : ∀ t, K t → pm_G p l e R s m args below meth c Q D dA b n0 h0 mi t) : pm_G p l e R s m args below meth c Q D dA b n0 h0 mi (k, ls, st, h) := by
  obtain ⟨hx, hb, hml, hown, hts, -⟩ := X
  intro H locs rls cells slots hP hS hl hc hz
  obtain ⟨w, r, rfl, hcat, hs⟩ : ∃ (w : Value) (r : List Value), st = w :: r ∧ Nat.beq w.category 1 = true ∧ K (k + 1, ls, w :: w :: r, h) := by
    simp only [pm_sk] at hs
    split at hs
    · split at hs
      · rename_i hcat
        exact ⟨_, _, rfl, hcat, hs⟩
      · exact hs.elim
    · exact hs.elim
  have hW := hK _ hs H locs rls cells slots hP hS hl hc hz
  obtain ⟨hd, hp⟩ := ok
  dsimp only at hW ⊢
  rw [hp] at hW
  exact lv_dup hx hb hd (by rw [pm_sh_cat]; exact Nat.eq_of_beq_eq_true hcat) hW
theorem pm_w12 (X : pm_X p s m args meth c D dA b n0 sc h0 mi) (ok : pm_ok mi k (12, a, bb, v, tl)) (hs : pm_sk sc Cl (12, a, bb, v, tl) (k, ls, st, h) K F) (hK : ∀ t, K t → pm_G p l e R s m args below meth c Q D dA b n0 h0 mi t) : pm_G p l e R s m args below meth c Q D dA b n0 h0 mi (k, ls, st, h) := by
  obtain ⟨hx, hb, hml, hown, hts, -⟩ := X
  intro H locs rls cells slots hP hS hl hc hz
  obtain ⟨w, z, r, rfl, hcat, hs⟩ : ∃ (w z : Value) (r : List Value), st = w :: z :: r ∧ (Nat.beq w.category 1 && Nat.beq z.category 1) = true ∧ K (k + 1, ls, w :: z :: w :: r, h) := by
    simp only [pm_sk] at hs
    split at hs
    · split at hs
      · rename_i hcat
        exact ⟨_, _, _, rfl, hcat, hs⟩
      · exact hs.elim
    · exact hs.elim
  rw [Bool.and_eq_true] at hcat
  have hW := hK _ hs H locs rls cells slots hP hS hl hc hz
  obtain ⟨hd, hp⟩ := ok
  dsimp only at hW ⊢
  rw [hp] at hW
  exact lv_dup_x1 hx hb hd (by rw [pm_sh_cat]; exact Nat.eq_of_beq_eq_true hcat.1) (by rw [pm_sh_cat]; exact Nat.eq_of_beq_eq_true hcat.2) hW
theorem pm_w13 (X : pm_X p s m args meth c D dA b n0 sc h0 mi) (ok : pm_ok mi k (13, a, bb, v, tl)) (hs : pm_sk sc Cl (13, a, bb, v, tl) (k, ls, st, h) K F) (hK : ∀ t, K t → pm_G p l e R s m args below meth c Q D dA b n0 h0 mi t) : pm_G p l e R s m args below meth c Q D dA b n0 h0 mi (k, ls, st, h) := by
  obtain ⟨hx, hb, hml, hown, hts, -⟩ := X
  intro H locs rls cells slots hP hS hl hc hz
  obtain ⟨w, z, r, rfl, hcat, hs⟩ : ∃ (w z : Value) (r : List Value), st = w :: z :: r ∧ (Nat.beq w.category 1 && Nat.beq z.category 1) = true ∧ K (k + 1, ls, w :: z :: w :: z :: r, h) := by
    simp only [pm_sk] at hs
    split at hs
    · split at hs
      · rename_i hcat
        exact ⟨_, _, _, rfl, hcat, hs⟩
      · exact hs.elim
    · exact hs.elim
  rw [Bool.and_eq_true] at hcat
  have hW := hK _ hs H locs rls cells slots hP hS hl hc hz
  obtain ⟨hd, hp⟩ := ok
  dsimp only at hW ⊢
  rw [hp] at hW
  exact lv_dup2_11 hx hb hd (by rw [pm_sh_cat]; exact Nat.eq_of_beq_eq_true hcat.1) (by rw [pm_sh_cat]; exact Nat.eq_of_beq_eq_true hcat.2) hW
theorem pm_w15 (X : pm_X p s m args meth c D dA b n0 sc h0 mi) (ok : pm_ok mi k (15, a, bb, v, tl)) (hs : pm_sk sc Cl (15, a, bb, v, tl) (k, ls, st, h) K F) (hK : ∀ t, K t → pm_G p l e R s m args below meth c Q D dA b n0 h0 mi t) : pm_G p l e R s m args below meth c Q D dA b n0 h0 mi (k, ls, st, h) := by
  obtain ⟨hx, hb, hml, hown, hts, -⟩ := X
  intro H locs rls cells slots hP hS hl hc hz
  obtain ⟨x, r, rfl, hs⟩ : ∃ (x : Int32) (r : List Value), st = .int x :: r ∧ pm_br bb x 0 (K (a, ls, r, h)) (K (k + 1, ls, r, h)) := by
    simp only [pm_sk] at hs
    split at hs
    · exact ⟨_, _, rfl, hs⟩
    · exact hs.elim
  have hW1 := fun q => hK (a, ls, r, h) q H locs rls cells slots hP hS hl hc hz
  have hW2 := fun q => hK (k + 1, ls, r, h) q H locs rls cells slots hP hS hl hc hz
  obtain ⟨off, hd, ht, hp⟩ := ok
  dsimp only at hW1 hW2 ⊢
  rw [hp] at hW2
  match bb, hd, hs with
  | 0, hd, hs => exact lv_if_eq hx hb hd ht (fun q => hW1 (hs.1 q)) (fun q => hW2 (hs.2 q))
  | 1, hd, hs => exact lv_if_ne hx hb hd ht (fun q => hW1 (hs.1 q)) (fun q => hW2 (hs.2 q))
  | 2, hd, hs => exact lv_if_lt hx hb hd ht (fun q => hW1 (hs.1 q)) (fun q => hW2 (hs.2 q))
  | 3, hd, hs => exact lv_if_ge hx hb hd ht (fun q => hW1 (hs.1 q)) (fun q => hW2 (hs.2 q))
  | 4, hd, hs => exact lv_if_gt hx hb hd ht (fun q => hW1 (hs.1 q)) (fun q => hW2 (hs.2 q))
  | n + 5, hd, hs => exact lv_if_le hx hb hd ht (fun q => hW1 (hs.1 q)) (fun q => hW2 (hs.2 q))
theorem pm_w16 (X : pm_X p s m args meth c D dA b n0 sc h0 mi) (ok : pm_ok mi k (16, a, bb, v, tl)) (hs : pm_sk sc Cl (16, a, bb, v, tl) (k, ls, st, h) K F) (hK : ∀ t, K t → pm_G p l e R s m args below meth c Q D dA b n0 h0 mi t) : pm_G p l e R s m args below meth c Q D dA b n0 h0 mi (k, ls, st, h) := by
  obtain ⟨hx, hb, hml, hown, hts, -⟩ := X
  intro H locs rls cells slots hP hS hl hc hz
  obtain ⟨x, y, r, rfl, hs⟩ : ∃ (x y : Int32) (r : List Value), st = .int y :: .int x :: r ∧ pm_br bb x y (K (a, ls, r, h)) (K (k + 1, ls, r, h)) := by
    simp only [pm_sk] at hs
    split at hs
    · exact ⟨_, _, _, rfl, hs⟩
    · exact hs.elim
  have hW1 := fun q => hK (a, ls, r, h) q H locs rls cells slots hP hS hl hc hz
  have hW2 := fun q => hK (k + 1, ls, r, h) q H locs rls cells slots hP hS hl hc hz
  obtain ⟨off, hd, ht, hp⟩ := ok
  dsimp only at hW1 hW2 ⊢
  rw [hp] at hW2
  match bb, hd, hs with
  | 0, hd, hs => exact lv_icmp_eq hx hb hd ht (fun q => hW1 (hs.1 q)) (fun q => hW2 (hs.2 q))
  | 1, hd, hs => exact lv_icmp_ne hx hb hd ht (fun q => hW1 (hs.1 q)) (fun q => hW2 (hs.2 q))
  | 2, hd, hs => exact lv_icmp_lt hx hb hd ht (fun q => hW1 (hs.1 q)) (fun q => hW2 (hs.2 q))
  | 3, hd, hs => exact lv_icmp_ge hx hb hd ht (fun q => hW1 (hs.1 q)) (fun q => hW2 (hs.2 q))
  | 4, hd, hs => exact lv_icmp_gt hx hb hd ht (fun q => hW1 (hs.1 q)) (fun q => hW2 (hs.2 q))
  | n + 5, hd, hs => exact lv_icmp_le hx hb hd ht (fun q => hW1 (hs.1 q)) (fun q => hW2 (hs.2 q))
theorem pm_w17 (X : pm_X p s m args meth c D dA b n0 sc h0 mi) (ok : pm_ok mi k (17, a, bb, v, tl)) (hs : pm_sk sc Cl (17, a, bb, v, tl) (k, ls, st, h) K F) (hK : ∀ t, K t → pm_G p l e R s m args below meth c Q D dA b n0 h0 mi t) : pm_G p l e R s m args below meth c Q D dA b n0 h0 mi (k, ls, st, h) := by
  obtain ⟨hx, hb, hml, hown, hts, -⟩ := X
  intro H locs rls cells slots hP hS hl hc hz
  have hW := hK _ hs H locs rls cells slots hP hS hl hc hz
  obtain ⟨off, hd, ht⟩ := ok
  exact lv_goto hx hb hd ht hW
end PMW
end
section
theorem pm_sz_set {h : pm_H} {i : Nat} {x y : pm_E} (hy : h[i]? = some y) (he : pm_sz1 x = pm_sz1 y) : pm_sz (h.set i x) = pm_sz h := by
  induction h generalizing i with
  | nil => simp at hy
  | cons z t ih =>
    cases i with
    | zero =>
      have : z = y := by simpa using hy
      subst this
      show pm_sz1 x + pm_sz t = pm_sz1 z + pm_sz t
      rw [he]
    | succ i =>
      have h1 := ih (i := i) (by simpa using hy)
      show pm_sz1 z + pm_sz (t.set i x) = pm_sz1 z + pm_sz t
      rw [h1]
theorem pm_sz_app (h : pm_H) (x : pm_E) : pm_sz (h ++ [x]) = pm_sz h + pm_sz1 x := by simp [pm_sz]
theorem pm_get_some {h : pm_H} {o : Nat} {x : pm_E} (e : pm_get h o = some x) : ∃ o', o = o' + 1 ∧ h[o']? = some x := by
  cases o with
  | zero => cases e
  | succ o' => exact ⟨o', rfl, e⟩
theorem pm_df_sh (b n0 : Nat) : ∀ c : Nat, (pm_df c).map (pm_sh b n0) = pm_df c := by
  intro c
  unfold pm_df
  split <;> rfl
theorem pm_fk_ok {b n0 kd : Nat} {w : Value} {A : Prop} {ty : FieldType} (hk : pm_fk kd w A) (hf : pm_fty kd ty = true) : narrow ty (pm_sh b n0 w) = pm_sh b n0 w ∧ fits ty (pm_sh b n0 w) = true ∧ A := by
  match kd, hk, hf with
  | 0, hk, hf =>
    simp only [pm_fk] at hk
    cases w <;> cases ty <;> simp [pm_kd, pm_fty] at hk hf
    exact ⟨rfl, rfl, hk⟩
  | 1, hk, hf =>
    simp only [pm_fk] at hk
    cases w <;> cases ty <;> simp [pm_kd, pm_fty] at hk hf
    exact ⟨rfl, rfl, hk⟩
  | 2, hk, hf =>
    simp only [pm_fk] at hk
    cases w <;> cases ty <;> simp [pm_kd, pm_fty] at hk hf <;> exact ⟨rfl, rfl, hk⟩
  | 3, hk, hf =>
    simp only [pm_fk] at hk
    cases w <;> cases ty <;> simp [pm_fty] at hk hf
    obtain ⟨h01, hA⟩ := hk
    rcases h01 with rfl | rfl
    · exact ⟨rfl, rfl, hA⟩
    · exact ⟨rfl, rfl, hA⟩
  | n + 4, hk, hf =>
    cases ty <;> simp [pm_fty] at hf
theorem pm_al_cases {sc : Nat × (Nat → Int32)} {bb : Nat} {h : pm_H} {o : Nat} {i : Int32} {KK : Value → Prop} (hs : pm_al sc bb h o i KK) :
    (o = 0 ∧ bb = 0 ∧ vp_in i sc.1 ∧ KK (.int (sc.2 i.toNatClampNeg))) ∨ (∃ (o' n : Nat) (f : Nat → Int32), o = o' + 1 ∧ bb ≤ 1 ∧ h[o']? = some (.inl (bb, n, .inl f)) ∧ vp_in i n ∧ KK (.int (f i.toNatClampNeg))) ∨ (∃ (o' n : Nat) (f : Nat → Int64), o = o' + 1 ∧ bb = 2 ∧ h[o']? = some (.inl (2, n, .inr (.inl f))) ∧ vp_in i n ∧ KK (.long (f i.toNatClampNeg))) := by
  unfold pm_al at hs
  split at hs
  · split at hs
    · exact Or.inl ⟨rfl, rfl, hs.1, hs.2⟩
    · exact hs.elim
  · split at hs
    · rename_i kk n f hh
      split at hs
      · rename_i hb
        rw [Bool.and_eq_true] at hb
        have e := Nat.eq_of_beq_eq_true hb.1
        subst e
        exact Or.inr (Or.inl ⟨_, _, _, rfl, Nat.le_of_ble_eq_true hb.2, hh, hs.1, hs.2⟩)
      · exact hs.elim
    · rename_i kk n f hh
      split at hs
      · rename_i hb
        rw [Bool.and_eq_true] at hb
        have e := Nat.eq_of_beq_eq_true hb.1
        have e2 := Nat.eq_of_beq_eq_true hb.2
        subst e
        subst e2
        exact Or.inr (Or.inr ⟨_, _, _, rfl, rfl, hh, hs.1, hs.2⟩)
      · exact hs.elim
    · exact hs.elim
theorem pm_as_cases {bb : Nat} {h : pm_H} {o : Nat} {i : Int32} {w : Value} {KK : pm_H → Prop} (hs : pm_as bb h o i w KK) :
    (∃ (o' n : Nat) (f : Nat → Int32) (x : Int32), o = o' + 1 ∧ w = .int x ∧ (bb = 0 ∨ (bb = 1 ∧ (x = 0 ∨ x = 1))) ∧ h[o']? = some (.inl (bb, n, .inl f)) ∧ vp_in i n ∧ KK (h.set o' (.inl (bb, n, .inl (upd f i.toNatClampNeg x))))) ∨ (∃ (o' n : Nat) (f : Nat → Int64) (x : Int64), o = o' + 1 ∧ w = .long x ∧ bb = 2 ∧ h[o']? = some (.inl (2, n, .inr (.inl f))) ∧ vp_in i n ∧ KK (h.set o' (.inl (2, n, .inr (.inl (vp_updL f i.toNatClampNeg x)))))) := by
  unfold pm_as at hs
  split at hs
  · exact hs.elim
  · split at hs
    · rename_i kk n f hh
      split at hs
      · split at hs
        · rename_i hb
          have e := Nat.eq_of_beq_eq_true hb
          subst e
          split at hs
          · exact Or.inl ⟨_, _, _, _, rfl, rfl, Or.inl rfl, hh, hs.1, hs.2⟩
          · exact Or.inl ⟨_, _, _, _, rfl, rfl, Or.inr ⟨rfl, hs.2.1⟩, hh, hs.1, hs.2.2⟩
          · exact hs.elim
        · exact hs.elim
      · exact hs.elim
    · rename_i kk n f hh
      split at hs
      · split at hs
        · rename_i hb
          rw [Bool.and_eq_true] at hb
          have e := Nat.eq_of_beq_eq_true hb.1
          have e2 := Nat.eq_of_beq_eq_true hb.2
          subst e
          subst e2
          exact Or.inr ⟨_, _, _, _, rfl, rfl, rfl, hh, hs.1, hs.2⟩
        · exact hs.elim
      · exact hs.elim
    · exact hs.elim
section PMH
variable {p : Program} {l : Launch} {e : Env} {R : Room} {s : State} {m : MethodId} {args : Array Value} {below : List Frame} {meth : Method} {c : Code} {Q : State → Prop}
variable {D : va_G} {dA : Nat → ClassId} {b n0 : Nat} {h0 : pm_H} {sc : Nat × (Nat → Int32)} {mi : Nat} {Cl : pm_C} {K : pm_S → Prop} {F : Option Value → pm_H → Prop}
variable {k a bb : Nat} {v : Value} {tl : List Nat} {ls : pm_L} {st : List Value} {h : pm_H}
theorem pm_w18 (X : pm_X p s m args meth c D dA b n0 sc h0 mi) (ok : pm_ok mi k (18, a, bb, v, tl)) (hs0 : pm_sk sc Cl (18, a, bb, v, tl) (k, ls, st, h) K F) (hK : ∀ t, K t → pm_G p l e R s m args below meth c Q D dA b n0 h0 mi t) : pm_G p l e R s m args below meth c Q D dA b n0 h0 mi (k, ls, st, h) := by
  obtain ⟨hx, hb, hml, hown, hts, hKv, -⟩ := X
  intro H locs rls cells slots hP hS hl hc hz
  obtain ⟨o, r, fs, w, rfl, ho, hfs, hs⟩ : ∃ (o : Nat) (r fs : List Value) (w : Value), st = .ref o :: r ∧ pm_get h o = some (.inr (a, fs)) ∧ fs[bb]? = some w ∧ K (k + 1, ls, w :: r, h) := by
    simp only [pm_sk] at hs0
    split at hs0
    · split at hs0
      · rename_i ci fs hg
        split at hs0
        · rename_i hb
          have e := Nat.eq_of_beq_eq_true hb
          subst e
          split at hs0
          · rename_i w hw
            exact ⟨_, _, fs, w, rfl, hg, hw, hs0⟩
          · exact hs0.elim
        · exact hs0.elim
      · exact hs0.elim
    · exact hs0.elim
  obtain ⟨o', rfl, ho⟩ := pm_get_some ho
  have hW := hK _ hs H locs rls cells slots hP hS hl hc hz
  have he := pm_wo_some (dA := dA) (b := b) (n0 := n0) ho
  have hv : (fs.map (pm_sh b n0))[bb]? = some (pm_sh b n0 w) := by rw [List.getElem?_map, hfs]; rfl
  obtain ⟨i, C, T, N, hd, hp, hc', hbN, hin, hlk⟩ := ok
  dsimp only at hW ⊢
  rw [hp] at hW
  rcases hlk with hlk | ⟨host, hlk⟩
  · exact va_get (D := D) hx hb hts hin hown hKv hP o' he hc' bb hbN (hts _ hlk) (fun _ h9 => h9) hv hd hW
  · exact va_getN (D := D) (host := host) hx hb hts hin hown hKv hP o' he hc' bb hbN (hts _ hlk) (fun _ h9 => h9) hv hd hW
theorem pm_w19 (X : pm_X p s m args meth c D dA b n0 sc h0 mi) (ok : pm_ok mi k (19, a, bb, v, tl)) (hs0 : pm_sk sc Cl (19, a, bb, v, tl) (k, ls, st, h) K F) (hK : ∀ t, K t → pm_G p l e R s m args below meth c Q D dA b n0 h0 mi t) : pm_G p l e R s m args below meth c Q D dA b n0 h0 mi (k, ls, st, h) := by
  obtain ⟨hx, hb, hml, hown, hts, hKv, -, -, -, hini⟩ := X
  intro H locs rls cells slots hP hS hl hc hz
  obtain ⟨o, r, fs, w, rfl, ho, hfs, hs⟩ : ∃ (o : Nat) (r fs : List Value) (w : Value), st = w :: .ref o :: r ∧ pm_get h o = some (.inr (a, fs)) ∧ bb < fs.length ∧ pm_fk (tl.headD 9) w (K (k + 1, ls, r, pm_set h o (.inr (a, fs.set bb w)))) := by
    simp only [pm_sk] at hs0
    split at hs0
    · split at hs0
      · rename_i ci fs hg
        split at hs0
        · rename_i hb
          rw [Bool.and_eq_true] at hb
          have e := Nat.eq_of_beq_eq_true hb.1
          subst e
          exact ⟨_, _, fs, _, rfl, hg, Nat.le_of_ble_eq_true hb.2, hs0⟩
        · exact hs0.elim
      · exact hs0.elim
    · exact hs0.elim
  obtain ⟨o', rfl, ho⟩ := pm_get_some ho
  obtain ⟨i, C, T, N, ty, hd, hp, hc', hbN, hin, hty, hnm, hft, hlk⟩ := ok
  obtain ⟨hn, hfit, hs⟩ := pm_fk_ok (b := b) (n0 := n0) hs hft
  have he := pm_wo_some (dA := dA) (b := b) (n0 := n0) ho
  have kk : ∀ (H1 : Heap) (locs1 : List Loc), va_P D pm_cl ((pm_wo dA b n0 h).set o' (n0 + o', .inr (a, (fs.map (pm_sh b n0)).set bb (pm_sh b n0 w)))) H1 → va_D (fun q => n0 ≤ q) ((pm_wo dA b n0 h).set o' (n0 + o', .inr (a, (fs.map (pm_sh b n0)).set bb (pm_sh b n0 w)))) → va_S (fun q => n0 ≤ q) s.heap H1 locs1 → W p l e R s m args below meth c H1 locs1 cells slots Q (F0 m (pm_pc mi k + 3) rls (r.map (pm_sh b n0))) := by
    intro H1 locs1 hP1 _ hS1
    have hW := hK _ hs H1 locs1 rls cells slots (by
      show va_P D pm_cl (pm_wo dA b n0 (h.set o' (.inr (a, fs.set bb w)))) H1
      rw [pm_wo_set]
      show va_P D pm_cl ((pm_wo dA b n0 h).set o' (n0 + o', .inr (a, (fs.set bb w).map (pm_sh b n0)))) H1
      rw [List.map_set]
      exact hP1) hS1 hl (by show cells + h0.length = (h.set o' _).length; rw [List.length_set]; exact hc) (by
      show slots + pm_sz h0 = pm_sz (h.set o' _)
      rw [pm_sz_set ho (by simp [pm_sz1])]
      exact hz)
    dsimp only at hW
    rw [hp] at hW
    exact hW
  have hlen : bb < (fs.map (pm_sh b n0)).length := by rw [List.length_map]; exact hfs
  dsimp only
  rcases hlk with ⟨hfin, hlk | ⟨host, hlk⟩⟩ | ⟨hfin, hnm1, hdecl, hlk⟩
  · exact va_put (D := D) (ty := ty bb) hx hb hts hin ty hty hnm hown hKv hP (pm_wo_D dA b n0 h) hS o' he hc' bb hbN (hts _ hlk) (fun _ h9 => h9) hfin (hty bb hbN) hn hfit hlen hd kk
  · exact va_putN (D := D) (host := host) (ty := ty bb) hx hb hts hin ty hty hnm hown hKv hP (pm_wo_D dA b n0 h) hS o' he hc' bb hbN (hts _ hlk) (fun _ h9 => h9) hfin (hty bb hbN) hn hfit hlen hd kk
  · exact va_putF (D := D) (ty := ty bb) hx hb hts hin ty hty hnm hown hKv hP (pm_wo_D dA b n0 h) hS o' he hc' bb hbN (hts _ hlk) (fun _ h9 => h9) hfin (hini hnm1) hdecl (hty bb hbN) hn hfit hlen hd kk
theorem pm_w20 (X : pm_X p s m args meth c D dA b n0 sc h0 mi) (ok : pm_ok mi k (20, a, bb, v, tl)) (hs0 : pm_sk sc Cl (20, a, bb, v, tl) (k, ls, st, h) K F) (hK : ∀ t, K t → pm_G p l e R s m args below meth c Q D dA b n0 h0 mi t) : pm_G p l e R s m args below meth c Q D dA b n0 h0 mi (k, ls, st, h) := by
  obtain ⟨hx, hb, hml, hown, hts, hKv, hX, hbn, hsz, -⟩ := X
  intro H locs rls cells slots hP hS hl hc hz
  obtain ⟨i, o, r, rfl, hs⟩ : ∃ (i : Int32) (o : Nat) (r : List Value), st = .int i :: .ref o :: r ∧ pm_al sc bb h o i (fun w => K (k + 1, ls, w :: r, h)) := by
    simp only [pm_sk] at hs0
    split at hs0
    · exact ⟨_, _, _, rfl, hs0⟩
    · exact hs0.elim
  obtain ⟨hd, hp⟩ := ok
  dsimp only
  rcases pm_al_cases hs with ⟨rfl, rfl, hin, hs⟩ | ⟨o', n, f, rfl, hb1, ho, hin, hs⟩ | ⟨o', n, f, rfl, rfl, ho, hin, hs⟩
  · have hW := hK _ hs H locs rls cells slots hP hS hl hc hz
    dsimp only at hW
    rw [hp] at hW
    exact va_sld hx hb hX (by omega) (by show ¬ n0 ≤ b; omega) hS hin hd hW
  · have hW := hK _ hs H locs rls cells slots hP hS hl hc hz
    dsimp only at hW
    rw [hp] at hW
    have he := pm_wo_some (dA := dA) (b := b) (n0 := n0) ho
    match bb, hb1, hd, he with
    | 0, _, hd, he => exact va_iald (D := D) hx hb hKv hP o' 0 he rfl hin hd hW
    | 1, _, hd, he => exact va_zald (D := D) hx hb hKv hP o' 1 he rfl hin hd hW
  · have hW := hK _ hs H locs rls cells slots hP hS hl hc hz
    dsimp only at hW
    rw [hp] at hW
    have he := pm_wo_some (dA := dA) (b := b) (n0 := n0) ho
    exact va_lald (D := D) hx hb hKv hP o' 2 he rfl hin hd hW
theorem pm_nar_b {x : Int32} (h : x = 0 ∨ x = 1) : vp_nar .boolean x = x := by
  rcases h with rfl | rfl <;> decide
theorem pm_w21 (X : pm_X p s m args meth c D dA b n0 sc h0 mi) (ok : pm_ok mi k (21, a, bb, v, tl)) (hs0 : pm_sk sc Cl (21, a, bb, v, tl) (k, ls, st, h) K F) (hK : ∀ t, K t → pm_G p l e R s m args below meth c Q D dA b n0 h0 mi t) : pm_G p l e R s m args below meth c Q D dA b n0 h0 mi (k, ls, st, h) := by
  obtain ⟨hx, hb, hml, hown, hts, hKv, hX, hbn, hsz, -⟩ := X
  intro H locs rls cells slots hP hS hl hc hz
  obtain ⟨w, i, o, r, rfl, hs⟩ : ∃ (w : Value) (i : Int32) (o : Nat) (r : List Value), st = w :: .int i :: .ref o :: r ∧ pm_as bb h o i w (fun h' => K (k + 1, ls, r, h')) := by
    simp only [pm_sk] at hs0
    split at hs0
    · exact ⟨_, _, _, _, rfl, hs0⟩
    · exact hs0.elim
  obtain ⟨hd, hp⟩ := ok
  dsimp only
  rcases pm_as_cases hs with ⟨o', n, f, x, rfl, rfl, hb1, ho, hin, hs⟩ | ⟨o', n, f, x, rfl, rfl, rfl, ho, hin, hs⟩
  · have he := pm_wo_some (dA := dA) (b := b) (n0 := n0) ho
    have kk : ∀ (H1 : Heap) (locs1 : List Loc), va_P D pm_cl ((pm_wo dA b n0 h).set o' (n0 + o', .inl (dA bb, n, .inl (upd f i.toNatClampNeg x)))) H1 → va_S (fun q => n0 ≤ q) s.heap H1 locs1 → W p l e R s m args below meth c H1 locs1 cells slots Q (F0 m (pm_pc mi k + 1) rls (r.map (pm_sh b n0))) := by
      intro H1 locs1 hP1 hS1
      have hW := hK _ hs H1 locs1 rls cells slots (by
        show va_P D pm_cl (pm_wo dA b n0 (h.set o' _)) H1
        rw [pm_wo_set]
        exact hP1) hS1 hl (by show cells + h0.length = (h.set o' _).length; rw [List.length_set]; exact hc) (by
        show slots + pm_sz h0 = pm_sz (h.set o' _)
        rw [pm_sz_set ho (by simp [pm_sz1])]
        exact hz)
      dsimp only at hW
      rw [hp] at hW
      exact hW
    rcases hb1 with rfl | ⟨rfl, h01⟩
    · exact va_iast (D := D) hx hb hKv hP (pm_wo_D dA b n0 h) hS o' 0 he rfl hin hd (fun H1 locs1 hP1 _ hS1 => kk H1 locs1 hP1 hS1)
    · refine va_zast (D := D) hx hb hKv hP (pm_wo_D dA b n0 h) hS o' 1 he rfl hin hd (fun H1 locs1 hP1 _ hS1 => kk H1 locs1 ?_ hS1)
      rw [pm_nar_b h01] at hP1
      exact hP1
  · have he := pm_wo_some (dA := dA) (b := b) (n0 := n0) ho
    have kk : ∀ (H1 : Heap) (locs1 : List Loc), va_P D pm_cl ((pm_wo dA b n0 h).set o' (n0 + o', .inl (dA 2, n, .inr (.inl (vp_updL f i.toNatClampNeg x))))) H1 → va_S (fun q => n0 ≤ q) s.heap H1 locs1 → W p l e R s m args below meth c H1 locs1 cells slots Q (F0 m (pm_pc mi k + 1) rls (r.map (pm_sh b n0))) := by
      intro H1 locs1 hP1 hS1
      have hW := hK _ hs H1 locs1 rls cells slots (by
        show va_P D pm_cl (pm_wo dA b n0 (h.set o' _)) H1
        rw [pm_wo_set]
        exact hP1) hS1 hl (by show cells + h0.length = (h.set o' _).length; rw [List.length_set]; exact hc) (by
        show slots + pm_sz h0 = pm_sz (h.set o' _)
        rw [pm_sz_set ho (by simp [pm_sz1])]
        exact hz)
      dsimp only at hW
      rw [hp] at hW
      exact hW
    exact va_last (D := D) hx hb hKv hP (pm_wo_D dA b n0 h) hS o' 2 he rfl hin hd (fun H1 locs1 hP1 _ hS1 => kk H1 locs1 hP1 hS1)
theorem pm_w22 (X : pm_X p s m args meth c D dA b n0 sc h0 mi) (ok : pm_ok mi k (22, a, bb, v, tl)) (hs0 : pm_sk sc Cl (22, a, bb, v, tl) (k, ls, st, h) K F) (hK : ∀ t, K t → pm_G p l e R s m args below meth c Q D dA b n0 h0 mi t) : pm_G p l e R s m args below meth c Q D dA b n0 h0 mi (k, ls, st, h) := by
  obtain ⟨hx, hb, hml, hown, hts, hKv, hX, hbn, hsz, -⟩ := X
  intro H locs rls cells slots hP hS hl hc hz
  obtain ⟨r, rfl, hs⟩ : ∃ (r : List Value), st = .ref 0 :: r ∧ K (k + 1, ls, .int (Int32.ofNat sc.1) :: r, h) := by
    simp only [pm_sk] at hs0
    split at hs0
    · rename_i o r
      cases o with
      | zero => exact ⟨_, rfl, hs0⟩
      | succ o => exact hs0.elim
    · exact hs0.elim
  have hW := hK _ hs H locs rls cells slots hP hS hl hc hz
  obtain ⟨hd, hp⟩ := ok
  dsimp only at hW ⊢
  rw [hp] at hW
  exact va_slen (b := b) hx hb hX (by omega) (by show ¬ n0 ≤ b; omega) hS hd hW
/-- the address of a new cell -/
theorem pm_new_at {H1 : Heap} {q : Nat} {x : va_E} (hP1 : va_P D pm_cl (pm_wo dA b n0 h ++ [(q, x)]) H1) (hD1 : va_D (fun q => n0 ≤ q) (pm_wo dA b n0 h ++ [(q, x)])) (hz : H1.size ≤ n0 + h.length + 1) : q = n0 + h.length := by
  have hat : (pm_wo dA b n0 h ++ [(q, x)])[h.length]? = some (q, x) := by
    rw [List.getElem?_append_right (by rw [pm_wo_len]; exact Nat.le_refl _), pm_wo_len, Nat.sub_self]
    rfl
  have h1 : q < H1.size := (hP1 _ _ hat).lt
  have h2 : n0 ≤ q := hD1.2 _ _ hat
  by_cases h3 : q = n0 + h.length
  · exact h3
  · have hlt : q - n0 < h.length := by omega
    have hat2 : (pm_wo dA b n0 h ++ [(q, x)])[q - n0]? = some (n0 + (q - n0), pm_tr dA b n0 h[q - n0]) := by
      rw [List.getElem?_append_left (by rw [pm_wo_len]; exact hlt)]
      exact pm_wo_some (List.getElem?_eq_getElem hlt)
    have := hD1.1 _ _ _ _ hat2 hat (by show n0 + (q - n0) = q; omega)
    omega
theorem pm_w23 (X : pm_X p s m args meth c D dA b n0 sc h0 mi) (ok : pm_ok mi k (23, a, bb, v, tl)) (hs0 : pm_sk sc Cl (23, a, bb, v, tl) (k, ls, st, h) K F) (hK : ∀ t, K t → pm_G p l e R s m args below meth c Q D dA b n0 h0 mi t) (hB : ∀ t, K t → t.2.2.2.length ≤ R.cells + h0.length ∧ pm_sz t.2.2.2 ≤ R.slots + pm_sz h0) : pm_G p l e R s m args below meth c Q D dA b n0 h0 mi (k, ls, st, h) := by
  obtain ⟨hx, hb, hml, hown, hts, hKv, hX, hbn, hsz, -⟩ := X
  intro H locs rls cells slots hP hS hl hc hz
  obtain ⟨i, C, T, N, ty, hd, hp, hc', hin, hty, hdf, hdl, h1, h2, h3⟩ := ok
  have hs : K (k + 1, ls, .ref (h.length + 1) :: st, h ++ [.inr (a, pm_df a)]) := hs0
  have hb1 := hB _ hs
  dsimp only at hb1 hc hz ⊢
  rw [List.length_append, pm_sz_app] at hb1
  have e1 : pm_sz1 (.inr (a, pm_df a)) = N := hdl
  rw [e1] at hb1
  have e2 : ([(.inr (a, pm_df a) : pm_E)]).length = 1 := rfl
  rw [e2] at hb1
  refine va_new (D := D) (fs := pm_df a) hx hb hts hin ty hty hown (hts _ h1) (hts _ h2) (hts _ h3) hKv hP (pm_wo_D dA b n0 h) hS (fun q hq => by show n0 ≤ q; omega) hc' hdf (by omega) (by omega) hd (fun q H1 hP1 hD1 hS1 => ?_)
  refine pm_size (fun hsz1 => ?_)
  have hq := pm_new_at (h := h) hP1 hD1 (by omega)
  subst hq
  have hW := hK _ hs H1 locs rls (cells + 1) (slots + N) (by
    show va_P D pm_cl (pm_wo dA b n0 (h ++ [_])) H1
    rw [pm_wo_app]
    show va_P D pm_cl (pm_wo dA b n0 h ++ [(n0 + h.length, .inr (a, (pm_df a).map (pm_sh b n0)))]) H1
    rw [pm_df_sh]
    exact hP1) hS1 hl (by show cells + 1 + h0.length = (h ++ [_]).length; rw [List.length_append, e2]; omega) (by
    show slots + N + pm_sz h0 = pm_sz (h ++ [_])
    rw [pm_sz_app, e1]
    omega)
  dsimp only at hW
  rw [hp] at hW
  exact hW
theorem pm_w24 (X : pm_X p s m args meth c D dA b n0 sc h0 mi) (ok : pm_ok mi k (24, a, bb, v, tl)) (hs0 : pm_sk sc Cl (24, a, bb, v, tl) (k, ls, st, h) K F) (hK : ∀ t, K t → pm_G p l e R s m args below meth c Q D dA b n0 h0 mi t) (hB : ∀ t, K t → t.2.2.2.length ≤ R.cells + h0.length ∧ pm_sz t.2.2.2 ≤ R.slots + pm_sz h0) : pm_G p l e R s m args below meth c Q D dA b n0 h0 mi (k, ls, st, h) := by
  obtain ⟨hx, hb, hml, hown, hts, hKv, hX, hbn, hsz, -⟩ := X
  intro H locs rls cells slots hP hS hl hc hz
  obtain ⟨ha3, hd, hp, hm⟩ := ok
  obtain ⟨n, r, rfl, rfl, hle, hs⟩ : ∃ (n : Int32) (r : List Value), st = .int n :: r ∧ n = Int32.ofNat bb ∧ bb ≤ 100000 ∧ K (k + 1, ls, .ref (h.length + 1) :: r, h ++ [pm_zero a bb]) := by
    simp only [pm_sk] at hs0
    split at hs0
    · split at hs0
      · rename_i hb
        rw [Bool.and_eq_true, decide_eq_true_eq] at hb
        exact ⟨_, _, rfl, hb.1, Nat.le_of_ble_eq_true hb.2, hs0⟩
      · exact hs0.elim
    · exact hs0.elim
  have hb1 := hB _ hs
  dsimp only at hb1 hc hz ⊢
  rw [List.length_append, pm_sz_app] at hb1
  have e2 : ([pm_zero a bb]).length = 1 := rfl
  rw [e2] at hb1
  have hpos : ¬ Int32.ofNat bb < 0 := nI_pos (by omega)
  have hcl : (Int32.ofNat bb).toNatClampNeg = bb := nI_clamp (by omega)
  have key : ∀ (kd : Nat) (a0 : vp_A) (ty : FieldType), pm_zero a bb = .inl (kd, a0) → (pm_tys dA)[kd]? = some (dA kd, ty) → kd < 3 → newarray.typeOf (pm_aty a) = ty → a0.1 = bb → (∀ cA : ClassId, vp_cell cA a0 = arrV cA bb (fun _ => defaultValue ty)) → bb * componentBytes ty ≤ 536870912 → (∀ cA : ClassId, va_RA s cA ty → va_RA s (dA kd) ty → cA = dA kd) →
      W p l e R s m args below meth c H locs cells slots Q (F0 m (pm_pc mi k) rls ((Value.int (Int32.ofNat bb) :: r).map (pm_sh b n0))) := by
    intro kd a0 ty hzero hty hk3 hte ha0 hcell hby huniq
    have e1 : pm_sz1 (pm_zero a bb) = bb := by rw [hzero]; exact ha0
    rw [e1] at hb1
    refine va_newa (D := D) (a0 := a0) hx hb (hts _ hm) hte hKv hP (pm_wo_D dA b n0 h) hS (fun q hq => by show n0 ≤ q; omega) hcell hpos hcl hby (by omega) (by omega) hd (fun q cA H1 hK1 hP1 hD1 hS1 => ?_)
    have hcA : cA = dA kd := huniq cA (hK1.2 3 (cA, ty) rfl).2 (hKv.2 kd _ hty).2
    subst hcA
    refine pm_size (fun hsz1 => ?_)
    have hq := pm_new_at (h := h) hP1 hD1 (by omega)
    subst hq
    have hW := hK _ hs H1 locs rls (cells + 1) (slots + bb) (by
      show va_P D pm_cl (pm_wo dA b n0 (h ++ [_])) H1
      rw [pm_wo_app, hzero]
      exact hP1) hS1 hl (by show cells + 1 + h0.length = (h ++ [_]).length; rw [List.length_append, e2]; omega) (by
      show slots + bb + pm_sz h0 = pm_sz (h ++ [_])
      rw [pm_sz_app, e1]
      omega)
    dsimp only at hW
    rw [hp] at hW
    exact hW
  match a, ha3, key with
  | 0, _, key => exact key 0 _ .int rfl rfl (by omega) rfl rfl (fun _ => rfl) (by show bb * 4 ≤ _; omega) (fun cA h1 h2 => Option.some.inj (Eq.trans (Eq.symm h1) h2))
  | 1, _, key => exact key 1 _ .boolean rfl rfl (by omega) rfl rfl (fun _ => rfl) (by show bb * 1 ≤ _; omega) (fun cA h1 h2 => Option.some.inj (Eq.trans (Eq.symm h1) h2))
  | 2, _, key => exact key 2 _ .long rfl rfl (by omega) rfl rfl (fun _ => rfl) (by show bb * 8 ≤ _; omega) (fun cA h1 h2 => Option.some.inj (Eq.trans (Eq.symm h1) h2))
theorem pm_w28 (X : pm_X p s m args meth c D dA b n0 sc h0 mi) (ok : pm_ok mi k (28, a, bb, v, tl)) (hs0 : pm_sk sc Cl (28, a, bb, v, tl) (k, ls, st, h) K F) (hK : ∀ t, K t → pm_G p l e R s m args below meth c Q D dA b n0 h0 mi t) (hR : 1 ≤ R.frames ∧ 40 ≤ R.locals) : pm_G p l e R s m args below meth c Q D dA b n0 h0 mi (k, ls, st, h) := by
  obtain ⟨hx, hb, hml, hown, hts, hKv, hX, hbn, hsz, -⟩ := X
  intro H locs rls cells slots hP hS hl hc hz
  obtain ⟨o, r, rfl, hcat, hs⟩ : ∃ (o : Nat) (r : List Value), st = .ref o :: r ∧ pm_cat r ≤ 8 ∧ K (k + 1, ls, r, h) := by
    simp only [pm_sk] at hs0
    split at hs0
    · split at hs0
      · rename_i hb
        exact ⟨_, _, rfl, Nat.le_of_ble_eq_true hb, hs0⟩
      · exact hs0.elim
    · exact hs0.elim
  have hW := hK _ hs H locs rls cells slots hP hS hl hc hz
  obtain ⟨i, hd, hp, h1, h2, h3⟩ := ok
  have hcat2 : ((r.map (pm_sh b n0)).map fun v => v.category).sum = pm_cat r := by
    unfold pm_cat
    rw [List.map_map]
    congr 1
    apply List.map_congr_left
    intro v _
    exact pm_sh_cat b n0 v
  dsimp only at hW ⊢
  rw [hp] at hW
  refine W.objInit hx hb hown (hts _ h1) (hts _ h2) (hts _ h3) rfl (by rw [hml]; exact hl.2.1) rfl hd hR.1 ?_ hW
  show 2 * 0 + ((r.map (pm_sh b n0)).map fun v => v.category).sum + 12 ≤ R.locals
  omega
theorem pm_w29 (X : pm_X p s m args meth c D dA b n0 sc h0 mi) (ok : pm_ok mi k (29, a, bb, v, tl)) (hs0 : pm_sk sc Cl (29, a, bb, v, tl) (k, ls, st, h) K F) (hK : ∀ t, K t → pm_G p l e R s m args below meth c Q D dA b n0 h0 mi t) : pm_G p l e R s m args below meth c Q D dA b n0 h0 mi (k, ls, st, h) := by
  obtain ⟨hx, hb, hml, hown, hts, hKv, hX, hbn, hsz, -⟩ := X
  intro H locs rls cells slots hP hS hl hc hz
  obtain ⟨x, r, rfl, hs1, hs2⟩ : ∃ (x : Int32) (r : List Value), st = .int x :: r ∧ (∀ j : Nat, j < tl.length → x = Int32.ofNat j → K (tl.getD j 0, ls, r, h)) ∧ ((x.toInt < 0 ∨ (tl.length : Int) ≤ x.toInt) → K (a, ls, r, h)) := by
    simp only [pm_sk] at hs0
    split at hs0
    · split at hs0
      · exact ⟨_, _, rfl, hs0.1, hs0.2⟩
      · exact hs0.elim
    · exact hs0.elim
  obtain ⟨df, hi, offs, len, hd, ht, hhi, hoff⟩ := ok
  dsimp only
  by_cases hin : x.toInt < 0 ∨ (tl.length : Int) ≤ x.toInt
  · have hW := hK _ (hs2 hin) H locs rls cells slots hP hS hl hc hz
    exact lv_tableOut hx hb hd (by omega) ht hW
  · have hj : ∃ j : Nat, x.toInt = (j : Int) ∧ j < tl.length := ⟨x.toInt.toNat, by omega, by omega⟩
    obtain ⟨j, hj1, hj2⟩ := hj
    have hxj : x = Int32.ofNat j := by
      apply Int32.toInt_inj.mp
      rw [hj1]
      have : x.toInt < 2 ^ 31 := Int32.toInt_lt x
      exact (nI_toInt (by omega)).symm
    have hW := hK _ (hs1 j hj2 hxj) H locs rls cells slots hP hS hl hc hz
    have h3 := hoff j hj2
    rw [Option.map_eq_some_iff] at h3
    obtain ⟨off, ho1, ho2⟩ := h3
    exact lv_tableIn hx hb hd (by omega) (by omega) (by rw [hj1]; simpa using ho1) ho2 hW
theorem pm_w30 (X : pm_X p s m args meth c D dA b n0 sc h0 mi) (ok : pm_ok mi k (30, a, bb, v, tl)) (hs0 : pm_sk sc Cl (30, a, bb, v, tl) (k, ls, st, h) K F) (hK : ∀ t, K t → pm_G p l e R s m args below meth c Q D dA b n0 h0 mi t) (hR : 1 ≤ R.frames ∧ 40 ≤ R.locals) (hB : ∀ t, K t → t.2.2.2.length ≤ R.cells + h0.length ∧ pm_sz t.2.2.2 ≤ R.slots + pm_sz h0) : pm_G p l e R s m args below meth c Q D dA b n0 h0 mi (k, ls, st, h) := by
  obtain ⟨hx, hb, hml, hown, hts, hKv, hX, hbn, hsz, -⟩ := X
  intro H locs rls cells slots hP hS hl hc hz
  obtain ⟨x, y, r, rfl, hcat, hs⟩ : ∃ (x y : Int32) (r : List Value), st = .int y :: .int x :: r ∧ pm_cat r ≤ 8 ∧ K (k + 1, ls, .int (if y < x then y else x) :: r, h) := by
    simp only [pm_sk] at hs0
    split at hs0
    · split at hs0
      · rename_i hb
        exact ⟨_, _, _, rfl, Nat.le_of_ble_eq_true hb, hs0⟩
      · exact hs0.elim
    · exact hs0.elim
  have hW := hK _ hs H locs rls cells slots hP hS hl hc hz
  have hb1 := hB _ hs
  obtain ⟨i, hd, hp, h1, h2, h3, h4⟩ := ok
  have hcat2 : ((r.map (pm_sh b n0)).map fun v => v.category).sum = pm_cat r := by
    unfold pm_cat
    rw [List.map_map]
    congr 1
    apply List.map_congr_left
    intro v _
    exact pm_sh_cat b n0 v
  dsimp only at hW hb1 hc hz ⊢
  rw [hp] at hW
  exact va_mmin hx hb (by rw [hml]; exact hl.2.1.symm) hown (hts _ h1) (hts _ h2) (hts _ h4) (hts _ h3) hR.1 (by omega) (by omega) (by omega) hd hW
end PMH
end
section
theorem pm_br_cases {bb : Nat} {x y : Int32} {A B : Prop} (h : pm_br bb x y A B) : (A ∧ ∀ A' B' : Prop, A' → pm_br bb x y A' B') ∨ (B ∧ ∀ A' B' : Prop, B' → pm_br bb x y A' B') := by
  match bb, h with
  | 0, h =>
    by_cases q : x = y
    · exact Or.inl ⟨h.1 q, fun A' B' a => ⟨fun _ => a, fun n => absurd q n⟩⟩
    · exact Or.inr ⟨h.2 q, fun A' B' a => ⟨fun n => absurd n q, fun _ => a⟩⟩
  | 1, h =>
    by_cases q : x = y
    · exact Or.inr ⟨h.2 q, fun A' B' a => ⟨fun n => absurd q n, fun _ => a⟩⟩
    · exact Or.inl ⟨h.1 q, fun A' B' a => ⟨fun _ => a, fun n => absurd n q⟩⟩
  | 2, h =>
    by_cases q : x < y
    · exact Or.inl ⟨h.1 q, fun A' B' a => ⟨fun _ => a, fun n => absurd q n⟩⟩
    · exact Or.inr ⟨h.2 q, fun A' B' a => ⟨fun n => absurd n q, fun _ => a⟩⟩
  | 3, h =>
    by_cases q : y ≤ x
    · exact Or.inl ⟨h.1 q, fun A' B' a => ⟨fun _ => a, fun n => absurd q n⟩⟩
    · exact Or.inr ⟨h.2 q, fun A' B' a => ⟨fun n => absurd n q, fun _ => a⟩⟩
  | 4, h =>
    by_cases q : y < x
    · exact Or.inl ⟨h.1 q, fun A' B' a => ⟨fun _ => a, fun n => absurd q n⟩⟩
    · exact Or.inr ⟨h.2 q, fun A' B' a => ⟨fun n => absurd n q, fun _ => a⟩⟩
  | n + 5, h =>
    by_cases q : x ≤ y
    · exact Or.inl ⟨h.1 q, fun A' B' a => ⟨fun _ => a, fun n => absurd q n⟩⟩
    · exact Or.inr ⟨h.2 q, fun A' B' a => ⟨fun n => absurd n q, fun _ => a⟩⟩
theorem pm_fk_det {kd : Nat} {w : Value} {A : Prop} (h : pm_fk kd w A) : A ∧ ∀ A' : Prop, A' → pm_fk kd w A' := by
  unfold pm_fk at h
  split at h
  · split at h
    · exact ⟨h.2, fun A' a => ⟨h.1, a⟩⟩
    · exact h.elim
  · rename_i h3
    split at h
    · rename_i hk
      refine ⟨h, fun A' a => ?_⟩
      unfold pm_fk
      split
      · exact absurd rfl h3
      · rw [hk]; exact a
    · exact h.elim
theorem pm_al_det {sc : Nat × (Nat → Int32)} {bb : Nat} {h : pm_H} {o : Nat} {i : Int32} {KK : Value → Prop} (hs : pm_al sc bb h o i KK) : ∃ w, KK w ∧ ∀ KK' : Value → Prop, KK' w → pm_al sc bb h o i KK' := by
  rcases pm_al_cases hs with ⟨rfl, rfl, hin, hs⟩ | ⟨o', n, f, rfl, hb1, ho, hin, hs⟩ | ⟨o', n, f, rfl, rfl, ho, hin, hs⟩
  · exact ⟨_, hs, fun KK' q => ⟨hin, q⟩⟩
  · refine ⟨_, hs, fun KK' q => ?_⟩
    have e : (Nat.beq bb bb && Nat.ble bb 1) = true := by rw [Nat.beq_refl, Nat.ble_eq_true_of_le hb1]; rfl
    simp only [pm_al, ho, e]
    exact ⟨hin, q⟩
  · refine ⟨_, hs, fun KK' q => ?_⟩
    simp only [pm_al, ho]
    exact ⟨hin, q⟩
theorem pm_as_det {bb : Nat} {h : pm_H} {o : Nat} {i : Int32} {w : Value} {KK : pm_H → Prop} (hs : pm_as bb h o i w KK) : ∃ h', KK h' ∧ (h.length ≤ h'.length ∧ pm_sz h ≤ pm_sz h') ∧ ∀ KK' : pm_H → Prop, KK' h' → pm_as bb h o i w KK' := by
  rcases pm_as_cases hs with ⟨o', n, f, x, rfl, rfl, hb1, ho, hin, hs⟩ | ⟨o', n, f, x, rfl, rfl, rfl, ho, hin, hs⟩
  · refine ⟨_, hs, ⟨by rw [List.length_set]; exact Nat.le_refl _, by rw [pm_sz_set ho (by simp [pm_sz1])]; exact Nat.le_refl _⟩, fun KK' q => ?_⟩
    rcases hb1 with rfl | ⟨rfl, h01⟩
    · simp only [pm_as, ho]
      exact ⟨hin, q⟩
    · simp only [pm_as, ho]
      exact ⟨hin, h01, q⟩
  · refine ⟨_, hs, ⟨by rw [List.length_set]; exact Nat.le_refl _, by rw [pm_sz_set ho (by simp [pm_sz1])]; exact Nat.le_refl _⟩, fun KK' q => ?_⟩
    simp only [pm_as, ho]
    exact ⟨hin, q⟩
theorem pm_rk_det {a : Nat} {st : List Value} {F : Option Value → Prop} (hs : pm_rk a st F) : ∃ w, F w ∧ ∀ F' : Option Value → Prop, F' w → pm_rk a st F' := by
  unfold pm_rk at hs
  split at hs
  · split at hs
    · exact ⟨_, hs, fun F' q => q⟩
    · exact hs.elim
  · split at hs
    · exact ⟨_, hs, fun F' q => q⟩
    · exact hs.elim
  · split at hs
    · exact ⟨_, hs.2, fun F' q => ⟨hs.1, q⟩⟩
    · exact hs.elim
  · split at hs
    · exact ⟨_, hs, fun F' q => q⟩
    · exact hs.elim
  · split at hs
    · exact ⟨_, hs, fun F' q => q⟩
    · exact ⟨_, hs, fun F' q => q⟩
    · exact hs.elim
  · exact hs.elim
/-- one instruction goes one way -/
theorem pm_det {sc : Nat × (Nat → Int32)} {Cl : pm_C} (hCl : ∀ (cal : Nat) (av : List Value) (h : pm_H) (rv : Option Value) (h2 : pm_H), Cl cal av h rv h2 → h.length ≤ h2.length ∧ pm_sz h ≤ pm_sz h2) (e : pm_I) (t : pm_S) (K : pm_S → Prop) (F : Option Value → pm_H → Prop) (hs : pm_sk sc Cl e t K F) :
    (∃ t' : pm_S, K t' ∧ (t.2.2.2.length ≤ t'.2.2.2.length ∧ pm_sz t.2.2.2 ≤ pm_sz t'.2.2.2) ∧ ∀ (K' : pm_S → Prop) (F' : Option Value → pm_H → Prop), K' t' → pm_sk sc Cl e t K' F') ∨ (∃ w : Option Value, F w t.2.2.2 ∧ ∀ (K' : pm_S → Prop) (F' : Option Value → pm_H → Prop), F' w t.2.2.2 → pm_sk sc Cl e t K' F') := by
  obtain ⟨op, a, b, v, tl⟩ := e
  obtain ⟨k, ls, st, h⟩ := t
  have hr : h.length ≤ h.length ∧ pm_sz h ≤ pm_sz h := ⟨Nat.le_refl _, Nat.le_refl _⟩
  match op, hs with
  | 0, hs => exact Or.inl ⟨_, hs, hr, fun _ _ q => q⟩
  | 1, hs =>
    simp only [pm_sk] at hs
    split at hs
    · rename_i w hw
      split at hs
      · rename_i hk
        exact Or.inl ⟨_, hs, hr, fun _ _ q => by simp only [pm_sk, hw, hk]; exact q⟩
      · exact hs.elim
    · exact hs.elim
  | 2, hs =>
    simp only [pm_sk] at hs
    split at hs
    · split at hs
      · rename_i hk
        exact Or.inl ⟨_, hs, hr, fun _ _ q => by simp only [pm_sk, hk]; exact q⟩
      · exact hs.elim
    · exact hs.elim
  | 3, hs =>
    simp only [pm_sk] at hs
    split at hs
    · rename_i w hw
      split at hs
      · exact Or.inl ⟨_, hs, hr, fun _ _ q => by simp only [pm_sk, hw]; exact q⟩
      · exact hs.elim
    · exact hs.elim
  | 4, hs | 6, hs | 7, hs | 8, hs | 9, hs | 10, hs =>
    simp only [pm_sk] at hs
    split at hs
    · exact Or.inl ⟨_, hs, hr, fun _ _ q => q⟩
    · exact hs.elim
  | 11, hs | 12, hs | 13, hs | 28, hs | 30, hs =>
    simp only [pm_sk] at hs
    split at hs
    · split at hs
      · rename_i hk
        exact Or.inl ⟨_, hs, hr, fun _ _ q => by simp only [pm_sk, hk]; exact q⟩
      · exact hs.elim
    · exact hs.elim
  | 31, hs | 32, hs =>
    simp only [pm_sk] at hs
    split at hs
    · exact Or.inl ⟨_, hs.2, hr, fun _ _ q => ⟨hs.1, q⟩⟩
    · exact hs.elim
  | 15, hs | 16, hs =>
    simp only [pm_sk] at hs
    split at hs
    · rcases pm_br_cases hs with ⟨h1, h2⟩ | ⟨h1, h2⟩
      · exact Or.inl ⟨_, h1, hr, fun _ _ q => h2 _ _ q⟩
      · exact Or.inl ⟨_, h1, hr, fun _ _ q => h2 _ _ q⟩
    · exact hs.elim
  | 17, hs => exact Or.inl ⟨_, hs, hr, fun _ _ q => q⟩
  | 18, hs =>
    simp only [pm_sk] at hs
    split at hs
    · split at hs
      · rename_i hg
        split at hs
        · rename_i hb
          split at hs
          · rename_i hw
            exact Or.inl ⟨_, hs, hr, fun _ _ q => by simp only [pm_sk, hg, hb, hw]; exact q⟩
          · exact hs.elim
        · exact hs.elim
      · exact hs.elim
    · exact hs.elim
  | 19, hs =>
    simp only [pm_sk] at hs
    split at hs
    · split at hs
      · rename_i ci fs hg
        split at hs
        · rename_i hb
          obtain ⟨h1, h2⟩ := pm_fk_det hs
          obtain ⟨o', rfl, ho⟩ := pm_get_some hg
          refine Or.inl ⟨_, h1, ⟨?_, ?_⟩, fun _ _ q => by simp only [pm_sk, hg, hb]; exact h2 _ q⟩
          · show h.length ≤ (h.set o' _).length
            rw [List.length_set]; exact Nat.le_refl _
          · show pm_sz h ≤ pm_sz (h.set o' _)
            rw [pm_sz_set ho (by simp [pm_sz1])]; exact Nat.le_refl _
        · exact hs.elim
      · exact hs.elim
    · exact hs.elim
  | 20, hs =>
    simp only [pm_sk] at hs
    split at hs
    · obtain ⟨w, h1, h2⟩ := pm_al_det hs
      exact Or.inl ⟨_, h1, hr, fun K' _ q => h2 (fun w => K' (k + 1, ls, w :: _, h)) q⟩
    · exact hs.elim
  | 21, hs =>
    simp only [pm_sk] at hs
    split at hs
    · obtain ⟨h', h1, hle, h2⟩ := pm_as_det hs
      exact Or.inl ⟨_, h1, hle, fun K' _ q => h2 (fun h' => K' (k + 1, ls, _, h')) q⟩
    · exact hs.elim
  | 22, hs =>
    simp only [pm_sk] at hs
    split at hs
    · split at hs
      · rename_i hk
        exact Or.inl ⟨_, hs, hr, fun _ _ q => by simp only [pm_sk, hk]; exact q⟩
      · exact hs.elim
    · exact hs.elim
  | 23, hs =>
    refine Or.inl ⟨_, hs, ⟨?_, ?_⟩, fun _ _ q => q⟩
    · show h.length ≤ (h ++ [_]).length
      rw [List.length_append]; exact Nat.le_add_right _ _
    · show pm_sz h ≤ pm_sz (h ++ [_])
      rw [pm_sz_app]; exact Nat.le_add_right _ _
  | 24, hs =>
    simp only [pm_sk] at hs
    split at hs
    · split at hs
      · rename_i hk
        refine Or.inl ⟨_, hs, ⟨?_, ?_⟩, fun _ _ q => by simp only [pm_sk, hk]; exact q⟩
        · show h.length ≤ (h ++ [_]).length
          rw [List.length_append]; exact Nat.le_add_right _ _
        · show pm_sz h ≤ pm_sz (h ++ [_])
          rw [pm_sz_app]; exact Nat.le_add_right _ _
      · exact hs.elim
    · exact hs.elim
  | 25, hs =>
    simp only [pm_sk] at hs
    split at hs
    · rename_i hk
      obtain ⟨rv, h2, hc, hs⟩ := hs
      exact Or.inl ⟨_, hs, hCl _ _ _ _ _ hc, fun _ _ q => by simp only [pm_sk, hk]; exact ⟨rv, h2, hc, q⟩⟩
    · exact hs.elim
  | 26, hs =>
    obtain ⟨w, h1, h2⟩ := pm_rk_det (show pm_rk a st (fun w => F w h) from hs)
    exact Or.inr ⟨w, h1, fun _ F' q => h2 (fun w => F' w h) q⟩
  | 29, hs =>
    simp only [pm_sk] at hs
    obtain ⟨x, r, rfl, hq⟩ : ∃ (x : Int32) (r : List Value), st = .int x :: r ∧ (match Nat.ble tl.length 1000 with
      | true => (∀ j : Nat, j < tl.length → x = Int32.ofNat j → K (tl.getD j 0, ls, r, h)) ∧ ((x.toInt < 0 ∨ (tl.length : Int) ≤ x.toInt) → K (a, ls, r, h))
      | false => False) := by
      split at hs
      · exact ⟨_, _, rfl, hs⟩
      · exact hs.elim
    · split at hq
      · rename_i hk
        have hle : tl.length ≤ 1000 := Nat.le_of_ble_eq_true hk
        obtain ⟨hs1, hs2⟩ := hq
        have hof : ∀ j : Nat, j < tl.length → (Int32.ofNat j).toInt = (j : Int) := fun j hj => nI_toInt (by omega)
        by_cases hin : x.toInt < 0 ∨ (tl.length : Int) ≤ x.toInt
        · refine Or.inl ⟨_, hs2 hin, hr, fun _ _ q => ?_⟩
          simp only [pm_sk, hk]
          refine ⟨fun j hj hx => ?_, fun _ => q⟩
          have h2 := hof j hj
          rw [← hx] at h2
          omega
        · have hj : ∃ j : Nat, x.toInt = (j : Int) ∧ j < tl.length := ⟨x.toInt.toNat, by omega, by omega⟩
          obtain ⟨j, hj1, hj2⟩ := hj
          have hxj : x = Int32.ofNat j := by
            apply Int32.toInt_inj.mp
            rw [hj1]
            exact (hof j hj2).symm
          refine Or.inl ⟨_, hs1 j hj2 hxj, hr, fun _ _ q => ?_⟩
          simp only [pm_sk, hk]
          refine ⟨fun i hi hx => ?_, fun n => absurd n hin⟩
          have h2 := hof i hi
          rw [← hx] at h2
          have : i = j := by omega
          subst this
          exact q
      · exact hq.elim
  | 5, hs | 14, hs | 27, hs => exact hs.elim
  | n + 33, hs => exact hs.elim

theorem pm_sk_cl {sc : Nat × (Nat → Int32)} {Cl Cl' : pm_C} (hCl : ∀ (cal : Nat) (av : List Value) (h : pm_H) (rv : Option Value) (h2 : pm_H), Cl cal av h rv h2 → Cl' cal av h rv h2) (e : pm_I) (t : pm_S) (K : pm_S → Prop) (F : Option Value → pm_H → Prop) (hs : pm_sk sc Cl e t K F) : pm_sk sc Cl' e t K F := by
  obtain ⟨op, a, b, v, tl⟩ := e
  obtain ⟨k, ls, st, h⟩ := t
  match op, hs with
  | 25, hs =>
    simp only [pm_sk] at hs
    split at hs
    · rename_i hk
      obtain ⟨rv, h2, hc, hs⟩ := hs
      simp only [pm_sk, hk]
      exact ⟨rv, h2, hCl _ _ _ _ _ hc, hs⟩
    · exact hs.elim
  | 0, hs => exact hs
  | 1, hs => exact hs
  | 2, hs => exact hs
  | 3, hs => exact hs
  | 4, hs => exact hs
  | 5, hs => exact hs
  | 6, hs => exact hs
  | 7, hs => exact hs
  | 8, hs => exact hs
  | 9, hs => exact hs
  | 10, hs => exact hs
  | 11, hs => exact hs
  | 12, hs => exact hs
  | 13, hs => exact hs
  | 14, hs => exact hs
  | 15, hs => exact hs
  | 16, hs => exact hs
  | 17, hs => exact hs
  | 18, hs => exact hs
  | 19, hs => exact hs
  | 20, hs => exact hs
  | 21, hs => exact hs
  | 22, hs => exact hs
  | 23, hs => exact hs
  | 24, hs => exact hs
  | 26, hs => exact hs
  | 27, hs => exact hs
  | 28, hs => exact hs
  | 29, hs => exact hs
  | 30, hs => exact hs
  | 31, hs => exact hs
  | 32, hs => exact hs
  | n + 33, hs => exact hs
/-- the calls of a relation never shrink the heap -/
def pm_Up (Cl : pm_C) : Prop := ∀ (cal : Nat) (av : List Value) (h : pm_H) (rv : Option Value) (h2 : pm_H), Cl cal av h rv h2 → h.length ≤ h2.length ∧ pm_sz h ≤ pm_sz h2
theorem pm_ev_up {sc : Nat × (Nat → Int32)} {Cl : pm_C} (hCl : pm_Up Cl) {cd : List pm_I} : ∀ (n : Nat) (t : pm_S) (r : Option Value) (h' : pm_H), pm_ev sc Cl cd n t r h' → t.2.2.2.length ≤ h'.length ∧ pm_sz t.2.2.2 ≤ pm_sz h'
  | 0, _, _, _, h => h.elim
  | n + 1, t, r, h', h => by
    unfold pm_ev pm_st at h
    split at h
    · rcases pm_det hCl _ _ _ _ h with ⟨t', h1, h2, -⟩ | ⟨w, h1, -⟩
      · have h3 := pm_ev_up hCl n t' r h' h1
        exact ⟨Nat.le_trans h2.1 h3.1, Nat.le_trans h2.2 h3.2⟩
      · rw [h1.2]
        exact ⟨Nat.le_refl _, Nat.le_refl _⟩
    · exact h.elim
theorem pm_D_up (sc : Nat × (Nat → Int32)) : ∀ d, pm_Up (pm_D sc d)
  | 0 => fun _ _ _ _ _ h => h.elim
  | d + 1 => fun mi av h r h' hh => by
    obtain ⟨n, hn⟩ := hh
    exact pm_ev_up (pm_D_up sc d) n _ r h' hn
theorem pm_ev_cl {sc : Nat × (Nat → Int32)} {Cl Cl' : pm_C} (hU : pm_Up Cl) (hCl : ∀ (cal : Nat) (av : List Value) (h : pm_H) (rv : Option Value) (h2 : pm_H), Cl cal av h rv h2 → Cl' cal av h rv h2) {cd : List pm_I} : ∀ (n : Nat) (t : pm_S) (r : Option Value) (h' : pm_H), pm_ev sc Cl cd n t r h' → pm_ev sc Cl' cd n t r h'
  | 0, _, _, _, h => h.elim
  | n + 1, t, r, h', h => by
    unfold pm_ev pm_st at h ⊢
    split at h
    · refine pm_sk_cl hCl _ _ _ _ ?_
      rcases pm_det hU _ _ _ _ h with ⟨t', h1, -, h2⟩ | ⟨w, h1, h2⟩
      · exact h2 _ _ (pm_ev_cl hU hCl n t' r h' h1)
      · exact h2 _ _ h1
    · exact h.elim
theorem pm_D_succ (sc : Nat × (Nat → Int32)) : ∀ (d mi : Nat) (av : List Value) (h : pm_H) (r : Option Value) (h' : pm_H), pm_D sc d mi av h r h' → pm_D sc (d + 1) mi av h r h'
  | 0, _, _, _, _, _, h => h.elim
  | d + 1, mi, av, h, r, h', hh => by
    obtain ⟨n, hn⟩ := hh
    exact ⟨n, pm_ev_cl (pm_D_up sc d) (pm_D_succ sc d) n _ r h' hn⟩
theorem pm_D_le {sc : Nat × (Nat → Int32)} {d d' mi : Nat} {av : List Value} {h : pm_H} {r : Option Value} {h' : pm_H} (hh : pm_D sc d mi av h r h') (hd : d ≤ d') : pm_D sc d' mi av h r h' := by
  induction hd with
  | refl => exact hh
  | step _ ih => exact pm_D_succ sc _ mi av h r h' ih
end
section
def pm_g : List Jvm.Cond := lw_tbl.filter goodWord
def pm_ws (mi : Nat) : List Jvm.Cond := Jvm.Cond.code (pm_y mi) (pm_b mi) (pm_nl mi) (pm_r mi) :: pm_g
def pm_rm (d mc ms : Nat) : Room := { frames := d, cells := mc, slots := ms, locals := 40 * d }
theorem pm_N_on {w : Jvm.Cond} (hw : pm_isN w = true) : w.onTables = true := by
  cases w <;> first | (simp [pm_isN] at hw; done) | rfl
theorem pm_N_warm {w : Jvm.Cond} (hw : pm_isN w = true) {s U : State} (hW : s.WarmedH U.vm) (h : va_Nw w s) : va_Nw w U := by
  cases w <;> first | (simp [pm_isN] at hw; done) | exact va_Nw.warmF hW h | exact va_Nw.warmM hW h
def pm_Pc (D : va_G) (dA : Nat → ClassId) (b n0 : Nat) (sc : Nat × (Nat → Int32)) (av : List Value) (h : pm_H) : Array Value → State → Prop := fun A U =>
  A = (av.map (pm_sh b n0)).toArray ∧ U.heap.size = n0 + h.length ∧ va_P D pm_cl (pm_wo dA b n0 h) U.heap ∧ va_K D pm_cl (pm_tys dA) U ∧ va_X b sc.1 sc.2 U U.heap ∧ b < n0 ∧ ∀ w ∈ pm_tbl, pm_isN w = true → va_Nw w U
def pm_Qc (D : va_G) (dA : Nat → ClassId) (b n0 : Nat) (r : Option Value) (h' : pm_H) : Array Value → State → Outcome → State → Prop := fun _ st oc t =>
  oc = .returned (r.map (pm_sh b n0)) ∧ va_P D pm_cl (pm_wo dA b n0 h') t.heap ∧ va_F (fun q => n0 ≤ q) st t
def pm_M (l : Launch) (D : va_G) (dA : Nat → ClassId) (b n0 : Nat) (sc : Nat × (Nat → Int32)) (d mi : Nat) (av : List Value) (h : pm_H) (r : Option Value) (h' : pm_H) : Prop :=
  Met l (pm_y mi) (pm_ws mi) (pm_rm d (h'.length - h.length) (pm_sz h' - pm_sz h)) (pm_Pc D dA b n0 sc av h) (pm_Qc D dA b n0 r h') (h'.length - h.length) (pm_sz h' - pm_sz h) (fun q => n0 ≤ q)
theorem pm_Pc_blind (D : va_G) (dA : Nat → ClassId) (b n0 : Nat) (sc : Nat × (Nat → Int32)) (av : List Value) (h : pm_H) : FrameBlind (pm_Pc D dA b n0 sc av h) := fun a U g mk q => by
  obtain ⟨q0, q1, q2, q3, q4, q5, q6⟩ := q
  exact ⟨q0, q1, q2, va_K.moved (u := U) (U := U.calling g mk a) (Vm.Alike.refl U.vm) q3, va_X.moved (u := U) (U := U.calling g mk a) (Vm.Alike.refl U.vm) q4, q5, fun w hw hn => va_Nw.same (u := U) (U := U.calling g mk a) (pm_N_on hn) rfl (q6 w hw hn)⟩
theorem pm_good {a : Nat} (hc : Jvm.Cond.code (pm_y a) (pm_b a) (pm_nl a) (pm_r a) ∈ pm_tbl) : GoodIn pm_tbl (pm_ws a) := fun w hw => by
  rcases List.mem_cons.mp hw with rfl | hw
  · have h2 := (List.mem_filter.mp hc).2
    exact ⟨hc, good_of_word (by simpa [pm_use, pm_isN] using h2)⟩
  · have h2 := List.mem_filter.mp hw
    exact ⟨List.mem_filter.mpr ⟨h2.1, by unfold pm_use; rw [h2.2]; rfl⟩, good_of_word h2.2⟩
theorem pm_take : ∀ (st : List Value) (n : Nat) (v : Value), st[n]? = some v → st.take (n + 1) = st.take n ++ [v]
  | [], n, v, h => by simp at h
  | x :: t, 0, v, h => by
    have : x = v := by simpa using h
    simp [this]
  | x :: t, n + 1, v, h => by
    have h1 := pm_take t n v (by simpa using h)
    show x :: t.take (n + 1) = x :: t.take n ++ [v]
    rw [h1]
    rfl
theorem pm_cat_sh (b n0 : Nat) (r : List Value) : ((r.map (pm_sh b n0)).map fun v => v.category).sum = pm_cat r := by
  unfold pm_cat
  rw [List.map_map]
  congr 1
  apply List.map_congr_left
  intro v _
  exact pm_sh_cat b n0 v
section PMC
variable {p : Program} {l : Launch} {e : Env} {R : Room} {s : State} {m : MethodId} {args : Array Value} {below : List Frame} {meth : Method} {c : Code} {Q : State → Prop}
variable {D : va_G} {dA : Nat → ClassId} {b n0 : Nat} {h0 : pm_H} {sc : Nat × (Nat → Int32)} {mi : Nat} {Cl : pm_C} {K : pm_S → Prop} {F : Option Value → pm_H → Prop}
variable {k a bb : Nat} {v : Value} {tl : List Nat} {ls : pm_L} {st : List Value} {h : pm_H}
/-- behind a call -/
theorem pm_cont {H : Heap} {locs : List Loc} {cells slots mc ms pc : Nat} {rls : Array Slot} {st0 rest : List Value} {A : Array Value} {rv : Option Value} {h2 : pm_H}
    (hr : va_Run p l e R s m args below meth c H locs cells slots mc ms (F0 m pc rls st0) rest (pm_Qc D dA b n0 rv h2 A) (fun q => n0 ≤ q)) (hS : va_S (fun q => n0 ≤ q) s.heap H locs)
    (kk : ∀ (H1 : Heap) (locs1 : List Loc), va_P D pm_cl (pm_wo dA b n0 h2) H1 → va_S (fun q => n0 ≤ q) s.heap H1 locs1 → W p l e R s m args below meth c H1 locs1 (cells + mc) (slots + ms) Q (F0 m (pc + 3) rls ((rv.map (pm_sh b n0)).toList ++ rest))) : W p l e R s m args below meth c H locs cells slots Q (F0 m pc rls st0) := by
  intro T hT X
  obtain ⟨v, st₀, t, T', L, e0, X', hL, e1, e2, ⟨hv, hP1, hz, hk⟩, st⟩ := hr T hT X
  cases hv
  rw [e0] at hz hk
  obtain ⟨t2, a1, b1⟩ := kk T'.heap (locs ++ L) (by rw [e1]; exact hP1)
    ⟨Nat.le_trans hS.1 (by rw [e1]; exact hz), fun q h1 h2 => by rw [e1, hk q (Nat.lt_of_lt_of_le h1 hS.1) h2]; exact hS.2.1 q h1 h2, fun q hq => by
      rcases List.mem_append.mp hq with h | h
      · exact hS.2.2 q h
      · exact hL q h⟩ T' rfl X'
  exact ⟨t2, st t2 a1, b1⟩
theorem pm_w25 {d : Nat} (X : pm_X p s m args meth c D dA b n0 sc h0 mi) (ok : pm_ok mi k (25, a, bb, v, tl)) (hs0 : pm_sk sc Cl (25, a, bb, v, tl) (k, ls, st, h) K F) (hK : ∀ t, K t → pm_G p l e R s m args below meth c Q D dA b n0 h0 mi t) (hB : ∀ t, K t → t.2.2.2.length ≤ R.cells + h0.length ∧ pm_sz t.2.2.2 ≤ R.slots + pm_sz h0)
    (okm : ∀ a, a < 106 → pm_okm a) (hU : pm_Up Cl) (hM : ∀ (cal : Nat) (av : List Value) (h : pm_H) (rv : Option Value) (h2 : pm_H), Cl cal av h rv h2 → (pm_fl av).length ≤ pm_nl cal → cal < 106 → pm_M l D dA b n0 sc d cal av h rv h2) (hR : d + 1 ≤ R.frames ∧ 40 * d + 40 ≤ R.locals) : pm_G p l e R s m args below meth c Q D dA b n0 h0 mi (k, ls, st, h) := by
  obtain ⟨hx, hb, hml, hown, hts, hKv, hX, hbn, hsz, -⟩ := X
  intro H locs rls cells slots hP hS hl hc hz
  dsimp only at hP hl hc hz ⊢
  obtain ⟨hble, hrcv, hcat, hfl, rv, h2, hcl, hs⟩ : bb ≤ st.length ∧ pm_rcv tl st bb h = true ∧ pm_cat (st.drop bb) ≤ 8 ∧ (pm_fl (st.take bb).reverse).length ≤ pm_nl a ∧ ∃ (rv : Option Value) (h2 : pm_H), Cl a (st.take bb).reverse h rv h2 ∧ K (k + 1, ls, rv.toList ++ st.drop bb, h2) := by
    simp only [pm_sk] at hs0
    split at hs0
    · rename_i hk
      rw [Bool.and_eq_true, Bool.and_eq_true, Bool.and_eq_true] at hk
      obtain ⟨⟨⟨k1, k2⟩, k3⟩, k4⟩ := hk
      exact ⟨Nat.le_of_ble_eq_true k1, k2, Nat.le_of_ble_eq_true k3, Nat.le_of_ble_eq_true k4, hs0⟩
    · exact hs0.elim
  clear hs0
  obtain ⟨i, ha, hp, hlk, hcase⟩ := ok
  obtain ⟨hpl, hcode, hinit, hn1, hn2, hnl, hpc0⟩ := okm a ha
  have hMet := hM _ _ _ _ _ hcl hfl ha
  have hup := hU _ _ _ _ _ hcl
  have hb1 := hB _ hs
  dsimp only at hb1
  have cont : ∀ (H1 : Heap) (locs1 : List Loc), va_P D pm_cl (pm_wo dA b n0 h2) H1 → va_S (fun q => n0 ≤ q) s.heap H1 locs1 → W p l e R s m args below meth c H1 locs1 (cells + (h2.length - h.length)) (slots + (pm_sz h2 - pm_sz h)) Q (F0 m (pm_pc mi k + 3) rls ((rv.map (pm_sh b n0)).toList ++ (st.drop bb).map (pm_sh b n0))) := by
    intro H1 locs1 hP1 hS1
    have hW := hK _ hs H1 locs1 rls (cells + (h2.length - h.length)) (slots + (pm_sz h2 - pm_sz h)) hP1 hS1 hl (by show _ = h2.length; omega) (by show _ = pm_sz h2; omega)
    dsimp only at hW
    rw [hp, List.map_append] at hW
    cases rv with
    | none => exact hW
    | some w => exact hW
  have hf : cells + (h2.length - h.length) ≤ R.cells ∧ slots + (pm_sz h2 - pm_sz h) ≤ R.slots := by omega
  have hRm : (pm_rm d (h2.length - h.length) (pm_sz h2 - pm_sz h)).frames + 1 ≤ R.frames ∧ 8 + (pm_nl a + 11) + (pm_rm d (h2.length - h.length) (pm_sz h2 - pm_sz h)).locals ≤ R.locals := by
    refine ⟨hR.1, ?_⟩
    show 8 + (pm_nl a + 11) + 40 * d ≤ R.locals
    omega
  have hG := pm_good hcode
  have hroom : 2 * (F0 m (pm_pc mi k) rls (st.map (pm_sh b n0))).monitorRoom + (((st.drop bb).map (pm_sh b n0)).map fun v => v.category).sum ≤ 8 := lv_room (by rw [pm_cat_sh]; exact hcat)
  refine pm_size (fun hsz1 => ?_)
  have hHsz : H.size = n0 + h.length := by
    have h1 := pm_wo_le (n0 := n0) (Nat.le_trans (by omega) hS.1) hP
    omega
  have pre : ∀ U : State, U.heap = H → s.WarmedH U.vm → pm_Pc D dA b n0 sc (st.take bb).reverse h (((st.take bb).reverse).map (pm_sh b n0)).toArray U := fun U hU hW =>
    ⟨rfl, by rw [hU]; exact hHsz, by rw [hU]; exact hP, va_K.moved hW.alike hKv, by rw [hU]; exact va_X.moved hW.alike (hX.kept (hS.2.1 b (by omega) (by show ¬ n0 ≤ b; omega))), hbn, fun w hw hn => pm_N_warm hn hW (va_Nw.of (pm_N_on hn) (hts w hw))⟩
  have hspl : st.map (pm_sh b n0) = (st.take bb).map (pm_sh b n0) ++ (st.drop bb).map (pm_sh b n0) := by
    rw [← List.map_append, List.take_append_drop]
  have hrecv : ∀ ci : Nat, tl = [ci] → 1 ≤ bb → ∃ (o' : Nat) (fs : List Value), (pm_wo dA b n0 h)[o']? = some (n0 + o', .inr (ci, fs)) ∧ ((st.take bb).reverse).map (pm_sh b n0) = .ref (n0 + o') :: (((st.take (bb - 1)).reverse).map (pm_sh b n0)) ∧ st.map (pm_sh b n0) = (((st.take (bb - 1)).reverse).map (pm_sh b n0)).reverse ++ .ref (n0 + o') :: (st.drop bb).map (pm_sh b n0) := by
    intro ci htl h1
    subst htl
    unfold pm_rcv at hrcv
    dsimp only at hrcv
    split at hrcv
    · rename_i o ho
      split at hrcv
      · rename_i cj fs hg
        have e := Nat.eq_of_beq_eq_true hrcv
        subst e
        obtain ⟨o', rfl, hg⟩ := pm_get_some hg
        have ht := pm_take st (bb - 1) _ ho
        rw [show bb - 1 + 1 = bb by omega] at ht
        refine ⟨o', _, pm_wo_some hg, ?_, ?_⟩
        · rw [ht, List.reverse_append]
          rfl
        · rw [hspl, ht, List.map_append, List.map_reverse, List.reverse_reverse, List.append_assoc]
          rfl
      · cases hrcv
    · cases hrcv
  rcases hcase with ⟨hd, ci, T, N, htl, hcl', h1b, hparse, hinst, hsel⟩ | ⟨hd, ci, htl, hnm, hrn, h1b, hparse, hinst⟩ | ⟨hd, htl, hparse, hstat⟩
  · obtain ⟨o', fs, he, hav, hst⟩ := hrecv ci htl h1b
    rw [hav] at pre
    have hlen : (((st.take (bb - 1)).reverse).map (pm_sh b n0)).length = bb - 1 := by
      rw [List.length_map, List.length_reverse, List.length_take]; omega
    rcases hlk with hlk | ⟨host, hlk⟩
    · exact pm_cont (va_runV ⟨hx, hb, hml, hown, hts⟩ hMet ⟨callB_of (bb - 1) hts hG rfl rfl rfl (hts _ hinit) (hts _ hlk) ⟨hn1, hn2, hparse⟩ hRm, hts _ hinst, hts _ hsel⟩ ⟨pm_Pc_blind _ _ _ _ _ _ _, va_recv hKv hP hcl' he, pre⟩ rfl hlen hl.2.1 hst hroom hd hf) hS cont
    · exact pm_cont (va_runVN ⟨hx, hb, hml, hown, hts⟩ hMet ⟨va_cnB (bb - 1) hts hG rfl rfl rfl (va_Nw.of rfl (hts _ hlk)) (hts _ hinit) ⟨hn1, hn2, hparse⟩ hRm, hts _ hinst, hts _ hsel⟩ ⟨pm_Pc_blind _ _ _ _ _ _ _, va_recv hKv hP hcl' he, pre⟩ rfl hlen hl.2.1 hst hroom hd hf) hS cont
  · obtain ⟨o', fs, he, hav, hst⟩ := hrecv ci htl h1b
    rw [hav] at pre
    have hlen : (((st.take (bb - 1)).reverse).map (pm_sh b n0)).length = bb - 1 := by
      rw [List.length_map, List.length_reverse, List.length_take]; omega
    have hws : pm_ws a = Jvm.Cond.code (pm_y a) (pm_b a) (pm_nl a) none :: pm_g := by unfold pm_ws; rw [hrn]
    rcases hlk with hlk | ⟨host, hlk⟩
    · exact pm_cont (va_runI ⟨hx, hb, hml, hown, hts⟩ hMet ⟨callB_of (bb - 1) hts hG hws rfl rfl (hts _ hinit) (hts _ hlk) ⟨hn1, hn2, hparse⟩ hRm, hnm, hts _ hinst⟩ ⟨pm_Pc_blind _ _ _ _ _ _ _, pre⟩ rfl hlen hl.2.1 hst hroom hd hf) hS cont
    · exact pm_cont (va_runIN ⟨hx, hb, hml, hown, hts⟩ hMet ⟨va_cnB (bb - 1) hts hG hws rfl rfl (va_Nw.of rfl (hts _ hlk)) (hts _ hinit) ⟨hn1, hn2, hparse⟩ hRm, hnm, hts _ hinst⟩ ⟨pm_Pc_blind _ _ _ _ _ _ _, pre⟩ rfl hlen hl.2.1 hst hroom hd hf) hS cont
  · have hlen : (((st.take bb).reverse).map (pm_sh b n0)).length = bb := by
      rw [List.length_map, List.length_reverse, List.length_take]; omega
    have hst : st.map (pm_sh b n0) = (((st.take bb).reverse).map (pm_sh b n0)).reverse ++ (st.drop bb).map (pm_sh b n0) := by
      rw [hspl, List.map_reverse, List.reverse_reverse]
    rcases hlk with hlk | ⟨host, hlk⟩
    · exact pm_cont (va_runS ⟨hx, hb, hml, hown, hts⟩ hMet ⟨callB_of bb hts hG rfl rfl rfl (hts _ hinit) (hts _ hlk) ⟨hn1, hn2, hparse⟩ hRm, hts _ hstat⟩ ⟨pm_Pc_blind _ _ _ _ _ _ _, pre⟩ rfl hlen hl.2.1 hst hroom hd hf) hS cont
    · exact pm_cont (va_runSN ⟨hx, hb, hml, hown, hts⟩ hMet ⟨va_cnB bb hts hG rfl rfl rfl (va_Nw.of rfl (hts _ hlk)) (hts _ hinit) ⟨hn1, hn2, hparse⟩ hRm, hts _ hstat, trivial⟩ ⟨pm_Pc_blind _ _ _ _ _ _ _, pre⟩ rfl hlen hl.2.1 hst hroom hd hf) hS cont
/-- a method's end -/
theorem pm_w26 {r : Option Value} {h' : pm_H} (X : pm_X p s m args meth c D dA b n0 sc h0 mi) (hret : meth.sig.returnType = pm_r mi) (hlocks : meth.locks = false) (ok : pm_ok mi k (26, a, bb, v, tl)) (hs : pm_rk a st (fun w => w = r ∧ h = h')) :
    pm_G p l e R s m args below meth c (MQ below (pm_Qc D dA b n0 r h') args s (h'.length - h0.length) (pm_sz h' - pm_sz h0) (fun q => n0 ≤ q)) D dA b n0 h0 mi (k, ls, st, h) := by
  obtain ⟨hx, hb, hml, hown, hts, hKv, hX, hbn, hsz, -⟩ := X
  intro H locs rls cells slots hP hS hl hc hz
  dsimp only at hP hl hc hz ⊢
  have hq : h = h' → ∀ t : State, t.heap = H → s.WarmedH t.vm → pm_Qc D dA b n0 r h' args s (.returned (r.map (pm_sh b n0))) t := fun e t ht hW => ⟨rfl, by rw [ht, ← e]; exact hP, hS.F ht⟩
  have hcs : h = h' → cells = h'.length - h0.length ∧ slots = pm_sz h' - pm_sz h0 := fun e => by subst e; omega
  match a, ok, hs with
  | 0, ok, hs =>
    simp only [pm_rk] at hs
    split at hs
    · obtain ⟨hr, e⟩ := hs
      obtain ⟨e1, e2⟩ := hcs e
      subst e1; subst e2; subst hr
      exact W.vret hx hb (hret.trans ok.2) (hq e) hS.2.2 ok.1
    · exact hs.elim
  | 1, ok, hs =>
    simp only [pm_rk] at hs
    split at hs
    · obtain ⟨hr, e⟩ := hs
      obtain ⟨e1, e2⟩ := hcs e
      subst e1; subst e2; subst hr
      exact W.iret hx hb (hret.trans ok.2) (hq e) hS.2.2 ok.1
    · exact hs.elim
  | 2, ok, hs =>
    simp only [pm_rk] at hs
    split at hs
    · obtain ⟨h01, hr, e⟩ := hs
      obtain ⟨e1, e2⟩ := hcs e
      subst e1; subst e2; subst hr
      exact W.zret hx hb (hret.trans ok.2) (by rcases h01 with rfl | rfl <;> rfl) (hq e) hS.2.2 ok.1
    · exact hs.elim
  | 3, ok, hs =>
    simp only [pm_rk] at hs
    split at hs
    · obtain ⟨hr, e⟩ := hs
      obtain ⟨e1, e2⟩ := hcs e
      subst e1; subst e2; subst hr
      exact W.lret hx hb (hret.trans ok.2) (hq e) hS.2.2 ok.1
    · exact hs.elim
  | 4, ok, hs =>
    obtain ⟨hd, C, hrt⟩ := ok
    simp only [pm_rk] at hs
    split at hs
    · obtain ⟨hr, e⟩ := hs
      obtain ⟨e1, e2⟩ := hcs e
      subst e1; subst e2; subst hr
      exact W.aret hx hb (hret.trans hrt) (Or.inl ⟨_, rfl⟩) (Or.inr ⟨_, rfl⟩) (hq e) hS.2.2 hd
    · obtain ⟨hr, e⟩ := hs
      obtain ⟨e1, e2⟩ := hcs e
      subst e1; subst e2; subst hr
      exact W.aret hx hb (hret.trans hrt) (Or.inl ⟨_, rfl⟩) (Or.inl rfl) (hq e) hS.2.2 hd
    · exact hs.elim
  | n + 5, ok, hs => exact hs.elim
/-- a method's body: what the pure machine comes to, the JVM comes to -/
theorem pm_main {d : Nat} {r : Option Value} {h' : pm_H} (X : pm_X p s m args meth c D dA b n0 sc h0 mi) (oks : pm_oks mi 0 (pm_cd mi)) (okm : ∀ a, a < 106 → pm_okm a) (hU : pm_Up Cl) (hM : ∀ (cal : Nat) (av : List Value) (h : pm_H) (rv : Option Value) (h2 : pm_H), Cl cal av h rv h2 → (pm_fl av).length ≤ pm_nl cal → cal < 106 → pm_M l D dA b n0 sc d cal av h rv h2) (hR : d + 1 ≤ R.frames ∧ 40 * d + 40 ≤ R.locals)
    (hB : h'.length ≤ R.cells + h0.length ∧ pm_sz h' ≤ R.slots + pm_sz h0)
    (hend : ∀ (k a bb : Nat) (v : Value) (tl : List Nat) (ls : pm_L) (st : List Value) (h : pm_H), pm_ok mi k (26, a, bb, v, tl) → pm_rk a st (fun w => w = r ∧ h = h') → pm_G p l e R s m args below meth c Q D dA b n0 h0 mi (k, ls, st, h)) :
    ∀ (n : Nat) (t : pm_S), pm_ev sc Cl (pm_cd mi) n t r h' → pm_G p l e R s m args below meth c Q D dA b n0 h0 mi t
  | 0, _, h => h.elim
  | n + 1, t, hev => by
    have ih := pm_main X oks okm hU hM hR hB hend n
    have hB' : ∀ t, pm_ev sc Cl (pm_cd mi) n t r h' → t.2.2.2.length ≤ R.cells + h0.length ∧ pm_sz t.2.2.2 ≤ R.slots + pm_sz h0 := fun t ht => by
      have h1 := pm_ev_up hU n t r h' ht
      omega
    have hR1 : 1 ≤ R.frames ∧ 40 ≤ R.locals := by omega
    unfold pm_ev pm_st at hev
    split at hev
    · rename_i en hf
      have ok := pm_oks_at _ 0 _ _ oks hf
      rw [Nat.zero_add] at ok
      obtain ⟨op, a, bb, v, tl⟩ := en
      obtain ⟨k, ls, st, h⟩ := t
      match op, ok, hev with
      | 0, ok, hs => exact pm_w0 X ok hs ih
      | 1, ok, hs => exact pm_w1 X ok hs ih
      | 2, ok, hs => exact pm_w2 X ok hs ih
      | 3, ok, hs => exact pm_w3 X ok hs ih
      | 4, ok, hs => exact pm_w4 X ok hs ih
      | 6, ok, hs => exact pm_w6 X ok hs ih
      | 7, ok, hs => exact pm_w7 X ok hs ih
      | 8, ok, hs => exact pm_w8 X ok hs ih
      | 9, ok, hs => exact pm_w9 X ok hs ih
      | 10, ok, hs => exact pm_w10 X ok hs ih
      | 11, ok, hs => exact pm_w11 X ok hs ih
      | 12, ok, hs => exact pm_w12 X ok hs ih
      | 13, ok, hs => exact pm_w13 X ok hs ih
      | 15, ok, hs => exact pm_w15 X ok hs ih
      | 16, ok, hs => exact pm_w16 X ok hs ih
      | 17, ok, hs => exact pm_w17 X ok hs ih
      | 18, ok, hs => exact pm_w18 X ok hs ih
      | 19, ok, hs => exact pm_w19 X ok hs ih
      | 20, ok, hs => exact pm_w20 X ok hs ih
      | 21, ok, hs => exact pm_w21 X ok hs ih
      | 22, ok, hs => exact pm_w22 X ok hs ih
      | 23, ok, hs => exact pm_w23 X ok hs ih hB'
      | 24, ok, hs => exact pm_w24 X ok hs ih hB'
      | 25, ok, hs => exact pm_w25 X ok hs ih hB' okm hU hM hR
      | 26, ok, hs => exact hend k a bb v tl ls st h ok hs
      | 28, ok, hs => exact pm_w28 X ok hs ih hR1
      | 29, ok, hs => exact pm_w29 X ok hs ih
      | 30, ok, hs => exact pm_w30 X ok hs ih hR1 hB'
      | 31, ok, hs => exact pm_w31 X ok hs ih
      | 32, ok, hs => exact pm_w32 X ok hs ih
      | 5, ok, hs => exact hs.elim
      | 14, ok, hs => exact hs.elim
      | 27, ok, hs => exact hs.elim
      | n + 33, ok, hs => exact hs.elim
    · exact hev.elim
end PMC
/-- a called method -/
theorem pm_met (l : Launch) (D : va_G) (dA : Nat → ClassId) (b n0 : Nat) (sc : Nat × (Nat → Int32)) (okall : ∀ mi, mi < 107 → pm_oks mi 0 (pm_cd mi)) (okm : ∀ a, a < 106 → pm_okm a) :
    ∀ (d mi : Nat) (av : List Value) (h : pm_H) (r : Option Value) (h' : pm_H), pm_D sc d mi av h r h' → (pm_fl av).length ≤ pm_nl mi → mi < 106 → pm_M l D dA b n0 sc d mi av h r h'
  | 0, _, _, _, _, _, hd, _, _ => hd.elim
  | d + 1, mi, av, h, r, h', hd, hfl, hmi => by
    have hM := pm_met l D dA b n0 sc okall okm d
    have hup := pm_D_up sc (d + 1) _ _ _ _ _ hd
    obtain ⟨n, hev⟩ := hd
    obtain ⟨hpl, hcode, hinit, hn1, hn2, hnl, hpc0⟩ := okm mi hmi
    refine Met.ofW (cc := pm_b mi) (maxL := pm_nl mi) (ret := pm_r mi) hpl rfl ?_
    intro p e s m args below meth c s₁ B hml hv
    obtain ⟨rfl, hsz, hP, hK, hX, hbn, hN⟩ := hv
    have hts0 := atoms_spec (ws := pm_ws mi) B.pre
    have hts : ∀ w ∈ pm_tbl, w.before ((av.map (pm_sh b n0)).toArray) s = true := fun w hw => by
      by_cases hg : goodWord w = true
      · exact hts0 w (List.mem_cons_of_mem _ (List.mem_filter.mpr ⟨(List.mem_filter.mp hw).1, hg⟩))
      · have h2 := (List.mem_filter.mp hw).2
        unfold pm_use at h2
        have hn : pm_isN w = true := by
          cases hgw : goodWord w with
          | true => exact absurd hgw hg
          | false => rw [hgw] at h2; exact h2
        exact va_Nw.use (pm_N_on hn) (hN w hw hn)
    have hown : s.vm.findClass (pm_y mi).cls = some m.cls := findClass_of_methodNamed B.named
    have X : pm_X p s m ((av.map (pm_sh b n0)).toArray) meth c D dA b n0 sc h mi := ⟨B.exec, B.bytes, hml, hown, hts, hK, hX, hbn, hsz, fun hi => by rw [← hi]; exact (name_of_methodNamed B.named B.method).1⟩
    have hG := pm_main (l := l) (e := e) (below := below) (R := (headSpec (pm_ws mi) (pm_rm (d + 1) (h'.length - h.length) (pm_sz h' - pm_sz h))).room) (Q := MQ below (pm_Qc D dA b n0 r h') ((av.map (pm_sh b n0)).toArray) s (h'.length - h.length) (pm_sz h' - pm_sz h) (fun q => n0 ≤ q)) X (okall mi (by omega)) okm (pm_D_up sc d) hM ⟨Nat.le_refl _, by show 40 * d + 40 ≤ 40 * (d + 1); omega⟩ (by
        show h'.length ≤ (h'.length - h.length) + h.length ∧ pm_sz h' ≤ (pm_sz h' - pm_sz h) + pm_sz h
        omega) (fun k a bb v tl ls st hh ok hs => pm_w26 X B.returns B.notSynchronized ok hs) n _ hev
    have hW := hG s.heap [] _ 0 0 hP va_S.rf (pm_lo_ent b n0 hfl) (Nat.zero_add _) (Nat.zero_add _)
    dsimp only at hW
    rw [hpc0] at hW
    rw [lg_entry_eq]
    exact hW
end
