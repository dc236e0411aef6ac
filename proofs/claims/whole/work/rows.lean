section
-- ===== PART A: goes FIRST, ahead of the names: the tables' words, and 'selects' of the private methods out of them =====
/-- a private method of a class that the tables say can be made, by its rows of tables_1 -/
def lw_okq (q : MethodName × Nat) : Prop := (q.1.cls ≠ "java/lang/invoke/MethodHandle" ∧ q.1.cls ≠ "java/lang/invoke/VarHandle") ∧ Cond.instantiable q.1.cls q.2 ∈ tables_1 ∧ Cond.privateMethod q.1 ∈ tables_1 ∧ Cond.instanceMethod q.1 ∈ tables_1
theorem lw_p0 : lw_okq (⟨"HangsTogether$Joins", "build", "()V"⟩, 2) := ⟨⟨by decide +kernel, by decide +kernel⟩, List.mem_of_getElem? (i := 101) (by decide +kernel), List.mem_of_getElem? (i := 227) (by decide +kernel), List.mem_of_getElem? (i := 228) (by decide +kernel)⟩
theorem lw_p1 : lw_okq (⟨"HangsTogether$Ways", "list", "()V"⟩, 7) := ⟨⟨by decide +kernel, by decide +kernel⟩, List.mem_of_getElem? (i := 114) (by decide +kernel), List.mem_of_getElem? (i := 251) (by decide +kernel), List.mem_of_getElem? (i := 252) (by decide +kernel)⟩
theorem lw_p2 : lw_okq (⟨"HangsTogether$Village", "sets", "()I"⟩, 10) := ⟨⟨by decide +kernel, by decide +kernel⟩, List.mem_of_getElem? (i := 22) (by decide +kernel), List.mem_of_getElem? (i := 255) (by decide +kernel), List.mem_of_getElem? (i := 256) (by decide +kernel)⟩
theorem lw_p3 : lw_okq (⟨"HangsTogether$Village", "allows", "(I)Z"⟩, 10) := ⟨⟨by decide +kernel, by decide +kernel⟩, List.mem_of_getElem? (i := 22) (by decide +kernel), List.mem_of_getElem? (i := 259) (by decide +kernel), List.mem_of_getElem? (i := 260) (by decide +kernel)⟩
theorem lw_p4 : lw_okq (⟨"HangsTogether$Joins", "leavesForest", "(II)Z"⟩, 2) := ⟨⟨by decide +kernel, by decide +kernel⟩, List.mem_of_getElem? (i := 101) (by decide +kernel), List.mem_of_getElem? (i := 263) (by decide +kernel), List.mem_of_getElem? (i := 264) (by decide +kernel)⟩
theorem lw_p5 : lw_okq (⟨"HangsTogether$Joins", "stateOf", "(I)I"⟩, 2) := ⟨⟨by decide +kernel, by decide +kernel⟩, List.mem_of_getElem? (i := 101) (by decide +kernel), List.mem_of_getElem? (i := 267) (by decide +kernel), List.mem_of_getElem? (i := 268) (by decide +kernel)⟩
theorem lw_p6 : lw_okq (⟨"HangsTogether$Village", "worthOf", "(I)I"⟩, 10) := ⟨⟨by decide +kernel, by decide +kernel⟩, List.mem_of_getElem? (i := 22) (by decide +kernel), List.mem_of_getElem? (i := 274) (by decide +kernel), List.mem_of_getElem? (i := 275) (by decide +kernel)⟩
theorem lw_p7 : lw_okq (⟨"HangsTogether", "refuse", "(I)I"⟩, 12) := ⟨⟨by decide +kernel, by decide +kernel⟩, List.mem_of_getElem? (i := 14) (by decide +kernel), List.mem_of_getElem? (i := 319) (by decide +kernel), List.mem_of_getElem? (i := 320) (by decide +kernel)⟩
theorem lw_p8 : lw_okq (⟨"HangsTogether$Letters", "haveRoom", "()Z"⟩, 2) := ⟨⟨by decide +kernel, by decide +kernel⟩, List.mem_of_getElem? (i := 87) (by decide +kernel), List.mem_of_getElem? (i := 323) (by decide +kernel), List.mem_of_getElem? (i := 324) (by decide +kernel)⟩
theorem lw_p9 : lw_okq (⟨"HangsTogether$Letters", "append", "(I)I"⟩, 2) := ⟨⟨by decide +kernel, by decide +kernel⟩, List.mem_of_getElem? (i := 87) (by decide +kernel), List.mem_of_getElem? (i := 327) (by decide +kernel), List.mem_of_getElem? (i := 328) (by decide +kernel)⟩
theorem lw_p10 : lw_okq (⟨"HangsTogether$Village", "copy", "(LHangsTogether$Village;)V"⟩, 10) := ⟨⟨by decide +kernel, by decide +kernel⟩, List.mem_of_getElem? (i := 22) (by decide +kernel), List.mem_of_getElem? (i := 335) (by decide +kernel), List.mem_of_getElem? (i := 336) (by decide +kernel)⟩
theorem lw_p11 : lw_okq (⟨"HangsTogether$Letters", "tellTo", "(LHangsTogether$Village;)I"⟩, 2) := ⟨⟨by decide +kernel, by decide +kernel⟩, List.mem_of_getElem? (i := 87) (by decide +kernel), List.mem_of_getElem? (i := 339) (by decide +kernel), List.mem_of_getElem? (i := 340) (by decide +kernel)⟩
theorem lw_p12 : lw_okq (⟨"HangsTogether$Letters", "placeOfWrongForm", "()I"⟩, 2) := ⟨⟨by decide +kernel, by decide +kernel⟩, List.mem_of_getElem? (i := 87) (by decide +kernel), List.mem_of_getElem? (i := 343) (by decide +kernel), List.mem_of_getElem? (i := 344) (by decide +kernel)⟩
theorem lw_p13 : lw_okq (⟨"HangsTogether$Letters", "tellOne", "(LHangsTogether$Village;II)Z"⟩, 2) := ⟨⟨by decide +kernel, by decide +kernel⟩, List.mem_of_getElem? (i := 87) (by decide +kernel), List.mem_of_getElem? (i := 359) (by decide +kernel), List.mem_of_getElem? (i := 360) (by decide +kernel)⟩
theorem lw_p14 : lw_okq (⟨"HangsTogether$Letters", "number", "(II)I"⟩, 2) := ⟨⟨by decide +kernel, by decide +kernel⟩, List.mem_of_getElem? (i := 87) (by decide +kernel), List.mem_of_getElem? (i := 363) (by decide +kernel), List.mem_of_getElem? (i := 364) (by decide +kernel)⟩
theorem lw_p15 : lw_okq (⟨"HangsTogether$Letters", "letterAt", "(I)I"⟩, 2) := ⟨⟨by decide +kernel, by decide +kernel⟩, List.mem_of_getElem? (i := 87) (by decide +kernel), List.mem_of_getElem? (i := 367) (by decide +kernel), List.mem_of_getElem? (i := 368) (by decide +kernel)⟩
def lw_privs_1 : List (MethodName × Nat) := [(⟨"HangsTogether$Joins", "build", "()V"⟩, 2), (⟨"HangsTogether$Ways", "list", "()V"⟩, 7), (⟨"HangsTogether$Village", "sets", "()I"⟩, 10), (⟨"HangsTogether$Village", "allows", "(I)Z"⟩, 10), (⟨"HangsTogether$Joins", "leavesForest", "(II)Z"⟩, 2), (⟨"HangsTogether$Joins", "stateOf", "(I)I"⟩, 2), (⟨"HangsTogether$Village", "worthOf", "(I)I"⟩, 10), (⟨"HangsTogether", "refuse", "(I)I"⟩, 12), (⟨"HangsTogether$Letters", "haveRoom", "()Z"⟩, 2), (⟨"HangsTogether$Letters", "append", "(I)I"⟩, 2), (⟨"HangsTogether$Village", "copy", "(LHangsTogether$Village;)V"⟩, 10), (⟨"HangsTogether$Letters", "tellTo", "(LHangsTogether$Village;)I"⟩, 2), (⟨"HangsTogether$Letters", "placeOfWrongForm", "()I"⟩, 2), (⟨"HangsTogether$Letters", "tellOne", "(LHangsTogether$Village;II)Z"⟩, 2), (⟨"HangsTogether$Letters", "number", "(II)I"⟩, 2), (⟨"HangsTogether$Letters", "letterAt", "(I)I"⟩, 2)]
theorem lw_r1 : ∀ q ∈ lw_privs_1, lw_okq q := List.forall_mem_cons.mpr ⟨lw_p0, List.forall_mem_cons.mpr ⟨lw_p1, List.forall_mem_cons.mpr ⟨lw_p2, List.forall_mem_cons.mpr ⟨lw_p3, List.forall_mem_cons.mpr ⟨lw_p4, List.forall_mem_cons.mpr ⟨lw_p5, List.forall_mem_cons.mpr ⟨lw_p6, List.forall_mem_cons.mpr ⟨lw_p7, List.forall_mem_cons.mpr ⟨lw_p8, List.forall_mem_cons.mpr ⟨lw_p9, List.forall_mem_cons.mpr ⟨lw_p10, List.forall_mem_cons.mpr ⟨lw_p11, List.forall_mem_cons.mpr ⟨lw_p12, List.forall_mem_cons.mpr ⟨lw_p13, List.forall_mem_cons.mpr ⟨lw_p14, List.forall_mem_cons.mpr ⟨lw_p15, fun _ h => absurd h List.not_mem_nil⟩⟩⟩⟩⟩⟩⟩⟩⟩⟩⟩⟩⟩⟩⟩⟩
theorem lw_p16 : lw_okq (⟨"HangsTogether$Letters", "digitAt", "(I)I"⟩, 2) := ⟨⟨by decide +kernel, by decide +kernel⟩, List.mem_of_getElem? (i := 87) (by decide +kernel), List.mem_of_getElem? (i := 371) (by decide +kernel), List.mem_of_getElem? (i := 372) (by decide +kernel)⟩
theorem lw_p17 : lw_okq (⟨"HangsTogether$Village", "setHouses", "(I)Z"⟩, 10) := ⟨⟨by decide +kernel, by decide +kernel⟩, List.mem_of_getElem? (i := 22) (by decide +kernel), List.mem_of_getElem? (i := 375) (by decide +kernel), List.mem_of_getElem? (i := 376) (by decide +kernel)⟩
theorem lw_p18 : lw_okq (⟨"HangsTogether$Village", "farthestHouse", "()I"⟩, 10) := ⟨⟨by decide +kernel, by decide +kernel⟩, List.mem_of_getElem? (i := 22) (by decide +kernel), List.mem_of_getElem? (i := 379) (by decide +kernel), List.mem_of_getElem? (i := 380) (by decide +kernel)⟩
theorem lw_p19 : lw_okq (⟨"HangsTogether$Village", "hasLane", "(I)Z"⟩, 10) := ⟨⟨by decide +kernel, by decide +kernel⟩, List.mem_of_getElem? (i := 22) (by decide +kernel), List.mem_of_getElem? (i := 387) (by decide +kernel), List.mem_of_getElem? (i := 388) (by decide +kernel)⟩
theorem lw_p20 : lw_okq (⟨"HangsTogether$Village", "setRule", "(II)V"⟩, 10) := ⟨⟨by decide +kernel, by decide +kernel⟩, List.mem_of_getElem? (i := 22) (by decide +kernel), List.mem_of_getElem? (i := 391) (by decide +kernel), List.mem_of_getElem? (i := 392) (by decide +kernel)⟩
theorem lw_p21 : lw_okq (⟨"HangsTogether$Letters", "tellLane", "(LHangsTogether$Village;II)Z"⟩, 2) := ⟨⟨by decide +kernel, by decide +kernel⟩, List.mem_of_getElem? (i := 87) (by decide +kernel), List.mem_of_getElem? (i := 395) (by decide +kernel), List.mem_of_getElem? (i := 396) (by decide +kernel)⟩
theorem lw_p22 : lw_okq (⟨"HangsTogether$Village", "addLane", "(IIIIII)Z"⟩, 10) := ⟨⟨by decide +kernel, by decide +kernel⟩, List.mem_of_getElem? (i := 22) (by decide +kernel), List.mem_of_getElem? (i := 399) (by decide +kernel), List.mem_of_getElem? (i := 400) (by decide +kernel)⟩
theorem lw_p23 : lw_okq (⟨"HangsTogether$Village", "hasHouse", "(I)Z"⟩, 10) := ⟨⟨by decide +kernel, by decide +kernel⟩, List.mem_of_getElem? (i := 22) (by decide +kernel), List.mem_of_getElem? (i := 403) (by decide +kernel), List.mem_of_getElem? (i := 404) (by decide +kernel)⟩
theorem lw_p24 : lw_okq (⟨"HangsTogether$Letters", "clear", "()V"⟩, 2) := ⟨⟨by decide +kernel, by decide +kernel⟩, List.mem_of_getElem? (i := 87) (by decide +kernel), List.mem_of_getElem? (i := 417) (by decide +kernel), List.mem_of_getElem? (i := 418) (by decide +kernel)⟩
theorem lw_p25 : lw_okq (⟨"HangsTogether", "lanesChanged", "()V"⟩, 12) := ⟨⟨by decide +kernel, by decide +kernel⟩, List.mem_of_getElem? (i := 14) (by decide +kernel), List.mem_of_getElem? (i := 421) (by decide +kernel), List.mem_of_getElem? (i := 422) (by decide +kernel)⟩
theorem lw_p26 : lw_okq (⟨"HangsTogether$Village", "ruleOf", "(I)I"⟩, 10) := ⟨⟨by decide +kernel, by decide +kernel⟩, List.mem_of_getElem? (i := 22) (by decide +kernel), List.mem_of_getElem? (i := 430) (by decide +kernel), List.mem_of_getElem? (i := 431) (by decide +kernel)⟩
theorem lw_p27 : lw_okq (⟨"HangsTogether$Village", "removeLatest", "()V"⟩, 10) := ⟨⟨by decide +kernel, by decide +kernel⟩, List.mem_of_getElem? (i := 22) (by decide +kernel), List.mem_of_getElem? (i := 443) (by decide +kernel), List.mem_of_getElem? (i := 444) (by decide +kernel)⟩
theorem lw_p28 : lw_okq (⟨"HangsTogether$Village", "hasAll", "(I)Z"⟩, 10) := ⟨⟨by decide +kernel, by decide +kernel⟩, List.mem_of_getElem? (i := 22) (by decide +kernel), List.mem_of_getElem? (i := 452) (by decide +kernel), List.mem_of_getElem? (i := 453) (by decide +kernel)⟩
theorem lw_p29 : lw_okq (⟨"HangsTogether$Village", "allLanes", "()I"⟩, 10) := ⟨⟨by decide +kernel, by decide +kernel⟩, List.mem_of_getElem? (i := 22) (by decide +kernel), List.mem_of_getElem? (i := 456) (by decide +kernel), List.mem_of_getElem? (i := 457) (by decide +kernel)⟩
theorem lw_p30 : lw_okq (⟨"HangsTogether$Joins", "isWay", "(I)Z"⟩, 2) := ⟨⟨by decide +kernel, by decide +kernel⟩, List.mem_of_getElem? (i := 101) (by decide +kernel), List.mem_of_getElem? (i := 460) (by decide +kernel), List.mem_of_getElem? (i := 461) (by decide +kernel)⟩
theorem lw_p31 : lw_okq (⟨"HangsTogether$Joins", "partsLeft", "(I)I"⟩, 2) := ⟨⟨by decide +kernel, by decide +kernel⟩, List.mem_of_getElem? (i := 101) (by decide +kernel), List.mem_of_getElem? (i := 474) (by decide +kernel), List.mem_of_getElem? (i := 475) (by decide +kernel)⟩
def lw_privs_2 : List (MethodName × Nat) := [(⟨"HangsTogether$Letters", "digitAt", "(I)I"⟩, 2), (⟨"HangsTogether$Village", "setHouses", "(I)Z"⟩, 10), (⟨"HangsTogether$Village", "farthestHouse", "()I"⟩, 10), (⟨"HangsTogether$Village", "hasLane", "(I)Z"⟩, 10), (⟨"HangsTogether$Village", "setRule", "(II)V"⟩, 10), (⟨"HangsTogether$Letters", "tellLane", "(LHangsTogether$Village;II)Z"⟩, 2), (⟨"HangsTogether$Village", "addLane", "(IIIIII)Z"⟩, 10), (⟨"HangsTogether$Village", "hasHouse", "(I)Z"⟩, 10), (⟨"HangsTogether$Letters", "clear", "()V"⟩, 2), (⟨"HangsTogether", "lanesChanged", "()V"⟩, 12), (⟨"HangsTogether$Village", "ruleOf", "(I)I"⟩, 10), (⟨"HangsTogether$Village", "removeLatest", "()V"⟩, 10), (⟨"HangsTogether$Village", "hasAll", "(I)Z"⟩, 10), (⟨"HangsTogether$Village", "allLanes", "()I"⟩, 10), (⟨"HangsTogether$Joins", "isWay", "(I)Z"⟩, 2), (⟨"HangsTogether$Joins", "partsLeft", "(I)I"⟩, 2)]
theorem lw_r2 : ∀ q ∈ lw_privs_2, lw_okq q := List.forall_mem_cons.mpr ⟨lw_p16, List.forall_mem_cons.mpr ⟨lw_p17, List.forall_mem_cons.mpr ⟨lw_p18, List.forall_mem_cons.mpr ⟨lw_p19, List.forall_mem_cons.mpr ⟨lw_p20, List.forall_mem_cons.mpr ⟨lw_p21, List.forall_mem_cons.mpr ⟨lw_p22, List.forall_mem_cons.mpr ⟨lw_p23, List.forall_mem_cons.mpr ⟨lw_p24, List.forall_mem_cons.mpr ⟨lw_p25, List.forall_mem_cons.mpr ⟨lw_p26, List.forall_mem_cons.mpr ⟨lw_p27, List.forall_mem_cons.mpr ⟨lw_p28, List.forall_mem_cons.mpr ⟨lw_p29, List.forall_mem_cons.mpr ⟨lw_p30, List.forall_mem_cons.mpr ⟨lw_p31, fun _ h => absurd h List.not_mem_nil⟩⟩⟩⟩⟩⟩⟩⟩⟩⟩⟩⟩⟩⟩⟩⟩
theorem lw_p32 : lw_okq (⟨"HangsTogether$Ways", "worthWith", "(I)J"⟩, 7) := ⟨⟨by decide +kernel, by decide +kernel⟩, List.mem_of_getElem? (i := 114) (by decide +kernel), List.mem_of_getElem? (i := 490) (by decide +kernel), List.mem_of_getElem? (i := 491) (by decide +kernel)⟩
theorem lw_p33 : lw_okq (⟨"HangsTogether$Ways", "at", "(I)I"⟩, 7) := ⟨⟨by decide +kernel, by decide +kernel⟩, List.mem_of_getElem? (i := 114) (by decide +kernel), List.mem_of_getElem? (i := 498) (by decide +kernel), List.mem_of_getElem? (i := 499) (by decide +kernel)⟩
theorem lw_p34 : lw_okq (⟨"HangsTogether$Ways", "has", "(I)Z"⟩, 7) := ⟨⟨by decide +kernel, by decide +kernel⟩, List.mem_of_getElem? (i := 114) (by decide +kernel), List.mem_of_getElem? (i := 502) (by decide +kernel), List.mem_of_getElem? (i := 503) (by decide +kernel)⟩
theorem lw_p35 : lw_okq (⟨"HangsTogether", "refuseLong", "(I)J"⟩, 12) := ⟨⟨by decide +kernel, by decide +kernel⟩, List.mem_of_getElem? (i := 14) (by decide +kernel), List.mem_of_getElem? (i := 510) (by decide +kernel), List.mem_of_getElem? (i := 511) (by decide +kernel)⟩
theorem lw_p36 : lw_okq (⟨"HangsTogether", "likelyAll", "(II)J"⟩, 12) := ⟨⟨by decide +kernel, by decide +kernel⟩, List.mem_of_getElem? (i := 14) (by decide +kernel), List.mem_of_getElem? (i := 515) (by decide +kernel), List.mem_of_getElem? (i := 516) (by decide +kernel)⟩
theorem lw_p37 : lw_okq (⟨"HangsTogether$Ways", "lanesInAll", "()I"⟩, 7) := ⟨⟨by decide +kernel, by decide +kernel⟩, List.mem_of_getElem? (i := 114) (by decide +kernel), List.mem_of_getElem? (i := 540) (by decide +kernel), List.mem_of_getElem? (i := 541) (by decide +kernel)⟩
theorem lw_p38 : lw_okq (⟨"HangsTogether$Ways", "lanesInNone", "()I"⟩, 7) := ⟨⟨by decide +kernel, by decide +kernel⟩, List.mem_of_getElem? (i := 114) (by decide +kernel), List.mem_of_getElem? (i := 549) (by decide +kernel), List.mem_of_getElem? (i := 550) (by decide +kernel)⟩
theorem lw_p39 : lw_okq (⟨"HangsTogether$Ways", "bitsByCost", "(I)I"⟩, 7) := ⟨⟨by decide +kernel, by decide +kernel⟩, List.mem_of_getElem? (i := 114) (by decide +kernel), List.mem_of_getElem? (i := 557) (by decide +kernel), List.mem_of_getElem? (i := 558) (by decide +kernel)⟩
theorem lw_p40 : lw_okq (⟨"HangsTogether$Ways", "sortByCost", "()V"⟩, 7) := ⟨⟨by decide +kernel, by decide +kernel⟩, List.mem_of_getElem? (i := 114) (by decide +kernel), List.mem_of_getElem? (i := 561) (by decide +kernel), List.mem_of_getElem? (i := 562) (by decide +kernel)⟩
theorem lw_p41 : lw_okq (⟨"HangsTogether$Village", "costOf", "(I)I"⟩, 10) := ⟨⟨by decide +kernel, by decide +kernel⟩, List.mem_of_getElem? (i := 22) (by decide +kernel), List.mem_of_getElem? (i := 565) (by decide +kernel), List.mem_of_getElem? (i := 566) (by decide +kernel)⟩
theorem lw_p42 : lw_okq (⟨"HangsTogether$Ways", "sortEvery", "(I)V"⟩, 7) := ⟨⟨by decide +kernel, by decide +kernel⟩, List.mem_of_getElem? (i := 114) (by decide +kernel), List.mem_of_getElem? (i := 569) (by decide +kernel), List.mem_of_getElem? (i := 570) (by decide +kernel)⟩
theorem lw_p43 : lw_okq (⟨"HangsTogether$Ways", "costByCost", "(I)I"⟩, 7) := ⟨⟨by decide +kernel, by decide +kernel⟩, List.mem_of_getElem? (i := 114) (by decide +kernel), List.mem_of_getElem? (i := 573) (by decide +kernel), List.mem_of_getElem? (i := 574) (by decide +kernel)⟩
theorem lw_p44 : lw_okq (⟨"HangsTogether$Ways", "stepBetween", "(II)I"⟩, 7) := ⟨⟨by decide +kernel, by decide +kernel⟩, List.mem_of_getElem? (i := 114) (by decide +kernel), List.mem_of_getElem? (i := 591) (by decide +kernel), List.mem_of_getElem? (i := 592) (by decide +kernel)⟩
theorem lw_p45 : lw_okq (⟨"HangsTogether$Ways", "manyToward", "(I)I"⟩, 7) := ⟨⟨by decide +kernel, by decide +kernel⟩, List.mem_of_getElem? (i := 114) (by decide +kernel), List.mem_of_getElem? (i := 601) (by decide +kernel), List.mem_of_getElem? (i := 602) (by decide +kernel)⟩
theorem lw_p46 : lw_okq (⟨"HangsTogether$Ways", "leadsTo", "(II)Z"⟩, 7) := ⟨⟨by decide +kernel, by decide +kernel⟩, List.mem_of_getElem? (i := 114) (by decide +kernel), List.mem_of_getElem? (i := 605) (by decide +kernel), List.mem_of_getElem? (i := 606) (by decide +kernel)⟩
theorem lw_p47 : lw_okq (⟨"HangsTogether$Joins", "areTogether", "(III)Z"⟩, 2) := ⟨⟨by decide +kernel, by decide +kernel⟩, List.mem_of_getElem? (i := 101) (by decide +kernel), List.mem_of_getElem? (i := 609) (by decide +kernel), List.mem_of_getElem? (i := 610) (by decide +kernel)⟩
def lw_privs_3 : List (MethodName × Nat) := [(⟨"HangsTogether$Ways", "worthWith", "(I)J"⟩, 7), (⟨"HangsTogether$Ways", "at", "(I)I"⟩, 7), (⟨"HangsTogether$Ways", "has", "(I)Z"⟩, 7), (⟨"HangsTogether", "refuseLong", "(I)J"⟩, 12), (⟨"HangsTogether", "likelyAll", "(II)J"⟩, 12), (⟨"HangsTogether$Ways", "lanesInAll", "()I"⟩, 7), (⟨"HangsTogether$Ways", "lanesInNone", "()I"⟩, 7), (⟨"HangsTogether$Ways", "bitsByCost", "(I)I"⟩, 7), (⟨"HangsTogether$Ways", "sortByCost", "()V"⟩, 7), (⟨"HangsTogether$Village", "costOf", "(I)I"⟩, 10), (⟨"HangsTogether$Ways", "sortEvery", "(I)V"⟩, 7), (⟨"HangsTogether$Ways", "costByCost", "(I)I"⟩, 7), (⟨"HangsTogether$Ways", "stepBetween", "(II)I"⟩, 7), (⟨"HangsTogether$Ways", "manyToward", "(I)I"⟩, 7), (⟨"HangsTogether$Ways", "leadsTo", "(II)Z"⟩, 7), (⟨"HangsTogether$Joins", "areTogether", "(III)Z"⟩, 2)]
theorem lw_r3 : ∀ q ∈ lw_privs_3, lw_okq q := List.forall_mem_cons.mpr ⟨lw_p32, List.forall_mem_cons.mpr ⟨lw_p33, List.forall_mem_cons.mpr ⟨lw_p34, List.forall_mem_cons.mpr ⟨lw_p35, List.forall_mem_cons.mpr ⟨lw_p36, List.forall_mem_cons.mpr ⟨lw_p37, List.forall_mem_cons.mpr ⟨lw_p38, List.forall_mem_cons.mpr ⟨lw_p39, List.forall_mem_cons.mpr ⟨lw_p40, List.forall_mem_cons.mpr ⟨lw_p41, List.forall_mem_cons.mpr ⟨lw_p42, List.forall_mem_cons.mpr ⟨lw_p43, List.forall_mem_cons.mpr ⟨lw_p44, List.forall_mem_cons.mpr ⟨lw_p45, List.forall_mem_cons.mpr ⟨lw_p46, List.forall_mem_cons.mpr ⟨lw_p47, fun _ h => absurd h List.not_mem_nil⟩⟩⟩⟩⟩⟩⟩⟩⟩⟩⟩⟩⟩⟩⟩⟩
theorem lw_p48 : lw_okq (⟨"HangsTogether$Ways", "worthToward", "(I)J"⟩, 7) := ⟨⟨by decide +kernel, by decide +kernel⟩, List.mem_of_getElem? (i := 114) (by decide +kernel), List.mem_of_getElem? (i := 613) (by decide +kernel), List.mem_of_getElem? (i := 614) (by decide +kernel)⟩
theorem lw_p49 : lw_okq (⟨"HangsTogether$Forests", "manyOf", "(I)I"⟩, 2) := ⟨⟨by decide +kernel, by decide +kernel⟩, List.mem_of_getElem? (i := 144) (by decide +kernel), List.mem_of_getElem? (i := 621) (by decide +kernel), List.mem_of_getElem? (i := 622) (by decide +kernel)⟩
theorem lw_p50 : lw_okq (⟨"HangsTogether$Village", "hasAllHouses", "(I)Z"⟩, 10) := ⟨⟨by decide +kernel, by decide +kernel⟩, List.mem_of_getElem? (i := 22) (by decide +kernel), List.mem_of_getElem? (i := 632) (by decide +kernel), List.mem_of_getElem? (i := 633) (by decide +kernel)⟩
theorem lw_p51 : lw_okq (⟨"HangsTogether$Village", "allHouses", "()I"⟩, 10) := ⟨⟨by decide +kernel, by decide +kernel⟩, List.mem_of_getElem? (i := 22) (by decide +kernel), List.mem_of_getElem? (i := 636) (by decide +kernel), List.mem_of_getElem? (i := 637) (by decide +kernel)⟩
theorem lw_p52 : lw_okq (⟨"HangsTogether$Forests", "manyWithOneEach", "(I)I"⟩, 2) := ⟨⟨by decide +kernel, by decide +kernel⟩, List.mem_of_getElem? (i := 144) (by decide +kernel), List.mem_of_getElem? (i := 640) (by decide +kernel), List.mem_of_getElem? (i := 641) (by decide +kernel)⟩
theorem lw_p53 : lw_okq (⟨"HangsTogether$Joins", "areAllApart", "(II)Z"⟩, 2) := ⟨⟨by decide +kernel, by decide +kernel⟩, List.mem_of_getElem? (i := 101) (by decide +kernel), List.mem_of_getElem? (i := 645) (by decide +kernel), List.mem_of_getElem? (i := 646) (by decide +kernel)⟩
theorem lw_p54 : lw_okq (⟨"HangsTogether", "areTwoHouses", "(II)Z"⟩, 12) := ⟨⟨by decide +kernel, by decide +kernel⟩, List.mem_of_getElem? (i := 14) (by decide +kernel), List.mem_of_getElem? (i := 653) (by decide +kernel), List.mem_of_getElem? (i := 654) (by decide +kernel)⟩
theorem lw_p55 : lw_okq (⟨"HangsTogether$Forests", "worthOfWhole", "(I)J"⟩, 2) := ⟨⟨by decide +kernel, by decide +kernel⟩, List.mem_of_getElem? (i := 144) (by decide +kernel), List.mem_of_getElem? (i := 657) (by decide +kernel), List.mem_of_getElem? (i := 658) (by decide +kernel)⟩
theorem lw_p56 : lw_okq (⟨"HangsTogether$Forests", "isOpen", "(II)Z"⟩, 2) := ⟨⟨by decide +kernel, by decide +kernel⟩, List.mem_of_getElem? (i := 144) (by decide +kernel), List.mem_of_getElem? (i := 661) (by decide +kernel), List.mem_of_getElem? (i := 662) (by decide +kernel)⟩
theorem lw_p57 : lw_okq (⟨"HangsTogether$Forests", "worthApart", "(III)J"⟩, 2) := ⟨⟨by decide +kernel, by decide +kernel⟩, List.mem_of_getElem? (i := 144) (by decide +kernel), List.mem_of_getElem? (i := 666) (by decide +kernel), List.mem_of_getElem? (i := 667) (by decide +kernel)⟩
theorem lw_p58 : lw_okq (⟨"HangsTogether$Forests", "chancesToHold", "()J"⟩, 2) := ⟨⟨by decide +kernel, by decide +kernel⟩, List.mem_of_getElem? (i := 144) (by decide +kernel), List.mem_of_getElem? (i := 679) (by decide +kernel), List.mem_of_getElem? (i := 680) (by decide +kernel)⟩
theorem lw_p59 : lw_okq (⟨"HangsTogether$Forests", "free", "()I"⟩, 2) := ⟨⟨by decide +kernel, by decide +kernel⟩, List.mem_of_getElem? (i := 144) (by decide +kernel), List.mem_of_getElem? (i := 683) (by decide +kernel), List.mem_of_getElem? (i := 684) (by decide +kernel)⟩
theorem lw_p60 : lw_okq (⟨"HangsTogether$Forests", "chancesOf", "(II)J"⟩, 2) := ⟨⟨by decide +kernel, by decide +kernel⟩, List.mem_of_getElem? (i := 144) (by decide +kernel), List.mem_of_getElem? (i := 689) (by decide +kernel), List.mem_of_getElem? (i := 690) (by decide +kernel)⟩
theorem lw_p61 : lw_okq (⟨"HangsTogether$Forests", "chancesInAll", "()J"⟩, 2) := ⟨⟨by decide +kernel, by decide +kernel⟩, List.mem_of_getElem? (i := 144) (by decide +kernel), List.mem_of_getElem? (i := 693) (by decide +kernel), List.mem_of_getElem? (i := 694) (by decide +kernel)⟩
theorem lw_p62 : lw_okq (⟨"HangsTogether$Plans", "makeFor", "(I)V"⟩, 4) := ⟨⟨by decide +kernel, by decide +kernel⟩, List.mem_of_getElem? (i := 157) (by decide +kernel), List.mem_of_getElem? (i := 705) (by decide +kernel), List.mem_of_getElem? (i := 706) (by decide +kernel)⟩
theorem lw_p63 : lw_okq (⟨"HangsTogether$Plans", "joinPairs", "()V"⟩, 4) := ⟨⟨by decide +kernel, by decide +kernel⟩, List.mem_of_getElem? (i := 157) (by decide +kernel), List.mem_of_getElem? (i := 710) (by decide +kernel), List.mem_of_getElem? (i := 711) (by decide +kernel)⟩
def lw_privs_4 : List (MethodName × Nat) := [(⟨"HangsTogether$Ways", "worthToward", "(I)J"⟩, 7), (⟨"HangsTogether$Forests", "manyOf", "(I)I"⟩, 2), (⟨"HangsTogether$Village", "hasAllHouses", "(I)Z"⟩, 10), (⟨"HangsTogether$Village", "allHouses", "()I"⟩, 10), (⟨"HangsTogether$Forests", "manyWithOneEach", "(I)I"⟩, 2), (⟨"HangsTogether$Joins", "areAllApart", "(II)Z"⟩, 2), (⟨"HangsTogether", "areTwoHouses", "(II)Z"⟩, 12), (⟨"HangsTogether$Forests", "worthOfWhole", "(I)J"⟩, 2), (⟨"HangsTogether$Forests", "isOpen", "(II)Z"⟩, 2), (⟨"HangsTogether$Forests", "worthApart", "(III)J"⟩, 2), (⟨"HangsTogether$Forests", "chancesToHold", "()J"⟩, 2), (⟨"HangsTogether$Forests", "free", "()I"⟩, 2), (⟨"HangsTogether$Forests", "chancesOf", "(II)J"⟩, 2), (⟨"HangsTogether$Forests", "chancesInAll", "()J"⟩, 2), (⟨"HangsTogether$Plans", "makeFor", "(I)V"⟩, 4), (⟨"HangsTogether$Plans", "joinPairs", "()V"⟩, 4)]
theorem lw_r4 : ∀ q ∈ lw_privs_4, lw_okq q := List.forall_mem_cons.mpr ⟨lw_p48, List.forall_mem_cons.mpr ⟨lw_p49, List.forall_mem_cons.mpr ⟨lw_p50, List.forall_mem_cons.mpr ⟨lw_p51, List.forall_mem_cons.mpr ⟨lw_p52, List.forall_mem_cons.mpr ⟨lw_p53, List.forall_mem_cons.mpr ⟨lw_p54, List.forall_mem_cons.mpr ⟨lw_p55, List.forall_mem_cons.mpr ⟨lw_p56, List.forall_mem_cons.mpr ⟨lw_p57, List.forall_mem_cons.mpr ⟨lw_p58, List.forall_mem_cons.mpr ⟨lw_p59, List.forall_mem_cons.mpr ⟨lw_p60, List.forall_mem_cons.mpr ⟨lw_p61, List.forall_mem_cons.mpr ⟨lw_p62, List.forall_mem_cons.mpr ⟨lw_p63, fun _ h => absurd h List.not_mem_nil⟩⟩⟩⟩⟩⟩⟩⟩⟩⟩⟩⟩⟩⟩⟩⟩
theorem lw_p64 : lw_okq (⟨"HangsTogether$Plans", "addThoseWithout", "(II)V"⟩, 4) := ⟨⟨by decide +kernel, by decide +kernel⟩, List.mem_of_getElem? (i := 157) (by decide +kernel), List.mem_of_getElem? (i := 718) (by decide +kernel), List.mem_of_getElem? (i := 719) (by decide +kernel)⟩
theorem lw_p65 : lw_okq (⟨"HangsTogether$Plans", "chooseBest", "(I)V"⟩, 4) := ⟨⟨by decide +kernel, by decide +kernel⟩, List.mem_of_getElem? (i := 157) (by decide +kernel), List.mem_of_getElem? (i := 722) (by decide +kernel), List.mem_of_getElem? (i := 723) (by decide +kernel)⟩
theorem lw_p66 : lw_okq (⟨"HangsTogether$Plans", "mostWays", "(I)I"⟩, 4) := ⟨⟨by decide +kernel, by decide +kernel⟩, List.mem_of_getElem? (i := 157) (by decide +kernel), List.mem_of_getElem? (i := 727) (by decide +kernel), List.mem_of_getElem? (i := 728) (by decide +kernel)⟩
theorem lw_p67 : lw_okq (⟨"HangsTogether$Plans", "firstSet", "(I)I"⟩, 4) := ⟨⟨by decide +kernel, by decide +kernel⟩, List.mem_of_getElem? (i := 157) (by decide +kernel), List.mem_of_getElem? (i := 731) (by decide +kernel), List.mem_of_getElem? (i := 732) (by decide +kernel)⟩
theorem lw_p68 : lw_okq (⟨"HangsTogether$Drawers", "isDrawer", "(I)Z"⟩, 8) := ⟨⟨by decide +kernel, by decide +kernel⟩, List.mem_of_getElem? (i := 196) (by decide +kernel), List.mem_of_getElem? (i := 739) (by decide +kernel), List.mem_of_getElem? (i := 740) (by decide +kernel)⟩
theorem lw_p69 : lw_okq (⟨"HangsTogether$Drawers", "begin", "(I)V"⟩, 8) := ⟨⟨by decide +kernel, by decide +kernel⟩, List.mem_of_getElem? (i := 196) (by decide +kernel), List.mem_of_getElem? (i := 743) (by decide +kernel), List.mem_of_getElem? (i := 744) (by decide +kernel)⟩
theorem lw_p70 : lw_okq (⟨"HangsTogether$Drawers", "lookRound", "()V"⟩, 8) := ⟨⟨by decide +kernel, by decide +kernel⟩, List.mem_of_getElem? (i := 196) (by decide +kernel), List.mem_of_getElem? (i := 747) (by decide +kernel), List.mem_of_getElem? (i := 748) (by decide +kernel)⟩
theorem lw_p71 : lw_okq (⟨"HangsTogether$Drawers", "goesOn", "(II)Z"⟩, 8) := ⟨⟨by decide +kernel, by decide +kernel⟩, List.mem_of_getElem? (i := 196) (by decide +kernel), List.mem_of_getElem? (i := 751) (by decide +kernel), List.mem_of_getElem? (i := 752) (by decide +kernel)⟩
theorem lw_p72 : lw_okq (⟨"HangsTogether$Drawers", "makeNext", "(I)I"⟩, 8) := ⟨⟨by decide +kernel, by decide +kernel⟩, List.mem_of_getElem? (i := 196) (by decide +kernel), List.mem_of_getElem? (i := 755) (by decide +kernel), List.mem_of_getElem? (i := 756) (by decide +kernel)⟩
theorem lw_p73 : lw_okq (⟨"HangsTogether$Drawers", "walkAbout", "()I"⟩, 8) := ⟨⟨by decide +kernel, by decide +kernel⟩, List.mem_of_getElem? (i := 196) (by decide +kernel), List.mem_of_getElem? (i := 759) (by decide +kernel), List.mem_of_getElem? (i := 760) (by decide +kernel)⟩
theorem lw_p74 : lw_okq (⟨"HangsTogether$Drawers", "laneFrom", "(I)I"⟩, 8) := ⟨⟨by decide +kernel, by decide +kernel⟩, List.mem_of_getElem? (i := 196) (by decide +kernel), List.mem_of_getElem? (i := 764) (by decide +kernel), List.mem_of_getElem? (i := 765) (by decide +kernel)⟩
theorem lw_p75 : lw_okq (⟨"HangsTogether$Drawers", "below", "(I)I"⟩, 8) := ⟨⟨by decide +kernel, by decide +kernel⟩, List.mem_of_getElem? (i := 196) (by decide +kernel), List.mem_of_getElem? (i := 768) (by decide +kernel), List.mem_of_getElem? (i := 769) (by decide +kernel)⟩
theorem lw_p76 : lw_okq (⟨"HangsTogether$Drawers", "laneByLane", "()I"⟩, 8) := ⟨⟨by decide +kernel, by decide +kernel⟩, List.mem_of_getElem? (i := 196) (by decide +kernel), List.mem_of_getElem? (i := 776) (by decide +kernel), List.mem_of_getElem? (i := 777) (by decide +kernel)⟩
theorem lw_p77 : lw_okq (⟨"HangsTogether$Ways", "copyTo", "([I[I)I"⟩, 7) := ⟨⟨by decide +kernel, by decide +kernel⟩, List.mem_of_getElem? (i := 114) (by decide +kernel), List.mem_of_getElem? (i := 780) (by decide +kernel), List.mem_of_getElem? (i := 781) (by decide +kernel)⟩
theorem lw_p78 : lw_okq (⟨"HangsTogether$Drawers", "poolWorthWith", "(II)I"⟩, 8) := ⟨⟨by decide +kernel, by decide +kernel⟩, List.mem_of_getElem? (i := 196) (by decide +kernel), List.mem_of_getElem? (i := 784) (by decide +kernel), List.mem_of_getElem? (i := 785) (by decide +kernel)⟩
theorem lw_p79 : lw_okq (⟨"HangsTogether$Drawers", "narrow", "(IIZ)I"⟩, 8) := ⟨⟨by decide +kernel, by decide +kernel⟩, List.mem_of_getElem? (i := 196) (by decide +kernel), List.mem_of_getElem? (i := 788) (by decide +kernel), List.mem_of_getElem? (i := 789) (by decide +kernel)⟩
def lw_privs_5 : List (MethodName × Nat) := [(⟨"HangsTogether$Plans", "addThoseWithout", "(II)V"⟩, 4), (⟨"HangsTogether$Plans", "chooseBest", "(I)V"⟩, 4), (⟨"HangsTogether$Plans", "mostWays", "(I)I"⟩, 4), (⟨"HangsTogether$Plans", "firstSet", "(I)I"⟩, 4), (⟨"HangsTogether$Drawers", "isDrawer", "(I)Z"⟩, 8), (⟨"HangsTogether$Drawers", "begin", "(I)V"⟩, 8), (⟨"HangsTogether$Drawers", "lookRound", "()V"⟩, 8), (⟨"HangsTogether$Drawers", "goesOn", "(II)Z"⟩, 8), (⟨"HangsTogether$Drawers", "makeNext", "(I)I"⟩, 8), (⟨"HangsTogether$Drawers", "walkAbout", "()I"⟩, 8), (⟨"HangsTogether$Drawers", "laneFrom", "(I)I"⟩, 8), (⟨"HangsTogether$Drawers", "below", "(I)I"⟩, 8), (⟨"HangsTogether$Drawers", "laneByLane", "()I"⟩, 8), (⟨"HangsTogether$Ways", "copyTo", "([I[I)I"⟩, 7), (⟨"HangsTogether$Drawers", "poolWorthWith", "(II)I"⟩, 8), (⟨"HangsTogether$Drawers", "narrow", "(IIZ)I"⟩, 8)]
theorem lw_r5 : ∀ q ∈ lw_privs_5, lw_okq q := List.forall_mem_cons.mpr ⟨lw_p64, List.forall_mem_cons.mpr ⟨lw_p65, List.forall_mem_cons.mpr ⟨lw_p66, List.forall_mem_cons.mpr ⟨lw_p67, List.forall_mem_cons.mpr ⟨lw_p68, List.forall_mem_cons.mpr ⟨lw_p69, List.forall_mem_cons.mpr ⟨lw_p70, List.forall_mem_cons.mpr ⟨lw_p71, List.forall_mem_cons.mpr ⟨lw_p72, List.forall_mem_cons.mpr ⟨lw_p73, List.forall_mem_cons.mpr ⟨lw_p74, List.forall_mem_cons.mpr ⟨lw_p75, List.forall_mem_cons.mpr ⟨lw_p76, List.forall_mem_cons.mpr ⟨lw_p77, List.forall_mem_cons.mpr ⟨lw_p78, List.forall_mem_cons.mpr ⟨lw_p79, fun _ h => absurd h List.not_mem_nil⟩⟩⟩⟩⟩⟩⟩⟩⟩⟩⟩⟩⟩⟩⟩⟩
theorem lw_p80 : lw_okq (⟨"HangsTogether$Ways", "dearest", "()I"⟩, 7) := ⟨⟨by decide +kernel, by decide +kernel⟩, List.mem_of_getElem? (i := 114) (by decide +kernel), List.mem_of_getElem? (i := 793) (by decide +kernel), List.mem_of_getElem? (i := 794) (by decide +kernel)⟩
theorem lw_p81 : lw_okq (⟨"HangsTogether$Row", "asWay", "()I"⟩, 4) := ⟨⟨by decide +kernel, by decide +kernel⟩, List.mem_of_getElem? (i := 176) (by decide +kernel), List.mem_of_getElem? (i := 798) (by decide +kernel), List.mem_of_getElem? (i := 799) (by decide +kernel)⟩
theorem lw_p82 : lw_okq (⟨"HangsTogether$Row", "hasRoom", "()Z"⟩, 4) := ⟨⟨by decide +kernel, by decide +kernel⟩, List.mem_of_getElem? (i := 176) (by decide +kernel), List.mem_of_getElem? (i := 811) (by decide +kernel), List.mem_of_getElem? (i := 812) (by decide +kernel)⟩
theorem lw_p83 : lw_okq (⟨"HangsTogether$Row", "append", "(I)I"⟩, 4) := ⟨⟨by decide +kernel, by decide +kernel⟩, List.mem_of_getElem? (i := 176) (by decide +kernel), List.mem_of_getElem? (i := 815) (by decide +kernel), List.mem_of_getElem? (i := 816) (by decide +kernel)⟩
theorem lw_p84 : lw_okq (⟨"HangsTogether$Row", "judged", "()I"⟩, 4) := ⟨⟨by decide +kernel, by decide +kernel⟩, List.mem_of_getElem? (i := 176) (by decide +kernel), List.mem_of_getElem? (i := 823) (by decide +kernel), List.mem_of_getElem? (i := 824) (by decide +kernel)⟩
theorem lw_p85 : lw_okq (⟨"HangsTogether$Joins", "hasRing", "(I)Z"⟩, 2) := ⟨⟨by decide +kernel, by decide +kernel⟩, List.mem_of_getElem? (i := 101) (by decide +kernel), List.mem_of_getElem? (i := 829) (by decide +kernel), List.mem_of_getElem? (i := 830) (by decide +kernel)⟩
theorem lw_p86 : lw_okq (⟨"HangsTogether$Row", "clear", "()V"⟩, 4) := ⟨⟨by decide +kernel, by decide +kernel⟩, List.mem_of_getElem? (i := 176) (by decide +kernel), List.mem_of_getElem? (i := 833) (by decide +kernel), List.mem_of_getElem? (i := 834) (by decide +kernel)⟩
theorem lw_p87 : lw_okq (⟨"HangsTogether$Village", "costOfAll", "()I"⟩, 10) := ⟨⟨by decide +kernel, by decide +kernel⟩, List.mem_of_getElem? (i := 22) (by decide +kernel), List.mem_of_getElem? (i := 849) (by decide +kernel), List.mem_of_getElem? (i := 850) (by decide +kernel)⟩
theorem lw_p88 : lw_okq (⟨"HangsTogether", "refusalsOf", "(I)I"⟩, 12) := ⟨⟨by decide +kernel, by decide +kernel⟩, List.mem_of_getElem? (i := 14) (by decide +kernel), List.mem_of_getElem? (i := 854) (by decide +kernel), List.mem_of_getElem? (i := 855) (by decide +kernel)⟩
theorem lw_p89 : lw_okq (⟨"HangsTogetherModel", "no", "(I)I"⟩, 35) := ⟨⟨by decide +kernel, by decide +kernel⟩, List.mem_of_getElem? (i := 858) (by decide +kernel), List.mem_of_getElem? (i := 978) (by decide +kernel), List.mem_of_getElem? (i := 979) (by decide +kernel)⟩
theorem lw_p90 : lw_okq (⟨"HangsTogetherModel", "statement", "()Z"⟩, 35) := ⟨⟨by decide +kernel, by decide +kernel⟩, List.mem_of_getElem? (i := 858) (by decide +kernel), List.mem_of_getElem? (i := 986) (by decide +kernel), List.mem_of_getElem? (i := 987) (by decide +kernel)⟩
theorem lw_p91 : lw_okq (⟨"HangsTogetherModel", "next", "()I"⟩, 35) := ⟨⟨by decide +kernel, by decide +kernel⟩, List.mem_of_getElem? (i := 858) (by decide +kernel), List.mem_of_getElem? (i := 990) (by decide +kernel), List.mem_of_getElem? (i := 991) (by decide +kernel)⟩
theorem lw_p92 : lw_okq (⟨"HangsTogetherModel", "reads", "(II)Z"⟩, 35) := ⟨⟨by decide +kernel, by decide +kernel⟩, List.mem_of_getElem? (i := 858) (by decide +kernel), List.mem_of_getElem? (i := 994) (by decide +kernel), List.mem_of_getElem? (i := 995) (by decide +kernel)⟩
theorem lw_p93 : lw_okq (⟨"HangsTogetherModel", "isNext", "(I)Z"⟩, 35) := ⟨⟨by decide +kernel, by decide +kernel⟩, List.mem_of_getElem? (i := 858) (by decide +kernel), List.mem_of_getElem? (i := 1001) (by decide +kernel), List.mem_of_getElem? (i := 1002) (by decide +kernel)⟩
theorem lw_p94 : lw_okq (⟨"HangsTogetherModel", "passesAll", "(IZ)V"⟩, 35) := ⟨⟨by decide +kernel, by decide +kernel⟩, List.mem_of_getElem? (i := 858) (by decide +kernel), List.mem_of_getElem? (i := 1005) (by decide +kernel), List.mem_of_getElem? (i := 1006) (by decide +kernel)⟩
theorem lw_p95 : lw_okq (⟨"HangsTogetherModel", "passes", "([I)V"⟩, 35) := ⟨⟨by decide +kernel, by decide +kernel⟩, List.mem_of_getElem? (i := 858) (by decide +kernel), List.mem_of_getElem? (i := 1009) (by decide +kernel), List.mem_of_getElem? (i := 1010) (by decide +kernel)⟩
def lw_privs_6 : List (MethodName × Nat) := [(⟨"HangsTogether$Ways", "dearest", "()I"⟩, 7), (⟨"HangsTogether$Row", "asWay", "()I"⟩, 4), (⟨"HangsTogether$Row", "hasRoom", "()Z"⟩, 4), (⟨"HangsTogether$Row", "append", "(I)I"⟩, 4), (⟨"HangsTogether$Row", "judged", "()I"⟩, 4), (⟨"HangsTogether$Joins", "hasRing", "(I)Z"⟩, 2), (⟨"HangsTogether$Row", "clear", "()V"⟩, 4), (⟨"HangsTogether$Village", "costOfAll", "()I"⟩, 10), (⟨"HangsTogether", "refusalsOf", "(I)I"⟩, 12), (⟨"HangsTogetherModel", "no", "(I)I"⟩, 35), (⟨"HangsTogetherModel", "statement", "()Z"⟩, 35), (⟨"HangsTogetherModel", "next", "()I"⟩, 35), (⟨"HangsTogetherModel", "reads", "(II)Z"⟩, 35), (⟨"HangsTogetherModel", "isNext", "(I)Z"⟩, 35), (⟨"HangsTogetherModel", "passesAll", "(IZ)V"⟩, 35), (⟨"HangsTogetherModel", "passes", "([I)V"⟩, 35)]
theorem lw_r6 : ∀ q ∈ lw_privs_6, lw_okq q := List.forall_mem_cons.mpr ⟨lw_p80, List.forall_mem_cons.mpr ⟨lw_p81, List.forall_mem_cons.mpr ⟨lw_p82, List.forall_mem_cons.mpr ⟨lw_p83, List.forall_mem_cons.mpr ⟨lw_p84, List.forall_mem_cons.mpr ⟨lw_p85, List.forall_mem_cons.mpr ⟨lw_p86, List.forall_mem_cons.mpr ⟨lw_p87, List.forall_mem_cons.mpr ⟨lw_p88, List.forall_mem_cons.mpr ⟨lw_p89, List.forall_mem_cons.mpr ⟨lw_p90, List.forall_mem_cons.mpr ⟨lw_p91, List.forall_mem_cons.mpr ⟨lw_p92, List.forall_mem_cons.mpr ⟨lw_p93, List.forall_mem_cons.mpr ⟨lw_p94, List.forall_mem_cons.mpr ⟨lw_p95, fun _ h => absurd h List.not_mem_nil⟩⟩⟩⟩⟩⟩⟩⟩⟩⟩⟩⟩⟩⟩⟩⟩
theorem lw_p96 : lw_okq (⟨"HangsTogetherModel", "passOne", "(I)I"⟩, 35) := ⟨⟨by decide +kernel, by decide +kernel⟩, List.mem_of_getElem? (i := 858) (by decide +kernel), List.mem_of_getElem? (i := 1013) (by decide +kernel), List.mem_of_getElem? (i := 1014) (by decide +kernel)⟩
theorem lw_p97 : lw_okq (⟨"HangsTogetherModel", "comes", "(I)Z"⟩, 35) := ⟨⟨by decide +kernel, by decide +kernel⟩, List.mem_of_getElem? (i := 858) (by decide +kernel), List.mem_of_getElem? (i := 1017) (by decide +kernel), List.mem_of_getElem? (i := 1018) (by decide +kernel)⟩
theorem lw_p98 : lw_okq (⟨"HangsTogetherModel", "toldHouses", "()I"⟩, 35) := ⟨⟨by decide +kernel, by decide +kernel⟩, List.mem_of_getElem? (i := 858) (by decide +kernel), List.mem_of_getElem? (i := 1021) (by decide +kernel), List.mem_of_getElem? (i := 1022) (by decide +kernel)⟩
theorem lw_p99 : lw_okq (⟨"HangsTogetherModel", "comesLane", "(I)Z"⟩, 35) := ⟨⟨by decide +kernel, by decide +kernel⟩, List.mem_of_getElem? (i := 858) (by decide +kernel), List.mem_of_getElem? (i := 1025) (by decide +kernel), List.mem_of_getElem? (i := 1026) (by decide +kernel)⟩
theorem lw_p100 : lw_okq (⟨"HangsTogetherModel", "isHouse", "(I)Z"⟩, 35) := ⟨⟨by decide +kernel, by decide +kernel⟩, List.mem_of_getElem? (i := 858) (by decide +kernel), List.mem_of_getElem? (i := 1029) (by decide +kernel), List.mem_of_getElem? (i := 1030) (by decide +kernel)⟩
theorem lw_p101 : lw_okq (⟨"HangsTogetherModel", "isLane", "(I)Z"⟩, 35) := ⟨⟨by decide +kernel, by decide +kernel⟩, List.mem_of_getElem? (i := 858) (by decide +kernel), List.mem_of_getElem? (i := 1033) (by decide +kernel), List.mem_of_getElem? (i := 1034) (by decide +kernel)⟩
theorem lw_p102 : lw_okq (⟨"HangsTogetherModel", "weightOf", "(I)I"⟩, 35) := ⟨⟨by decide +kernel, by decide +kernel⟩, List.mem_of_getElem? (i := 858) (by decide +kernel), List.mem_of_getElem? (i := 1049) (by decide +kernel), List.mem_of_getElem? (i := 1050) (by decide +kernel)⟩
theorem lw_p103 : lw_okq (⟨"HangsTogetherModel", "costOf", "(I)I"⟩, 35) := ⟨⟨by decide +kernel, by decide +kernel⟩, List.mem_of_getElem? (i := 858) (by decide +kernel), List.mem_of_getElem? (i := 1053) (by decide +kernel), List.mem_of_getElem? (i := 1054) (by decide +kernel)⟩
theorem lw_p104 : lw_okq (⟨"HangsTogetherModel", "driftOf", "(I)I"⟩, 35) := ⟨⟨by decide +kernel, by decide +kernel⟩, List.mem_of_getElem? (i := 858) (by decide +kernel), List.mem_of_getElem? (i := 1057) (by decide +kernel), List.mem_of_getElem? (i := 1058) (by decide +kernel)⟩
theorem lw_p105 : lw_okq (⟨"HangsTogetherModel", "areLanes", "(I)Z"⟩, 35) := ⟨⟨by decide +kernel, by decide +kernel⟩, List.mem_of_getElem? (i := 858) (by decide +kernel), List.mem_of_getElem? (i := 1073) (by decide +kernel), List.mem_of_getElem? (i := 1074) (by decide +kernel)⟩
theorem lw_p106 : lw_okq (⟨"HangsTogetherModel", "allLanes", "()I"⟩, 35) := ⟨⟨by decide +kernel, by decide +kernel⟩, List.mem_of_getElem? (i := 858) (by decide +kernel), List.mem_of_getElem? (i := 1077) (by decide +kernel), List.mem_of_getElem? (i := 1078) (by decide +kernel)⟩
theorem lw_p107 : lw_okq (⟨"HangsTogetherModel", "isWay", "(I)Z"⟩, 35) := ⟨⟨by decide +kernel, by decide +kernel⟩, List.mem_of_getElem? (i := 858) (by decide +kernel), List.mem_of_getElem? (i := 1081) (by decide +kernel), List.mem_of_getElem? (i := 1082) (by decide +kernel)⟩
theorem lw_p108 : lw_okq (⟨"HangsTogetherModel", "isForest", "(II)Z"⟩, 35) := ⟨⟨by decide +kernel, by decide +kernel⟩, List.mem_of_getElem? (i := 858) (by decide +kernel), List.mem_of_getElem? (i := 1085) (by decide +kernel), List.mem_of_getElem? (i := 1086) (by decide +kernel)⟩
theorem lw_p109 : lw_okq (⟨"HangsTogetherModel", "partsOf", "(I)I"⟩, 35) := ⟨⟨by decide +kernel, by decide +kernel⟩, List.mem_of_getElem? (i := 858) (by decide +kernel), List.mem_of_getElem? (i := 1092) (by decide +kernel), List.mem_of_getElem? (i := 1093) (by decide +kernel)⟩
theorem lw_p110 : lw_okq (⟨"HangsTogetherModel", "isRuled", "(I)Z"⟩, 35) := ⟨⟨by decide +kernel, by decide +kernel⟩, List.mem_of_getElem? (i := 858) (by decide +kernel), List.mem_of_getElem? (i := 1096) (by decide +kernel), List.mem_of_getElem? (i := 1097) (by decide +kernel)⟩
theorem lw_p111 : lw_okq (⟨"HangsTogetherModel", "ruledAs", "(I)I"⟩, 35) := ⟨⟨by decide +kernel, by decide +kernel⟩, List.mem_of_getElem? (i := 858) (by decide +kernel), List.mem_of_getElem? (i := 1100) (by decide +kernel), List.mem_of_getElem? (i := 1101) (by decide +kernel)⟩
def lw_privs_7 : List (MethodName × Nat) := [(⟨"HangsTogetherModel", "passOne", "(I)I"⟩, 35), (⟨"HangsTogetherModel", "comes", "(I)Z"⟩, 35), (⟨"HangsTogetherModel", "toldHouses", "()I"⟩, 35), (⟨"HangsTogetherModel", "comesLane", "(I)Z"⟩, 35), (⟨"HangsTogetherModel", "isHouse", "(I)Z"⟩, 35), (⟨"HangsTogetherModel", "isLane", "(I)Z"⟩, 35), (⟨"HangsTogetherModel", "weightOf", "(I)I"⟩, 35), (⟨"HangsTogetherModel", "costOf", "(I)I"⟩, 35), (⟨"HangsTogetherModel", "driftOf", "(I)I"⟩, 35), (⟨"HangsTogetherModel", "areLanes", "(I)Z"⟩, 35), (⟨"HangsTogetherModel", "allLanes", "()I"⟩, 35), (⟨"HangsTogetherModel", "isWay", "(I)Z"⟩, 35), (⟨"HangsTogetherModel", "isForest", "(II)Z"⟩, 35), (⟨"HangsTogetherModel", "partsOf", "(I)I"⟩, 35), (⟨"HangsTogetherModel", "isRuled", "(I)Z"⟩, 35), (⟨"HangsTogetherModel", "ruledAs", "(I)I"⟩, 35)]
theorem lw_r7 : ∀ q ∈ lw_privs_7, lw_okq q := List.forall_mem_cons.mpr ⟨lw_p96, List.forall_mem_cons.mpr ⟨lw_p97, List.forall_mem_cons.mpr ⟨lw_p98, List.forall_mem_cons.mpr ⟨lw_p99, List.forall_mem_cons.mpr ⟨lw_p100, List.forall_mem_cons.mpr ⟨lw_p101, List.forall_mem_cons.mpr ⟨lw_p102, List.forall_mem_cons.mpr ⟨lw_p103, List.forall_mem_cons.mpr ⟨lw_p104, List.forall_mem_cons.mpr ⟨lw_p105, List.forall_mem_cons.mpr ⟨lw_p106, List.forall_mem_cons.mpr ⟨lw_p107, List.forall_mem_cons.mpr ⟨lw_p108, List.forall_mem_cons.mpr ⟨lw_p109, List.forall_mem_cons.mpr ⟨lw_p110, List.forall_mem_cons.mpr ⟨lw_p111, fun _ h => absurd h List.not_mem_nil⟩⟩⟩⟩⟩⟩⟩⟩⟩⟩⟩⟩⟩⟩⟩⟩
theorem lw_p112 : lw_okq (⟨"HangsTogetherModel", "findWays", "()V"⟩, 35) := ⟨⟨by decide +kernel, by decide +kernel⟩, List.mem_of_getElem? (i := 858) (by decide +kernel), List.mem_of_getElem? (i := 1116) (by decide +kernel), List.mem_of_getElem? (i := 1117) (by decide +kernel)⟩
theorem lw_p113 : lw_okq (⟨"HangsTogetherModel", "worthOf", "(I)J"⟩, 35) := ⟨⟨by decide +kernel, by decide +kernel⟩, List.mem_of_getElem? (i := 858) (by decide +kernel), List.mem_of_getElem? (i := 1120) (by decide +kernel), List.mem_of_getElem? (i := 1121) (by decide +kernel)⟩
theorem lw_p114 : lw_okq (⟨"HangsTogetherModel", "sumWith", "(II)J"⟩, 35) := ⟨⟨by decide +kernel, by decide +kernel⟩, List.mem_of_getElem? (i := 858) (by decide +kernel), List.mem_of_getElem? (i := 1128) (by decide +kernel), List.mem_of_getElem? (i := 1129) (by decide +kernel)⟩
theorem lw_p115 : lw_okq (⟨"HangsTogetherModel", "lowest", "(I)J"⟩, 35) := ⟨⟨by decide +kernel, by decide +kernel⟩, List.mem_of_getElem? (i := 858) (by decide +kernel), List.mem_of_getElem? (i := 1140) (by decide +kernel), List.mem_of_getElem? (i := 1141) (by decide +kernel)⟩
theorem lw_p116 : lw_okq (⟨"HangsTogetherModel", "share", "(II)J"⟩, 35) := ⟨⟨by decide +kernel, by decide +kernel⟩, List.mem_of_getElem? (i := 858) (by decide +kernel), List.mem_of_getElem? (i := 1145) (by decide +kernel), List.mem_of_getElem? (i := 1146) (by decide +kernel)⟩
theorem lw_p117 : lw_okq (⟨"HangsTogetherModel", "cheapest", "(I)I"⟩, 35) := ⟨⟨by decide +kernel, by decide +kernel⟩, List.mem_of_getElem? (i := 858) (by decide +kernel), List.mem_of_getElem? (i := 1182) (by decide +kernel), List.mem_of_getElem? (i := 1183) (by decide +kernel)⟩
theorem lw_p118 : lw_okq (⟨"HangsTogetherModel", "costsOf", "(I)I"⟩, 35) := ⟨⟨by decide +kernel, by decide +kernel⟩, List.mem_of_getElem? (i := 858) (by decide +kernel), List.mem_of_getElem? (i := 1186) (by decide +kernel), List.mem_of_getElem? (i := 1187) (by decide +kernel)⟩
theorem lw_p119 : lw_okq (⟨"HangsTogetherModel", "isToward", "(II)Z"⟩, 35) := ⟨⟨by decide +kernel, by decide +kernel⟩, List.mem_of_getElem? (i := 858) (by decide +kernel), List.mem_of_getElem? (i := 1202) (by decide +kernel), List.mem_of_getElem? (i := 1203) (by decide +kernel)⟩
theorem lw_p120 : lw_okq (⟨"HangsTogetherModel", "isOneEach", "(I)Z"⟩, 35) := ⟨⟨by decide +kernel, by decide +kernel⟩, List.mem_of_getElem? (i := 858) (by decide +kernel), List.mem_of_getElem? (i := 1214) (by decide +kernel), List.mem_of_getElem? (i := 1215) (by decide +kernel)⟩
theorem lw_p121 : lw_okq (⟨"HangsTogetherModel", "areTwo", "(II)Z"⟩, 35) := ⟨⟨by decide +kernel, by decide +kernel⟩, List.mem_of_getElem? (i := 858) (by decide +kernel), List.mem_of_getElem? (i := 1222) (by decide +kernel), List.mem_of_getElem? (i := 1223) (by decide +kernel)⟩
theorem lw_p122 : lw_okq (⟨"HangsTogetherModel", "sumTogether", "()J"⟩, 35) := ⟨⟨by decide +kernel, by decide +kernel⟩, List.mem_of_getElem? (i := 858) (by decide +kernel), List.mem_of_getElem? (i := 1226) (by decide +kernel), List.mem_of_getElem? (i := 1227) (by decide +kernel)⟩
theorem lw_p123 : lw_okq (⟨"HangsTogetherModel", "sumApart", "(IIZ)J"⟩, 35) := ⟨⟨by decide +kernel, by decide +kernel⟩, List.mem_of_getElem? (i := 858) (by decide +kernel), List.mem_of_getElem? (i := 1230) (by decide +kernel), List.mem_of_getElem? (i := 1231) (by decide +kernel)⟩
theorem lw_p124 : lw_okq (⟨"HangsTogetherModel", "findPlan", "(I)V"⟩, 35) := ⟨⟨by decide +kernel, by decide +kernel⟩, List.mem_of_getElem? (i := 858) (by decide +kernel), List.mem_of_getElem? (i := 1247) (by decide +kernel), List.mem_of_getElem? (i := 1248) (by decide +kernel)⟩
theorem lw_p125 : lw_okq (⟨"HangsTogetherModel", "doJoin", "(I)Z"⟩, 35) := ⟨⟨by decide +kernel, by decide +kernel⟩, List.mem_of_getElem? (i := 858) (by decide +kernel), List.mem_of_getElem? (i := 1251) (by decide +kernel), List.mem_of_getElem? (i := 1252) (by decide +kernel)⟩
theorem lw_p126 : lw_okq (⟨"HangsTogetherModel", "makes", "(I)I"⟩, 35) := ⟨⟨by decide +kernel, by decide +kernel⟩, List.mem_of_getElem? (i := 858) (by decide +kernel), List.mem_of_getElem? (i := 1262) (by decide +kernel), List.mem_of_getElem? (i := 1263) (by decide +kernel)⟩
theorem lw_p127 : lw_okq (⟨"HangsTogetherModel", "walks", "()I"⟩, 35) := ⟨⟨by decide +kernel, by decide +kernel⟩, List.mem_of_getElem? (i := 858) (by decide +kernel), List.mem_of_getElem? (i := 1266) (by decide +kernel), List.mem_of_getElem? (i := 1267) (by decide +kernel)⟩
def lw_privs_8 : List (MethodName × Nat) := [(⟨"HangsTogetherModel", "findWays", "()V"⟩, 35), (⟨"HangsTogetherModel", "worthOf", "(I)J"⟩, 35), (⟨"HangsTogetherModel", "sumWith", "(II)J"⟩, 35), (⟨"HangsTogetherModel", "lowest", "(I)J"⟩, 35), (⟨"HangsTogetherModel", "share", "(II)J"⟩, 35), (⟨"HangsTogetherModel", "cheapest", "(I)I"⟩, 35), (⟨"HangsTogetherModel", "costsOf", "(I)I"⟩, 35), (⟨"HangsTogetherModel", "isToward", "(II)Z"⟩, 35), (⟨"HangsTogetherModel", "isOneEach", "(I)Z"⟩, 35), (⟨"HangsTogetherModel", "areTwo", "(II)Z"⟩, 35), (⟨"HangsTogetherModel", "sumTogether", "()J"⟩, 35), (⟨"HangsTogetherModel", "sumApart", "(IIZ)J"⟩, 35), (⟨"HangsTogetherModel", "findPlan", "(I)V"⟩, 35), (⟨"HangsTogetherModel", "doJoin", "(I)Z"⟩, 35), (⟨"HangsTogetherModel", "makes", "(I)I"⟩, 35), (⟨"HangsTogetherModel", "walks", "()I"⟩, 35)]
theorem lw_r8 : ∀ q ∈ lw_privs_8, lw_okq q := List.forall_mem_cons.mpr ⟨lw_p112, List.forall_mem_cons.mpr ⟨lw_p113, List.forall_mem_cons.mpr ⟨lw_p114, List.forall_mem_cons.mpr ⟨lw_p115, List.forall_mem_cons.mpr ⟨lw_p116, List.forall_mem_cons.mpr ⟨lw_p117, List.forall_mem_cons.mpr ⟨lw_p118, List.forall_mem_cons.mpr ⟨lw_p119, List.forall_mem_cons.mpr ⟨lw_p120, List.forall_mem_cons.mpr ⟨lw_p121, List.forall_mem_cons.mpr ⟨lw_p122, List.forall_mem_cons.mpr ⟨lw_p123, List.forall_mem_cons.mpr ⟨lw_p124, List.forall_mem_cons.mpr ⟨lw_p125, List.forall_mem_cons.mpr ⟨lw_p126, List.forall_mem_cons.mpr ⟨lw_p127, fun _ h => absurd h List.not_mem_nil⟩⟩⟩⟩⟩⟩⟩⟩⟩⟩⟩⟩⟩⟩⟩⟩
theorem lw_p128 : lw_okq (⟨"HangsTogetherModel", "weightsFrom", "(I)I"⟩, 35) := ⟨⟨by decide +kernel, by decide +kernel⟩, List.mem_of_getElem? (i := 858) (by decide +kernel), List.mem_of_getElem? (i := 1270) (by decide +kernel), List.mem_of_getElem? (i := 1271) (by decide +kernel)⟩
theorem lw_p129 : lw_okq (⟨"HangsTogetherModel", "leads", "(II)I"⟩, 35) := ⟨⟨by decide +kernel, by decide +kernel⟩, List.mem_of_getElem? (i := 858) (by decide +kernel), List.mem_of_getElem? (i := 1274) (by decide +kernel), List.mem_of_getElem? (i := 1275) (by decide +kernel)⟩
theorem lw_p130 : lw_okq (⟨"HangsTogetherModel", "drawn", "(J)I"⟩, 35) := ⟨⟨by decide +kernel, by decide +kernel⟩, List.mem_of_getElem? (i := 858) (by decide +kernel), List.mem_of_getElem? (i := 1278) (by decide +kernel), List.mem_of_getElem? (i := 1279) (by decide +kernel)⟩
theorem lw_p131 : lw_okq (⟨"HangsTogetherModel", "rowWay", "()I"⟩, 35) := ⟨⟨by decide +kernel, by decide +kernel⟩, List.mem_of_getElem? (i := 858) (by decide +kernel), List.mem_of_getElem? (i := 1285) (by decide +kernel), List.mem_of_getElem? (i := 1286) (by decide +kernel)⟩
theorem lw_p132 : lw_okq (⟨"HangsTogetherModel", "steps", "()I"⟩, 35) := ⟨⟨by decide +kernel, by decide +kernel⟩, List.mem_of_getElem? (i := 858) (by decide +kernel), List.mem_of_getElem? (i := 1289) (by decide +kernel), List.mem_of_getElem? (i := 1290) (by decide +kernel)⟩
theorem lw_p133 : lw_okq (⟨"HangsTogetherModel", "dearest", "()I"⟩, 35) := ⟨⟨by decide +kernel, by decide +kernel⟩, List.mem_of_getElem? (i := 858) (by decide +kernel), List.mem_of_getElem? (i := 1293) (by decide +kernel), List.mem_of_getElem? (i := 1294) (by decide +kernel)⟩
def lw_privs_9 : List (MethodName × Nat) := [(⟨"HangsTogetherModel", "weightsFrom", "(I)I"⟩, 35), (⟨"HangsTogetherModel", "leads", "(II)I"⟩, 35), (⟨"HangsTogetherModel", "drawn", "(J)I"⟩, 35), (⟨"HangsTogetherModel", "rowWay", "()I"⟩, 35), (⟨"HangsTogetherModel", "steps", "()I"⟩, 35), (⟨"HangsTogetherModel", "dearest", "()I"⟩, 35)]
theorem lw_r9 : ∀ q ∈ lw_privs_9, lw_okq q := List.forall_mem_cons.mpr ⟨lw_p128, List.forall_mem_cons.mpr ⟨lw_p129, List.forall_mem_cons.mpr ⟨lw_p130, List.forall_mem_cons.mpr ⟨lw_p131, List.forall_mem_cons.mpr ⟨lw_p132, List.forall_mem_cons.mpr ⟨lw_p133, fun _ h => absurd h List.not_mem_nil⟩⟩⟩⟩⟩⟩
def lw_privs : List (MethodName × Nat) := lw_privs_1 ++ (lw_privs_2 ++ (lw_privs_3 ++ (lw_privs_4 ++ (lw_privs_5 ++ (lw_privs_6 ++ (lw_privs_7 ++ (lw_privs_8 ++ (lw_privs_9))))))))
def lw_tbl : List Cond := k2_sels lw_privs ++ tables_1
theorem lw_privs_ok : ∀ q ∈ lw_privs, lw_okq q := by
  show ∀ q ∈ lw_privs_1 ++ (lw_privs_2 ++ (lw_privs_3 ++ (lw_privs_4 ++ (lw_privs_5 ++ (lw_privs_6 ++ (lw_privs_7 ++ (lw_privs_8 ++ (lw_privs_9)))))))), lw_okq q
  exact List.forall_mem_append.mpr ⟨lw_r1, List.forall_mem_append.mpr ⟨lw_r2, List.forall_mem_append.mpr ⟨lw_r3, List.forall_mem_append.mpr ⟨lw_r4, List.forall_mem_append.mpr ⟨lw_r5, List.forall_mem_append.mpr ⟨lw_r6, List.forall_mem_append.mpr ⟨lw_r7, List.forall_mem_append.mpr ⟨lw_r8, lw_r9⟩⟩⟩⟩⟩⟩⟩⟩
-- ===== end of PART A; then your names; then what follows =====
end
section
/-! ===== the class's own small words ===== -/
abbrev Mem : Type := (Nat → Nat → Int32) × (Nat → Nat → Int64)
def mu (m : Mem) (j k : Nat) (v : Int32) : Mem := (fun i => if i = j then upd (m.1 j) k v else m.1 i, m.2)
def muL (m : Mem) (j k : Nat) (v : Int64) : Mem := (m.1, fun i => if i = j then vp_updL (m.2 j) k v else m.2 i)
def b2i (b : Bool) : Int32 := if b = true then 1 else 0
/-- the cells in the order in which they are made: an array (long or not, its length), or an object (its class, its fields: none a number, some j the cell j) -/
abbrev LayT : Type := (Bool × Nat) ⊕ (Nat × List (Option Nat))
def layV (v : Nat) : LayT := .inr (6, [none, none, none, none, some (v + 1), some (v + 2), some (v + 3), some (v + 4), some (v + 5), some (v + 6)])
def layL : List LayT := [
  .inr (8, [some 1, some 8, some 15, none, some 22, some 24, some 26, some 30, some 31, some 35, some 37, some 42]),
  layV 1, .inl (false, 10), .inl (false, 10), .inl (false, 10), .inl (false, 10), .inl (false, 10), .inl (false, 10),
  layV 8, .inl (false, 10), .inl (false, 10), .inl (false, 10), .inl (false, 10), .inl (false, 10), .inl (false, 10),
  layV 15, .inl (false, 10), .inl (false, 10), .inl (false, 10), .inl (false, 10), .inl (false, 10), .inl (false, 10),
  .inr (3, [some 23, none]), .inl (false, 72),
  .inr (2, [some 1, some 25]), .inl (false, 1024),
  .inr (7, [some 1, some 24, none, some 27, some 28, some 29, none]), .inl (false, 252), .inl (false, 252), .inl (false, 252),
  .inr (1, [some 1, some 24]),
  .inr (4, [none, some 32, some 33, some 34]), .inl (false, 1024), .inl (false, 11), .inl (false, 11),
  .inr (5, [some 1, some 24, some 36, none]), .inl (false, 10),
  .inr (0, [some 1, some 26, some 35, none, some 38, some 39, some 40, some 41]), .inl (false, 7), .inl (false, 7), .inl (false, 252), .inl (false, 252),
  .inl (false, 7),
  .inr (9, [some 44, some 45, some 46, some 47, some 48, some 49, some 50, some 51, none, none, some 52, some 53, some 54, some 55, none, none, none, some 56, none, none, none, some 57, some 58, some 59, none, some 60, some 61, some 62, none, none, none, none, none, some 63, none]),
  .inl (false, 7), .inl (false, 11), .inl (false, 11), .inl (false, 11), .inl (false, 11), .inl (false, 11), .inl (false, 11), .inl (false, 11),
  .inl (false, 72), .inl (false, 36), .inl (false, 36), .inl (false, 216), .inl (false, 200), .inl (false, 7), .inl (false, 1024), .inl (true, 1024), .inl (false, 10), .inl (false, 10), .inl (false, 130), .inl (false, 10)]
def lay (j : Nat) : LayT := layL.getD j (.inl (false, 0))
def cfv (a : Nat → Nat) (f : Nat → Int32) : Nat → List (Option Nat) → List Value
  | _, [] => []
  | k, none :: fs => .int (f k) :: cfv a f (k + 1) fs
  | k, some j :: fs => .ref (a j) :: cfv a f (k + 1) fs
def cellQ (cI cJ : ClassId) (a : Nat → Nat) (f : Nat → Int32) (g : Nat → Int64) : LayT → va_E
  | .inl (false, n) => .inl (cI, n, .inl f)
  | .inl (true, n) => .inl (cJ, n, .inr (.inl g))
  | .inr (ci, fs) => .inr (ci, cfv a f 0 fs)
def cellsL (cI cJ : ClassId) (a : Nat → Nat) (n : Nat) (m : Mem) : va_W := (List.range n).map (fun j => (a j, cellQ cI cJ a (m.1 j) (m.2 j) (lay j)))
theorem cellsL_get {cI cJ : ClassId} {a : Nat → Nat} {n : Nat} {m : Mem} {j : Nat} (hj : j < n) : (cellsL cI cJ a n m)[j]? = some (a j, cellQ cI cJ a (m.1 j) (m.2 j) (lay j)) := by
  unfold cellsL
  rw [List.getElem?_map, List.getElem?_range hj]
  rfl
theorem cfv_int {a : Nat → Nat} {f : Nat → Int32} : ∀ (fs : List (Option Nat)) (i k : Nat), fs[k]? = some none → (cfv a f i fs)[k]? = some (.int (f (i + k)))
  | [], _, k, h => by simp at h
  | x :: fs, i, 0, h => by
    have hx : x = none := by simpa using h
    subst hx
    simp [cfv]
  | none :: fs, i, k + 1, h => by
    have := cfv_int (a := a) (f := f) fs (i + 1) k (by simpa using h)
    simp only [cfv, List.getElem?_cons_succ]
    rw [this]
    congr 3
    omega
  | some j :: fs, i, k + 1, h => by
    have := cfv_int (a := a) (f := f) fs (i + 1) k (by simpa using h)
    simp only [cfv, List.getElem?_cons_succ]
    rw [this]
    congr 3
    omega
theorem cfv_ref {a : Nat → Nat} {f : Nat → Int32} {j : Nat} : ∀ (fs : List (Option Nat)) (i k : Nat), fs[k]? = some (some j) → (cfv a f i fs)[k]? = some (.ref (a j))
  | [], _, k, h => by simp at h
  | x :: fs, i, 0, h => by
    have hx : x = some j := by simpa using h
    subst hx
    simp [cfv]
  | none :: fs, i, k + 1, h => by
    simp only [cfv, List.getElem?_cons_succ]
    exact cfv_ref fs (i + 1) k (by simpa using h)
  | some _ :: fs, i, k + 1, h => by
    simp only [cfv, List.getElem?_cons_succ]
    exact cfv_ref fs (i + 1) k (by simpa using h)
theorem cfv_len {a : Nat → Nat} {f : Nat → Int32} : ∀ (fs : List (Option Nat)) (i : Nat), (cfv a f i fs).length = fs.length
  | [], _ => rfl
  | none :: fs, i => by simp [cfv, cfv_len fs (i + 1)]
  | some _ :: fs, i => by simp [cfv, cfv_len fs (i + 1)]
theorem cfv_out {a : Nat → Nat} {f : Nat → Int32} {v : Int32} : ∀ (fs : List (Option Nat)) (i k : Nat), k < i → cfv a (upd f k v) i fs = cfv a f i fs
  | [], _, _, _ => rfl
  | none :: fs, i, k, h => by
    have h1 : upd f k v i = f i := by simp [upd]; omega
    simp only [cfv, cfv_out fs (i + 1) k (by omega), h1]
  | some _ :: fs, i, k, h => by simp only [cfv, cfv_out fs (i + 1) k (by omega)]
theorem cfv_set {a : Nat → Nat} {f : Nat → Int32} {v : Int32} : ∀ (fs : List (Option Nat)) (i k : Nat), fs[k]? = some none → (cfv a f i fs).set k (.int v) = cfv a (upd f (i + k) v) i fs
  | [], _, k, h => by simp at h
  | x :: fs, i, 0, h => by
    have hx : x = none := by simpa using h
    subst hx
    simp only [cfv, List.set_cons_zero, Nat.add_zero]
    rw [cfv_out fs (i + 1) i (by omega)]
    simp [upd]
  | none :: fs, i, k + 1, h => by
    have h1 := cfv_set (a := a) (f := f) (v := v) fs (i + 1) k (by simpa using h)
    have h2 : upd f (i + (k + 1)) v i = f i := by simp [upd]
    simp only [cfv, List.set_cons_succ, h1, h2]
    rw [show i + 1 + k = i + (k + 1) by omega]
  | some _ :: fs, i, k + 1, h => by
    have h1 := cfv_set (a := a) (f := f) (v := v) fs (i + 1) k (by simpa using h)
    simp only [cfv, List.set_cons_succ, h1]
    rw [show i + 1 + k = i + (k + 1) by omega]
theorem cellsL_set {cI cJ : ClassId} {a : Nat → Nat} {n : Nat} {m m' : Mem} {j : Nat} {e : va_E} (ho : ∀ i, i ≠ j → m'.1 i = m.1 i ∧ m'.2 i = m.2 i) (he : cellQ cI cJ a (m'.1 j) (m'.2 j) (lay j) = e) : (cellsL cI cJ a n m).set j (a j, e) = cellsL cI cJ a n m' := by
  apply List.ext_getElem?
  intro i
  rw [List.getElem?_set]
  by_cases hi : j = i
  · subst hi
    rw [if_pos rfl]
    by_cases hj : j < n
    · rw [if_pos (by simp [cellsL, hj]), cellsL_get hj, he]
    · rw [if_neg (by simp [cellsL, hj])]
      symm
      rw [List.getElem?_eq_none_iff]
      simp [cellsL]; omega
  · rw [if_neg hi]
    by_cases hj : i < n
    · rw [cellsL_get hj, cellsL_get hj, (ho i (fun h => hi h.symm)).1, (ho i (fun h => hi h.symm)).2]
    · rw [List.getElem?_eq_none_iff.mpr (by simp [cellsL]; omega), List.getElem?_eq_none_iff.mpr (by simp [cellsL]; omega)]
theorem mu_o {m : Mem} {j k : Nat} {v : Int32} : ∀ i, i ≠ j → (mu m j k v).1 i = m.1 i ∧ (mu m j k v).2 i = m.2 i := fun i h => ⟨if_neg h, rfl⟩
theorem mu_s {m : Mem} {j k : Nat} {v : Int32} : (mu m j k v).1 j = upd (m.1 j) k v := if_pos rfl
theorem muL_o {m : Mem} {j k : Nat} {v : Int64} : ∀ i, i ≠ j → (muL m j k v).1 i = m.1 i ∧ (muL m j k v).2 i = m.2 i := fun i h => ⟨rfl, if_neg h⟩
theorem muL_s {m : Mem} {j k : Nat} {v : Int64} : (muL m j k v).2 j = vp_updL (m.2 j) k v := if_pos rfl
def gv (a : Nat → Nat) : Value → Value
  | .ref j => .ref (a j)
  | v => v
def gl (a : Nat → Nat) (ls : List (Nat × Value)) : List (Nat × Value) := ls.map (fun q => (q.1, gv a q.2))
theorem gv_cat (a : Nat → Nat) (v : Value) : (gv a v).category = v.category := by cases v <;> rfl
end
section
def RX0 : String := "HangsTogether$Drawers"
def TX0 : u_T := fun k => match k with
  | 0 => ("HangsTogether$Drawers", "village", "LHangsTogether$Village;", true)
  | 1 => ("HangsTogether$Drawers", "ways", "LHangsTogether$Ways;", true)
  | 2 => ("HangsTogether$Drawers", "told", "LHangsTogether$Row;", true)
  | 3 => ("HangsTogether$Drawers", "seed", "I", false)
  | 4 => ("HangsTogether$Drawers", "lanesOn", "[I", true)
  | 5 => ("HangsTogether$Drawers", "weightOn", "[I", true)
  | 6 => ("HangsTogether$Drawers", "pool", "[I", true)
  | _ => ("HangsTogether$Drawers", "poolWorth", "[I", true)
def tyX0 : Nat → FieldType := fun k => match k with
  | 0 => .object "HangsTogether$Village"
  | 1 => .object "HangsTogether$Ways"
  | 2 => .object "HangsTogether$Row"
  | 3 => .int
  | 4 => .array .int
  | 5 => .array .int
  | 6 => .array .int
  | _ => .array .int
abbrev wsX00 : List Cond := u_ws RX0 TX0 8
theorem nmX0 : ∀ a, a < 8 → ∀ b, b < 8 → a ≠ b → (TX0 a).2.1 ≠ (TX0 b).2.1 := by decide +kernel
theorem tyX0_ok : ∀ k, k < 8 → parseFieldDescriptor (TX0 k).2.2.1 = some (tyX0 k) := by decide +kernel
abbrev cX0_init : ByteArray := prog_2_method_1_code
def yX0_init : MethodName := ⟨RX0, "<init>", "(LHangsTogether$Village;LHangsTogether$Ways;LHangsTogether$Row;)V"⟩
abbrev cX0_isDrawer : ByteArray := prog_2_method_2_code
def yX0_isDrawer : MethodName := ⟨RX0, "isDrawer", "(I)Z"⟩
abbrev cX0_begin : ByteArray := prog_2_method_3_code
def yX0_begin : MethodName := ⟨RX0, "begin", "(I)V"⟩
abbrev cX0_makeNext : ByteArray := prog_2_method_4_code
def yX0_makeNext : MethodName := ⟨RX0, "makeNext", "(I)I"⟩
abbrev cX0_below : ByteArray := prog_2_method_5_code
def yX0_below : MethodName := ⟨RX0, "below", "(I)I"⟩
abbrev cX0_lookRound : ByteArray := prog_2_method_6_code
def yX0_lookRound : MethodName := ⟨RX0, "lookRound", "()V"⟩
abbrev cX0_goesOn : ByteArray := prog_2_method_7_code
def yX0_goesOn : MethodName := ⟨RX0, "goesOn", "(II)Z"⟩
abbrev cX0_walkAbout : ByteArray := prog_2_method_8_code
def yX0_walkAbout : MethodName := ⟨RX0, "walkAbout", "()I"⟩
abbrev cX0_laneFrom : ByteArray := prog_2_method_9_code
def yX0_laneFrom : MethodName := ⟨RX0, "laneFrom", "(I)I"⟩
abbrev cX0_laneByLane : ByteArray := prog_2_method_10_code
def yX0_laneByLane : MethodName := ⟨RX0, "laneByLane", "()I"⟩
abbrev cX0_poolWorthWith : ByteArray := prog_2_method_11_code
def yX0_poolWorthWith : MethodName := ⟨RX0, "poolWorthWith", "(II)I"⟩
abbrev cX0_narrow : ByteArray := prog_2_method_12_code
def yX0_narrow : MethodName := ⟨RX0, "narrow", "(IIZ)I"⟩
def RX1 : String := "HangsTogether$Forests"
def TX1 : u_T := fun k => match k with
  | 0 => ("HangsTogether$Forests", "village", "LHangsTogether$Village;", true)
  | _ => ("HangsTogether$Forests", "joins", "LHangsTogether$Joins;", true)
def tyX1 : Nat → FieldType := fun k => match k with
  | 0 => .object "HangsTogether$Village"
  | _ => .object "HangsTogether$Joins"
abbrev wsX10 : List Cond := u_ws RX1 TX1 2
theorem nmX1 : ∀ a, a < 2 → ∀ b, b < 2 → a ≠ b → (TX1 a).2.1 ≠ (TX1 b).2.1 := by decide +kernel
theorem tyX1_ok : ∀ k, k < 2 → parseFieldDescriptor (TX1 k).2.2.1 = some (tyX1 k) := by decide +kernel
abbrev cX1_init : ByteArray := prog_3_method_1_code
def yX1_init : MethodName := ⟨RX1, "<init>", "(LHangsTogether$Village;LHangsTogether$Joins;)V"⟩
abbrev cX1_manyOf : ByteArray := prog_3_method_2_code
def yX1_manyOf : MethodName := ⟨RX1, "manyOf", "(I)I"⟩
abbrev cX1_manyWithOneEach : ByteArray := prog_3_method_3_code
def yX1_manyWithOneEach : MethodName := ⟨RX1, "manyWithOneEach", "(I)I"⟩
abbrev cX1_worthOfWhole : ByteArray := prog_3_method_4_code
def yX1_worthOfWhole : MethodName := ⟨RX1, "worthOfWhole", "(I)J"⟩
abbrev cX1_worthApart : ByteArray := prog_3_method_5_code
def yX1_worthApart : MethodName := ⟨RX1, "worthApart", "(III)J"⟩
abbrev cX1_isOpen : ByteArray := prog_3_method_6_code
def yX1_isOpen : MethodName := ⟨RX1, "isOpen", "(II)Z"⟩
abbrev cX1_free : ByteArray := prog_3_method_7_code
def yX1_free : MethodName := ⟨RX1, "free", "()I"⟩
abbrev cX1_chancesInAll : ByteArray := prog_3_method_8_code
def yX1_chancesInAll : MethodName := ⟨RX1, "chancesInAll", "()J"⟩
abbrev cX1_chancesToHold : ByteArray := prog_3_method_9_code
def yX1_chancesToHold : MethodName := ⟨RX1, "chancesToHold", "()J"⟩
abbrev cX1_chancesOf : ByteArray := prog_3_method_10_code
def yX1_chancesOf : MethodName := ⟨RX1, "chancesOf", "(II)J"⟩
def RX2 : String := "HangsTogether$Joins"
def TX2 : u_T := fun k => match k with
  | 0 => ("HangsTogether$Joins", "village", "LHangsTogether$Village;", true)
  | _ => ("HangsTogether$Joins", "state", "[I", true)
def tyX2 : Nat → FieldType := fun k => match k with
  | 0 => .object "HangsTogether$Village"
  | _ => .array .int
abbrev wsX20 : List Cond := u_ws RX2 TX2 2
theorem nmX2 : ∀ a, a < 2 → ∀ b, b < 2 → a ≠ b → (TX2 a).2.1 ≠ (TX2 b).2.1 := by decide +kernel
theorem tyX2_ok : ∀ k, k < 2 → parseFieldDescriptor (TX2 k).2.2.1 = some (tyX2 k) := by decide +kernel
abbrev cX2_init : ByteArray := prog_4_method_1_code
def yX2_init : MethodName := ⟨RX2, "<init>", "(LHangsTogether$Village;)V"⟩
abbrev cX2_build : ByteArray := prog_4_method_2_code
def yX2_build : MethodName := ⟨RX2, "build", "()V"⟩
abbrev cX2_joinAll : ByteArray := prog_4_method_3_code
def yX2_joinAll : MethodName := ⟨RX2, "joinAll", "([IIII)V"⟩
abbrev cX2_apart : ByteArray := prog_4_method_4_code
def yX2_apart : MethodName := ⟨RX2, "apart", "(I)I"⟩
abbrev cX2_joined : ByteArray := prog_4_method_5_code
def yX2_joined : MethodName := ⟨RX2, "joined", "(III)I"⟩
abbrev cX2_partOf : ByteArray := prog_4_method_6_code
def yX2_partOf : MethodName := ⟨RX2, "partOf", "(II)I"⟩
abbrev cX2_isForest : ByteArray := prog_4_method_7_code
def yX2_isForest : MethodName := ⟨RX2, "isForest", "(II)Z"⟩
abbrev cX2_stateOf : ByteArray := prog_4_method_8_code
def yX2_stateOf : MethodName := ⟨RX2, "stateOf", "(I)I"⟩
abbrev cX2_partsLeft : ByteArray := prog_4_method_9_code
def yX2_partsLeft : MethodName := ⟨RX2, "partsLeft", "(I)I"⟩
abbrev cX2_hasRing : ByteArray := prog_4_method_10_code
def yX2_hasRing : MethodName := ⟨RX2, "hasRing", "(I)Z"⟩
abbrev cX2_leavesForest : ByteArray := prog_4_method_11_code
def yX2_leavesForest : MethodName := ⟨RX2, "leavesForest", "(II)Z"⟩
abbrev cX2_areTogether : ByteArray := prog_4_method_12_code
def yX2_areTogether : MethodName := ⟨RX2, "areTogether", "(III)Z"⟩
abbrev cX2_isWay : ByteArray := prog_4_method_13_code
def yX2_isWay : MethodName := ⟨RX2, "isWay", "(I)Z"⟩
abbrev cX2_areAllApart : ByteArray := prog_4_method_14_code
def yX2_areAllApart : MethodName := ⟨RX2, "areAllApart", "(II)Z"⟩
def RX3 : String := "HangsTogether$Letters"
def TX3 : u_T := fun k => match k with
  | 0 => ("HangsTogether$Letters", "letter", "[I", true)
  | _ => ("HangsTogether$Letters", "size", "I", false)
def tyX3 : Nat → FieldType := fun k => match k with
  | 0 => .array .int
  | _ => .int
abbrev wsX30 : List Cond := u_ws RX3 TX3 2
theorem nmX3 : ∀ a, a < 2 → ∀ b, b < 2 → a ≠ b → (TX3 a).2.1 ≠ (TX3 b).2.1 := by decide +kernel
theorem tyX3_ok : ∀ k, k < 2 → parseFieldDescriptor (TX3 k).2.2.1 = some (tyX3 k) := by decide +kernel
abbrev cX3_init : ByteArray := prog_5_method_1_code
def yX3_init : MethodName := ⟨RX3, "<init>", "()V"⟩
abbrev cX3_haveRoom : ByteArray := prog_5_method_2_code
def yX3_haveRoom : MethodName := ⟨RX3, "haveRoom", "()Z"⟩
abbrev cX3_append : ByteArray := prog_5_method_3_code
def yX3_append : MethodName := ⟨RX3, "append", "(I)I"⟩
abbrev cX3_clear : ByteArray := prog_5_method_4_code
def yX3_clear : MethodName := ⟨RX3, "clear", "()V"⟩
abbrev cX3_tellTo : ByteArray := prog_5_method_5_code
def yX3_tellTo : MethodName := ⟨RX3, "tellTo", "(LHangsTogether$Village;)I"⟩
abbrev cX3_placeOfWrongForm : ByteArray := prog_5_method_6_code
def yX3_placeOfWrongForm : MethodName := ⟨RX3, "placeOfWrongForm", "()I"⟩
abbrev cX3_after : ByteArray := prog_5_method_7_code
def yX3_after : MethodName := ⟨RX3, "after", "(II)I"⟩
abbrev cX3_afterStart : ByteArray := prog_5_method_8_code
def yX3_afterStart : MethodName := ⟨RX3, "afterStart", "(I)I"⟩
abbrev cX3_afterComma : ByteArray := prog_5_method_9_code
def yX3_afterComma : MethodName := ⟨RX3, "afterComma", "(I)I"⟩
abbrev cX3_isDigit : ByteArray := prog_5_method_10_code
def yX3_isDigit : MethodName := ⟨RX3, "isDigit", "(I)Z"⟩
abbrev cX3_tellOne : ByteArray := prog_5_method_11_code
def yX3_tellOne : MethodName := ⟨RX3, "tellOne", "(LHangsTogether$Village;II)Z"⟩
abbrev cX3_tellRule : ByteArray := prog_5_method_12_code
def yX3_tellRule : MethodName := ⟨RX3, "tellRule", "(LHangsTogether$Village;II)Z"⟩
abbrev cX3_tellLane : ByteArray := prog_5_method_13_code
def yX3_tellLane : MethodName := ⟨RX3, "tellLane", "(LHangsTogether$Village;II)Z"⟩
abbrev cX3_number : ByteArray := prog_5_method_14_code
def yX3_number : MethodName := ⟨RX3, "number", "(II)I"⟩
abbrev cX3_digitAt : ByteArray := prog_5_method_15_code
def yX3_digitAt : MethodName := ⟨RX3, "digitAt", "(I)I"⟩
abbrev cX3_letterAt : ByteArray := prog_5_method_16_code
def yX3_letterAt : MethodName := ⟨RX3, "letterAt", "(I)I"⟩
def RX4 : String := "HangsTogether$Plans"
def TX4 : u_T := fun k => match k with
  | 0 => ("HangsTogether$Plans", "houses", "I", false)
  | 1 => ("HangsTogether$Plans", "ways", "[I", true)
  | 2 => ("HangsTogether$Plans", "most", "[I", true)
  | _ => ("HangsTogether$Plans", "first", "[I", true)
def tyX4 : Nat → FieldType := fun k => match k with
  | 0 => .int
  | 1 => .array .int
  | 2 => .array .int
  | _ => .array .int
abbrev wsX40 : List Cond := u_ws RX4 TX4 4
theorem nmX4 : ∀ a, a < 4 → ∀ b, b < 4 → a ≠ b → (TX4 a).2.1 ≠ (TX4 b).2.1 := by decide +kernel
theorem tyX4_ok : ∀ k, k < 4 → parseFieldDescriptor (TX4 k).2.2.1 = some (tyX4 k) := by decide +kernel
abbrev cX4_init : ByteArray := prog_6_method_1_code
def yX4_init : MethodName := ⟨RX4, "<init>", "()V"⟩
abbrev cX4_makeFor : ByteArray := prog_6_method_2_code
def yX4_makeFor : MethodName := ⟨RX4, "makeFor", "(I)V"⟩
abbrev cX4_joinPairs : ByteArray := prog_6_method_3_code
def yX4_joinPairs : MethodName := ⟨RX4, "joinPairs", "()V"⟩
abbrev cX4_addThoseWithout : ByteArray := prog_6_method_4_code
def yX4_addThoseWithout : MethodName := ⟨RX4, "addThoseWithout", "(II)V"⟩
abbrev cX4_chooseBest : ByteArray := prog_6_method_5_code
def yX4_chooseBest : MethodName := ⟨RX4, "chooseBest", "(I)V"⟩
abbrev cX4_mostWays : ByteArray := prog_6_method_6_code
def yX4_mostWays : MethodName := ⟨RX4, "mostWays", "(I)I"⟩
abbrev cX4_firstSet : ByteArray := prog_6_method_7_code
def yX4_firstSet : MethodName := ⟨RX4, "firstSet", "(I)I"⟩
def RX5 : String := "HangsTogether$Row"
def TX5 : u_T := fun k => match k with
  | 0 => ("HangsTogether$Row", "village", "LHangsTogether$Village;", true)
  | 1 => ("HangsTogether$Row", "joins", "LHangsTogether$Joins;", true)
  | 2 => ("HangsTogether$Row", "told", "[I", true)
  | _ => ("HangsTogether$Row", "size", "I", false)
def tyX5 : Nat → FieldType := fun k => match k with
  | 0 => .object "HangsTogether$Village"
  | 1 => .object "HangsTogether$Joins"
  | 2 => .array .int
  | _ => .int
abbrev wsX50 : List Cond := u_ws RX5 TX5 4
theorem nmX5 : ∀ a, a < 4 → ∀ b, b < 4 → a ≠ b → (TX5 a).2.1 ≠ (TX5 b).2.1 := by decide +kernel
theorem tyX5_ok : ∀ k, k < 4 → parseFieldDescriptor (TX5 k).2.2.1 = some (tyX5 k) := by decide +kernel
abbrev cX5_init : ByteArray := prog_7_method_1_code
def yX5_init : MethodName := ⟨RX5, "<init>", "(LHangsTogether$Village;LHangsTogether$Joins;)V"⟩
abbrev cX5_hasRoom : ByteArray := prog_7_method_2_code
def yX5_hasRoom : MethodName := ⟨RX5, "hasRoom", "()Z"⟩
abbrev cX5_append : ByteArray := prog_7_method_3_code
def yX5_append : MethodName := ⟨RX5, "append", "(I)I"⟩
abbrev cX5_clear : ByteArray := prog_7_method_4_code
def yX5_clear : MethodName := ⟨RX5, "clear", "()V"⟩
abbrev cX5_judged : ByteArray := prog_7_method_5_code
def yX5_judged : MethodName := ⟨RX5, "judged", "()I"⟩
abbrev cX5_asWay : ByteArray := prog_7_method_6_code
def yX5_asWay : MethodName := ⟨RX5, "asWay", "()I"⟩
def RX6 : String := "HangsTogether$Village"
def TX6 : u_T := fun k => match k with
  | 0 => ("HangsTogether$Village", "houses", "I", false)
  | 1 => ("HangsTogether$Village", "lanes", "I", false)
  | 2 => ("HangsTogether$Village", "must", "I", false)
  | 3 => ("HangsTogether$Village", "barred", "I", false)
  | 4 => ("HangsTogether$Village", "kind", "[I", true)
  | 5 => ("HangsTogether$Village", "from", "[I", true)
  | 6 => ("HangsTogether$Village", "to", "[I", true)
  | 7 => ("HangsTogether$Village", "weight", "[I", true)
  | 8 => ("HangsTogether$Village", "cost", "[I", true)
  | _ => ("HangsTogether$Village", "drift", "[I", true)
def tyX6 : Nat → FieldType := fun k => match k with
  | 0 => .int
  | 1 => .int
  | 2 => .int
  | 3 => .int
  | 4 => .array .int
  | 5 => .array .int
  | 6 => .array .int
  | 7 => .array .int
  | 8 => .array .int
  | _ => .array .int
abbrev wsX60 : List Cond := u_ws RX6 TX6 10
theorem nmX6 : ∀ a, a < 10 → ∀ b, b < 10 → a ≠ b → (TX6 a).2.1 ≠ (TX6 b).2.1 := by decide +kernel
theorem tyX6_ok : ∀ k, k < 10 → parseFieldDescriptor (TX6 k).2.2.1 = some (tyX6 k) := by decide +kernel
abbrev cX6_init : ByteArray := prog_8_method_1_code
def yX6_init : MethodName := ⟨RX6, "<init>", "()V"⟩
abbrev cX6_copy : ByteArray := prog_8_method_2_code
def yX6_copy : MethodName := ⟨RX6, "copy", "(LHangsTogether$Village;)V"⟩
abbrev cX6_hasHouse : ByteArray := prog_8_method_3_code
def yX6_hasHouse : MethodName := ⟨RX6, "hasHouse", "(I)Z"⟩
abbrev cX6_hasAllHouses : ByteArray := prog_8_method_4_code
def yX6_hasAllHouses : MethodName := ⟨RX6, "hasAllHouses", "(I)Z"⟩
abbrev cX6_allHouses : ByteArray := prog_8_method_5_code
def yX6_allHouses : MethodName := ⟨RX6, "allHouses", "()I"⟩
abbrev cX6_hasLane : ByteArray := prog_8_method_6_code
def yX6_hasLane : MethodName := ⟨RX6, "hasLane", "(I)Z"⟩
abbrev cX6_hasAll : ByteArray := prog_8_method_7_code
def yX6_hasAll : MethodName := ⟨RX6, "hasAll", "(I)Z"⟩
abbrev cX6_allLanes : ByteArray := prog_8_method_8_code
def yX6_allLanes : MethodName := ⟨RX6, "allLanes", "()I"⟩
abbrev cX6_sets : ByteArray := prog_8_method_9_code
def yX6_sets : MethodName := ⟨RX6, "sets", "()I"⟩
abbrev cX6_ruleOf : ByteArray := prog_8_method_10_code
def yX6_ruleOf : MethodName := ⟨RX6, "ruleOf", "(I)I"⟩
abbrev cX6_setRule : ByteArray := prog_8_method_11_code
def yX6_setRule : MethodName := ⟨RX6, "setRule", "(II)V"⟩
abbrev cX6_allows : ByteArray := prog_8_method_12_code
def yX6_allows : MethodName := ⟨RX6, "allows", "(I)Z"⟩
abbrev cX6_setHouses : ByteArray := prog_8_method_13_code
def yX6_setHouses : MethodName := ⟨RX6, "setHouses", "(I)Z"⟩
abbrev cX6_farthestHouse : ByteArray := prog_8_method_14_code
def yX6_farthestHouse : MethodName := ⟨RX6, "farthestHouse", "()I"⟩
abbrev cX6_addLane : ByteArray := prog_8_method_15_code
def yX6_addLane : MethodName := ⟨RX6, "addLane", "(IIIIII)Z"⟩
abbrev cX6_removeLatest : ByteArray := prog_8_method_16_code
def yX6_removeLatest : MethodName := ⟨RX6, "removeLatest", "()V"⟩
abbrev cX6_costOfAll : ByteArray := prog_8_method_17_code
def yX6_costOfAll : MethodName := ⟨RX6, "costOfAll", "()I"⟩
abbrev cX6_costOf : ByteArray := prog_8_method_18_code
def yX6_costOf : MethodName := ⟨RX6, "costOf", "(I)I"⟩
abbrev cX6_worthOf : ByteArray := prog_8_method_19_code
def yX6_worthOf : MethodName := ⟨RX6, "worthOf", "(I)I"⟩
abbrev cX6_weightByKind : ByteArray := prog_8_method_20_code
def yX6_weightByKind : MethodName := ⟨RX6, "weightByKind", "(II)I"⟩
abbrev cX6_costByKind : ByteArray := prog_8_method_21_code
def yX6_costByKind : MethodName := ⟨RX6, "costByKind", "(II)I"⟩
abbrev cX6_driftByKind : ByteArray := prog_8_method_22_code
def yX6_driftByKind : MethodName := ⟨RX6, "driftByKind", "(II)I"⟩
def RX7 : String := "HangsTogether$Ways"
def TX7 : u_T := fun k => match k with
  | 0 => ("HangsTogether$Ways", "village", "LHangsTogether$Village;", true)
  | 1 => ("HangsTogether$Ways", "joins", "LHangsTogether$Joins;", true)
  | 2 => ("HangsTogether$Ways", "size", "I", false)
  | 3 => ("HangsTogether$Ways", "bits", "[I", true)
  | 4 => ("HangsTogether$Ways", "worth", "[I", true)
  | 5 => ("HangsTogether$Ways", "keys", "[I", true)
  | _ => ("HangsTogether$Ways", "sorted", "Z", false)
def tyX7 : Nat → FieldType := fun k => match k with
  | 0 => .object "HangsTogether$Village"
  | 1 => .object "HangsTogether$Joins"
  | 2 => .int
  | 3 => .array .int
  | 4 => .array .int
  | 5 => .array .int
  | _ => .boolean
abbrev wsX70 : List Cond := u_ws RX7 TX7 7
theorem nmX7 : ∀ a, a < 7 → ∀ b, b < 7 → a ≠ b → (TX7 a).2.1 ≠ (TX7 b).2.1 := by decide +kernel
theorem tyX7_ok : ∀ k, k < 7 → parseFieldDescriptor (TX7 k).2.2.1 = some (tyX7 k) := by decide +kernel
abbrev cX7_init : ByteArray := prog_9_method_1_code
def yX7_init : MethodName := ⟨RX7, "<init>", "(LHangsTogether$Village;LHangsTogether$Joins;)V"⟩
abbrev cX7_list : ByteArray := prog_9_method_2_code
def yX7_list : MethodName := ⟨RX7, "list", "()V"⟩
abbrev cX7_has : ByteArray := prog_9_method_3_code
def yX7_has : MethodName := ⟨RX7, "has", "(I)Z"⟩
abbrev cX7_at : ByteArray := prog_9_method_4_code
def yX7_at : MethodName := ⟨RX7, "at", "(I)I"⟩
abbrev cX7_copyTo : ByteArray := prog_9_method_5_code
def yX7_copyTo : MethodName := ⟨RX7, "copyTo", "([I[I)I"⟩
abbrev cX7_worthWith : ByteArray := prog_9_method_6_code
def yX7_worthWith : MethodName := ⟨RX7, "worthWith", "(I)J"⟩
abbrev cX7_lanesInAll : ByteArray := prog_9_method_7_code
def yX7_lanesInAll : MethodName := ⟨RX7, "lanesInAll", "()I"⟩
abbrev cX7_lanesInNone : ByteArray := prog_9_method_8_code
def yX7_lanesInNone : MethodName := ⟨RX7, "lanesInNone", "()I"⟩
abbrev cX7_bitsByCost : ByteArray := prog_9_method_9_code
def yX7_bitsByCost : MethodName := ⟨RX7, "bitsByCost", "(I)I"⟩
abbrev cX7_costByCost : ByteArray := prog_9_method_10_code
def yX7_costByCost : MethodName := ⟨RX7, "costByCost", "(I)I"⟩
abbrev cX7_sortByCost : ByteArray := prog_9_method_11_code
def yX7_sortByCost : MethodName := ⟨RX7, "sortByCost", "()V"⟩
abbrev cX7_sortEvery : ByteArray := prog_9_method_12_code
def yX7_sortEvery : MethodName := ⟨RX7, "sortEvery", "(I)V"⟩
abbrev cX7_dearest : ByteArray := prog_9_method_13_code
def yX7_dearest : MethodName := ⟨RX7, "dearest", "()I"⟩
abbrev cX7_stepBetween : ByteArray := prog_9_method_14_code
def yX7_stepBetween : MethodName := ⟨RX7, "stepBetween", "(II)I"⟩
abbrev cX7_manyToward : ByteArray := prog_9_method_15_code
def yX7_manyToward : MethodName := ⟨RX7, "manyToward", "(I)I"⟩
abbrev cX7_worthToward : ByteArray := prog_9_method_16_code
def yX7_worthToward : MethodName := ⟨RX7, "worthToward", "(I)J"⟩
abbrev cX7_leadsTo : ByteArray := prog_9_method_17_code
def yX7_leadsTo : MethodName := ⟨RX7, "leadsTo", "(II)Z"⟩
def RX8 : String := "HangsTogether"
def TX8 : u_T := fun k => match k with
  | 0 => ("HangsTogether", "now", "LHangsTogether$Village;", true)
  | 1 => ("HangsTogether", "draft", "LHangsTogether$Village;", true)
  | 2 => ("HangsTogether", "taken", "LHangsTogether$Village;", true)
  | 3 => ("HangsTogether", "imageTaken", "Z", false)
  | 4 => ("HangsTogether", "letters", "LHangsTogether$Letters;", true)
  | 5 => ("HangsTogether", "joins", "LHangsTogether$Joins;", true)
  | 6 => ("HangsTogether", "ways", "LHangsTogether$Ways;", true)
  | 7 => ("HangsTogether", "woods", "LHangsTogether$Forests;", true)
  | 8 => ("HangsTogether", "plans", "LHangsTogether$Plans;", true)
  | 9 => ("HangsTogether", "toldRow", "LHangsTogether$Row;", true)
  | 10 => ("HangsTogether", "drawers", "LHangsTogether$Drawers;", true)
  | _ => ("HangsTogether", "refusals", "[I", true)
def tyX8 : Nat → FieldType := fun k => match k with
  | 0 => .object "HangsTogether$Village"
  | 1 => .object "HangsTogether$Village"
  | 2 => .object "HangsTogether$Village"
  | 3 => .boolean
  | 4 => .object "HangsTogether$Letters"
  | 5 => .object "HangsTogether$Joins"
  | 6 => .object "HangsTogether$Ways"
  | 7 => .object "HangsTogether$Forests"
  | 8 => .object "HangsTogether$Plans"
  | 9 => .object "HangsTogether$Row"
  | 10 => .object "HangsTogether$Drawers"
  | _ => .array .int
abbrev wsX80 : List Cond := u_ws RX8 TX8 12
theorem nmX8 : ∀ a, a < 12 → ∀ b, b < 12 → a ≠ b → (TX8 a).2.1 ≠ (TX8 b).2.1 := by decide +kernel
theorem tyX8_ok : ∀ k, k < 12 → parseFieldDescriptor (TX8 k).2.2.1 = some (tyX8 k) := by decide +kernel
abbrev cX8_init : ByteArray := prog_1_method_1_code
def yX8_init : MethodName := ⟨RX8, "<init>", "()V"⟩
abbrev cX8_feed : ByteArray := prog_1_method_2_code
def yX8_feed : MethodName := ⟨RX8, "feed", "(I)I"⟩
abbrev cX8_village : ByteArray := prog_1_method_3_code
def yX8_village : MethodName := ⟨RX8, "village", "()I"⟩
abbrev cX8_lane : ByteArray := prog_1_method_4_code
def yX8_lane : MethodName := ⟨RX8, "lane", "(II)I"⟩
abbrev cX8_rule : ByteArray := prog_1_method_5_code
def yX8_rule : MethodName := ⟨RX8, "rule", "(II)I"⟩
abbrev cX8_takeUp : ByteArray := prog_1_method_6_code
def yX8_takeUp : MethodName := ⟨RX8, "takeUp", "()I"⟩
abbrev cX8_is : ByteArray := prog_1_method_7_code
def yX8_is : MethodName := ⟨RX8, "is", "(I)I"⟩
abbrev cX8_hangs : ByteArray := prog_1_method_8_code
def yX8_hangs : MethodName := ⟨RX8, "hangs", "(I)I"⟩
abbrev cX8_parts : ByteArray := prog_1_method_9_code
def yX8_parts : MethodName := ⟨RX8, "parts", "(I)I"⟩
abbrev cX8_many : ByteArray := prog_1_method_10_code
def yX8_many : MethodName := ⟨RX8, "many", "()I"⟩
abbrev cX8_sum : ByteArray := prog_1_method_11_code
def yX8_sum : MethodName := ⟨RX8, "sum", "()J"⟩
abbrev cX8_way : ByteArray := prog_1_method_12_code
def yX8_way : MethodName := ⟨RX8, "way", "(I)I"⟩
abbrev cX8_likely : ByteArray := prog_1_method_13_code
def yX8_likely : MethodName := ⟨RX8, "likely", "(II)J"⟩
abbrev cX8_pair : ByteArray := prog_1_method_14_code
def yX8_pair : MethodName := ⟨RX8, "pair", "(III)J"⟩
abbrev cX8_less : ByteArray := prog_1_method_15_code
def yX8_less : MethodName := ⟨RX8, "less", "(II)I"⟩
abbrev cX8_inAll : ByteArray := prog_1_method_16_code
def yX8_inAll : MethodName := ⟨RX8, "inAll", "()I"⟩
abbrev cX8_inNone : ByteArray := prog_1_method_17_code
def yX8_inNone : MethodName := ⟨RX8, "inNone", "()I"⟩
abbrev cX8_cheap : ByteArray := prog_1_method_18_code
def yX8_cheap : MethodName := ⟨RX8, "cheap", "(II)I"⟩
abbrev cX8_nights : ByteArray := prog_1_method_19_code
def yX8_nights : MethodName := ⟨RX8, "nights", "(II)I"⟩
abbrev cX8_step : ByteArray := prog_1_method_20_code
def yX8_step : MethodName := ⟨RX8, "step", "(II)I"⟩
abbrev cX8_toward : ByteArray := prog_1_method_21_code
def yX8_toward : MethodName := ⟨RX8, "toward", "(II)J"⟩
abbrev cX8_forests : ByteArray := prog_1_method_22_code
def yX8_forests : MethodName := ⟨RX8, "forests", "(I)I"⟩
abbrev cX8_ploughs : ByteArray := prog_1_method_23_code
def yX8_ploughs : MethodName := ⟨RX8, "ploughs", "(I)I"⟩
abbrev cX8_hard : ByteArray := prog_1_method_24_code
def yX8_hard : MethodName := ⟨RX8, "hard", "(III)J"⟩
abbrev cX8_more : ByteArray := prog_1_method_25_code
def yX8_more : MethodName := ⟨RX8, "more", "(III)J"⟩
abbrev cX8_holds : ByteArray := prog_1_method_26_code
def yX8_holds : MethodName := ⟨RX8, "holds", "(I)J"⟩
abbrev cX8_plan : ByteArray := prog_1_method_27_code
def yX8_plan : MethodName := ⟨RX8, "plan", "(II)I"⟩
abbrev cX8_draw : ByteArray := prog_1_method_28_code
def yX8_draw : MethodName := ⟨RX8, "draw", "(II)I"⟩
abbrev cX8_often : ByteArray := prog_1_method_29_code
def yX8_often : MethodName := ⟨RX8, "often", "(IIII)I"⟩
abbrev cX8_row : ByteArray := prog_1_method_30_code
def yX8_row : MethodName := ⟨RX8, "row", "(I)I"⟩
abbrev cX8_judge : ByteArray := prog_1_method_31_code
def yX8_judge : MethodName := ⟨RX8, "judge", "()I"⟩
abbrev cX8_image : ByteArray := prog_1_method_32_code
def yX8_image : MethodName := ⟨RX8, "image", "()I"⟩
abbrev cX8_restore : ByteArray := prog_1_method_33_code
def yX8_restore : MethodName := ⟨RX8, "restore", "()I"⟩
abbrev cX8_count : ByteArray := prog_1_method_34_code
def yX8_count : MethodName := ⟨RX8, "count", "(I)I"⟩
abbrev cX8_refusalsOf : ByteArray := prog_1_method_35_code
def yX8_refusalsOf : MethodName := ⟨RX8, "refusalsOf", "(I)I"⟩
abbrev cX8_refuse : ByteArray := prog_1_method_36_code
def yX8_refuse : MethodName := ⟨RX8, "refuse", "(I)I"⟩
abbrev cX8_refuseLong : ByteArray := prog_1_method_37_code
def yX8_refuseLong : MethodName := ⟨RX8, "refuseLong", "(I)J"⟩
abbrev cX8_lanesChanged : ByteArray := prog_1_method_38_code
def yX8_lanesChanged : MethodName := ⟨RX8, "lanesChanged", "()V"⟩
abbrev cX8_areTwoHouses : ByteArray := prog_1_method_39_code
def yX8_areTwoHouses : MethodName := ⟨RX8, "areTwoHouses", "(II)Z"⟩
abbrev cX8_likelyAll : ByteArray := prog_1_method_40_code
def yX8_likelyAll : MethodName := ⟨RX8, "likelyAll", "(II)J"⟩
abbrev cX8_isPart : ByteArray := prog_1_method_41_code
def yX8_isPart : MethodName := ⟨RX8, "isPart", "(I)Z"⟩
abbrev cX8_yesNo : ByteArray := prog_1_method_42_code
def yX8_yesNo : MethodName := ⟨RX8, "yesNo", "(Z)I"⟩
abbrev cX8_pairsOf : ByteArray := prog_1_method_43_code
def yX8_pairsOf : MethodName := ⟨RX8, "pairsOf", "(I)I"⟩
abbrev cX8_leastTerms : ByteArray := prog_1_method_44_code
def yX8_leastTerms : MethodName := ⟨RX8, "leastTerms", "(JJI)J"⟩
abbrev cX8_commonDivisor : ByteArray := prog_1_method_45_code
def yX8_commonDivisor : MethodName := ⟨RX8, "commonDivisor", "(JJ)J"⟩
def RX9 : String := "HangsTogetherModel"
def TX9 : u_T := fun k => match k with
  | 0 => ("HangsTogetherModel", "refused", "[I", true)
  | 1 => ("HangsTogetherModel", "kind", "[I", true)
  | 2 => ("HangsTogetherModel", "from", "[I", true)
  | 3 => ("HangsTogetherModel", "to", "[I", true)
  | 4 => ("HangsTogetherModel", "ofW", "[I", true)
  | 5 => ("HangsTogetherModel", "ofC", "[I", true)
  | 6 => ("HangsTogetherModel", "ofD", "[I", true)
  | 7 => ("HangsTogetherModel", "ruled", "[I", true)
  | 8 => ("HangsTogetherModel", "houses", "I", false)
  | 9 => ("HangsTogetherModel", "lanes", "I", false)
  | 10 => ("HangsTogetherModel", "tape", "[I", true)
  | 11 => ("HangsTogetherModel", "letter", "[I", true)
  | 12 => ("HangsTogetherModel", "letterAt", "[I", true)
  | 13 => ("HangsTogetherModel", "told", "[I", true)
  | 14 => ("HangsTogetherModel", "taped", "I", false)
  | 15 => ("HangsTogetherModel", "at", "I", false)
  | 16 => ("HangsTogetherModel", "statements", "I", false)
  | 17 => ("HangsTogetherModel", "kept", "[I", true)
  | 18 => ("HangsTogetherModel", "hasImage", "Z", false)
  | 19 => ("HangsTogetherModel", "isKeeping", "Z", false)
  | 20 => ("HangsTogetherModel", "cursor", "I", false)
  | 21 => ("HangsTogetherModel", "part", "[I", true)
  | 22 => ("HangsTogetherModel", "ways", "[I", true)
  | 23 => ("HangsTogetherModel", "worths", "[J", true)
  | 24 => ("HangsTogetherModel", "wayMany", "I", false)
  | 25 => ("HangsTogetherModel", "pairA", "[I", true)
  | 26 => ("HangsTogetherModel", "pairB", "[I", true)
  | 27 => ("HangsTogetherModel", "trees", "[I", true)
  | 28 => ("HangsTogetherModel", "pairs", "I", false)
  | 29 => ("HangsTogetherModel", "treeMany", "I", false)
  | 30 => ("HangsTogetherModel", "planMany", "I", false)
  | 31 => ("HangsTogetherModel", "planBits", "I", false)
  | 32 => ("HangsTogetherModel", "lots", "I", false)
  | 33 => ("HangsTogetherModel", "row", "[I", true)
  | _ => ("HangsTogetherModel", "rowMany", "I", false)
def tyX9 : Nat → FieldType := fun k => match k with
  | 0 => .array .int
  | 1 => .array .int
  | 2 => .array .int
  | 3 => .array .int
  | 4 => .array .int
  | 5 => .array .int
  | 6 => .array .int
  | 7 => .array .int
  | 8 => .int
  | 9 => .int
  | 10 => .array .int
  | 11 => .array .int
  | 12 => .array .int
  | 13 => .array .int
  | 14 => .int
  | 15 => .int
  | 16 => .int
  | 17 => .array .int
  | 18 => .boolean
  | 19 => .boolean
  | 20 => .int
  | 21 => .array .int
  | 22 => .array .int
  | 23 => .array .long
  | 24 => .int
  | 25 => .array .int
  | 26 => .array .int
  | 27 => .array .int
  | 28 => .int
  | 29 => .int
  | 30 => .int
  | 31 => .int
  | 32 => .int
  | 33 => .array .int
  | _ => .int
abbrev wsX90 : List Cond := u_ws RX9 TX9 35
theorem nmX9 : ∀ a, a < 35 → ∀ b, b < 35 → a ≠ b → (TX9 a).2.1 ≠ (TX9 b).2.1 := by decide +kernel
theorem tyX9_ok : ∀ k, k < 35 → parseFieldDescriptor (TX9 k).2.2.1 = some (tyX9 k) := by decide +kernel
abbrev cX9_init : ByteArray := prog_11_method_1_code
def yX9_init : MethodName := ⟨RX9, "<init>", "()V"⟩
abbrev cX9_no : ByteArray := prog_11_method_2_code
def yX9_no : MethodName := ⟨RX9, "no", "(I)I"⟩
abbrev cX9_lowest : ByteArray := prog_11_method_3_code
def yX9_lowest : MethodName := ⟨RX9, "lowest", "(I)J"⟩
abbrev cX9_isIn : ByteArray := prog_11_method_4_code
def yX9_isIn : MethodName := ⟨RX9, "isIn", "(III)Z"⟩
abbrev cX9_bound : ByteArray := prog_11_method_5_code
def yX9_bound : MethodName := ⟨RX9, "bound", "(III)I"⟩
abbrev cX9_isHouse : ByteArray := prog_11_method_6_code
def yX9_isHouse : MethodName := ⟨RX9, "isHouse", "(I)Z"⟩
abbrev cX9_isLane : ByteArray := prog_11_method_7_code
def yX9_isLane : MethodName := ⟨RX9, "isLane", "(I)Z"⟩
abbrev cX9_feed : ByteArray := prog_11_method_8_code
def yX9_feed : MethodName := ⟨RX9, "feed", "(I)I"⟩
abbrev cX9_next : ByteArray := prog_11_method_9_code
def yX9_next : MethodName := ⟨RX9, "next", "()I"⟩
abbrev cX9_isNext : ByteArray := prog_11_method_10_code
def yX9_isNext : MethodName := ⟨RX9, "isNext", "(I)Z"⟩
abbrev cX9_reads : ByteArray := prog_11_method_11_code
def yX9_reads : MethodName := ⟨RX9, "reads", "(II)Z"⟩
abbrev cX9_statement : ByteArray := prog_11_method_12_code
def yX9_statement : MethodName := ⟨RX9, "statement", "()Z"⟩
abbrev cX9_toldHouses : ByteArray := prog_11_method_13_code
def yX9_toldHouses : MethodName := ⟨RX9, "toldHouses", "()I"⟩
abbrev cX9_comesLane : ByteArray := prog_11_method_14_code
def yX9_comesLane : MethodName := ⟨RX9, "comesLane", "(I)Z"⟩
abbrev cX9_comes : ByteArray := prog_11_method_15_code
def yX9_comes : MethodName := ⟨RX9, "comes", "(I)Z"⟩
abbrev cX9_village : ByteArray := prog_11_method_16_code
def yX9_village : MethodName := ⟨RX9, "village", "()I"⟩
abbrev cX9_passes : ByteArray := prog_11_method_17_code
def yX9_passes : MethodName := ⟨RX9, "passes", "([I)V"⟩
abbrev cX9_passOne : ByteArray := prog_11_method_18_code
def yX9_passOne : MethodName := ⟨RX9, "passOne", "(I)I"⟩
abbrev cX9_passesAll : ByteArray := prog_11_method_19_code
def yX9_passesAll : MethodName := ⟨RX9, "passesAll", "(IZ)V"⟩
abbrev cX9_image : ByteArray := prog_11_method_20_code
def yX9_image : MethodName := ⟨RX9, "image", "()I"⟩
abbrev cX9_restore : ByteArray := prog_11_method_21_code
def yX9_restore : MethodName := ⟨RX9, "restore", "()I"⟩
abbrev cX9_weightOf : ByteArray := prog_11_method_22_code
def yX9_weightOf : MethodName := ⟨RX9, "weightOf", "(I)I"⟩
abbrev cX9_costOf : ByteArray := prog_11_method_23_code
def yX9_costOf : MethodName := ⟨RX9, "costOf", "(I)I"⟩
abbrev cX9_driftOf : ByteArray := prog_11_method_24_code
def yX9_driftOf : MethodName := ⟨RX9, "driftOf", "(I)I"⟩
abbrev cX9_lane : ByteArray := prog_11_method_25_code
def yX9_lane : MethodName := ⟨RX9, "lane", "(II)I"⟩
abbrev cX9_rule : ByteArray := prog_11_method_26_code
def yX9_rule : MethodName := ⟨RX9, "rule", "(II)I"⟩
abbrev cX9_takeUp : ByteArray := prog_11_method_27_code
def yX9_takeUp : MethodName := ⟨RX9, "takeUp", "()I"⟩
abbrev cX9_allLanes : ByteArray := prog_11_method_28_code
def yX9_allLanes : MethodName := ⟨RX9, "allLanes", "()I"⟩
abbrev cX9_ruledAs : ByteArray := prog_11_method_29_code
def yX9_ruledAs : MethodName := ⟨RX9, "ruledAs", "(I)I"⟩
abbrev cX9_areLanes : ByteArray := prog_11_method_30_code
def yX9_areLanes : MethodName := ⟨RX9, "areLanes", "(I)Z"⟩
abbrev cX9_bits : ByteArray := prog_11_method_31_code
def yX9_bits : MethodName := ⟨RX9, "bits", "(I)I"⟩
abbrev cX9_partsOf : ByteArray := prog_11_method_32_code
def yX9_partsOf : MethodName := ⟨RX9, "partsOf", "(I)I"⟩
abbrev cX9_isForest : ByteArray := prog_11_method_33_code
def yX9_isForest : MethodName := ⟨RX9, "isForest", "(II)Z"⟩
abbrev cX9_isRuled : ByteArray := prog_11_method_34_code
def yX9_isRuled : MethodName := ⟨RX9, "isRuled", "(I)Z"⟩
abbrev cX9_isWay : ByteArray := prog_11_method_35_code
def yX9_isWay : MethodName := ⟨RX9, "isWay", "(I)Z"⟩
abbrev cX9_worthOf : ByteArray := prog_11_method_36_code
def yX9_worthOf : MethodName := ⟨RX9, "worthOf", "(I)J"⟩
abbrev cX9_costsOf : ByteArray := prog_11_method_37_code
def yX9_costsOf : MethodName := ⟨RX9, "costsOf", "(I)I"⟩
abbrev cX9_findWays : ByteArray := prog_11_method_38_code
def yX9_findWays : MethodName := ⟨RX9, "findWays", "()V"⟩
abbrev cX9_sumWith : ByteArray := prog_11_method_39_code
def yX9_sumWith : MethodName := ⟨RX9, "sumWith", "(II)J"⟩
abbrev cX9_is : ByteArray := prog_11_method_40_code
def yX9_is : MethodName := ⟨RX9, "is", "(I)I"⟩
abbrev cX9_hangs : ByteArray := prog_11_method_41_code
def yX9_hangs : MethodName := ⟨RX9, "hangs", "(I)I"⟩
abbrev cX9_parts : ByteArray := prog_11_method_42_code
def yX9_parts : MethodName := ⟨RX9, "parts", "(I)I"⟩
abbrev cX9_many : ByteArray := prog_11_method_43_code
def yX9_many : MethodName := ⟨RX9, "many", "()I"⟩
abbrev cX9_sum : ByteArray := prog_11_method_44_code
def yX9_sum : MethodName := ⟨RX9, "sum", "()J"⟩
abbrev cX9_way : ByteArray := prog_11_method_45_code
def yX9_way : MethodName := ⟨RX9, "way", "(I)I"⟩
abbrev cX9_divisor : ByteArray := prog_11_method_46_code
def yX9_divisor : MethodName := ⟨RX9, "divisor", "(JJ)J"⟩
abbrev cX9_inLeast : ByteArray := prog_11_method_47_code
def yX9_inLeast : MethodName := ⟨RX9, "inLeast", "(JJI)J"⟩
abbrev cX9_share : ByteArray := prog_11_method_48_code
def yX9_share : MethodName := ⟨RX9, "share", "(II)J"⟩
abbrev cX9_likely : ByteArray := prog_11_method_49_code
def yX9_likely : MethodName := ⟨RX9, "likely", "(II)J"⟩
abbrev cX9_pair : ByteArray := prog_11_method_50_code
def yX9_pair : MethodName := ⟨RX9, "pair", "(III)J"⟩
abbrev cX9_highOf : ByteArray := prog_11_method_51_code
def yX9_highOf : MethodName := ⟨RX9, "highOf", "(JJ)J"⟩
abbrev cX9_lowOf : ByteArray := prog_11_method_52_code
def yX9_lowOf : MethodName := ⟨RX9, "lowOf", "(JJ)J"⟩
abbrev cX9_less : ByteArray := prog_11_method_53_code
def yX9_less : MethodName := ⟨RX9, "less", "(II)I"⟩
abbrev cX9_inAll : ByteArray := prog_11_method_54_code
def yX9_inAll : MethodName := ⟨RX9, "inAll", "()I"⟩
abbrev cX9_inNone : ByteArray := prog_11_method_55_code
def yX9_inNone : MethodName := ⟨RX9, "inNone", "()I"⟩
abbrev cX9_cheapest : ByteArray := prog_11_method_56_code
def yX9_cheapest : MethodName := ⟨RX9, "cheapest", "(I)I"⟩
abbrev cX9_cheap : ByteArray := prog_11_method_57_code
def yX9_cheap : MethodName := ⟨RX9, "cheap", "(II)I"⟩
abbrev cX9_nights : ByteArray := prog_11_method_58_code
def yX9_nights : MethodName := ⟨RX9, "nights", "(II)I"⟩
abbrev cX9_step : ByteArray := prog_11_method_59_code
def yX9_step : MethodName := ⟨RX9, "step", "(II)I"⟩
abbrev cX9_isToward : ByteArray := prog_11_method_60_code
def yX9_isToward : MethodName := ⟨RX9, "isToward", "(II)Z"⟩
abbrev cX9_toward : ByteArray := prog_11_method_61_code
def yX9_toward : MethodName := ⟨RX9, "toward", "(II)J"⟩
abbrev cX9_forests : ByteArray := prog_11_method_62_code
def yX9_forests : MethodName := ⟨RX9, "forests", "(I)I"⟩
abbrev cX9_isOneEach : ByteArray := prog_11_method_63_code
def yX9_isOneEach : MethodName := ⟨RX9, "isOneEach", "(I)Z"⟩
abbrev cX9_ploughs : ByteArray := prog_11_method_64_code
def yX9_ploughs : MethodName := ⟨RX9, "ploughs", "(I)I"⟩
abbrev cX9_sumApart : ByteArray := prog_11_method_65_code
def yX9_sumApart : MethodName := ⟨RX9, "sumApart", "(IIZ)J"⟩
abbrev cX9_sumTogether : ByteArray := prog_11_method_66_code
def yX9_sumTogether : MethodName := ⟨RX9, "sumTogether", "()J"⟩
abbrev cX9_areTwo : ByteArray := prog_11_method_67_code
def yX9_areTwo : MethodName := ⟨RX9, "areTwo", "(II)Z"⟩
abbrev cX9_hard : ByteArray := prog_11_method_68_code
def yX9_hard : MethodName := ⟨RX9, "hard", "(III)J"⟩
abbrev cX9_more : ByteArray := prog_11_method_69_code
def yX9_more : MethodName := ⟨RX9, "more", "(III)J"⟩
abbrev cX9_holds : ByteArray := prog_11_method_70_code
def yX9_holds : MethodName := ⟨RX9, "holds", "(I)J"⟩
abbrev cX9_doJoin : ByteArray := prog_11_method_71_code
def yX9_doJoin : MethodName := ⟨RX9, "doJoin", "(I)Z"⟩
abbrev cX9_findPlan : ByteArray := prog_11_method_72_code
def yX9_findPlan : MethodName := ⟨RX9, "findPlan", "(I)V"⟩
abbrev cX9_plan : ByteArray := prog_11_method_73_code
def yX9_plan : MethodName := ⟨RX9, "plan", "(II)I"⟩
abbrev cX9_drawn : ByteArray := prog_11_method_74_code
def yX9_drawn : MethodName := ⟨RX9, "drawn", "(J)I"⟩
abbrev cX9_leads : ByteArray := prog_11_method_75_code
def yX9_leads : MethodName := ⟨RX9, "leads", "(II)I"⟩
abbrev cX9_weightsFrom : ByteArray := prog_11_method_76_code
def yX9_weightsFrom : MethodName := ⟨RX9, "weightsFrom", "(I)I"⟩
abbrev cX9_walks : ByteArray := prog_11_method_77_code
def yX9_walks : MethodName := ⟨RX9, "walks", "()I"⟩
abbrev cX9_steps : ByteArray := prog_11_method_78_code
def yX9_steps : MethodName := ⟨RX9, "steps", "()I"⟩
abbrev cX9_dearest : ByteArray := prog_11_method_79_code
def yX9_dearest : MethodName := ⟨RX9, "dearest", "()I"⟩
abbrev cX9_rowWay : ByteArray := prog_11_method_80_code
def yX9_rowWay : MethodName := ⟨RX9, "rowWay", "()I"⟩
abbrev cX9_makes : ByteArray := prog_11_method_81_code
def yX9_makes : MethodName := ⟨RX9, "makes", "(I)I"⟩
abbrev cX9_isDrawer : ByteArray := prog_11_method_82_code
def yX9_isDrawer : MethodName := ⟨RX9, "isDrawer", "(I)Z"⟩
abbrev cX9_draw : ByteArray := prog_11_method_83_code
def yX9_draw : MethodName := ⟨RX9, "draw", "(II)I"⟩
abbrev cX9_often : ByteArray := prog_11_method_84_code
def yX9_often : MethodName := ⟨RX9, "often", "(IIII)I"⟩
abbrev cX9_row : ByteArray := prog_11_method_85_code
def yX9_row : MethodName := ⟨RX9, "row", "(I)I"⟩
abbrev cX9_judge : ByteArray := prog_11_method_86_code
def yX9_judge : MethodName := ⟨RX9, "judge", "()I"⟩
abbrev cX9_count : ByteArray := prog_11_method_87_code
def yX9_count : MethodName := ⟨RX9, "count", "(I)I"⟩
def RL : String := "HangsTogetherLaw"
abbrev cL_law : ByteArray := code
def yL_law : MethodName := ⟨RL, "law", "([I)Z"⟩
abbrev vwCl : List vw_C := [(RX0, TX0, 8), (RX1, TX1, 2), (RX2, TX2, 2), (RX3, TX3, 2), (RX4, TX4, 4), (RX5, TX5, 4), (RX6, TX6, 10), (RX7, TX7, 7), (RX8, TX8, 12), (RX9, TX9, 35)]
def RJ6 : String := "java/lang/Integer"
abbrev cJ6_bitCount : ByteArray := prog_12_method_49_code
def yJ6_bitCount : MethodName := ⟨RJ6, "bitCount", "(I)I"⟩
def RJ7 : String := "java/lang/Math"
abbrev cJ7_min : ByteArray := prog_13_method_69_code
def yJ7_min : MethodName := ⟨RJ7, "min", "(II)I"⟩
abbrev cJ7_max : ByteArray := prog_13_method_65_code
def yJ7_max : MethodName := ⟨RJ7, "max", "(II)I"⟩
end
section
/-! ===== the words of the tables: those that every method takes along, and those of nest mates ===== -/
def isNest : Cond → Bool
  | .fieldLinkNest .. => true
  | .methodLinkNest .. => true
  | _ => false
def gdW : List Cond := lw_tbl.filter goodWord
def nsW : List Cond := tables_1.filter isNest
theorem gdW_in {w : Cond} (h : w ∈ lw_tbl) (g : goodWord w = true) : w ∈ gdW := List.mem_filter.mpr ⟨h, g⟩
theorem gdW_at {w : Cond} (i : Nat) (h : tables_1[i]? = some w) (g : goodWord w = true) : w ∈ gdW := gdW_in (List.mem_append_right _ (List.mem_of_getElem? h)) g
theorem nsW_at {w : Cond} (i : Nat) (h : tables_1[i]? = some w) (g : isNest w = true) : w ∈ nsW := List.mem_filter.mpr ⟨List.mem_of_getElem? h, g⟩
theorem gdW_sel {q : MethodName × Nat} (i : Nat) (h : lw_privs[i]? = some q) : Cond.selects q.1.cls q.1 q.1 ∈ gdW := gdW_in (List.mem_append_left _ (List.mem_map.mpr ⟨q, List.mem_of_getElem? h, rfl⟩)) rfl
theorem nsW_warm {s U : State} (hW : s.WarmedH U.vm) (h : ∀ w ∈ nsW, va_Nw w s) : ∀ w ∈ nsW, va_Nw w U := by
  intro w hw
  have h1 := h w hw
  have h2 : isNest w = true := (List.mem_filter.mp hw).2
  cases w <;> first | exact va_Nw.warmF hW h1 | exact va_Nw.warmM hW h1 | (simp [isNest] at h2)
/-- the words of a method: its own code, and the tables' -/
def wsM (y : MethodName) (cc : ByteArray) (nL : Nat) (ret : Option FieldType) : List Cond := Cond.code y cc nL ret :: gdW
theorem wsM_good {y : MethodName} {cc : ByteArray} {nL : Nat} {ret : Option FieldType} (h : Cond.code y cc nL ret ∈ gdW) : GoodIn gdW (wsM y cc nL ret) := by
  intro w hw
  have h1 : w ∈ gdW := (List.mem_cons.mp hw).elim (fun e => e ▸ h) id
  exact ⟨h1, good_of_word (List.mem_filter.mp h1).2⟩
/-! ===== the frame of a walk: all that stays ===== -/
abbrev KX : Type := Program × Launch × Env × Room × State × MethodId × Array Value × List Frame × Method × Code × Nat × va_G × ClassId × ClassId × (Nat → Nat) × Nat × (Nat → Prop) × (State → Prop) × Nat × Nat
def kp (K : KX) : Program := K.1
def kl (K : KX) : Launch := K.2.1
def ke (K : KX) : Env := K.2.2.1
def kR (K : KX) : Room := K.2.2.2.1
def ks (K : KX) : State := K.2.2.2.2.1
def km (K : KX) : MethodId := K.2.2.2.2.2.1
def ka (K : KX) : Array Value := K.2.2.2.2.2.2.1
def kb (K : KX) : List Frame := K.2.2.2.2.2.2.2.1
def kM (K : KX) : Method := K.2.2.2.2.2.2.2.2.1
def kc (K : KX) : Code := K.2.2.2.2.2.2.2.2.2.1
def kL (K : KX) : Nat := K.2.2.2.2.2.2.2.2.2.2.1
def kD (K : KX) : va_G := K.2.2.2.2.2.2.2.2.2.2.2.1
def kI (K : KX) : ClassId := K.2.2.2.2.2.2.2.2.2.2.2.2.1
def kJ (K : KX) : ClassId := K.2.2.2.2.2.2.2.2.2.2.2.2.2.1
def kad (K : KX) : Nat → Nat := K.2.2.2.2.2.2.2.2.2.2.2.2.2.2.1
def kn (K : KX) : Nat := K.2.2.2.2.2.2.2.2.2.2.2.2.2.2.2.1
def kA (K : KX) : Nat → Prop := K.2.2.2.2.2.2.2.2.2.2.2.2.2.2.2.2.1
def kQ (K : KX) : State → Prop := K.2.2.2.2.2.2.2.2.2.2.2.2.2.2.2.2.2.1
def kz (K : KX) : Nat := K.2.2.2.2.2.2.2.2.2.2.2.2.2.2.2.2.2.2.1
def kw (K : KX) : Nat := K.2.2.2.2.2.2.2.2.2.2.2.2.2.2.2.2.2.2.2
def RW (K : KX) (H : Heap) (locs : List Loc) (g : JFrame) : Prop := W (kp K) (kl K) (ke K) (kR K) (ks K) (km K) (ka K) (kb K) (kM K) (kc K) H locs (kz K) (kw K) (kQ K) g
def cels (K : KX) (m : Mem) : va_W := cellsL (kI K) (kJ K) (kad K) (kn K) m
def RX (K : KX) (pc : Nat) (ls : List (Nat × Value)) (st : List Value) (m : Mem) : Prop := ∀ (H : Heap) (locs : List Loc) (la : Array Slot), va_P (kD K) vwCl (cels K m) H → va_S (kA K) (ks K).heap H locs → lv_has la (kL K) (gl (kad K) ls) → RW K H locs (F0 (km K) pc la (st.map (gv (kad K))))
def retI : Option Value → Instr
  | some (.long _) => .lreturn
  | some _ => .ireturn
  | none => .return_
/-- what holds all along a walk: the machine, the code, the words, the tables, the cells apart; and how it may end -/
def Cx (K : KX) (cc : ByteArray) (own : String) (G : Option Value → Mem → Prop) : Prop :=
  (kp K).tables.exec = Jvm.exec ∧ (kc K).code = cc ∧ (kc K).maxLocals = kL K ∧ (ks K).vm.findClass own = some (km K).cls ∧ (∀ w ∈ gdW, w.before (ka K) (ks K) = true) ∧ (∀ w ∈ nsW, va_Nw w (ks K)) ∧ va_K (kD K) vwCl [(kI K, .int), (kJ K, .long)] (ks K) ∧ (∀ m, va_D (kA K) (cels K m)) ∧ (∀ q, (ks K).heap.size ≤ q → kA K q) ∧ (kz K ≤ (kR K).cells ∧ kw K ≤ (kR K).slots) ∧
  (∀ (pc : Nat) (la : Array Slot) (H : Heap) (locs : List Loc) (m : Mem) (r : Option Value), va_P (kD K) vwCl (cels K m) H → va_S (kA K) (ks K).heap H locs → G r m → decode cc pc = .ok (retI r, 1) → RW K H locs (F0 (km K) pc la r.toList))
theorem gl_at {a : Nat → Nat} {ls : List (Nat × Value)} {q i : Nat} {v : Value} (h : ls[q]? = some (i, v)) : (gl a ls)[q]? = some (i, gv a v) := by
  unfold gl; rw [List.getElem?_map, h]; rfl
def lst1 (i : Nat) (v : Value) (ls : List (Nat × Value)) : List (Nat × Value) := (i, v) :: ls.filter (fun q => !(q.1 == i) && !(q.1 + 1 == i && q.2.category == 2))
def lst2 (i : Nat) (v : Value) (ls : List (Nat × Value)) : List (Nat × Value) := (i, v) :: ls.filter (fun q => !(q.1 == i) && (!(q.1 == i + 1) && !(q.1 + 1 == i && q.2.category == 2)))
theorem gl_lst1 (a : Nat → Nat) (i : Nat) (v : Value) (ls : List (Nat × Value)) : (i, gv a v) :: (gl a ls).filter (fun q => !(q.1 == i) && !(q.1 + 1 == i && q.2.category == 2)) = gl a (lst1 i v ls) := by
  unfold gl lst1
  rw [List.map_cons, List.filter_map]
  congr 2
  apply List.filter_congr
  intro q _
  simp [gv_cat]
theorem gl_lst2 (a : Nat → Nat) (i : Nat) (v : Value) (ls : List (Nat × Value)) : (i, gv a v) :: (gl a ls).filter (fun q => !(q.1 == i) && (!(q.1 == i + 1) && !(q.1 + 1 == i && q.2.category == 2))) = gl a (lst2 i v ls) := by
  unfold gl lst2
  rw [List.map_cons, List.filter_map]
  congr 2
  apply List.filter_congr
  intro q _
  simp [gv_cat]
theorem gl_pick (a : Nat → Nat) (ls : List (Nat × Value)) (ks : List Nat) : lv_pick (gl a ls) ks = gl a (lv_pick ls ks) := by
  unfold lv_pick gl
  induction ks with
  | nil => rfl
  | cons k ks ih =>
    simp only [List.filterMap_cons, List.getElem?_map]
    cases h : ls[k]? with
    | none => simpa [h, List.getElem?_map] using ih
    | some x => simpa [h, List.getElem?_map] using ih
section
variable {K : KX} {cc : ByteArray} {own : String} {G : Option Value → Mem → Prop} {pc : Nat} {ls : List (Nat × Value)} {st : List Value} {m : Mem}
theorem R_pick (kS : List Nat) {ls' : List (Nat × Value)} (hl : lv_pick ls kS = ls') (kk : RX K pc ls' st m) : RX K pc ls st m := fun H locs la hP hS h => kk H locs la hP hS (lv_sub h kS (by rw [gl_pick, hl]))
theorem R_iconst (hC : Cx K cc own G) {n : Int} {v : Int32} (hdg : decode cc pc = .ok (.iconst n, 1)) (hv : Int32.ofInt n = v) (kk : RX K (pc + 1) ls (.int v :: st) m) : RX K pc ls st m := fun H locs la hP hS hl => lv_iconst hC.1 hC.2.1 hdg hv (kk H locs la hP hS hl)
theorem R_bipush (hC : Cx K cc own G) {n : Int} {v : Int32} (hdg : decode cc pc = .ok (.bipush n, 2)) (hv : (Int8.ofInt n).toInt32 = v) (kk : RX K (pc + 2) ls (.int v :: st) m) : RX K pc ls st m := fun H locs la hP hS hl => lv_bipush hC.1 hC.2.1 hdg hv (kk H locs la hP hS hl)
theorem R_sipush (hC : Cx K cc own G) {n : Int} {v : Int32} (hdg : decode cc pc = .ok (.sipush n, 3)) (hv : (Int16.ofInt n).toInt32 = v) (kk : RX K (pc + 3) ls (.int v :: st) m) : RX K pc ls st m := fun H locs la hP hS hl => lv_sipush hC.1 hC.2.1 hdg hv (kk H locs la hP hS hl)
theorem R_lconst (hC : Cx K cc own G) {n : Fin 2} {v : Int64} (hdg : decode cc pc = .ok (.lconst n, 1)) (hv : Int64.ofNat (n : Nat) = v) (kk : RX K (pc + 1) ls (.long v :: st) m) : RX K pc ls st m := fun H locs la hP hS hl => lv_lconst hC.1 hC.2.1 hdg hv (kk H locs la hP hS hl)
theorem R_iload_n (hC : Cx K cc own G) {k : Fin 4} {x : Int32} (q : Nat) {i : Nat} (hdg : decode cc pc = .ok (.iload_n k, 1)) (hi : (k : Nat) = i) (hq : ls[q]? = some (i, .int x)) (kk : RX K (pc + 1) ls (.int x :: st) m) : RX K pc ls st m := fun H locs la hP hS hl => lv_iload_n hC.1 hC.2.1 hdg hi (lv_at hl q (gl_at hq)) (kk H locs la hP hS hl)
theorem R_iload (hC : Cx K cc own G) {x : Int32} (q : Nat) {i : Nat} (hdg : decode cc pc = .ok (.iload i, 2)) (hq : ls[q]? = some (i, .int x)) (kk : RX K (pc + 2) ls (.int x :: st) m) : RX K pc ls st m := fun H locs la hP hS hl => lv_iload hC.1 hC.2.1 hdg (lv_at hl q (gl_at hq)) (kk H locs la hP hS hl)
theorem R_lload_n (hC : Cx K cc own G) {k : Fin 4} {x : Int64} (q : Nat) {i : Nat} (hdg : decode cc pc = .ok (.lload_n k, 1)) (hi : (k : Nat) = i) (hq : ls[q]? = some (i, .long x)) (kk : RX K (pc + 1) ls (.long x :: st) m) : RX K pc ls st m := fun H locs la hP hS hl => lv_lload_n hC.1 hC.2.1 hdg hi (lv_at hl q (gl_at hq)) (kk H locs la hP hS hl)
theorem R_lload (hC : Cx K cc own G) {x : Int64} (q : Nat) {i : Nat} (hdg : decode cc pc = .ok (.lload i, 2)) (hq : ls[q]? = some (i, .long x)) (kk : RX K (pc + 2) ls (.long x :: st) m) : RX K pc ls st m := fun H locs la hP hS hl => lv_lload hC.1 hC.2.1 hdg (lv_at hl q (gl_at hq)) (kk H locs la hP hS hl)
theorem R_aload_n (hC : Cx K cc own G) {k : Fin 4} {x : Nat} (q : Nat) {i : Nat} (hdg : decode cc pc = .ok (.aload_n k, 1)) (hi : (k : Nat) = i) (hq : ls[q]? = some (i, .ref x)) (kk : RX K (pc + 1) ls (.ref x :: st) m) : RX K pc ls st m := fun H locs la hP hS hl => lv_aload_n hC.1 hC.2.1 hdg hi (lv_at hl q (gl_at hq)) (kk H locs la hP hS hl)
theorem R_istore_n (hC : Cx K cc own G) {k : Fin 4} {x : Int32} {i : Nat} {ls' : List (Nat × Value)} (hdg : decode cc pc = .ok (.istore_n k, 1)) (hi : (k : Nat) = i) {nL : Nat} (hL : kL K = nL) (hn : Nat.blt i nL = true) (he : lst1 i (.int x) ls = ls') (kk : RX K (pc + 1) ls' st m) : RX K pc ls (.int x :: st) m := fun H locs la hP hS hl => lv_istore_n hC.1 hC.2.1 hdg hi hl (hL ▸ Nat.le_of_ble_eq_true hn) (gl_lst1 (kad K) i (.int x) ls) (fun la' hl' => kk H locs la' hP hS (he ▸ hl'))
theorem R_istore (hC : Cx K cc own G) {x : Int32} {i : Nat} {ls' : List (Nat × Value)} (hdg : decode cc pc = .ok (.istore i, 2)) {nL : Nat} (hL : kL K = nL) (hn : Nat.blt i nL = true) (he : lst1 i (.int x) ls = ls') (kk : RX K (pc + 2) ls' st m) : RX K pc ls (.int x :: st) m := fun H locs la hP hS hl => lv_istore hC.1 hC.2.1 hdg hl (hL ▸ Nat.le_of_ble_eq_true hn) (gl_lst1 (kad K) i (.int x) ls) (fun la' hl' => kk H locs la' hP hS (he ▸ hl'))
theorem R_lstore_n (hC : Cx K cc own G) {k : Fin 4} {x : Int64} {i : Nat} {ls' : List (Nat × Value)} (hdg : decode cc pc = .ok (.lstore_n k, 1)) (hi : (k : Nat) = i) {nL : Nat} (hL : kL K = nL) (hn : Nat.blt (i + 1) nL = true) (he : lst2 i (.long x) ls = ls') (kk : RX K (pc + 1) ls' st m) : RX K pc ls (.long x :: st) m := fun H locs la hP hS hl => lv_lstore_n hC.1 hC.2.1 hdg hi hl (hL ▸ Nat.le_of_ble_eq_true hn) (gl_lst2 (kad K) i (.long x) ls) (fun la' hl' => kk H locs la' hP hS (he ▸ hl'))
theorem R_lstore (hC : Cx K cc own G) {x : Int64} {i : Nat} {ls' : List (Nat × Value)} (hdg : decode cc pc = .ok (.lstore i, 2)) {nL : Nat} (hL : kL K = nL) (hn : Nat.blt (i + 1) nL = true) (he : lst2 i (.long x) ls = ls') (kk : RX K (pc + 2) ls' st m) : RX K pc ls (.long x :: st) m := fun H locs la hP hS hl => lv_lstore hC.1 hC.2.1 hdg hl (hL ▸ Nat.le_of_ble_eq_true hn) (gl_lst2 (kad K) i (.long x) ls) (fun la' hl' => kk H locs la' hP hS (he ▸ hl'))
theorem R_iinc (hC : Cx K cc own G) {x v : Int32} {n : Int} (q : Nat) {i : Nat} {ls' : List (Nat × Value)} (hdg : decode cc pc = .ok (.iinc i n, 3)) (hq : ls[q]? = some (i, .int x)) (hv : x + Int32.ofInt n = v) {nL : Nat} (hL : kL K = nL) (hn : Nat.blt i nL = true) (he : lst1 i (.int v) ls = ls') (kk : RX K (pc + 3) ls' st m) : RX K pc ls st m := fun H locs la hP hS hl => lv_iinc hC.1 hC.2.1 hdg hl (gl_at hq) hv (hL ▸ Nat.le_of_ble_eq_true hn) (gl_lst1 (kad K) i (.int v) ls) (fun la' hl' => kk H locs la' hP hS (he ▸ hl'))
theorem R_iadd (hC : Cx K cc own G) {x y : Int32} (hdg : decode cc pc = .ok (.iadd, 1)) (kk : RX K (pc + 1) ls (.int (x + y) :: st) m) : RX K pc ls (.int y :: .int x :: st) m := fun H locs la hP hS hl => lv_iadd hC.1 hC.2.1 hdg (kk H locs la hP hS hl)
theorem R_isub (hC : Cx K cc own G) {x y : Int32} (hdg : decode cc pc = .ok (.isub, 1)) (kk : RX K (pc + 1) ls (.int (x - y) :: st) m) : RX K pc ls (.int y :: .int x :: st) m := fun H locs la hP hS hl => lv_isub hC.1 hC.2.1 hdg (kk H locs la hP hS hl)
theorem R_imul (hC : Cx K cc own G) {x y : Int32} (hdg : decode cc pc = .ok (.imul, 1)) (kk : RX K (pc + 1) ls (.int (x * y) :: st) m) : RX K pc ls (.int y :: .int x :: st) m := fun H locs la hP hS hl => lv_imul hC.1 hC.2.1 hdg (kk H locs la hP hS hl)
theorem R_iand (hC : Cx K cc own G) {x y : Int32} (hdg : decode cc pc = .ok (.iand, 1)) (kk : RX K (pc + 1) ls (.int (x &&& y) :: st) m) : RX K pc ls (.int y :: .int x :: st) m := fun H locs la hP hS hl => lv_iand hC.1 hC.2.1 hdg (kk H locs la hP hS hl)
theorem R_ior (hC : Cx K cc own G) {x y : Int32} (hdg : decode cc pc = .ok (.ior, 1)) (kk : RX K (pc + 1) ls (.int (x ||| y) :: st) m) : RX K pc ls (.int y :: .int x :: st) m := fun H locs la hP hS hl => lv_ior hC.1 hC.2.1 hdg (kk H locs la hP hS hl)
theorem R_ixor (hC : Cx K cc own G) {x y : Int32} (hdg : decode cc pc = .ok (.ixor, 1)) (kk : RX K (pc + 1) ls (.int (x ^^^ y) :: st) m) : RX K pc ls (.int y :: .int x :: st) m := fun H locs la hP hS hl => lv_ixor hC.1 hC.2.1 hdg (kk H locs la hP hS hl)
theorem R_ishl (hC : Cx K cc own G) {x y : Int32} (hdg : decode cc pc = .ok (.ishl, 1)) (kk : RX K (pc + 1) ls (.int (x <<< (y &&& 31)) :: st) m) : RX K pc ls (.int y :: .int x :: st) m := fun H locs la hP hS hl => lv_ishl hC.1 hC.2.1 hdg (kk H locs la hP hS hl)
theorem R_ishr (hC : Cx K cc own G) {x y : Int32} (hdg : decode cc pc = .ok (.ishr, 1)) (kk : RX K (pc + 1) ls (.int (x >>> (y &&& 31)) :: st) m) : RX K pc ls (.int y :: .int x :: st) m := fun H locs la hP hS hl => lv_ishr hC.1 hC.2.1 hdg (kk H locs la hP hS hl)
theorem R_iushr (hC : Cx K cc own G) {x y : Int32} (hdg : decode cc pc = .ok (.iushr, 1)) (kk : RX K (pc + 1) ls (.int ((x.toUInt32 >>> (y.toUInt32 &&& Int32.toUInt32 31)).toInt32) :: st) m) : RX K pc ls (.int y :: .int x :: st) m := fun H locs la hP hS hl => lv_iushr hC.1 hC.2.1 hdg rfl (kk H locs la hP hS hl)
theorem R_idiv (hC : Cx K cc own G) {x y : Int32} (hdg : decode cc pc = .ok (.idiv, 1)) (hne : ¬ y = 0) (kk : RX K (pc + 1) ls (.int (x / y) :: st) m) : RX K pc ls (.int y :: .int x :: st) m := fun H locs la hP hS hl => lv_idiv hC.1 hC.2.1 hdg hne (kk H locs la hP hS hl)
theorem R_irem (hC : Cx K cc own G) {x y : Int32} (hdg : decode cc pc = .ok (.irem, 1)) (hne : ¬ y = 0) (kk : RX K (pc + 1) ls (.int (x - x / y * y) :: st) m) : RX K pc ls (.int y :: .int x :: st) m := fun H locs la hP hS hl => lv_irem hC.1 hC.2.1 hdg hne (kk H locs la hP hS hl)
theorem R_ineg (hC : Cx K cc own G) {x : Int32} (hdg : decode cc pc = .ok (.ineg, 1)) (kk : RX K (pc + 1) ls (.int (-x) :: st) m) : RX K pc ls (.int x :: st) m := fun H locs la hP hS hl => lv_ineg hC.1 hC.2.1 hdg (kk H locs la hP hS hl)
theorem R_ladd (hC : Cx K cc own G) {x y : Int64} (hdg : decode cc pc = .ok (.ladd, 1)) (kk : RX K (pc + 1) ls (.long (x + y) :: st) m) : RX K pc ls (.long y :: .long x :: st) m := fun H locs la hP hS hl => lv_ladd hC.1 hC.2.1 hdg (kk H locs la hP hS hl)
theorem R_lsub (hC : Cx K cc own G) {x y : Int64} (hdg : decode cc pc = .ok (.lsub, 1)) (kk : RX K (pc + 1) ls (.long (x - y) :: st) m) : RX K pc ls (.long y :: .long x :: st) m := fun H locs la hP hS hl => lv_lsub hC.1 hC.2.1 hdg (kk H locs la hP hS hl)
theorem R_lmul (hC : Cx K cc own G) {x y : Int64} (hdg : decode cc pc = .ok (.lmul, 1)) (kk : RX K (pc + 1) ls (.long (x * y) :: st) m) : RX K pc ls (.long y :: .long x :: st) m := fun H locs la hP hS hl => lv_lmul hC.1 hC.2.1 hdg (kk H locs la hP hS hl)
theorem R_land (hC : Cx K cc own G) {x y : Int64} (hdg : decode cc pc = .ok (.land, 1)) (kk : RX K (pc + 1) ls (.long (x &&& y) :: st) m) : RX K pc ls (.long y :: .long x :: st) m := fun H locs la hP hS hl => lv_land hC.1 hC.2.1 hdg (kk H locs la hP hS hl)
theorem R_ldiv (hC : Cx K cc own G) {x y : Int64} (hdg : decode cc pc = .ok (.ldiv, 1)) (hne : ¬ y = 0) (kk : RX K (pc + 1) ls (.long (x / y) :: st) m) : RX K pc ls (.long y :: .long x :: st) m := fun H locs la hP hS hl => lv_ldiv hC.1 hC.2.1 hdg hne (kk H locs la hP hS hl)
theorem R_lrem (hC : Cx K cc own G) {x y : Int64} (hdg : decode cc pc = .ok (.lrem, 1)) (hne : ¬ y = 0) (kk : RX K (pc + 1) ls (.long (x - x / y * y) :: st) m) : RX K pc ls (.long y :: .long x :: st) m := fun H locs la hP hS hl => lv_lrem hC.1 hC.2.1 hdg hne (kk H locs la hP hS hl)
theorem R_lshr (hC : Cx K cc own G) {x : Int64} {y : Int32} (hdg : decode cc pc = .ok (.lshr, 1)) (kk : RX K (pc + 1) ls (.long (x >>> (y.toInt64 &&& 63)) :: st) m) : RX K pc ls (.int y :: .long x :: st) m := fun H locs la hP hS hl => lv_lshr hC.1 hC.2.1 hdg rfl (kk H locs la hP hS hl)
theorem R_lcmp (hC : Cx K cc own G) {x y : Int64} (hdg : decode cc pc = .ok (.lcmp, 1)) (kk : RX K (pc + 1) ls (.int (lg_cmp x y) :: st) m) : RX K pc ls (.long y :: .long x :: st) m := fun H locs la hP hS hl => W.lcmp hC.1 hC.2.1 hdg (kk H locs la hP hS hl)
theorem R_i2l (hC : Cx K cc own G) {x : Int32} (hdg : decode cc pc = .ok (.i2l, 1)) (kk : RX K (pc + 1) ls (.long x.toInt64 :: st) m) : RX K pc ls (.int x :: st) m := fun H locs la hP hS hl => lv_i2l hC.1 hC.2.1 hdg rfl (kk H locs la hP hS hl)
theorem R_l2i (hC : Cx K cc own G) {x : Int64} (hdg : decode cc pc = .ok (.l2i, 1)) (kk : RX K (pc + 1) ls (.int x.toInt32 :: st) m) : RX K pc ls (.long x :: st) m := fun H locs la hP hS hl => lv_l2i hC.1 hC.2.1 hdg rfl (kk H locs la hP hS hl)
theorem R_dup (hC : Cx K cc own G) {v : Value} (hdg : decode cc pc = .ok (.dup, 1)) (hv : v.category = 1) (kk : RX K (pc + 1) ls (v :: v :: st) m) : RX K pc ls (v :: st) m := fun H locs la hP hS hl => lv_dup hC.1 hC.2.1 hdg ((gv_cat (kad K) v).trans hv) (kk H locs la hP hS hl)
theorem R_pop (hC : Cx K cc own G) {v : Value} (hdg : decode cc pc = .ok (.pop, 1)) (hv : v.category = 1) (kk : RX K (pc + 1) ls st m) : RX K pc ls (v :: st) m := fun H locs la hP hS hl => lv_pop hC.1 hC.2.1 hdg ((gv_cat (kad K) v).trans hv) (kk H locs la hP hS hl)
theorem R_dup2 (hC : Cx K cc own G) {v w : Value} (hdg : decode cc pc = .ok (.dup2, 1)) (hv : v.category = 1) (hw : w.category = 1) (kk : RX K (pc + 1) ls (v :: w :: v :: w :: st) m) : RX K pc ls (v :: w :: st) m := fun H locs la hP hS hl => lv_dup2_11 hC.1 hC.2.1 hdg ((gv_cat (kad K) v).trans hv) ((gv_cat (kad K) w).trans hw) (kk H locs la hP hS hl)
theorem R_goto (hC : Cx K cc own G) {off : Int} {tgt : Nat} (hdg : decode cc pc = .ok (.goto off, 3)) (ht : (pc : Int) + off = (tgt : Int)) (kk : RX K tgt ls st m) : RX K pc ls st m := fun H locs la hP hS hl => lv_goto hC.1 hC.2.1 hdg ht (kk H locs la hP hS hl)
theorem R_ldc (hC : Cx K cc own G) {index : Nat} {v : Int32} (hw : Cond.constant own index v ∈ gdW) (hdg : decode cc pc = .ok (.ldc index, 2)) (kk : RX K (pc + 2) ls (.int v :: st) m) : RX K pc ls st m := fun H locs la hP hS hl => lv_ldc hC.1 hC.2.1 hC.2.2.2.1 (hC.2.2.2.2.1 _ hw) hdg (kk H locs la hP hS hl)
theorem R_ldcw (hC : Cx K cc own G) {index : Nat} {v : Int32} (hw : Cond.constant own index v ∈ gdW) (hdg : decode cc pc = .ok (.ldc_w index, 3)) (kk : RX K (pc + 3) ls (.int v :: st) m) : RX K pc ls st m := fun H locs la hP hS hl => lv_ldcw hC.1 hC.2.1 hC.2.2.2.1 (hC.2.2.2.2.1 _ hw) hdg (kk H locs la hP hS hl)
theorem R_ldc2 (hC : Cx K cc own G) {index : Nat} {v : Int64} (hw : Cond.constantLong own index v ∈ gdW) (hdg : decode cc pc = .ok (.ldc2_w index, 3)) (kk : RX K (pc + 3) ls (.long v :: st) m) : RX K pc ls st m := fun H locs la hP hS hl => lv_ldc2 hC.1 hC.2.1 hC.2.2.2.1 (hC.2.2.2.2.1 _ hw) hdg (kk H locs la hP hS hl)
theorem R_icmp_eq (hC : Cx K cc own G) {x y : Int32} {off : Int} {tgt : Nat} (hdg : decode cc pc = .ok (.if_icmp .eq off, 3)) (ht : (pc : Int) + off = (tgt : Int)) (kt : x = y → RX K tgt ls st m) (kf : ¬ x = y → RX K (pc + 3) ls st m) : RX K pc ls (.int y :: .int x :: st) m := fun H locs la hP hS hl => lv_icmp_eq hC.1 hC.2.1 hdg ht (fun c => kt c H locs la hP hS hl) (fun c => kf c H locs la hP hS hl)
theorem R_if_eq (hC : Cx K cc own G) {x : Int32} {off : Int} {tgt : Nat} (hdg : decode cc pc = .ok (.ifCond .eq off, 3)) (ht : (pc : Int) + off = (tgt : Int)) (kt : x = 0 → RX K tgt ls st m) (kf : ¬ x = 0 → RX K (pc + 3) ls st m) : RX K pc ls (.int x :: st) m := fun H locs la hP hS hl => lv_if_eq hC.1 hC.2.1 hdg ht (fun c => kt c H locs la hP hS hl) (fun c => kf c H locs la hP hS hl)
theorem R_icmp_ne (hC : Cx K cc own G) {x y : Int32} {off : Int} {tgt : Nat} (hdg : decode cc pc = .ok (.if_icmp .ne off, 3)) (ht : (pc : Int) + off = (tgt : Int)) (kt : ¬ x = y → RX K tgt ls st m) (kf : x = y → RX K (pc + 3) ls st m) : RX K pc ls (.int y :: .int x :: st) m := fun H locs la hP hS hl => lv_icmp_ne hC.1 hC.2.1 hdg ht (fun c => kt c H locs la hP hS hl) (fun c => kf c H locs la hP hS hl)
theorem R_if_ne (hC : Cx K cc own G) {x : Int32} {off : Int} {tgt : Nat} (hdg : decode cc pc = .ok (.ifCond .ne off, 3)) (ht : (pc : Int) + off = (tgt : Int)) (kt : ¬ x = 0 → RX K tgt ls st m) (kf : x = 0 → RX K (pc + 3) ls st m) : RX K pc ls (.int x :: st) m := fun H locs la hP hS hl => lv_if_ne hC.1 hC.2.1 hdg ht (fun c => kt c H locs la hP hS hl) (fun c => kf c H locs la hP hS hl)
theorem R_icmp_lt (hC : Cx K cc own G) {x y : Int32} {off : Int} {tgt : Nat} (hdg : decode cc pc = .ok (.if_icmp .lt off, 3)) (ht : (pc : Int) + off = (tgt : Int)) (kt : x < y → RX K tgt ls st m) (kf : ¬ x < y → RX K (pc + 3) ls st m) : RX K pc ls (.int y :: .int x :: st) m := fun H locs la hP hS hl => lv_icmp_lt hC.1 hC.2.1 hdg ht (fun c => kt c H locs la hP hS hl) (fun c => kf c H locs la hP hS hl)
theorem R_if_lt (hC : Cx K cc own G) {x : Int32} {off : Int} {tgt : Nat} (hdg : decode cc pc = .ok (.ifCond .lt off, 3)) (ht : (pc : Int) + off = (tgt : Int)) (kt : x < 0 → RX K tgt ls st m) (kf : ¬ x < 0 → RX K (pc + 3) ls st m) : RX K pc ls (.int x :: st) m := fun H locs la hP hS hl => lv_if_lt hC.1 hC.2.1 hdg ht (fun c => kt c H locs la hP hS hl) (fun c => kf c H locs la hP hS hl)
theorem R_icmp_ge (hC : Cx K cc own G) {x y : Int32} {off : Int} {tgt : Nat} (hdg : decode cc pc = .ok (.if_icmp .ge off, 3)) (ht : (pc : Int) + off = (tgt : Int)) (kt : y ≤ x → RX K tgt ls st m) (kf : ¬ y ≤ x → RX K (pc + 3) ls st m) : RX K pc ls (.int y :: .int x :: st) m := fun H locs la hP hS hl => lv_icmp_ge hC.1 hC.2.1 hdg ht (fun c => kt c H locs la hP hS hl) (fun c => kf c H locs la hP hS hl)
theorem R_if_ge (hC : Cx K cc own G) {x : Int32} {off : Int} {tgt : Nat} (hdg : decode cc pc = .ok (.ifCond .ge off, 3)) (ht : (pc : Int) + off = (tgt : Int)) (kt : 0 ≤ x → RX K tgt ls st m) (kf : ¬ 0 ≤ x → RX K (pc + 3) ls st m) : RX K pc ls (.int x :: st) m := fun H locs la hP hS hl => lv_if_ge hC.1 hC.2.1 hdg ht (fun c => kt c H locs la hP hS hl) (fun c => kf c H locs la hP hS hl)
theorem R_icmp_gt (hC : Cx K cc own G) {x y : Int32} {off : Int} {tgt : Nat} (hdg : decode cc pc = .ok (.if_icmp .gt off, 3)) (ht : (pc : Int) + off = (tgt : Int)) (kt : y < x → RX K tgt ls st m) (kf : ¬ y < x → RX K (pc + 3) ls st m) : RX K pc ls (.int y :: .int x :: st) m := fun H locs la hP hS hl => lv_icmp_gt hC.1 hC.2.1 hdg ht (fun c => kt c H locs la hP hS hl) (fun c => kf c H locs la hP hS hl)
theorem R_if_gt (hC : Cx K cc own G) {x : Int32} {off : Int} {tgt : Nat} (hdg : decode cc pc = .ok (.ifCond .gt off, 3)) (ht : (pc : Int) + off = (tgt : Int)) (kt : 0 < x → RX K tgt ls st m) (kf : ¬ 0 < x → RX K (pc + 3) ls st m) : RX K pc ls (.int x :: st) m := fun H locs la hP hS hl => lv_if_gt hC.1 hC.2.1 hdg ht (fun c => kt c H locs la hP hS hl) (fun c => kf c H locs la hP hS hl)
theorem R_icmp_le (hC : Cx K cc own G) {x y : Int32} {off : Int} {tgt : Nat} (hdg : decode cc pc = .ok (.if_icmp .le off, 3)) (ht : (pc : Int) + off = (tgt : Int)) (kt : x ≤ y → RX K tgt ls st m) (kf : ¬ x ≤ y → RX K (pc + 3) ls st m) : RX K pc ls (.int y :: .int x :: st) m := fun H locs la hP hS hl => lv_icmp_le hC.1 hC.2.1 hdg ht (fun c => kt c H locs la hP hS hl) (fun c => kf c H locs la hP hS hl)
theorem R_if_le (hC : Cx K cc own G) {x : Int32} {off : Int} {tgt : Nat} (hdg : decode cc pc = .ok (.ifCond .le off, 3)) (ht : (pc : Int) + off = (tgt : Int)) (kt : x ≤ 0 → RX K tgt ls st m) (kf : ¬ x ≤ 0 → RX K (pc + 3) ls st m) : RX K pc ls (.int x :: st) m := fun H locs la hP hS hl => lv_if_le hC.1 hC.2.1 hdg ht (fun c => kt c H locs la hP hS hl) (fun c => kf c H locs la hP hS hl)
/-- an end -/
theorem R_ret (hC : Cx K cc own G) (r : Option Value) (hv : st = r.toList) (hg : r.toList.map (gv (kad K)) = r.toList) (hG : G r m) (hdg : decode cc pc = .ok (retI r, 1)) : RX K pc ls st m := by
  intro H locs la hP hS hl
  rw [hv, hg]
  exact hC.2.2.2.2.2.2.2.2.2.2 pc la H locs m r hP hS hG hdg
theorem R_ireturn (hC : Cx K cc own G) {v : Int32} (hdg : decode cc pc = .ok (.ireturn, 1)) (hG : G (some (.int v)) m) : RX K pc ls [.int v] m := R_ret hC (some (.int v)) rfl rfl hG hdg
theorem R_lreturn (hC : Cx K cc own G) {v : Int64} (hdg : decode cc pc = .ok (.lreturn, 1)) (hG : G (some (.long v)) m) : RX K pc ls [.long v] m := R_ret hC (some (.long v)) rfl rfl hG hdg
theorem R_return (hC : Cx K cc own G) (hdg : decode cc pc = .ok (.return_, 1)) (hG : G none m) : RX K pc ls [] m := R_ret hC none rfl rfl hG hdg
/-- arrays -/
theorem R_iaload (hC : Cx K cc own G) (j : Nat) {n : Nat} {i : Int32} (hj : j < kn K) (hy : lay j = .inl (false, n)) (hin : vp_in i n) (hdg : decode cc pc = .ok (.iaload, 1)) (kk : RX K (pc + 1) ls (.int (m.1 j i.toNatClampNeg) :: st) m) : RX K pc ls (.int i :: .ref j :: st) m := fun H locs la hP hS hl => va_iald hC.1 hC.2.1 hC.2.2.2.2.2.2.1 hP j 0 (by unfold cels; rw [cellsL_get hj, hy]; rfl) rfl hin hdg (kk H locs la hP hS hl)
theorem R_laload (hC : Cx K cc own G) (j : Nat) {n : Nat} {i : Int32} (hj : j < kn K) (hy : lay j = .inl (true, n)) (hin : vp_in i n) (hdg : decode cc pc = .ok (.laload, 1)) (kk : RX K (pc + 1) ls (.long (m.2 j i.toNatClampNeg) :: st) m) : RX K pc ls (.int i :: .ref j :: st) m := fun H locs la hP hS hl => va_lald hC.1 hC.2.1 hC.2.2.2.2.2.2.1 hP j 1 (by unfold cels; rw [cellsL_get hj, hy]; rfl) rfl hin hdg (kk H locs la hP hS hl)
theorem R_iastore (hC : Cx K cc own G) (j : Nat) {n : Nat} {i x : Int32} (hj : j < kn K) (hy : lay j = .inl (false, n)) (hin : vp_in i n) (hdg : decode cc pc = .ok (.iastore, 1)) (kk : RX K (pc + 1) ls st (mu m j i.toNatClampNeg x)) : RX K pc ls (.int x :: .int i :: .ref j :: st) m := by
  intro H locs la hP hS hl
  refine va_iast hC.1 hC.2.1 hC.2.2.2.2.2.2.1 hP (hC.2.2.2.2.2.2.2.1 m) hS j 0 (n := n) (f := m.1 j) (by unfold cels; rw [cellsL_get hj, hy]; rfl) rfl hin hdg (fun H1 locs1 hP1 hD1 hS1 => ?_)
  refine kk H1 locs1 la ?_ hS1 hl
  have e : (cels K m).set j (kad K j, Sum.inl (kI K, n, Sum.inl (upd (m.1 j) i.toNatClampNeg x))) = cels K (mu m j i.toNatClampNeg x) := cellsL_set mu_o (by rw [mu_s, hy]; rfl)
  rw [← e]
  exact hP1
theorem R_lastore (hC : Cx K cc own G) (j : Nat) {n : Nat} {i : Int32} {x : Int64} (hj : j < kn K) (hy : lay j = .inl (true, n)) (hin : vp_in i n) (hdg : decode cc pc = .ok (.lastore, 1)) (kk : RX K (pc + 1) ls st (muL m j i.toNatClampNeg x)) : RX K pc ls (.long x :: .int i :: .ref j :: st) m := by
  intro H locs la hP hS hl
  refine va_last hC.1 hC.2.1 hC.2.2.2.2.2.2.1 hP (hC.2.2.2.2.2.2.2.1 m) hS j 1 (n := n) (f := m.2 j) (by unfold cels; rw [cellsL_get hj, hy]; rfl) rfl hin hdg (fun H1 locs1 hP1 hD1 hS1 => ?_)
  refine kk H1 locs1 la ?_ hS1 hl
  have e : (cels K m).set j (kad K j, Sum.inl (kJ K, n, Sum.inr (Sum.inl (vp_updL (m.2 j) i.toNatClampNeg x)))) = cels K (muL m j i.toNatClampNeg x) := cellsL_set muL_o (by rw [muL_s, hy]; rfl)
  rw [← e]
  exact hP1
theorem R_alen (hC : Cx K cc own G) (j : Nat) {n : Nat} (hj : j < kn K) (hy : lay j = .inl (false, n)) (hdg : decode cc pc = .ok (.arraylength, 1)) (kk : RX K (pc + 1) ls (.int (Int32.ofNat n) :: st) m) : RX K pc ls (.ref j :: st) m := fun H locs la hP hS hl => va_alen hC.1 hC.2.1 hC.2.2.2.2.2.2.1 hP j 0 (x := (n, .inl (m.1 j))) (by unfold cels; rw [cellsL_get hj, hy]; rfl) rfl rfl hdg (kk H locs la hP hS hl)
/-- fields: a number, a cell; of one's own class or of a nest mate -/
theorem R_getI (hC : Cx K cc own G) {C : String} {T : u_T} {N ci k index : Nat} {fs : List (Option Nat)} (j : Nat) (hj : j < kn K) (hy : lay j = .inr (ci, fs)) (hc : vwCl[ci]? = some (C, T, N)) (hin : ∀ w ∈ u_ws C T N, w ∈ gdW) (hk : k < N) (hw : Cond.fieldLink own index (T k).1 (T k).2.1 (T k).2.2.1 ∈ gdW) (hf : fs[k]? = some none) (hdg : decode cc pc = .ok (.getfield index, 3)) (kk : RX K (pc + 3) ls (.int (m.1 j k) :: st) m) : RX K pc ls (.ref j :: st) m := fun H locs la hP hS hl => va_get hC.1 hC.2.1 hC.2.2.2.2.1 hin hC.2.2.2.1 hC.2.2.2.2.2.2.1 hP j (by unfold cels; rw [cellsL_get hj, hy]; rfl) hc k hk (hC.2.2.2.2.1 _ hw) (fun _ h => h) (by have := cfv_int (a := kad K) (f := m.1 j) fs 0 k hf; rw [Nat.zero_add] at this; exact this) hdg (kk H locs la hP hS hl)
theorem R_getR (hC : Cx K cc own G) {C : String} {T : u_T} {N ci k index j' : Nat} {fs : List (Option Nat)} (j : Nat) (hj : j < kn K) (hy : lay j = .inr (ci, fs)) (hc : vwCl[ci]? = some (C, T, N)) (hin : ∀ w ∈ u_ws C T N, w ∈ gdW) (hk : k < N) (hw : Cond.fieldLink own index (T k).1 (T k).2.1 (T k).2.2.1 ∈ gdW) (hf : fs[k]? = some (some j')) (hdg : decode cc pc = .ok (.getfield index, 3)) (kk : RX K (pc + 3) ls (.ref j' :: st) m) : RX K pc ls (.ref j :: st) m := fun H locs la hP hS hl => va_get hC.1 hC.2.1 hC.2.2.2.2.1 hin hC.2.2.2.1 hC.2.2.2.2.2.2.1 hP j (by unfold cels; rw [cellsL_get hj, hy]; rfl) hc k hk (hC.2.2.2.2.1 _ hw) (fun _ h => h) (cfv_ref (a := kad K) (f := m.1 j) fs 0 k hf) hdg (kk H locs la hP hS hl)
theorem R_getIN (hC : Cx K cc own G) {C host : String} {T : u_T} {N ci k index : Nat} {fs : List (Option Nat)} (j : Nat) (hj : j < kn K) (hy : lay j = .inr (ci, fs)) (hc : vwCl[ci]? = some (C, T, N)) (hin : ∀ w ∈ u_ws C T N, w ∈ gdW) (hk : k < N) (hw : Cond.fieldLinkNest own index (T k).1 (T k).2.1 (T k).2.2.1 host ∈ nsW) (hf : fs[k]? = some none) (hdg : decode cc pc = .ok (.getfield index, 3)) (kk : RX K (pc + 3) ls (.int (m.1 j k) :: st) m) : RX K pc ls (.ref j :: st) m := fun H locs la hP hS hl => va_getN hC.1 hC.2.1 hC.2.2.2.2.1 hin hC.2.2.2.1 hC.2.2.2.2.2.2.1 hP j (by unfold cels; rw [cellsL_get hj, hy]; rfl) hc k hk (va_Nw.use rfl (hC.2.2.2.2.2.1 _ hw)) (fun _ h => h) (by have := cfv_int (a := kad K) (f := m.1 j) fs 0 k hf; rw [Nat.zero_add] at this; exact this) hdg (kk H locs la hP hS hl)
theorem R_getRN (hC : Cx K cc own G) {C host : String} {T : u_T} {N ci k index j' : Nat} {fs : List (Option Nat)} (j : Nat) (hj : j < kn K) (hy : lay j = .inr (ci, fs)) (hc : vwCl[ci]? = some (C, T, N)) (hin : ∀ w ∈ u_ws C T N, w ∈ gdW) (hk : k < N) (hw : Cond.fieldLinkNest own index (T k).1 (T k).2.1 (T k).2.2.1 host ∈ nsW) (hf : fs[k]? = some (some j')) (hdg : decode cc pc = .ok (.getfield index, 3)) (kk : RX K (pc + 3) ls (.ref j' :: st) m) : RX K pc ls (.ref j :: st) m := fun H locs la hP hS hl => va_getN hC.1 hC.2.1 hC.2.2.2.2.1 hin hC.2.2.2.1 hC.2.2.2.2.2.2.1 hP j (by unfold cels; rw [cellsL_get hj, hy]; rfl) hc k hk (va_Nw.use rfl (hC.2.2.2.2.2.1 _ hw)) (fun _ h => h) (cfv_ref (a := kad K) (f := m.1 j) fs 0 k hf) hdg (kk H locs la hP hS hl)
theorem R_put (hC : Cx K cc own G) {C : String} {T : u_T} {N ci k index : Nat} {fs : List (Option Nat)} (ty0 : Nat → FieldType) (hty : ∀ k, k < N → parseFieldDescriptor (T k).2.2.1 = some (ty0 k)) (hnm : ∀ a, a < N → ∀ b, b < N → a ≠ b → (T a).2.1 ≠ (T b).2.1) (j : Nat) (hj : j < kn K) (hy : lay j = .inr (ci, fs)) (hc : vwCl[ci]? = some (C, T, N)) (hin : ∀ w ∈ u_ws C T N, w ∈ gdW) (hk : k < N) (hw : Cond.fieldLink own index (T k).1 (T k).2.1 (T k).2.2.1 ∈ gdW) (hf : fs[k]? = some none) (hfin : (T k).2.2.2 = false) {x : Int32} (hn : narrow (ty0 k) (.int x) = .int x) (hfit : fits (ty0 k) (.int x) = true) (hdg : decode cc pc = .ok (.putfield index, 3)) (kk : RX K (pc + 3) ls st (mu m j k x)) : RX K pc ls (.int x :: .ref j :: st) m := by
  intro H locs la hP hS hl
  have hlen : k < fs.length := (List.getElem?_eq_some_iff.mp hf).1
  refine va_put hC.1 hC.2.1 hC.2.2.2.2.1 hin ty0 hty hnm hC.2.2.2.1 hC.2.2.2.2.2.2.1 hP (hC.2.2.2.2.2.2.2.1 m) hS j (by unfold cels; rw [cellsL_get hj, hy]; rfl) hc k hk (hC.2.2.2.2.1 _ hw) (fun _ h => h) hfin (hty k hk) hn hfit (by rw [cfv_len]; exact hlen) hdg (fun H1 locs1 hP1 hD1 hS1 => ?_)
  refine kk H1 locs1 la ?_ hS1 hl
  have e : (cels K m).set j (kad K j, Sum.inr (ci, (cfv (kad K) (m.1 j) 0 fs).set k (.int x))) = cels K (mu m j k x) := cellsL_set mu_o (by rw [mu_s, hy, cfv_set fs 0 k hf, Nat.zero_add]; rfl)
  rw [← e]
  exact hP1
end
end
section
section
variable {K : KX} {cc : ByteArray} {own : String} {G : Option Value → Mem → Prop} {pc : Nat} {ls : List (Nat × Value)} {st : List Value} {m : Mem}
theorem R_tableIn (hC : Cx K cc own G) {dflt lo hi : Int} {offs : Array Int} {len : Nat} {x : Int32} {off : Int} {tgt : Nat} (hdg : decode cc pc = .ok (.tableswitch dflt lo hi offs, len)) (h1 : ¬ x.toInt < lo) (h2 : ¬ hi < x.toInt) (ho : offs[(x.toInt - lo).toNat]? = some off) (ht : (pc : Int) + off = (tgt : Int)) (kk : RX K tgt ls st m) : RX K pc ls (.int x :: st) m := fun H locs la hP hS hl => lv_tableIn hC.1 hC.2.1 hdg h1 h2 ho ht (kk H locs la hP hS hl)
theorem R_tableOut (hC : Cx K cc own G) {dflt lo hi : Int} {offs : Array Int} {len : Nat} {x : Int32} {tgt : Nat} (hdg : decode cc pc = .ok (.tableswitch dflt lo hi offs, len)) (h : x.toInt < lo ∨ hi < x.toInt) (ht : (pc : Int) + dflt = (tgt : Int)) (kk : RX K tgt ls st m) : RX K pc ls (.int x :: st) m := fun H locs la hP hS hl => lv_tableOut hC.1 hC.2.1 hdg h ht (kk H locs la hP hS hl)
theorem R_lookup (hC : Cx K cc own G) {dflt : Int} {ps : Array (Int × Int)} {len : Nat} {x : Int32} {off : Int} {tgt : Nat} (hdg : decode cc pc = .ok (.lookupswitch dflt ps, len)) (hp : (ps.toList.zip (ps.toList.drop 1)).all (fun (a, next) => a.1 < next.1) = true) (ho : Op.lookupswitch.offset ps.toList dflt x.toInt = off) (ht : (pc : Int) + off = (tgt : Int)) (kk : RX K tgt ls st m) : RX K pc ls (.int x :: st) m := fun H locs la hP hS hl => lv_lookup hC.1 hC.2.1 hdg hp ho ht (kk H locs la hP hS hl)
/-- what a switch leaves over -/
theorem tab_out {x : Int32} {lo hi : Int} (h : ∀ k : Nat, (k : Int) ≤ hi - lo → ¬ x.toInt = lo + k) : x.toInt < lo ∨ hi < x.toInt := by
  by_cases h1 : x.toInt < lo
  · exact Or.inl h1
  · by_cases h2 : hi < x.toInt
    · exact Or.inr h2
    · exfalso
      refine h (x.toInt - lo).toNat (by omega) (by omega)
theorem i32_ne {x y : Int32} (h : ¬ x = y) {n : Int} (hy : y.toInt = n) : ¬ x.toInt = n := fun e => h (Int32.toInt_inj.mp (e.trans hy.symm))
/-! ===== a method's contract: from the memory m with these arguments it returns r, and the memory is m1 ===== -/
def PcX (D : va_G) (cI cJ : ClassId) (a : Nat → Nat) (n : Nat) (av : List Value) (m : Mem) (sz : Nat) : Array Value → State → Prop := va_Pc (av.map (gv a)) (fun U => U.heap.size = sz ∧ va_P D vwCl (cellsL cI cJ a n m) U.heap ∧ va_K D vwCl [(cI, .int), (cJ, .long)] U ∧ va_D (fun _ => True) (cellsL cI cJ a n m) ∧ ∀ w ∈ nsW, va_Nw w U)
def QcX (D : va_G) (cI cJ : ClassId) (a : Nat → Nat) (n : Nat) (r : Option Value) (m1 : Mem) (A : Nat → Prop) : Array Value → State → Outcome → State → Prop := fun _ s0 oc t => oc = .returned r ∧ va_P D vwCl (cellsL cI cJ a n m1) t.heap ∧ va_F A s0 t
def MX (y : MethodName) (cc : ByteArray) (nL : Nat) (ret : Option FieldType) (rm : Room) (n : Nat) (av : List Value) (m : Mem) (r : Option Value) (m1 : Mem) : Prop :=
  ∀ (l : Launch) (D : va_G) (cI cJ : ClassId) (a : Nat → Nat) (sz : Nat), Met l y (wsM y cc nL ret) rm (PcX D cI cJ a n av m sz) (QcX D cI cJ a n r m1 (va_A (cellsL cI cJ a n m) sz)) 0 0 (va_A (cellsL cI cJ a n m) sz)
/-- the answer is of the method's type -/
def retOK (ret : Option FieldType) (r : Option Value) : Prop := (ret = none ∧ r = none) ∨ (ret = some .int ∧ ∃ v, r = some (.int v)) ∨ (ret = some .long ∧ ∃ v, r = some (.long v)) ∨ (ret = some .boolean ∧ ∃ b, r = some (.int (b2i b)))
theorem cellsL_apart {A : Nat → Prop} {cI cJ : ClassId} {a : Nat → Nat} {n : Nat} {m m' : Mem} (h : va_D A (cellsL cI cJ a n m)) : va_D A (cellsL cI cJ a n m') := by
  have key : ∀ (k : Nat) (q : Nat × va_E), (cellsL cI cJ a n m')[k]? = some q → k < n ∧ q.1 = a k := by
    intro k q hq
    have hk : k < n := by
      have := (List.getElem?_eq_some_iff.mp hq).1
      simpa [cellsL] using this
    rw [cellsL_get hk] at hq
    exact ⟨hk, by rw [← Option.some.inj hq]⟩
  refine ⟨fun i j p q hi hj e => ?_, fun k q hk => ?_⟩
  · obtain ⟨h1, h2⟩ := key i p hi
    obtain ⟨h3, h4⟩ := key j q hj
    exact h.1 i j _ _ (cellsL_get h1) (cellsL_get h3) (h2.symm.trans (e.trans h4))
  · obtain ⟨h1, h2⟩ := key k q hk
    rw [h2]
    exact h.2 k _ (cellsL_get h1)
theorem gl_args (a : Nat → Nat) : ∀ (i : Nat) (vs : List Value), lv_args i (vs.map (gv a)) = gl a (lv_args i vs)
  | _, [] => rfl
  | i, v :: vs => by
    simp only [List.map_cons, lv_args, gl_args a, gv_cat]
    rfl
theorem sl_len (a : Nat → Nat) : ∀ (vs : List Value), (lg_sl (vs.map (gv a))).length = (lg_sl vs).length
  | [] => rfl
  | v :: vs => by
    have := sl_len a vs
    unfold lg_sl at this ⊢
    simp only [List.map_cons, List.flatMap_cons, List.length_append, this, gv_cat]
    split <;> rfl
def GX (r0 : Option Value) (m0 : Mem) : Option Value → Mem → Prop := fun r m => r = r0 ∧ m = m0
set_option maxHeartbeats 4000000 in
theorem MX_of {y : MethodName} {cc : ByteArray} {nL : Nat} {ret : Option FieldType} {rm : Room} {n : Nat} {av : List Value} {m : Mem} {r : Option Value} {m1 : Mem} (hy : plainName y.cls = true) (hn : (lg_sl av).length ≤ nL) (hr : retOK ret r)
    (walk : ∀ K : KX, Cx K cc y.cls (GX r m1) → kn K = n → kL K = nL → kR K = rm → RX K 0 (lv_args 0 av) [] m) : MX y cc nL ret rm n av m r m1 := by
  intro l D cI cJ a sz
  refine Met.ofW (cc := cc) (maxL := nL) (ret := ret) hy rfl ?_
  intro p e s mid args below meth c s₁ B hml hv
  obtain ⟨rfl, hsz, hP, hK, hD0, hN⟩ := hv
  have hx := B.exec
  have hb := B.bytes
  have hrt := B.returns
  have hts := atoms_spec (ws := wsM y cc nL ret) B.pre
  have hown : s.vm.findClass y.cls = some mid.cls := findClass_of_methodNamed B.named
  have hlocks := B.notSynchronized
  subst hsz
  have hD := hD0.self (sz := s.heap.size)
  let K : KX := (p, l, e, rm, s, mid, (av.map (gv a)).toArray, below, meth, c, nL, D, cI, cJ, a, n, va_A (cellsL cI cJ a n m) s.heap.size, MQ below (QcX D cI cJ a n r m1 (va_A (cellsL cI cJ a n m) s.heap.size)) (av.map (gv a)).toArray s 0 0 (va_A (cellsL cI cJ a n m) s.heap.size), 0, 0)
  have hC : Cx K cc y.cls (GX r m1) := by
    refine ⟨hx, hb, hml, hown, fun w hw => hts w (List.mem_cons_of_mem _ hw), hN, hK, fun m' => cellsL_apart hD, fun q h => Or.inr h, ⟨Nat.zero_le _, Nat.zero_le _⟩, ?_⟩
    intro pc la H locs m2 r2 hP2 hS2 hG hdg
    obtain ⟨rfl, rfl⟩ := hG
    have hq : ∀ t : State, t.heap = H → s.WarmedH t.vm → QcX D cI cJ a n r2 m2 (va_A (cellsL cI cJ a n m) s.heap.size) (av.map (gv a)).toArray s (.returned r2) t := fun t ht _ => ⟨rfl, by rw [ht]; exact hP2, hS2.F ht⟩
    rcases hr with ⟨h1, rfl⟩ | ⟨h1, v, rfl⟩ | ⟨h1, v, rfl⟩ | ⟨h1, b, rfl⟩
    · exact W.vret hx hb (hrt.trans h1) hq hS2.2.2 hdg
    · exact W.iret hx hb (hrt.trans h1) hq hS2.2.2 hdg
    · exact W.lret hx hb (hrt.trans h1) hq hS2.2.2 hdg
    · exact W.zret hx hb (hrt.trans h1) (by cases b <;> rfl) hq hS2.2.2 hdg
  have hw := walk K hC rfl rfl rfl
  have hl := lv_entry (av.map (gv a)) (n := nL) (by rw [sl_len]; exact hn)
  rw [lg_entry_eq]
  rw [gl_args] at hl
  exact hw s.heap [] _ hP va_S.rf hl
set_option maxHeartbeats 4000000 in
theorem RW_call (hC : Cx K cc own G) {H : Heap} {locs : List Loc} {la : Array Slot} {st0 rest : List Value} {r : Option Value} {m1 : Mem} {arr : Array Value} (hS : va_S (kA K) (ks K).heap H locs)
    (hr : va_Run (kp K) (kl K) (ke K) (kR K) (ks K) (km K) (ka K) (kb K) (kM K) (kc K) H locs (kz K) (kw K) 0 0 (F0 (km K) pc la st0) rest (QcX (kD K) (kI K) (kJ K) (kad K) (kn K) r m1 (va_A (cels K m) H.size) arr) (va_A (cels K m) H.size))
    (kk : ∀ (H1 : Heap) (locs1 : List Loc), va_P (kD K) vwCl (cels K m1) H1 → va_S (kA K) (ks K).heap H1 locs1 → RW K H1 locs1 (F0 (km K) (pc + 3) la (r.toList ++ rest))) : RW K H locs (F0 (km K) pc la st0) := by
  have hf : ∀ q, va_A (cels K m) H.size q → kA K q := by
    intro q h
    rcases h with ⟨k, e, h⟩ | h
    · exact (hC.2.2.2.2.2.2.2.1 m).2 k _ h
    · exact hC.2.2.2.2.2.2.2.2.1 q (Nat.le_trans hS.1 h)
  intro T hT X
  obtain ⟨v, st₀, t, T', L, h0, X', hL, e1, e2, ⟨hv, hp, hz, hk⟩, st⟩ := hr T hT X
  cases hv
  rw [h0] at hz hk
  obtain ⟨t2, a1, b1⟩ := kk T'.heap (locs ++ L) (by rw [e1]; exact hp)
    ⟨Nat.le_trans hS.1 (by rw [e1]; exact hz), fun q h1 h2 => by rw [e1, hk q (Nat.lt_of_lt_of_le h1 hS.1) (fun z => h2 (hf q z))]; exact hS.2.1 q h1 h2, fun q hq => by
      rcases List.mem_append.mp hq with h | h
      · exact hS.2.2 q h
      · exact hf _ (hL q h)⟩ T' rfl X'
  exact ⟨t2, st t2 a1, b1⟩
/-- a method that may be called: by an object of class C, or statically -/
def MFv (y : MethodName) (cc : ByteArray) (nL : Nat) (ret : Option FieldType) (C : String) (np : Nat) : Prop := Cond.instanceMethod y ∈ gdW ∧ Cond.selects C y y ∈ gdW ∧ Cond.initialized C ∈ gdW ∧ Cond.code y cc nL ret ∈ gdW ∧ (y.cls = C ∧ y.cls ≠ "java/lang/invoke/MethodHandle" ∧ y.cls ≠ "java/lang/invoke/VarHandle" ∧ (parseMethodDescriptor y.desc).map (fun d => d.parameters.length) = some np)
def MFs (y : MethodName) (cc : ByteArray) (nL : Nat) (ret : Option FieldType) (np : Nat) : Prop := Cond.static y ∈ gdW ∧ Cond.initialized y.cls ∈ gdW ∧ Cond.code y cc nL ret ∈ gdW ∧ (y.cls ≠ "java/lang/invoke/MethodHandle" ∧ y.cls ≠ "java/lang/invoke/VarHandle" ∧ (parseMethodDescriptor y.desc).map (fun d => d.parameters.length) = some np)
def rmOK (rm R : Room) (maxL : Nat) : Bool := Nat.beq rm.cells 0 && (Nat.beq rm.slots 0 && (Nat.ble (rm.frames + 1) R.frames && Nat.ble (8 + (maxL + 11) + rm.locals) R.locals))
theorem rmOK_1 {rm R : Room} {maxL : Nat} (h : rmOK rm R maxL = true) : rm.cells = 0 ∧ rm.slots = 0 ∧ rm.frames + 1 ≤ R.frames ∧ 8 + (maxL + 11) + rm.locals ≤ R.locals := by
  simp only [rmOK, Bool.and_eq_true] at h
  exact ⟨Nat.eq_of_beq_eq_true h.1, Nat.eq_of_beq_eq_true h.2.1, Nat.le_of_ble_eq_true h.2.2.1, Nat.le_of_ble_eq_true h.2.2.2⟩
theorem pcx_blind {D : va_G} {cI cJ : ClassId} {a : Nat → Nat} {n : Nat} {av : List Value} {m : Mem} {sz : Nat} : FrameBlind (PcX D cI cJ a n av m sz) := fun A U g mk q => by
  obtain ⟨q0, q1, qP, qK, qD, qN⟩ := q
  exact ⟨q0, q1, qP, va_K.moved (u := U) (U := U.calling g mk A) (Vm.Alike.refl U.vm) qK, qD, fun w hw => va_Nw.same (by have h2 : isNest w = true := (List.mem_filter.mp hw).2; cases w <;> first | rfl | (simp [isNest] at h2)) (rfl : U.vm = (U.calling g mk A).vm) (qN w hw)⟩
theorem cat_sum (a : Nat → Nat) (st : List Value) : ((st.map (gv a)).map fun v => v.category).sum = (st.map fun v => v.category).sum := by
  rw [List.map_map]
  congr 1
  apply List.map_congr_left
  intro v _
  exact gv_cat a v
set_option maxHeartbeats 4000000 in
theorem pcx_pre (hC : Cx K cc own G) {H : Heap} {locs : List Loc} {av : List Value} (hP : va_P (kD K) vwCl (cels K m) H) : ∀ U : State, U.heap = H → (ks K).WarmedH U.vm → PcX (kD K) (kI K) (kJ K) (kad K) (kn K) av m H.size (av.map (gv (kad K))).toArray U := fun U hU hW => ⟨rfl, by rw [hU], by rw [hU]; exact hP, va_K.moved hW.alike hC.2.2.2.2.2.2.1, (hC.2.2.2.2.2.2.2.1 m).weaken (fun _ _ _ _ => trivial), nsW_warm hW hC.2.2.2.2.2.1⟩
set_option maxHeartbeats 4000000 in
theorem R_callV (hC : Cx K cc own G) {y : MethodName} {bytes : ByteArray} {maxL : Nat} {ret : Option FieldType} {rm R : Room} {av rest : List Value} {r : Option Value} {m1 : Mem} {C : String} {T : u_T} {N ci index np : Nat} {fs : List (Option Nat)} (hR : kR K = R) (j : Nat) (hj : j < kn K) (hy : lay j = .inr (ci, fs)) (hc : vwCl[ci]? = some (C, T, N)) (hF : MFv y bytes maxL ret C np) (hl1 : Cond.methodLink own index y ∈ gdW) (hM : MX y bytes maxL ret rm (kn K) (.ref j :: av) m r m1) (hrm : rmOK rm R maxL = true) (hlen : av.length = np) (hst : st = av.reverse ++ .ref j :: rest) (hcat : (rest.map fun v => v.category).sum ≤ 8) (hdg : decode cc pc = .ok (.invokevirtual index, 3)) (hrr : r.toList.map (gv (kad K)) = r.toList) (kk : RX K (pc + 3) ls (r.toList ++ rest) m1) : RX K pc ls st m := by
  intro H locs la hP hS hl
  obtain ⟨h1, h2, h3, h4⟩ := rmOK_1 hrm
  obtain ⟨f1, f2, f3, f4, f5⟩ := hF
  have hts := hC.2.2.2.2.1
  have hG : GoodIn gdW (wsV own index C y (wsM y bytes maxL ret)) := by
    intro w hw
    rcases List.mem_append.mp hw with h | h
    · have h9 : w ∈ gdW := by
        simp only [List.mem_cons, List.mem_nil_iff, or_false] at h
        rcases h with rfl | rfl | rfl | rfl
        · exact hl1
        · exact f1
        · exact f2
        · exact f3
      exact ⟨h9, good_of_word (List.mem_filter.mp h9).2⟩
    · exact wsM_good f4 w h
  have cw := cwV (R := kR K) (s := ks K) (args := ka K) (mc := 0) (ms := 0) (rm := rm) np hts hG rfl h1 h2 f5 (by rw [hR]; exact ⟨h3, h4⟩)
  refine RW_call hC (m := m) (m1 := m1) (r := r) (arr := (Value.ref (kad K j) :: av.map (gv (kad K))).toArray) (rest := rest.map (gv (kad K))) hS ?_ (fun H1 locs1 hP1 hS1 => ?_)
  · refine va_runV (nL := kL K) (cc := cc) (Ts := gdW) (own := own) (As := av.map (gv (kad K))) (b := kad K j) ⟨hC.1, hC.2.1, hC.2.2.1, hC.2.2.2.1, hts⟩ (hM (kl K) (kD K) (kI K) (kJ K) (kad K) H.size) cw ⟨pcx_blind, ?_, pcx_pre hC (locs := locs) (av := .ref j :: av) hP⟩ rfl (by rw [List.length_map]; exact hlen) hl.1 ?_ ?_ hdg hC.2.2.2.2.2.2.2.2.2.1
    · exact va_recv hC.2.2.2.2.2.2.1 hP hc (q0 := j) (fs := cfv (kad K) (m.1 j) 0 fs) (by unfold cels; rw [cellsL_get hj, hy]; rfl)
    · show st.map (gv (kad K)) = _
      rw [hst, List.map_append, List.map_reverse]
      rfl
    · exact lv_room (by rw [cat_sum]; exact hcat)
  · have := kk H1 locs1 la hP1 hS1 hl
    rw [List.map_append, hrr] at this
    exact this
set_option maxHeartbeats 4000000 in
theorem R_callVN (hC : Cx K cc own G) {y : MethodName} {bytes : ByteArray} {maxL : Nat} {ret : Option FieldType} {rm R : Room} {av rest : List Value} {r : Option Value} {m1 : Mem} {C host : String} {T : u_T} {N ci index np : Nat} {fs : List (Option Nat)} (hR : kR K = R) (j : Nat) (hj : j < kn K) (hy : lay j = .inr (ci, fs)) (hc : vwCl[ci]? = some (C, T, N)) (hF : MFv y bytes maxL ret C np) (hl1 : Cond.methodLinkNest own index y host ∈ nsW) (hM : MX y bytes maxL ret rm (kn K) (.ref j :: av) m r m1) (hrm : rmOK rm R maxL = true) (hlen : av.length = np) (hst : st = av.reverse ++ .ref j :: rest) (hcat : (rest.map fun v => v.category).sum ≤ 8) (hdg : decode cc pc = .ok (.invokevirtual index, 3)) (hrr : r.toList.map (gv (kad K)) = r.toList) (kk : RX K (pc + 3) ls (r.toList ++ rest) m1) : RX K pc ls st m := by
  intro H locs la hP hS hl
  obtain ⟨h1, h2, h3, h4⟩ := rmOK_1 hrm
  obtain ⟨f1, f2, f3, f4, f5⟩ := hF
  have hts := hC.2.2.2.2.1
  have cw := va_cnB (R := kR K) (s := ks K) (args := ka K) (mc := 0) (ms := 0) (rm := rm) np hts (wsM_good f4) rfl h1 h2 (hC.2.2.2.2.2.1 _ hl1) (hts _ (f5.1.symm ▸ f3)) f5.2 (by rw [hR]; exact ⟨h3, h4⟩)
  refine RW_call hC (m := m) (m1 := m1) (r := r) (arr := (Value.ref (kad K j) :: av.map (gv (kad K))).toArray) (rest := rest.map (gv (kad K))) hS ?_ (fun H1 locs1 hP1 hS1 => ?_)
  · refine va_runVN (C := C) (nL := kL K) (cc := cc) (Ts := gdW) (own := own) (As := av.map (gv (kad K))) (b := kad K j) ⟨hC.1, hC.2.1, hC.2.2.1, hC.2.2.2.1, hts⟩ (hM (kl K) (kD K) (kI K) (kJ K) (kad K) H.size) ⟨cw, hts _ f1, hts _ f2⟩ ⟨pcx_blind, ?_, pcx_pre hC (locs := locs) (av := .ref j :: av) hP⟩ rfl (by rw [List.length_map]; exact hlen) hl.1 ?_ ?_ hdg hC.2.2.2.2.2.2.2.2.2.1
    · exact va_recv hC.2.2.2.2.2.2.1 hP hc (q0 := j) (fs := cfv (kad K) (m.1 j) 0 fs) (by unfold cels; rw [cellsL_get hj, hy]; rfl)
    · show st.map (gv (kad K)) = _
      rw [hst, List.map_append, List.map_reverse]
      rfl
    · exact lv_room (by rw [cat_sum]; exact hcat)
  · have := kk H1 locs1 la hP1 hS1 hl
    rw [List.map_append, hrr] at this
    exact this
set_option maxHeartbeats 4000000 in
theorem R_callS (hC : Cx K cc own G) {y : MethodName} {bytes : ByteArray} {maxL : Nat} {ret : Option FieldType} {rm R : Room} {av rest : List Value} {r : Option Value} {m1 : Mem} {index np : Nat} (hR : kR K = R) (hF : MFs y bytes maxL ret np) (hl1 : Cond.methodLink own index y ∈ gdW) (hM : MX y bytes maxL ret rm (kn K) av m r m1) (hrm : rmOK rm R maxL = true) (hlen : av.length = np) (hst : st = av.reverse ++ rest) (hcat : (rest.map fun v => v.category).sum ≤ 8) (hdg : decode cc pc = .ok (.invokestatic index, 3)) (hrr : r.toList.map (gv (kad K)) = r.toList) (kk : RX K (pc + 3) ls (r.toList ++ rest) m1) : RX K pc ls st m := by
  intro H locs la hP hS hl
  obtain ⟨h1, h2, h3, h4⟩ := rmOK_1 hrm
  obtain ⟨f1, f3, f4, f5⟩ := hF
  have hts := hC.2.2.2.2.1
  have hG : GoodIn gdW (va_wsS own index y (wsM y bytes maxL ret)) := by
    intro w hw
    rcases List.mem_append.mp hw with h | h
    · have h9 : w ∈ gdW := by
        simp only [List.mem_cons, List.mem_nil_iff, or_false] at h
        rcases h with rfl | rfl | rfl
        · exact hl1
        · exact f1
        · exact f3
      exact ⟨h9, good_of_word (List.mem_filter.mp h9).2⟩
    · exact wsM_good f4 w h
  have cw := va_cwS (R := kR K) (s := ks K) (args := ka K) (mc := 0) (ms := 0) (rm := rm) np hts hG rfl h1 h2 f5 (by rw [hR]; exact ⟨h3, h4⟩)
  refine RW_call hC (m := m) (m1 := m1) (r := r) (arr := (av.map (gv (kad K))).toArray) (rest := rest.map (gv (kad K))) hS ?_ (fun H1 locs1 hP1 hS1 => ?_)
  · refine va_runS (nL := kL K) (cc := cc) (Ts := gdW) (own := own) (As := av.map (gv (kad K))) ⟨hC.1, hC.2.1, hC.2.2.1, hC.2.2.2.1, hts⟩ (hM (kl K) (kD K) (kI K) (kJ K) (kad K) H.size) cw ⟨pcx_blind, pcx_pre hC (locs := locs) (av := av) hP⟩ rfl (by rw [List.length_map]; exact hlen) hl.1 ?_ ?_ hdg hC.2.2.2.2.2.2.2.2.2.1
    · show st.map (gv (kad K)) = _
      rw [hst, List.map_append, List.map_reverse]
    · exact lv_room (by rw [cat_sum]; exact hcat)
  · have := kk H1 locs1 la hP1 hS1 hl
    rw [List.map_append, hrr] at this
    exact this
set_option maxHeartbeats 4000000 in
theorem R_callSN (hC : Cx K cc own G) {y : MethodName} {bytes : ByteArray} {maxL : Nat} {ret : Option FieldType} {rm R : Room} {av rest : List Value} {r : Option Value} {m1 : Mem} {host : String} {index np : Nat} (hR : kR K = R) (hF : MFs y bytes maxL ret np) (hl1 : Cond.methodLinkNest own index y host ∈ nsW) (hM : MX y bytes maxL ret rm (kn K) av m r m1) (hrm : rmOK rm R maxL = true) (hlen : av.length = np) (hst : st = av.reverse ++ rest) (hcat : (rest.map fun v => v.category).sum ≤ 8) (hdg : decode cc pc = .ok (.invokestatic index, 3)) (hrr : r.toList.map (gv (kad K)) = r.toList) (kk : RX K (pc + 3) ls (r.toList ++ rest) m1) : RX K pc ls st m := by
  intro H locs la hP hS hl
  obtain ⟨h1, h2, h3, h4⟩ := rmOK_1 hrm
  obtain ⟨f1, f3, f4, f5⟩ := hF
  have hts := hC.2.2.2.2.1
  have cw := va_cnB (R := kR K) (s := ks K) (args := ka K) (mc := 0) (ms := 0) (rm := rm) np hts (wsM_good f4) rfl h1 h2 (hC.2.2.2.2.2.1 _ hl1) (hts _ f3) f5 (by rw [hR]; exact ⟨h3, h4⟩)
  refine RW_call hC (m := m) (m1 := m1) (r := r) (arr := (av.map (gv (kad K))).toArray) (rest := rest.map (gv (kad K))) hS ?_ (fun H1 locs1 hP1 hS1 => ?_)
  · refine va_runSN (nL := kL K) (cc := cc) (Ts := gdW) (own := own) (As := av.map (gv (kad K))) ⟨hC.1, hC.2.1, hC.2.2.1, hC.2.2.2.1, hts⟩ (hM (kl K) (kD K) (kI K) (kJ K) (kad K) H.size) ⟨cw, hts _ f1, trivial⟩ ⟨pcx_blind, pcx_pre hC (locs := locs) (av := av) hP⟩ rfl (by rw [List.length_map]; exact hlen) hl.1 ?_ ?_ hdg hC.2.2.2.2.2.2.2.2.2.1
    · show st.map (gv (kad K)) = _
      rw [hst, List.map_append, List.map_reverse]
    · exact lv_room (by rw [cat_sum]; exact hcat)
  · have := kk H1 locs1 la hP1 hS1 hl
    rw [List.map_append, hrr] at this
    exact this
theorem lk_out {d v : Int} : ∀ (ps : List (Int × Int)), (∀ p ∈ ps, ¬ v = p.1) → Op.lookupswitch.offset ps d v = d
  | [], _ => rfl
  | (a, o) :: r, h => by
    have h1 := h (a, o) List.mem_cons_self
    simp only [Op.lookupswitch.offset]
    rw [if_neg (fun e => h1 e.symm)]
    exact lk_out r (fun p hp => h p (List.mem_cons_of_mem _ hp))
/-- cells that the class has, with its object made; that both have -/
theorem jx {n N j : Nat} (h : N ≤ n) (hb : Nat.blt j N = true) : j < n := Nat.lt_of_lt_of_le (Nat.le_of_ble_eq_true hb) h
/-- the three villages -/
def isV (v : Nat) : Prop := v = 1 ∨ v = 8 ∨ v = 15
theorem layV_of {v : Nat} (h : isV v) : lay v = layV v := by rcases h with rfl | rfl | rfl <;> rfl
theorem layVa {v k : Nat} (h : isV v) (h1 : 1 ≤ k) (hk : k ≤ 6) : lay (v + k) = .inl (false, 10) := by
  have : k = 1 ∨ k = 2 ∨ k = 3 ∨ k = 4 ∨ k = 5 ∨ k = 6 := by omega
  rcases h with rfl | rfl | rfl <;> rcases this with rfl | rfl | rfl | rfl | rfl | rfl <;> rfl
theorem jv {n v k : Nat} (h : 43 ≤ n) (hv : isV v) (hk : Nat.ble k 6 = true) : v + k < n := by
  have := Nat.le_of_ble_eq_true hk
  rcases hv with rfl | rfl | rfl <;> omega
/-- loops -/
def iter {σ ρ : Type} : Nat → (σ → Option (σ ⊕ ρ)) → σ → Option ρ
  | 0, _, _ => none
  | n + 1, f, s => match f s with
    | none => none
    | some (.inl s') => iter n f s'
    | some (.inr r) => some r
def chk {α : Type} (c : Prop) [Decidable c] (k : Option α) : Option α := if c then k else none
theorem chk_some {α : Type} {c : Prop} [Decidable c] {k : Option α} {r : α} (h : chk c k = some r) : c ∧ k = some r := by
  unfold chk at h
  split at h
  · exact ⟨by assumption, h⟩
  · cases h
theorem chk_pos {α : Type} {c : Prop} [Decidable c] {k : Option α} (h : c) : chk c k = k := if_pos h
abbrev inb (i : Int32) (n : Nat) : Prop := 0 ≤ i.toInt ∧ i.toInt < n
theorem inb_vp {i : Int32} {n : Nat} (h : inb i n) : vp_in i n := vp_in_iff.mpr h
theorem bind_some {α β : Type} {x : Option α} {f : α → Option β} {r : β} (h : x.bind f = some r) : ∃ y, x = some y ∧ f y = some r := by
  cases x with
  | none => cases h
  | some y => exact ⟨y, rfl, h⟩
theorem ite_some {α : Type} {c : Prop} [Decidable c] {x y : Option α} {r : α} (h : (if c then x else y) = some r) : (c ∧ x = some r) ∨ (¬ c ∧ y = some r) := by
  split at h
  · exact Or.inl ⟨by assumption, h⟩
  · exact Or.inr ⟨by assumption, h⟩
end
end
section
/-! ===== small rows of the walks ===== -/
section
variable {K : KX} {cc : ByteArray} {own : String} {G : Option Value → Mem → Prop} {pc : Nat} {ls : List (Nat × Value)} {st : List Value} {m : Mem}
def lete {α β : Type} (x : α) (f : α → β) : β := f x
theorem lete_some {α β : Type} {x : α} {f : α → Option β} {r : β} (h : lete x f = some r) : ∃ y, x = y ∧ f y = some r := ⟨x, rfl, h⟩
theorem R_top {x y : Int32} (h : x = y) (kk : RX K pc ls (.int y :: st) m) : RX K pc ls (.int x :: st) m := h ▸ kk
theorem R_topL {x y : Int64} (h : x = y) (kk : RX K pc ls (.long y :: st) m) : RX K pc ls (.long x :: st) m := h ▸ kk
theorem R_mem {m' : Mem} (h : m = m') (kk : RX K pc ls st m') : RX K pc ls st m := h ▸ kk
theorem R_ifB_eq (hC : Cx K cc own G) {b : Bool} {off : Int} {tgt : Nat} (hdg : decode cc pc = .ok (.ifCond .eq off, 3)) (ht : (pc : Int) + off = (tgt : Int)) (kt : ¬ b = true → RX K tgt ls st m) (kf : b = true → RX K (pc + 3) ls st m) : RX K pc ls (.int (b2i b) :: st) m := R_if_eq hC hdg ht (fun c => kt (fun h => by subst h; exact absurd c (by decide))) (fun c => kf (by cases b with | true => rfl | false => exact absurd rfl c))
theorem R_ifB_ne (hC : Cx K cc own G) {b : Bool} {off : Int} {tgt : Nat} (hdg : decode cc pc = .ok (.ifCond .ne off, 3)) (ht : (pc : Int) + off = (tgt : Int)) (kt : b = true → RX K tgt ls st m) (kf : ¬ b = true → RX K (pc + 3) ls st m) : RX K pc ls (.int (b2i b) :: st) m := R_if_ne hC hdg ht (fun c => kt (by cases b with | true => rfl | false => exact absurd rfl c)) (fun c => kf (fun h => by subst h; exact absurd c (by decide)))
theorem iter_walk {σ ρ : Type} {f : σ → Option (σ ⊕ ρ)} {P : σ → Prop} {Qe : ρ → Prop} (hb : ∀ s o, f s = some o → (∀ s', o = .inl s' → P s') → (∀ e, o = .inr e → Qe e) → P s) : ∀ (n : Nat) (s : σ) (e : ρ), iter n f s = some e → Qe e → P s
  | 0, _, _, h, _ => by cases h
  | n + 1, s, e, h, hQ => by
    rw [iter] at h
    cases hf : f s with
    | none => rw [hf] at h; cases h
    | some o =>
      rw [hf] at h
      refine hb s o hf (fun s' e1 => ?_) (fun e' e1 => ?_)
      · subst e1
        exact iter_walk hb n s' e h hQ
      · subst e1
        have : e' = e := Option.some.inj h
        rw [this]; exact hQ
theorem iv {x : Int32} {n : Int} {c : Int32} (h : Int32.ofInt n = c) : x + Int32.ofInt n = x + c := h ▸ rfl
theorem nb1 (b : Bool) : narrow .boolean (.int (b2i b)) = .int (b2i b) := by cases b <;> rfl
theorem nb2 (b : Bool) : fits .boolean (.int (b2i b)) = true := by cases b <;> rfl
theorem isv1 : isV 1 := Or.inl rfl
theorem isv8 : isV 8 := Or.inr (Or.inl rfl)
theorem isv15 : isV 15 := Or.inr (Or.inr rfl)
theorem jv0 {n v : Nat} (h : 43 ≤ n) (hv : isV v) : v < n := jv (k := 0) h hv rfl
def isS (j : Nat) : Prop := j = 25 ∨ j = 32
theorem js {n j : Nat} (h : 43 ≤ n) (hj : isS j) : j < n := by rcases hj with rfl | rfl <;> omega
theorem lyS {j : Nat} (hj : isS j) : lay j = .inl (false, 1024) := by rcases hj with rfl | rfl <;> rfl
def isP (j : Nat) : Prop := 45 ≤ j ∧ j ≤ 51
theorem jp {n j : Nat} (h : 64 ≤ n) (hj : isP j) : j < n := by have := hj.2; omega
theorem lyP {j : Nat} (hj : isP j) : lay j = .inl (false, 11) := by
  have : j = 45 ∨ j = 46 ∨ j = 47 ∨ j = 48 ∨ j = 49 ∨ j = 50 ∨ j = 51 := by have := hj.1; have := hj.2; omega
  rcases this with rfl | rfl | rfl | rfl | rfl | rfl | rfl <;> rfl
theorem lva1 {v : Nat} (h : isV v) : lay (v + 1) = .inl (false, 10) := layVa h (by decide) (by decide)
theorem lva2 {v : Nat} (h : isV v) : lay (v + 2) = .inl (false, 10) := layVa h (by decide) (by decide)
theorem lva3 {v : Nat} (h : isV v) : lay (v + 3) = .inl (false, 10) := layVa h (by decide) (by decide)
theorem lva4 {v : Nat} (h : isV v) : lay (v + 4) = .inl (false, 10) := layVa h (by decide) (by decide)
theorem lva5 {v : Nat} (h : isV v) : lay (v + 5) = .inl (false, 10) := layVa h (by decide) (by decide)
theorem lva6 {v : Nat} (h : isV v) : lay (v + 6) = .inl (false, 10) := layVa h (by decide) (by decide)
theorem ly0 : lay 0 = .inr (8, [some 1, some 8, some 15, none, some 22, some 24, some 26, some 30, some 31, some 35, some 37, some 42]) := rfl
theorem ly1 : lay 1 = .inr (6, [none, none, none, none, some 2, some 3, some 4, some 5, some 6, some 7]) := rfl
theorem ly2 : lay 2 = .inl (false, 10) := rfl
theorem ly3 : lay 3 = .inl (false, 10) := rfl
theorem ly4 : lay 4 = .inl (false, 10) := rfl
theorem ly5 : lay 5 = .inl (false, 10) := rfl
theorem ly6 : lay 6 = .inl (false, 10) := rfl
theorem ly7 : lay 7 = .inl (false, 10) := rfl
theorem ly8 : lay 8 = .inr (6, [none, none, none, none, some 9, some 10, some 11, some 12, some 13, some 14]) := rfl
theorem ly9 : lay 9 = .inl (false, 10) := rfl
theorem ly10 : lay 10 = .inl (false, 10) := rfl
theorem ly11 : lay 11 = .inl (false, 10) := rfl
theorem ly12 : lay 12 = .inl (false, 10) := rfl
theorem ly13 : lay 13 = .inl (false, 10) := rfl
theorem ly14 : lay 14 = .inl (false, 10) := rfl
theorem ly15 : lay 15 = .inr (6, [none, none, none, none, some 16, some 17, some 18, some 19, some 20, some 21]) := rfl
theorem ly16 : lay 16 = .inl (false, 10) := rfl
theorem ly17 : lay 17 = .inl (false, 10) := rfl
theorem ly18 : lay 18 = .inl (false, 10) := rfl
theorem ly19 : lay 19 = .inl (false, 10) := rfl
theorem ly20 : lay 20 = .inl (false, 10) := rfl
theorem ly21 : lay 21 = .inl (false, 10) := rfl
theorem ly22 : lay 22 = .inr (3, [some 23, none]) := rfl
theorem ly23 : lay 23 = .inl (false, 72) := rfl
theorem ly24 : lay 24 = .inr (2, [some 1, some 25]) := rfl
theorem ly25 : lay 25 = .inl (false, 1024) := rfl
theorem ly26 : lay 26 = .inr (7, [some 1, some 24, none, some 27, some 28, some 29, none]) := rfl
theorem ly27 : lay 27 = .inl (false, 252) := rfl
theorem ly28 : lay 28 = .inl (false, 252) := rfl
theorem ly29 : lay 29 = .inl (false, 252) := rfl
theorem ly30 : lay 30 = .inr (1, [some 1, some 24]) := rfl
theorem ly31 : lay 31 = .inr (4, [none, some 32, some 33, some 34]) := rfl
theorem ly32 : lay 32 = .inl (false, 1024) := rfl
theorem ly33 : lay 33 = .inl (false, 11) := rfl
theorem ly34 : lay 34 = .inl (false, 11) := rfl
theorem ly35 : lay 35 = .inr (5, [some 1, some 24, some 36, none]) := rfl
theorem ly36 : lay 36 = .inl (false, 10) := rfl
theorem ly37 : lay 37 = .inr (0, [some 1, some 26, some 35, none, some 38, some 39, some 40, some 41]) := rfl
theorem ly38 : lay 38 = .inl (false, 7) := rfl
theorem ly39 : lay 39 = .inl (false, 7) := rfl
theorem ly40 : lay 40 = .inl (false, 252) := rfl
theorem ly41 : lay 41 = .inl (false, 252) := rfl
theorem ly42 : lay 42 = .inl (false, 7) := rfl
theorem ly43 : lay 43 = .inr (9, [some 44, some 45, some 46, some 47, some 48, some 49, some 50, some 51, none, none, some 52, some 53, some 54, some 55, none, none, none, some 56, none, none, none, some 57, some 58, some 59, none, some 60, some 61, some 62, none, none, none, none, none, some 63, none]) := rfl
theorem ly44 : lay 44 = .inl (false, 7) := rfl
theorem ly45 : lay 45 = .inl (false, 11) := rfl
theorem ly46 : lay 46 = .inl (false, 11) := rfl
theorem ly47 : lay 47 = .inl (false, 11) := rfl
theorem ly48 : lay 48 = .inl (false, 11) := rfl
theorem ly49 : lay 49 = .inl (false, 11) := rfl
theorem ly50 : lay 50 = .inl (false, 11) := rfl
theorem ly51 : lay 51 = .inl (false, 11) := rfl
theorem ly52 : lay 52 = .inl (false, 72) := rfl
theorem ly53 : lay 53 = .inl (false, 36) := rfl
theorem ly54 : lay 54 = .inl (false, 36) := rfl
theorem ly55 : lay 55 = .inl (false, 216) := rfl
theorem ly56 : lay 56 = .inl (false, 200) := rfl
theorem ly57 : lay 57 = .inl (false, 7) := rfl
theorem ly58 : lay 58 = .inl (false, 1024) := rfl
theorem ly59 : lay 59 = .inl (true, 1024) := rfl
theorem ly60 : lay 60 = .inl (false, 10) := rfl
theorem ly61 : lay 61 = .inl (false, 10) := rfl
theorem ly62 : lay 62 = .inl (false, 130) := rfl
theorem ly63 : lay 63 = .inl (false, 10) := rfl
theorem ki_m1 : Int32.ofInt (-1) = (-1) := by decide
theorem ki_0 : Int32.ofInt 0 = 0 := by decide
theorem ki_1 : Int32.ofInt 1 = 1 := by decide
theorem ki_2 : Int32.ofInt 2 = 2 := by decide
theorem ki_3 : Int32.ofInt 3 = 3 := by decide
theorem ki_4 : Int32.ofInt 4 = 4 := by decide
theorem ki_5 : Int32.ofInt 5 = 5 := by decide
theorem kb_m9 : (Int8.ofInt (-9)).toInt32 = (-9) := by decide
theorem kb_m6 : (Int8.ofInt (-6)).toInt32 = (-6) := by decide
theorem kb_m4 : (Int8.ofInt (-4)).toInt32 = (-4) := by decide
theorem kb_m3 : (Int8.ofInt (-3)).toInt32 = (-3) := by decide
theorem kb_m2 : (Int8.ofInt (-2)).toInt32 = (-2) := by decide
theorem kb_6 : (Int8.ofInt 6).toInt32 = 6 := by decide
theorem kb_7 : (Int8.ofInt 7).toInt32 = 7 := by decide
theorem kb_8 : (Int8.ofInt 8).toInt32 = 8 := by decide
theorem kb_9 : (Int8.ofInt 9).toInt32 = 9 := by decide
theorem kb_10 : (Int8.ofInt 10).toInt32 = 10 := by decide
theorem kb_11 : (Int8.ofInt 11).toInt32 = 11 := by decide
theorem kb_13 : (Int8.ofInt 13).toInt32 = 13 := by decide
theorem kb_16 : (Int8.ofInt 16).toInt32 = 16 := by decide
theorem kb_17 : (Int8.ofInt 17).toInt32 = 17 := by decide
theorem kb_20 : (Int8.ofInt 20).toInt32 = 20 := by decide
theorem kb_21 : (Int8.ofInt 21).toInt32 = 21 := by decide
theorem kb_22 : (Int8.ofInt 22).toInt32 = 22 := by decide
theorem kb_30 : (Int8.ofInt 30).toInt32 = 30 := by decide
theorem kb_31 : (Int8.ofInt 31).toInt32 = 31 := by decide
theorem kb_40 : (Int8.ofInt 40).toInt32 = 40 := by decide
theorem kb_44 : (Int8.ofInt 44).toInt32 = 44 := by decide
theorem kb_48 : (Int8.ofInt 48).toInt32 = 48 := by decide
theorem kb_57 : (Int8.ofInt 57).toInt32 = 57 := by decide
theorem kb_59 : (Int8.ofInt 59).toInt32 = 59 := by decide
theorem kb_63 : (Int8.ofInt 63).toInt32 = 63 := by decide
theorem kb_72 : (Int8.ofInt 72).toInt32 = 72 := by decide
theorem kb_99 : (Int8.ofInt 99).toInt32 = 99 := by decide
theorem kb_100 : (Int8.ofInt 100).toInt32 = 100 := by decide
theorem kb_102 : (Int8.ofInt 102).toInt32 = 102 := by decide
theorem kb_104 : (Int8.ofInt 104).toInt32 = 104 := by decide
theorem kb_107 : (Int8.ofInt 107).toInt32 = 107 := by decide
theorem kb_108 : (Int8.ofInt 108).toInt32 = 108 := by decide
theorem kb_120 : (Int8.ofInt 120).toInt32 = 120 := by decide
theorem ks_m2000 : (Int16.ofInt (-2000)).toInt32 = (-2000) := by decide
theorem ks_m1000 : (Int16.ofInt (-1000)).toInt32 = (-1000) := by decide
theorem ks_200 : (Int16.ofInt 200).toInt32 = 200 := by decide
theorem ks_252 : (Int16.ofInt 252).toInt32 = 252 := by decide
theorem ks_255 : (Int16.ofInt 255).toInt32 = 255 := by decide
theorem ks_1024 : (Int16.ofInt 1024).toInt32 = 1024 := by decide
theorem ks_12345 : (Int16.ofInt 12345).toInt32 = 12345 := by decide
theorem kl_0 : Int64.ofNat ((0 : Fin 2) : Nat) = 0 := by decide
theorem kl_1 : Int64.ofNat ((1 : Fin 2) : Nat) = 1 := by decide
end
end
section
/-! ===== the words that the walks use ===== -/
theorem wc_J6_265 : Cond.constant RJ6 265 1431655765 ∈ gdW := gdW_at 583 (by decide +kernel) rfl
theorem wc_J6_266 : Cond.constant RJ6 266 858993459 ∈ gdW := gdW_at 584 (by decide +kernel) rfl
theorem wc_J6_267 : Cond.constant RJ6 267 252645135 ∈ gdW := gdW_at 585 (by decide +kernel) rfl
theorem wc_X0_73 : Cond.constant RX0 73 1103515245 ∈ gdW := gdW_at 771 (by decide +kernel) rfl
theorem wc_X0_74 : Cond.constant RX0 74 2147483647 ∈ gdW := gdW_at 772 (by decide +kernel) rfl
theorem wc_X0_75 : Cond.constant RX0 75 65536 ∈ gdW := gdW_at 773 (by decide +kernel) rfl
theorem wc_X1_67 : Cond.constantLong RX1 67 100 ∈ gdW := gdW_at 696 (by decide +kernel) rfl
theorem wc_X2_50 : Cond.constant RX2 50 2097152 ∈ gdW := gdW_at 242 (by decide +kernel) rfl
theorem wc_X2_59 : Cond.constant RX2 59 4194304 ∈ gdW := gdW_at 249 (by decide +kernel) rfl
theorem wc_X8_293 : Cond.constantLong RX8 293 4000000000000000000 ∈ gdW := gdW_at 513 (by decide +kernel) rfl
theorem wc_X9_75 : Cond.constantLong RX9 75 4000000000000000000 ∈ gdW := gdW_at 1143 (by decide +kernel) rfl
theorem wc_X9_214 : Cond.constantLong RX9 214 131071 ∈ gdW := gdW_at 1165 (by decide +kernel) rfl
theorem wc_X9_245 : Cond.constantLong RX9 245 100 ∈ gdW := gdW_at 1241 (by decide +kernel) rfl
theorem wc_X9_269 : Cond.constant RX9 269 1103515245 ∈ gdW := gdW_at 1281 (by decide +kernel) rfl
theorem wc_X9_270 : Cond.constant RX9 270 2147483647 ∈ gdW := gdW_at 1282 (by decide +kernel) rfl
theorem wc_X9_271 : Cond.constant RX9 271 65536 ∈ gdW := gdW_at 1283 (by decide +kernel) rfl
theorem inX0 : ∀ w ∈ wsX00, w ∈ gdW := fun w hw => (fun h : w ∈ lw_tbl ∧ goodWord w = true => gdW_in h.1 h.2) ((by decide +kernel : ∀ w ∈ wsX00, w ∈ lw_tbl ∧ goodWord w = true) w hw)
theorem inX1 : ∀ w ∈ wsX10, w ∈ gdW := fun w hw => (fun h : w ∈ lw_tbl ∧ goodWord w = true => gdW_in h.1 h.2) ((by decide +kernel : ∀ w ∈ wsX10, w ∈ lw_tbl ∧ goodWord w = true) w hw)
theorem inX2 : ∀ w ∈ wsX20, w ∈ gdW := fun w hw => (fun h : w ∈ lw_tbl ∧ goodWord w = true => gdW_in h.1 h.2) ((by decide +kernel : ∀ w ∈ wsX20, w ∈ lw_tbl ∧ goodWord w = true) w hw)
theorem inX3 : ∀ w ∈ wsX30, w ∈ gdW := fun w hw => (fun h : w ∈ lw_tbl ∧ goodWord w = true => gdW_in h.1 h.2) ((by decide +kernel : ∀ w ∈ wsX30, w ∈ lw_tbl ∧ goodWord w = true) w hw)
theorem inX4 : ∀ w ∈ wsX40, w ∈ gdW := fun w hw => (fun h : w ∈ lw_tbl ∧ goodWord w = true => gdW_in h.1 h.2) ((by decide +kernel : ∀ w ∈ wsX40, w ∈ lw_tbl ∧ goodWord w = true) w hw)
theorem inX5 : ∀ w ∈ wsX50, w ∈ gdW := fun w hw => (fun h : w ∈ lw_tbl ∧ goodWord w = true => gdW_in h.1 h.2) ((by decide +kernel : ∀ w ∈ wsX50, w ∈ lw_tbl ∧ goodWord w = true) w hw)
theorem inX6 : ∀ w ∈ wsX60, w ∈ gdW := fun w hw => (fun h : w ∈ lw_tbl ∧ goodWord w = true => gdW_in h.1 h.2) ((by decide +kernel : ∀ w ∈ wsX60, w ∈ lw_tbl ∧ goodWord w = true) w hw)
theorem inX7 : ∀ w ∈ wsX70, w ∈ gdW := fun w hw => (fun h : w ∈ lw_tbl ∧ goodWord w = true => gdW_in h.1 h.2) ((by decide +kernel : ∀ w ∈ wsX70, w ∈ lw_tbl ∧ goodWord w = true) w hw)
theorem inX8 : ∀ w ∈ wsX80, w ∈ gdW := fun w hw => (fun h : w ∈ lw_tbl ∧ goodWord w = true => gdW_in h.1 h.2) ((by decide +kernel : ∀ w ∈ wsX80, w ∈ lw_tbl ∧ goodWord w = true) w hw)
theorem inX9 : ∀ w ∈ wsX90, w ∈ gdW := fun w hw => (fun h : w ∈ lw_tbl ∧ goodWord w = true => gdW_in h.1 h.2) ((by decide +kernel : ∀ w ∈ wsX90, w ∈ lw_tbl ∧ goodWord w = true) w hw)
theorem wf_X0_9 : Cond.fieldLink RX0 9 "HangsTogether$Drawers" "village" "LHangsTogether$Village;" ∈ gdW := gdW_at 201 (by decide +kernel) rfl
theorem wf_X0_15 : Cond.fieldLink RX0 15 "HangsTogether$Drawers" "ways" "LHangsTogether$Ways;" ∈ gdW := gdW_at 202 (by decide +kernel) rfl
theorem wf_X0_19 : Cond.fieldLink RX0 19 "HangsTogether$Drawers" "told" "LHangsTogether$Row;" ∈ gdW := gdW_at 203 (by decide +kernel) rfl
theorem wf_X0_23 : Cond.fieldLink RX0 23 "HangsTogether$Drawers" "seed" "I" ∈ gdW := gdW_at 204 (by decide +kernel) rfl
theorem wf_X0_27 : Cond.fieldLink RX0 27 "HangsTogether$Drawers" "lanesOn" "[I" ∈ gdW := gdW_at 205 (by decide +kernel) rfl
theorem wf_X0_31 : Cond.fieldLink RX0 31 "HangsTogether$Drawers" "weightOn" "[I" ∈ gdW := gdW_at 206 (by decide +kernel) rfl
theorem wf_X0_34 : Cond.fieldLink RX0 34 "HangsTogether$Drawers" "pool" "[I" ∈ gdW := gdW_at 207 (by decide +kernel) rfl
theorem wf_X0_37 : Cond.fieldLink RX0 37 "HangsTogether$Drawers" "poolWorth" "[I" ∈ gdW := gdW_at 208 (by decide +kernel) rfl
theorem wf_X0_59 : Cond.fieldLinkNest RX0 59 "HangsTogether$Ways" "size" "I" "HangsTogether" ∈ nsW := nsW_at 122 (by decide +kernel) rfl
theorem wf_X0_76 : Cond.fieldLinkNest RX0 76 "HangsTogether$Village" "lanes" "I" "HangsTogether" ∈ nsW := nsW_at 33 (by decide +kernel) rfl
theorem wf_X0_85 : Cond.fieldLinkNest RX0 85 "HangsTogether$Village" "weight" "[I" "HangsTogether" ∈ nsW := nsW_at 58 (by decide +kernel) rfl
theorem wf_X0_88 : Cond.fieldLinkNest RX0 88 "HangsTogether$Village" "barred" "I" "HangsTogether" ∈ nsW := nsW_at 41 (by decide +kernel) rfl
theorem wf_X0_91 : Cond.fieldLinkNest RX0 91 "HangsTogether$Village" "from" "[I" "HangsTogether" ∈ nsW := nsW_at 50 (by decide +kernel) rfl
theorem wf_X0_94 : Cond.fieldLinkNest RX0 94 "HangsTogether$Village" "to" "[I" "HangsTogether" ∈ nsW := nsW_at 54 (by decide +kernel) rfl
theorem wf_X0_97 : Cond.fieldLinkNest RX0 97 "HangsTogether$Village" "kind" "[I" "HangsTogether" ∈ nsW := nsW_at 45 (by decide +kernel) rfl
theorem wf_X1_9 : Cond.fieldLink RX1 9 "HangsTogether$Forests" "village" "LHangsTogether$Village;" ∈ gdW := gdW_at 149 (by decide +kernel) rfl
theorem wf_X1_15 : Cond.fieldLink RX1 15 "HangsTogether$Forests" "joins" "LHangsTogether$Joins;" ∈ gdW := gdW_at 150 (by decide +kernel) rfl
theorem wf_X1_54 : Cond.fieldLinkNest RX1 54 "HangsTogether$Village" "barred" "I" "HangsTogether" ∈ nsW := nsW_at 40 (by decide +kernel) rfl
theorem wf_X1_61 : Cond.fieldLinkNest RX1 61 "HangsTogether$Village" "must" "I" "HangsTogether" ∈ nsW := nsW_at 37 (by decide +kernel) rfl
theorem wf_X1_76 : Cond.fieldLinkNest RX1 76 "HangsTogether$Village" "lanes" "I" "HangsTogether" ∈ nsW := nsW_at 34 (by decide +kernel) rfl
theorem wf_X1_79 : Cond.fieldLinkNest RX1 79 "HangsTogether$Village" "drift" "[I" "HangsTogether" ∈ nsW := nsW_at 63 (by decide +kernel) rfl
theorem wf_X2_9 : Cond.fieldLink RX2 9 "HangsTogether$Joins" "village" "LHangsTogether$Village;" ∈ gdW := gdW_at 106 (by decide +kernel) rfl
theorem wf_X2_15 : Cond.fieldLink RX2 15 "HangsTogether$Joins" "state" "[I" ∈ gdW := gdW_at 107 (by decide +kernel) rfl
theorem wf_X2_19 : Cond.fieldLinkNest RX2 19 "HangsTogether$Village" "houses" "I" "HangsTogether" ∈ nsW := nsW_at 28 (by decide +kernel) rfl
theorem wf_X2_29 : Cond.fieldLinkNest RX2 29 "HangsTogether$Village" "lanes" "I" "HangsTogether" ∈ nsW := nsW_at 31 (by decide +kernel) rfl
theorem wf_X2_32 : Cond.fieldLinkNest RX2 32 "HangsTogether$Village" "from" "[I" "HangsTogether" ∈ nsW := nsW_at 48 (by decide +kernel) rfl
theorem wf_X2_35 : Cond.fieldLinkNest RX2 35 "HangsTogether$Village" "to" "[I" "HangsTogether" ∈ nsW := nsW_at 52 (by decide +kernel) rfl
theorem wf_X3_9 : Cond.fieldLink RX3 9 "HangsTogether$Letters" "letter" "[I" ∈ gdW := gdW_at 92 (by decide +kernel) rfl
theorem wf_X3_15 : Cond.fieldLink RX3 15 "HangsTogether$Letters" "size" "I" ∈ gdW := gdW_at 93 (by decide +kernel) rfl
theorem wf_X4_9 : Cond.fieldLink RX4 9 "HangsTogether$Plans" "houses" "I" ∈ gdW := gdW_at 162 (by decide +kernel) rfl
theorem wf_X4_15 : Cond.fieldLink RX4 15 "HangsTogether$Plans" "ways" "[I" ∈ gdW := gdW_at 163 (by decide +kernel) rfl
theorem wf_X4_19 : Cond.fieldLink RX4 19 "HangsTogether$Plans" "most" "[I" ∈ gdW := gdW_at 164 (by decide +kernel) rfl
theorem wf_X4_22 : Cond.fieldLink RX4 22 "HangsTogether$Plans" "first" "[I" ∈ gdW := gdW_at 165 (by decide +kernel) rfl
theorem wf_X5_9 : Cond.fieldLink RX5 9 "HangsTogether$Row" "village" "LHangsTogether$Village;" ∈ gdW := gdW_at 181 (by decide +kernel) rfl
theorem wf_X5_15 : Cond.fieldLink RX5 15 "HangsTogether$Row" "joins" "LHangsTogether$Joins;" ∈ gdW := gdW_at 182 (by decide +kernel) rfl
theorem wf_X5_19 : Cond.fieldLink RX5 19 "HangsTogether$Row" "told" "[I" ∈ gdW := gdW_at 183 (by decide +kernel) rfl
theorem wf_X5_23 : Cond.fieldLink RX5 23 "HangsTogether$Row" "size" "I" ∈ gdW := gdW_at 184 (by decide +kernel) rfl
theorem wf_X6_9 : Cond.fieldLink RX6 9 "HangsTogether$Village" "houses" "I" ∈ gdW := gdW_at 27 (by decide +kernel) rfl
theorem wf_X6_15 : Cond.fieldLink RX6 15 "HangsTogether$Village" "lanes" "I" ∈ gdW := gdW_at 30 (by decide +kernel) rfl
theorem wf_X6_18 : Cond.fieldLink RX6 18 "HangsTogether$Village" "must" "I" ∈ gdW := gdW_at 36 (by decide +kernel) rfl
theorem wf_X6_21 : Cond.fieldLink RX6 21 "HangsTogether$Village" "barred" "I" ∈ gdW := gdW_at 39 (by decide +kernel) rfl
theorem wf_X6_24 : Cond.fieldLink RX6 24 "HangsTogether$Village" "kind" "[I" ∈ gdW := gdW_at 43 (by decide +kernel) rfl
theorem wf_X6_28 : Cond.fieldLink RX6 28 "HangsTogether$Village" "from" "[I" ∈ gdW := gdW_at 47 (by decide +kernel) rfl
theorem wf_X6_31 : Cond.fieldLink RX6 31 "HangsTogether$Village" "to" "[I" ∈ gdW := gdW_at 51 (by decide +kernel) rfl
theorem wf_X6_34 : Cond.fieldLink RX6 34 "HangsTogether$Village" "weight" "[I" ∈ gdW := gdW_at 56 (by decide +kernel) rfl
theorem wf_X6_37 : Cond.fieldLink RX6 37 "HangsTogether$Village" "cost" "[I" ∈ gdW := gdW_at 59 (by decide +kernel) rfl
theorem wf_X6_40 : Cond.fieldLink RX6 40 "HangsTogether$Village" "drift" "[I" ∈ gdW := gdW_at 61 (by decide +kernel) rfl
theorem wf_X7_9 : Cond.fieldLink RX7 9 "HangsTogether$Ways" "village" "LHangsTogether$Village;" ∈ gdW := gdW_at 119 (by decide +kernel) rfl
theorem wf_X7_15 : Cond.fieldLink RX7 15 "HangsTogether$Ways" "joins" "LHangsTogether$Joins;" ∈ gdW := gdW_at 120 (by decide +kernel) rfl
theorem wf_X7_19 : Cond.fieldLink RX7 19 "HangsTogether$Ways" "size" "I" ∈ gdW := gdW_at 121 (by decide +kernel) rfl
theorem wf_X7_23 : Cond.fieldLink RX7 23 "HangsTogether$Ways" "bits" "[I" ∈ gdW := gdW_at 124 (by decide +kernel) rfl
theorem wf_X7_27 : Cond.fieldLink RX7 27 "HangsTogether$Ways" "worth" "[I" ∈ gdW := gdW_at 125 (by decide +kernel) rfl
theorem wf_X7_30 : Cond.fieldLink RX7 30 "HangsTogether$Ways" "keys" "[I" ∈ gdW := gdW_at 126 (by decide +kernel) rfl
theorem wf_X7_33 : Cond.fieldLink RX7 33 "HangsTogether$Ways" "sorted" "Z" ∈ gdW := gdW_at 127 (by decide +kernel) rfl
theorem wf_X7_81 : Cond.fieldLinkNest RX7 81 "HangsTogether$Village" "lanes" "I" "HangsTogether" ∈ nsW := nsW_at 35 (by decide +kernel) rfl
theorem wf_X7_84 : Cond.fieldLinkNest RX7 84 "HangsTogether$Village" "kind" "[I" "HangsTogether" ∈ nsW := nsW_at 46 (by decide +kernel) rfl
theorem wf_X7_87 : Cond.fieldLinkNest RX7 87 "HangsTogether$Village" "to" "[I" "HangsTogether" ∈ nsW := nsW_at 55 (by decide +kernel) rfl
theorem wf_X8_10 : Cond.fieldLink RX8 10 "HangsTogether" "now" "LHangsTogether$Village;" ∈ gdW := gdW_at 277 (by decide +kernel) rfl
theorem wf_X8_16 : Cond.fieldLink RX8 16 "HangsTogether" "draft" "LHangsTogether$Village;" ∈ gdW := gdW_at 278 (by decide +kernel) rfl
theorem wf_X8_19 : Cond.fieldLink RX8 19 "HangsTogether" "taken" "LHangsTogether$Village;" ∈ gdW := gdW_at 279 (by decide +kernel) rfl
theorem wf_X8_22 : Cond.fieldLink RX8 22 "HangsTogether" "imageTaken" "Z" ∈ gdW := gdW_at 280 (by decide +kernel) rfl
theorem wf_X8_29 : Cond.fieldLink RX8 29 "HangsTogether" "letters" "LHangsTogether$Letters;" ∈ gdW := gdW_at 281 (by decide +kernel) rfl
theorem wf_X8_38 : Cond.fieldLink RX8 38 "HangsTogether" "joins" "LHangsTogether$Joins;" ∈ gdW := gdW_at 282 (by decide +kernel) rfl
theorem wf_X8_47 : Cond.fieldLink RX8 47 "HangsTogether" "ways" "LHangsTogether$Ways;" ∈ gdW := gdW_at 283 (by decide +kernel) rfl
theorem wf_X8_54 : Cond.fieldLink RX8 54 "HangsTogether" "woods" "LHangsTogether$Forests;" ∈ gdW := gdW_at 284 (by decide +kernel) rfl
theorem wf_X8_61 : Cond.fieldLink RX8 61 "HangsTogether" "plans" "LHangsTogether$Plans;" ∈ gdW := gdW_at 285 (by decide +kernel) rfl
theorem wf_X8_68 : Cond.fieldLink RX8 68 "HangsTogether" "toldRow" "LHangsTogether$Row;" ∈ gdW := gdW_at 286 (by decide +kernel) rfl
theorem wf_X8_77 : Cond.fieldLink RX8 77 "HangsTogether" "drawers" "LHangsTogether$Drawers;" ∈ gdW := gdW_at 287 (by decide +kernel) rfl
theorem wf_X8_81 : Cond.fieldLink RX8 81 "HangsTogether" "refusals" "[I" ∈ gdW := gdW_at 288 (by decide +kernel) rfl
theorem wf_X8_119 : Cond.fieldLinkNest RX8 119 "HangsTogether$Village" "kind" "[I" "HangsTogether" ∈ nsW := nsW_at 44 (by decide +kernel) rfl
theorem wf_X8_122 : Cond.fieldLinkNest RX8 122 "HangsTogether$Village" "from" "[I" "HangsTogether" ∈ nsW := nsW_at 49 (by decide +kernel) rfl
theorem wf_X8_125 : Cond.fieldLinkNest RX8 125 "HangsTogether$Village" "to" "[I" "HangsTogether" ∈ nsW := nsW_at 53 (by decide +kernel) rfl
theorem wf_X8_128 : Cond.fieldLinkNest RX8 128 "HangsTogether$Village" "weight" "[I" "HangsTogether" ∈ nsW := nsW_at 57 (by decide +kernel) rfl
theorem wf_X8_131 : Cond.fieldLinkNest RX8 131 "HangsTogether$Village" "cost" "[I" "HangsTogether" ∈ nsW := nsW_at 60 (by decide +kernel) rfl
theorem wf_X8_134 : Cond.fieldLinkNest RX8 134 "HangsTogether$Village" "drift" "[I" "HangsTogether" ∈ nsW := nsW_at 62 (by decide +kernel) rfl
theorem wf_X8_144 : Cond.fieldLinkNest RX8 144 "HangsTogether$Village" "lanes" "I" "HangsTogether" ∈ nsW := nsW_at 32 (by decide +kernel) rfl
theorem wf_X8_164 : Cond.fieldLinkNest RX8 164 "HangsTogether$Ways" "size" "I" "HangsTogether" ∈ nsW := nsW_at 123 (by decide +kernel) rfl
theorem wf_X8_239 : Cond.fieldLinkNest RX8 239 "HangsTogether$Village" "must" "I" "HangsTogether" ∈ nsW := nsW_at 38 (by decide +kernel) rfl
theorem wf_X8_242 : Cond.fieldLinkNest RX8 242 "HangsTogether$Village" "barred" "I" "HangsTogether" ∈ nsW := nsW_at 42 (by decide +kernel) rfl
theorem wf_X8_252 : Cond.fieldLinkNest RX8 252 "HangsTogether$Village" "houses" "I" "HangsTogether" ∈ nsW := nsW_at 29 (by decide +kernel) rfl
theorem wf_X8_288 : Cond.fieldLinkNest RX8 288 "HangsTogether$Letters" "size" "I" "HangsTogether" ∈ nsW := nsW_at 94 (by decide +kernel) rfl
theorem wf_X8_289 : Cond.fieldLinkNest RX8 289 "HangsTogether$Row" "size" "I" "HangsTogether" ∈ nsW := nsW_at 185 (by decide +kernel) rfl
theorem wf_X9_7 : Cond.fieldLink RX9 7 "HangsTogetherModel" "refused" "[I" ∈ gdW := gdW_at 863 (by decide +kernel) rfl
theorem wf_X9_13 : Cond.fieldLink RX9 13 "HangsTogetherModel" "kind" "[I" ∈ gdW := gdW_at 864 (by decide +kernel) rfl
theorem wf_X9_16 : Cond.fieldLink RX9 16 "HangsTogetherModel" "from" "[I" ∈ gdW := gdW_at 865 (by decide +kernel) rfl
theorem wf_X9_19 : Cond.fieldLink RX9 19 "HangsTogetherModel" "to" "[I" ∈ gdW := gdW_at 866 (by decide +kernel) rfl
theorem wf_X9_22 : Cond.fieldLink RX9 22 "HangsTogetherModel" "ofW" "[I" ∈ gdW := gdW_at 867 (by decide +kernel) rfl
theorem wf_X9_25 : Cond.fieldLink RX9 25 "HangsTogetherModel" "ofC" "[I" ∈ gdW := gdW_at 868 (by decide +kernel) rfl
theorem wf_X9_28 : Cond.fieldLink RX9 28 "HangsTogetherModel" "ofD" "[I" ∈ gdW := gdW_at 869 (by decide +kernel) rfl
theorem wf_X9_31 : Cond.fieldLink RX9 31 "HangsTogetherModel" "ruled" "[I" ∈ gdW := gdW_at 870 (by decide +kernel) rfl
theorem wf_X9_34 : Cond.fieldLink RX9 34 "HangsTogetherModel" "houses" "I" ∈ gdW := gdW_at 871 (by decide +kernel) rfl
theorem wf_X9_38 : Cond.fieldLink RX9 38 "HangsTogetherModel" "tape" "[I" ∈ gdW := gdW_at 873 (by decide +kernel) rfl
theorem wf_X9_41 : Cond.fieldLink RX9 41 "HangsTogetherModel" "letter" "[I" ∈ gdW := gdW_at 874 (by decide +kernel) rfl
theorem wf_X9_44 : Cond.fieldLink RX9 44 "HangsTogetherModel" "letterAt" "[I" ∈ gdW := gdW_at 875 (by decide +kernel) rfl
theorem wf_X9_47 : Cond.fieldLink RX9 47 "HangsTogetherModel" "told" "[I" ∈ gdW := gdW_at 876 (by decide +kernel) rfl
theorem wf_X9_50 : Cond.fieldLink RX9 50 "HangsTogetherModel" "kept" "[I" ∈ gdW := gdW_at 880 (by decide +kernel) rfl
theorem wf_X9_53 : Cond.fieldLink RX9 53 "HangsTogetherModel" "part" "[I" ∈ gdW := gdW_at 884 (by decide +kernel) rfl
theorem wf_X9_56 : Cond.fieldLink RX9 56 "HangsTogetherModel" "ways" "[I" ∈ gdW := gdW_at 885 (by decide +kernel) rfl
theorem wf_X9_59 : Cond.fieldLink RX9 59 "HangsTogetherModel" "worths" "[J" ∈ gdW := gdW_at 886 (by decide +kernel) rfl
theorem wf_X9_63 : Cond.fieldLink RX9 63 "HangsTogetherModel" "pairA" "[I" ∈ gdW := gdW_at 888 (by decide +kernel) rfl
theorem wf_X9_66 : Cond.fieldLink RX9 66 "HangsTogetherModel" "pairB" "[I" ∈ gdW := gdW_at 889 (by decide +kernel) rfl
theorem wf_X9_69 : Cond.fieldLink RX9 69 "HangsTogetherModel" "trees" "[I" ∈ gdW := gdW_at 890 (by decide +kernel) rfl
theorem wf_X9_72 : Cond.fieldLink RX9 72 "HangsTogetherModel" "row" "[I" ∈ gdW := gdW_at 896 (by decide +kernel) rfl
theorem wf_X9_77 : Cond.fieldLink RX9 77 "HangsTogetherModel" "lanes" "I" ∈ gdW := gdW_at 872 (by decide +kernel) rfl
theorem wf_X9_84 : Cond.fieldLink RX9 84 "HangsTogetherModel" "taped" "I" ∈ gdW := gdW_at 877 (by decide +kernel) rfl
theorem wf_X9_91 : Cond.fieldLink RX9 91 "HangsTogetherModel" "at" "I" ∈ gdW := gdW_at 878 (by decide +kernel) rfl
theorem wf_X9_102 : Cond.fieldLink RX9 102 "HangsTogetherModel" "statements" "I" ∈ gdW := gdW_at 879 (by decide +kernel) rfl
theorem wf_X9_136 : Cond.fieldLink RX9 136 "HangsTogetherModel" "isKeeping" "Z" ∈ gdW := gdW_at 882 (by decide +kernel) rfl
theorem wf_X9_140 : Cond.fieldLink RX9 140 "HangsTogetherModel" "cursor" "I" ∈ gdW := gdW_at 883 (by decide +kernel) rfl
theorem wf_X9_150 : Cond.fieldLink RX9 150 "HangsTogetherModel" "hasImage" "Z" ∈ gdW := gdW_at 881 (by decide +kernel) rfl
theorem wf_X9_183 : Cond.fieldLink RX9 183 "HangsTogetherModel" "wayMany" "I" ∈ gdW := gdW_at 887 (by decide +kernel) rfl
theorem wf_X9_247 : Cond.fieldLink RX9 247 "HangsTogetherModel" "pairs" "I" ∈ gdW := gdW_at 891 (by decide +kernel) rfl
theorem wf_X9_250 : Cond.fieldLink RX9 250 "HangsTogetherModel" "treeMany" "I" ∈ gdW := gdW_at 892 (by decide +kernel) rfl
theorem wf_X9_256 : Cond.fieldLink RX9 256 "HangsTogetherModel" "planMany" "I" ∈ gdW := gdW_at 893 (by decide +kernel) rfl
theorem wf_X9_259 : Cond.fieldLink RX9 259 "HangsTogetherModel" "planBits" "I" ∈ gdW := gdW_at 894 (by decide +kernel) rfl
theorem wf_X9_266 : Cond.fieldLink RX9 266 "HangsTogetherModel" "lots" "I" ∈ gdW := gdW_at 895 (by decide +kernel) rfl
theorem wf_X9_283 : Cond.fieldLink RX9 283 "HangsTogetherModel" "rowMany" "I" ∈ gdW := gdW_at 897 (by decide +kernel) rfl
theorem wm_L_13 : Cond.methodLink RL 13 yX8_feed ∈ gdW := gdW_at 314 (by decide +kernel) rfl
theorem wm_L_17 : Cond.methodLink RL 17 yX9_feed ∈ gdW := gdW_at 970 (by decide +kernel) rfl
theorem wm_L_18 : Cond.methodLink RL 18 yX8_village ∈ gdW := gdW_at 330 (by decide +kernel) rfl
theorem wm_L_22 : Cond.methodLink RL 22 yX9_village ∈ gdW := gdW_at 981 (by decide +kernel) rfl
theorem wm_L_23 : Cond.methodLink RL 23 yX8_lane ∈ gdW := gdW_at 424 (by decide +kernel) rfl
theorem wm_L_27 : Cond.methodLink RL 27 yX9_lane ∈ gdW := gdW_at 1044 (by decide +kernel) rfl
theorem wm_L_28 : Cond.methodLink RL 28 yX8_rule ∈ gdW := gdW_at 433 (by decide +kernel) rfl
theorem wm_L_31 : Cond.methodLink RL 31 yX9_rule ∈ gdW := gdW_at 1060 (by decide +kernel) rfl
theorem wm_L_32 : Cond.methodLink RL 32 yX8_takeUp ∈ gdW := gdW_at 438 (by decide +kernel) rfl
theorem wm_L_35 : Cond.methodLink RL 35 yX9_takeUp ∈ gdW := gdW_at 1064 (by decide +kernel) rfl
theorem wm_L_36 : Cond.methodLink RL 36 yX8_is ∈ gdW := gdW_at 447 (by decide +kernel) rfl
theorem wm_L_39 : Cond.methodLink RL 39 yX9_is ∈ gdW := gdW_at 1068 (by decide +kernel) rfl
theorem wm_L_40 : Cond.methodLink RL 40 yX8_hangs ∈ gdW := gdW_at 469 (by decide +kernel) rfl
theorem wm_L_43 : Cond.methodLink RL 43 yX9_hangs ∈ gdW := gdW_at 1103 (by decide +kernel) rfl
theorem wm_L_44 : Cond.methodLink RL 44 yX8_parts ∈ gdW := gdW_at 477 (by decide +kernel) rfl
theorem wm_L_47 : Cond.methodLink RL 47 yX9_parts ∈ gdW := gdW_at 1107 (by decide +kernel) rfl
theorem wm_L_48 : Cond.methodLink RL 48 yX8_many ∈ gdW := gdW_at 481 (by decide +kernel) rfl
theorem wm_L_51 : Cond.methodLink RL 51 yX9_many ∈ gdW := gdW_at 1111 (by decide +kernel) rfl
theorem wm_L_52 : Cond.methodLink RL 52 yX8_sum ∈ gdW := gdW_at 485 (by decide +kernel) rfl
theorem wm_L_56 : Cond.methodLink RL 56 yX9_sum ∈ gdW := gdW_at 1123 (by decide +kernel) rfl
theorem wm_L_57 : Cond.methodLink RL 57 yX8_way ∈ gdW := gdW_at 493 (by decide +kernel) rfl
theorem wm_L_60 : Cond.methodLink RL 60 yX9_way ∈ gdW := gdW_at 1131 (by decide +kernel) rfl
theorem wm_L_61 : Cond.methodLink RL 61 yX8_likely ∈ gdW := gdW_at 505 (by decide +kernel) rfl
theorem wm_L_65 : Cond.methodLink RL 65 yX9_likely ∈ gdW := gdW_at 1135 (by decide +kernel) rfl
theorem wm_L_66 : Cond.methodLink RL 66 yX8_pair ∈ gdW := gdW_at 527 (by decide +kernel) rfl
theorem wm_L_70 : Cond.methodLink RL 70 yX9_pair ∈ gdW := gdW_at 1154 (by decide +kernel) rfl
theorem wm_L_71 : Cond.methodLink RL 71 yX8_less ∈ gdW := gdW_at 531 (by decide +kernel) rfl
theorem wm_L_74 : Cond.methodLink RL 74 yX9_less ∈ gdW := gdW_at 1158 (by decide +kernel) rfl
theorem wm_L_75 : Cond.methodLink RL 75 yX8_inAll ∈ gdW := gdW_at 535 (by decide +kernel) rfl
theorem wm_L_78 : Cond.methodLink RL 78 yX9_inAll ∈ gdW := gdW_at 1169 (by decide +kernel) rfl
theorem wm_L_79 : Cond.methodLink RL 79 yX8_inNone ∈ gdW := gdW_at 544 (by decide +kernel) rfl
theorem wm_L_82 : Cond.methodLink RL 82 yX9_inNone ∈ gdW := gdW_at 1173 (by decide +kernel) rfl
theorem wm_L_83 : Cond.methodLink RL 83 yX8_cheap ∈ gdW := gdW_at 552 (by decide +kernel) rfl
theorem wm_L_86 : Cond.methodLink RL 86 yX9_cheap ∈ gdW := gdW_at 1177 (by decide +kernel) rfl
theorem wm_L_87 : Cond.methodLink RL 87 yX8_nights ∈ gdW := gdW_at 576 (by decide +kernel) rfl
theorem wm_L_90 : Cond.methodLink RL 90 yX9_nights ∈ gdW := gdW_at 1189 (by decide +kernel) rfl
theorem wm_L_91 : Cond.methodLink RL 91 yX8_step ∈ gdW := gdW_at 586 (by decide +kernel) rfl
theorem wm_L_94 : Cond.methodLink RL 94 yX9_step ∈ gdW := gdW_at 1193 (by decide +kernel) rfl
theorem wm_L_95 : Cond.methodLink RL 95 yX8_toward ∈ gdW := gdW_at 595 (by decide +kernel) rfl
theorem wm_L_98 : Cond.methodLink RL 98 yX9_toward ∈ gdW := gdW_at 1197 (by decide +kernel) rfl
theorem wm_L_99 : Cond.methodLink RL 99 yX8_forests ∈ gdW := gdW_at 616 (by decide +kernel) rfl
theorem wm_L_102 : Cond.methodLink RL 102 yX9_forests ∈ gdW := gdW_at 1205 (by decide +kernel) rfl
theorem wm_L_103 : Cond.methodLink RL 103 yX8_ploughs ∈ gdW := gdW_at 627 (by decide +kernel) rfl
theorem wm_L_106 : Cond.methodLink RL 106 yX9_ploughs ∈ gdW := gdW_at 1209 (by decide +kernel) rfl
theorem wm_L_107 : Cond.methodLink RL 107 yX8_hard ∈ gdW := gdW_at 648 (by decide +kernel) rfl
theorem wm_L_110 : Cond.methodLink RL 110 yX9_hard ∈ gdW := gdW_at 1217 (by decide +kernel) rfl
theorem wm_L_111 : Cond.methodLink RL 111 yX8_more ∈ gdW := gdW_at 670 (by decide +kernel) rfl
theorem wm_L_114 : Cond.methodLink RL 114 yX9_more ∈ gdW := gdW_at 1233 (by decide +kernel) rfl
theorem wm_L_115 : Cond.methodLink RL 115 yX8_holds ∈ gdW := gdW_at 674 (by decide +kernel) rfl
theorem wm_L_119 : Cond.methodLink RL 119 yX9_holds ∈ gdW := gdW_at 1237 (by decide +kernel) rfl
theorem wm_L_120 : Cond.methodLink RL 120 yX8_plan ∈ gdW := gdW_at 697 (by decide +kernel) rfl
theorem wm_L_123 : Cond.methodLink RL 123 yX9_plan ∈ gdW := gdW_at 1242 (by decide +kernel) rfl
theorem wm_L_124 : Cond.methodLink RL 124 yX8_draw ∈ gdW := gdW_at 734 (by decide +kernel) rfl
theorem wm_L_127 : Cond.methodLink RL 127 yX9_draw ∈ gdW := gdW_at 1254 (by decide +kernel) rfl
theorem wm_L_128 : Cond.methodLink RL 128 yX8_often ∈ gdW := gdW_at 802 (by decide +kernel) rfl
theorem wm_L_132 : Cond.methodLink RL 132 yX9_often ∈ gdW := gdW_at 1296 (by decide +kernel) rfl
theorem wm_L_133 : Cond.methodLink RL 133 yX8_row ∈ gdW := gdW_at 806 (by decide +kernel) rfl
theorem wm_L_136 : Cond.methodLink RL 136 yX9_row ∈ gdW := gdW_at 1300 (by decide +kernel) rfl
theorem wm_L_137 : Cond.methodLink RL 137 yX8_judge ∈ gdW := gdW_at 818 (by decide +kernel) rfl
theorem wm_L_140 : Cond.methodLink RL 140 yX9_judge ∈ gdW := gdW_at 1304 (by decide +kernel) rfl
theorem wm_L_141 : Cond.methodLink RL 141 yX8_image ∈ gdW := gdW_at 836 (by decide +kernel) rfl
theorem wm_L_144 : Cond.methodLink RL 144 yX9_image ∈ gdW := gdW_at 1036 (by decide +kernel) rfl
theorem wm_L_145 : Cond.methodLink RL 145 yX8_restore ∈ gdW := gdW_at 840 (by decide +kernel) rfl
theorem wm_L_148 : Cond.methodLink RL 148 yX9_restore ∈ gdW := gdW_at 1040 (by decide +kernel) rfl
theorem wm_L_149 : Cond.methodLink RL 149 yX8_count ∈ gdW := gdW_at 844 (by decide +kernel) rfl
theorem wm_L_152 : Cond.methodLink RL 152 yX9_count ∈ gdW := gdW_at 1308 (by decide +kernel) rfl
theorem wm_X0_40 : Cond.methodLink RX0 40 yX0_lookRound ∈ gdW := gdW_at 746 (by decide +kernel) rfl
theorem wm_X0_43 : Cond.methodLink RX0 43 yX0_walkAbout ∈ gdW := gdW_at 758 (by decide +kernel) rfl
theorem wm_X0_47 : Cond.methodLink RX0 47 yX0_laneByLane ∈ gdW := gdW_at 775 (by decide +kernel) rfl
theorem wm_X0_50 : Cond.methodLinkNest RX0 50 yX7_bitsByCost "HangsTogether" ∈ nsW := nsW_at 791 (by decide +kernel) rfl
theorem wm_X0_56 : Cond.methodLinkNest RX0 56 yX7_dearest "HangsTogether" ∈ nsW := nsW_at 792 (by decide +kernel) rfl
theorem wm_X0_62 : Cond.methodLink RX0 62 yX0_below ∈ gdW := gdW_at 767 (by decide +kernel) rfl
theorem wm_X0_65 : Cond.methodLinkNest RX0 65 yX7_at "HangsTogether" ∈ nsW := nsW_at 796 (by decide +kernel) rfl
theorem wm_X0_68 : Cond.methodLinkNest RX0 68 yX5_asWay "HangsTogether" ∈ nsW := nsW_at 797 (by decide +kernel) rfl
theorem wm_X0_81 : Cond.methodLink RX0 81 yX0_goesOn ∈ gdW := gdW_at 750 (by decide +kernel) rfl
theorem wm_X0_100 : Cond.methodLinkNest RX0 100 yX6_allHouses "HangsTogether" ∈ nsW := nsW_at 762 (by decide +kernel) rfl
theorem wm_X0_103 : Cond.methodLink RX0 103 yX0_laneFrom ∈ gdW := gdW_at 763 (by decide +kernel) rfl
theorem wm_X0_106 : Cond.methodLinkNest RX0 106 yX6_hasLane "HangsTogether" ∈ nsW := nsW_at 774 (by decide +kernel) rfl
theorem wm_X0_110 : Cond.methodLinkNest RX0 110 yX7_copyTo "HangsTogether" ∈ nsW := nsW_at 779 (by decide +kernel) rfl
theorem wm_X0_114 : Cond.methodLink RX0 114 yX0_poolWorthWith ∈ gdW := gdW_at 783 (by decide +kernel) rfl
theorem wm_X0_118 : Cond.methodLink RX0 118 yX0_narrow ∈ gdW := gdW_at 787 (by decide +kernel) rfl
theorem wm_X1_19 : Cond.methodLinkNest RX1 19 yX6_sets "HangsTogether" ∈ nsW := nsW_at 624 (by decide +kernel) rfl
theorem wm_X1_25 : Cond.methodLinkNest RX1 25 yX6_allows "HangsTogether" ∈ nsW := nsW_at 625 (by decide +kernel) rfl
theorem wm_X1_29 : Cond.methodLinkNest RX1 29 yX2_leavesForest "HangsTogether" ∈ nsW := nsW_at 626 (by decide +kernel) rfl
theorem wm_X1_35 : Cond.methodLink RX1 35 yJ6_bitCount ∈ gdW := gdW_at 643 (by decide +kernel) rfl
theorem wm_X1_41 : Cond.methodLinkNest RX1 41 yX2_areAllApart "HangsTogether" ∈ nsW := nsW_at 644 (by decide +kernel) rfl
theorem wm_X1_44 : Cond.methodLink RX1 44 yX1_isOpen ∈ gdW := gdW_at 660 (by decide +kernel) rfl
theorem wm_X1_47 : Cond.methodLinkNest RX1 47 yX6_worthOf "HangsTogether" ∈ nsW := nsW_at 664 (by decide +kernel) rfl
theorem wm_X1_50 : Cond.methodLinkNest RX1 50 yX2_areTogether "HangsTogether" ∈ nsW := nsW_at 669 (by decide +kernel) rfl
theorem wm_X1_58 : Cond.methodLinkNest RX1 58 yX6_allLanes "HangsTogether" ∈ nsW := nsW_at 686 (by decide +kernel) rfl
theorem wm_X1_64 : Cond.methodLink RX1 64 yX1_free ∈ gdW := gdW_at 682 (by decide +kernel) rfl
theorem wm_X1_69 : Cond.methodLinkNest RX1 69 yX2_partsLeft "HangsTogether" ∈ nsW := nsW_at 687 (by decide +kernel) rfl
theorem wm_X1_72 : Cond.methodLink RX1 72 yX1_chancesOf ∈ gdW := gdW_at 688 (by decide +kernel) rfl
theorem wm_X2_25 : Cond.methodLink RX2 25 yX2_apart ∈ gdW := gdW_at 230 (by decide +kernel) rfl
theorem wm_X2_38 : Cond.methodLink RX2 38 yX2_joinAll ∈ gdW := gdW_at 233 (by decide +kernel) rfl
theorem wm_X2_42 : Cond.methodLink RX2 42 yX2_joined ∈ gdW := gdW_at 236 (by decide +kernel) rfl
theorem wm_X2_46 : Cond.methodLink RX2 46 yX2_partOf ∈ gdW := gdW_at 239 (by decide +kernel) rfl
theorem wm_X2_51 : Cond.methodLink RX2 51 Lib.Math.min.name ∈ gdW := gdW_at 243 (by decide +kernel) rfl
theorem wm_X2_56 : Cond.methodLink RX2 56 Lib.Math.max.name ∈ gdW := gdW_at 246 (by decide +kernel) rfl
theorem wm_X2_60 : Cond.methodLink RX2 60 yX2_stateOf ∈ gdW := gdW_at 266 (by decide +kernel) rfl
theorem wm_X2_63 : Cond.methodLink RX2 63 yX2_isForest ∈ gdW := gdW_at 270 (by decide +kernel) rfl
theorem wm_X2_67 : Cond.methodLinkNest RX2 67 yX6_hasAll "HangsTogether" ∈ nsW := nsW_at 463 (by decide +kernel) rfl
theorem wm_X2_71 : Cond.methodLinkNest RX2 71 yX6_allows "HangsTogether" ∈ nsW := nsW_at 464 (by decide +kernel) rfl
theorem wm_X2_74 : Cond.methodLink RX2 74 yX2_leavesForest ∈ gdW := gdW_at 465 (by decide +kernel) rfl
theorem wm_X3_19 : Cond.methodLink RX3 19 yX3_placeOfWrongForm ∈ gdW := gdW_at 342 (by decide +kernel) rfl
theorem wm_X3_23 : Cond.methodLink RX3 23 yX3_tellOne ∈ gdW := gdW_at 358 (by decide +kernel) rfl
theorem wm_X3_27 : Cond.methodLink RX3 27 yX3_after ∈ gdW := gdW_at 346 (by decide +kernel) rfl
theorem wm_X3_31 : Cond.methodLink RX3 31 yX3_afterStart ∈ gdW := gdW_at 349 (by decide +kernel) rfl
theorem wm_X3_35 : Cond.methodLink RX3 35 yX3_isDigit ∈ gdW := gdW_at 352 (by decide +kernel) rfl
theorem wm_X3_39 : Cond.methodLink RX3 39 yX3_afterComma ∈ gdW := gdW_at 355 (by decide +kernel) rfl
theorem wm_X3_42 : Cond.methodLink RX3 42 yX3_number ∈ gdW := gdW_at 362 (by decide +kernel) rfl
theorem wm_X3_45 : Cond.methodLink RX3 45 yX3_letterAt ∈ gdW := gdW_at 366 (by decide +kernel) rfl
theorem wm_X3_48 : Cond.methodLinkNest RX3 48 yX6_setHouses "HangsTogether" ∈ nsW := nsW_at 374 (by decide +kernel) rfl
theorem wm_X3_53 : Cond.methodLink RX3 53 yX3_tellRule ∈ gdW := gdW_at 383 (by decide +kernel) rfl
theorem wm_X3_56 : Cond.methodLink RX3 56 yX3_tellLane ∈ gdW := gdW_at 394 (by decide +kernel) rfl
theorem wm_X3_59 : Cond.methodLinkNest RX3 59 yX6_hasLane "HangsTogether" ∈ nsW := nsW_at 386 (by decide +kernel) rfl
theorem wm_X3_62 : Cond.methodLinkNest RX3 62 yX6_setRule "HangsTogether" ∈ nsW := nsW_at 390 (by decide +kernel) rfl
theorem wm_X3_66 : Cond.methodLink RX3 66 yX3_digitAt ∈ gdW := gdW_at 370 (by decide +kernel) rfl
theorem wm_X3_69 : Cond.methodLinkNest RX3 69 yX6_addLane "HangsTogether" ∈ nsW := nsW_at 398 (by decide +kernel) rfl
theorem wm_X4_25 : Cond.methodLinkNest RX4 25 yX8_pairsOf "HangsTogether" ∈ nsW := nsW_at 708 (by decide +kernel) rfl
theorem wm_X4_29 : Cond.methodLink RX4 29 yX4_joinPairs ∈ gdW := gdW_at 709 (by decide +kernel) rfl
theorem wm_X4_32 : Cond.methodLinkNest RX4 32 yX2_isForest "HangsTogether" ∈ nsW := nsW_at 715 (by decide +kernel) rfl
theorem wm_X4_38 : Cond.methodLinkNest RX4 38 yX8_yesNo "HangsTogether" ∈ nsW := nsW_at 716 (by decide +kernel) rfl
theorem wm_X4_42 : Cond.methodLink RX4 42 yX4_addThoseWithout ∈ gdW := gdW_at 717 (by decide +kernel) rfl
theorem wm_X4_46 : Cond.methodLink RX4 46 yX4_chooseBest ∈ gdW := gdW_at 721 (by decide +kernel) rfl
theorem wm_X4_50 : Cond.methodLinkNest RX4 50 yX2_apart "HangsTogether" ∈ nsW := nsW_at 713 (by decide +kernel) rfl
theorem wm_X4_53 : Cond.methodLinkNest RX4 53 yX2_joinAll "HangsTogether" ∈ nsW := nsW_at 714 (by decide +kernel) rfl
theorem wm_X4_57 : Cond.methodLink RX4 57 yJ6_bitCount ∈ gdW := gdW_at 725 (by decide +kernel) rfl
theorem wm_X5_27 : Cond.methodLinkNest RX5 27 yX6_hasLane "HangsTogether" ∈ nsW := nsW_at 826 (by decide +kernel) rfl
theorem wm_X5_33 : Cond.methodLinkNest RX5 33 yX6_ruleOf "HangsTogether" ∈ nsW := nsW_at 827 (by decide +kernel) rfl
theorem wm_X5_37 : Cond.methodLinkNest RX5 37 yX2_hasRing "HangsTogether" ∈ nsW := nsW_at 828 (by decide +kernel) rfl
theorem wm_X5_42 : Cond.methodLinkNest RX5 42 yX2_isWay "HangsTogether" ∈ nsW := nsW_at 801 (by decide +kernel) rfl
theorem wm_X6_43 : Cond.methodLink RX6 43 yX6_allHouses ∈ gdW := gdW_at 635 (by decide +kernel) rfl
theorem wm_X6_47 : Cond.methodLink RX6 47 yX6_allLanes ∈ gdW := gdW_at 455 (by decide +kernel) rfl
theorem wm_X6_50 : Cond.methodLink RX6 50 yX6_farthestHouse ∈ gdW := gdW_at 378 (by decide +kernel) rfl
theorem wm_X6_53 : Cond.methodLink RX6 53 Lib.Math.max.name ∈ gdW := gdW_at 382 (by decide +kernel) rfl
theorem wm_X6_59 : Cond.methodLink RX6 59 yX6_hasHouse ∈ gdW := gdW_at 402 (by decide +kernel) rfl
theorem wm_X6_63 : Cond.methodLink RX6 63 yX6_weightByKind ∈ gdW := gdW_at 406 (by decide +kernel) rfl
theorem wm_X6_66 : Cond.methodLink RX6 66 yX6_costByKind ∈ gdW := gdW_at 409 (by decide +kernel) rfl
theorem wm_X6_69 : Cond.methodLink RX6 69 yX6_driftByKind ∈ gdW := gdW_at 412 (by decide +kernel) rfl
theorem wm_X6_72 : Cond.methodLink RX6 72 yX6_setRule ∈ gdW := gdW_at 446 (by decide +kernel) rfl
theorem wm_X6_76 : Cond.methodLink RX6 76 yX6_costOf ∈ gdW := gdW_at 852 (by decide +kernel) rfl
theorem wm_X6_80 : Cond.methodLink RX6 80 Lib.Math.min.name ∈ gdW := gdW_at 415 (by decide +kernel) rfl
theorem wm_X7_37 : Cond.methodLinkNest RX7 37 yX6_sets "HangsTogether" ∈ nsW := nsW_at 254 (by decide +kernel) rfl
theorem wm_X7_43 : Cond.methodLinkNest RX7 43 yX6_allows "HangsTogether" ∈ nsW := nsW_at 258 (by decide +kernel) rfl
theorem wm_X7_47 : Cond.methodLinkNest RX7 47 yX2_leavesForest "HangsTogether" ∈ nsW := nsW_at 262 (by decide +kernel) rfl
theorem wm_X7_53 : Cond.methodLinkNest RX7 53 yX6_worthOf "HangsTogether" ∈ nsW := nsW_at 273 (by decide +kernel) rfl
theorem wm_X7_57 : Cond.methodLink RX7 57 yX7_has ∈ gdW := gdW_at 501 (by decide +kernel) rfl
theorem wm_X7_60 : Cond.methodLinkNest RX7 60 yX6_allLanes "HangsTogether" ∈ nsW := nsW_at 543 (by decide +kernel) rfl
theorem wm_X7_63 : Cond.methodLink RX7 63 yX7_sortByCost ∈ gdW := gdW_at 560 (by decide +kernel) rfl
theorem wm_X7_66 : Cond.methodLinkNest RX7 66 yX6_costOf "HangsTogether" ∈ nsW := nsW_at 564 (by decide +kernel) rfl
theorem wm_X7_69 : Cond.methodLink RX7 69 yX7_sortEvery ∈ gdW := gdW_at 568 (by decide +kernel) rfl
theorem wm_X7_73 : Cond.methodLink RX7 73 yJ6_bitCount ∈ gdW := gdW_at 594 (by decide +kernel) rfl
theorem wm_X7_78 : Cond.methodLink RX7 78 yX7_leadsTo ∈ gdW := gdW_at 604 (by decide +kernel) rfl
theorem wm_X7_90 : Cond.methodLinkNest RX7 90 yX2_areTogether "HangsTogether" ∈ nsW := nsW_at 608 (by decide +kernel) rfl
theorem wm_X8_85 : Cond.methodLinkNest RX8 85 yX2_build "HangsTogether" ∈ nsW := nsW_at 226 (by decide +kernel) rfl
theorem wm_X8_88 : Cond.methodLinkNest RX8 88 yX7_list "HangsTogether" ∈ nsW := nsW_at 250 (by decide +kernel) rfl
theorem wm_X8_91 : Cond.methodLink RX8 91 yX8_refuse ∈ gdW := gdW_at 318 (by decide +kernel) rfl
theorem wm_X8_95 : Cond.methodLinkNest RX8 95 yX3_haveRoom "HangsTogether" ∈ nsW := nsW_at 322 (by decide +kernel) rfl
theorem wm_X8_99 : Cond.methodLinkNest RX8 99 yX3_append "HangsTogether" ∈ nsW := nsW_at 326 (by decide +kernel) rfl
theorem wm_X8_102 : Cond.methodLinkNest RX8 102 yX6_copy "HangsTogether" ∈ nsW := nsW_at 334 (by decide +kernel) rfl
theorem wm_X8_105 : Cond.methodLinkNest RX8 105 yX3_tellTo "HangsTogether" ∈ nsW := nsW_at 338 (by decide +kernel) rfl
theorem wm_X8_109 : Cond.methodLinkNest RX8 109 yX3_clear "HangsTogether" ∈ nsW := nsW_at 416 (by decide +kernel) rfl
theorem wm_X8_112 : Cond.methodLink RX8 112 yX8_lanesChanged ∈ gdW := gdW_at 420 (by decide +kernel) rfl
theorem wm_X8_115 : Cond.methodLinkNest RX8 115 yX6_hasLane "HangsTogether" ∈ nsW := nsW_at 428 (by decide +kernel) rfl
theorem wm_X8_137 : Cond.methodLinkNest RX8 137 yX6_ruleOf "HangsTogether" ∈ nsW := nsW_at 429 (by decide +kernel) rfl
theorem wm_X8_140 : Cond.methodLinkNest RX8 140 yX6_setRule "HangsTogether" ∈ nsW := nsW_at 437 (by decide +kernel) rfl
theorem wm_X8_148 : Cond.methodLinkNest RX8 148 yX6_removeLatest "HangsTogether" ∈ nsW := nsW_at 442 (by decide +kernel) rfl
theorem wm_X8_151 : Cond.methodLinkNest RX8 151 yX6_hasAll "HangsTogether" ∈ nsW := nsW_at 451 (by decide +kernel) rfl
theorem wm_X8_154 : Cond.methodLinkNest RX8 154 yX2_isWay "HangsTogether" ∈ nsW := nsW_at 459 (by decide +kernel) rfl
theorem wm_X8_157 : Cond.methodLink RX8 157 yX8_yesNo ∈ gdW := gdW_at 466 (by decide +kernel) rfl
theorem wm_X8_161 : Cond.methodLinkNest RX8 161 yX2_partsLeft "HangsTogether" ∈ nsW := nsW_at 473 (by decide +kernel) rfl
theorem wm_X8_167 : Cond.methodLinkNest RX8 167 yX7_worthWith "HangsTogether" ∈ nsW := nsW_at 489 (by decide +kernel) rfl
theorem wm_X8_171 : Cond.methodLinkNest RX8 171 yX7_at "HangsTogether" ∈ nsW := nsW_at 497 (by decide +kernel) rfl
theorem wm_X8_174 : Cond.methodLink RX8 174 yX8_refuseLong ∈ gdW := gdW_at 509 (by decide +kernel) rfl
theorem wm_X8_177 : Cond.methodLink RX8 177 yX8_likelyAll ∈ gdW := gdW_at 514 (by decide +kernel) rfl
theorem wm_X8_181 : Cond.methodLinkNest RX8 181 yX7_lanesInAll "HangsTogether" ∈ nsW := nsW_at 539 (by decide +kernel) rfl
theorem wm_X8_185 : Cond.methodLinkNest RX8 185 yX7_lanesInNone "HangsTogether" ∈ nsW := nsW_at 548 (by decide +kernel) rfl
theorem wm_X8_188 : Cond.methodLinkNest RX8 188 yX7_bitsByCost "HangsTogether" ∈ nsW := nsW_at 556 (by decide +kernel) rfl
theorem wm_X8_191 : Cond.methodLinkNest RX8 191 yX7_costByCost "HangsTogether" ∈ nsW := nsW_at 572 (by decide +kernel) rfl
theorem wm_X8_194 : Cond.methodLink RX8 194 yJ6_bitCount ∈ gdW := gdW_at 580 (by decide +kernel) rfl
theorem wm_X8_199 : Cond.methodLinkNest RX8 199 yX7_stepBetween "HangsTogether" ∈ nsW := nsW_at 590 (by decide +kernel) rfl
theorem wm_X8_203 : Cond.methodLinkNest RX8 203 yX6_hasHouse "HangsTogether" ∈ nsW := nsW_at 599 (by decide +kernel) rfl
theorem wm_X8_206 : Cond.methodLinkNest RX8 206 yX7_manyToward "HangsTogether" ∈ nsW := nsW_at 600 (by decide +kernel) rfl
theorem wm_X8_209 : Cond.methodLinkNest RX8 209 yX7_worthToward "HangsTogether" ∈ nsW := nsW_at 612 (by decide +kernel) rfl
theorem wm_X8_212 : Cond.methodLinkNest RX8 212 yX1_manyOf "HangsTogether" ∈ nsW := nsW_at 620 (by decide +kernel) rfl
theorem wm_X8_215 : Cond.methodLinkNest RX8 215 yX6_hasAllHouses "HangsTogether" ∈ nsW := nsW_at 631 (by decide +kernel) rfl
theorem wm_X8_218 : Cond.methodLinkNest RX8 218 yX1_manyWithOneEach "HangsTogether" ∈ nsW := nsW_at 639 (by decide +kernel) rfl
theorem wm_X8_221 : Cond.methodLink RX8 221 yX8_areTwoHouses ∈ gdW := gdW_at 652 (by decide +kernel) rfl
theorem wm_X8_225 : Cond.methodLink RX8 225 yX8_isPart ∈ gdW := gdW_at 518 (by decide +kernel) rfl
theorem wm_X8_228 : Cond.methodLinkNest RX8 228 yX1_worthOfWhole "HangsTogether" ∈ nsW := nsW_at 656 (by decide +kernel) rfl
theorem wm_X8_231 : Cond.methodLinkNest RX8 231 yX1_worthApart "HangsTogether" ∈ nsW := nsW_at 665 (by decide +kernel) rfl
theorem wm_X8_235 : Cond.methodLink RX8 235 yX8_leastTerms ∈ gdW := gdW_at 521 (by decide +kernel) rfl
theorem wm_X8_245 : Cond.methodLinkNest RX8 245 yX1_chancesToHold "HangsTogether" ∈ nsW := nsW_at 678 (by decide +kernel) rfl
theorem wm_X8_249 : Cond.methodLinkNest RX8 249 yX1_chancesInAll "HangsTogether" ∈ nsW := nsW_at 692 (by decide +kernel) rfl
theorem wm_X8_255 : Cond.methodLink RX8 255 yX8_pairsOf ∈ gdW := gdW_at 701 (by decide +kernel) rfl
theorem wm_X8_258 : Cond.methodLinkNest RX8 258 yX4_makeFor "HangsTogether" ∈ nsW := nsW_at 704 (by decide +kernel) rfl
theorem wm_X8_262 : Cond.methodLinkNest RX8 262 yX4_mostWays "HangsTogether" ∈ nsW := nsW_at 726 (by decide +kernel) rfl
theorem wm_X8_265 : Cond.methodLinkNest RX8 265 yX4_firstSet "HangsTogether" ∈ nsW := nsW_at 730 (by decide +kernel) rfl
theorem wm_X8_268 : Cond.methodLinkNest RX8 268 yX0_isDrawer "HangsTogether" ∈ nsW := nsW_at 738 (by decide +kernel) rfl
theorem wm_X8_271 : Cond.methodLinkNest RX8 271 yX0_begin "HangsTogether" ∈ nsW := nsW_at 742 (by decide +kernel) rfl
theorem wm_X8_274 : Cond.methodLinkNest RX8 274 yX0_makeNext "HangsTogether" ∈ nsW := nsW_at 754 (by decide +kernel) rfl
theorem wm_X8_277 : Cond.methodLinkNest RX8 277 yX5_hasRoom "HangsTogether" ∈ nsW := nsW_at 810 (by decide +kernel) rfl
theorem wm_X8_280 : Cond.methodLinkNest RX8 280 yX5_append "HangsTogether" ∈ nsW := nsW_at 814 (by decide +kernel) rfl
theorem wm_X8_281 : Cond.methodLinkNest RX8 281 yX5_judged "HangsTogether" ∈ nsW := nsW_at 822 (by decide +kernel) rfl
theorem wm_X8_284 : Cond.methodLinkNest RX8 284 yX5_clear "HangsTogether" ∈ nsW := nsW_at 832 (by decide +kernel) rfl
theorem wm_X8_285 : Cond.methodLinkNest RX8 285 yX6_costOfAll "HangsTogether" ∈ nsW := nsW_at 848 (by decide +kernel) rfl
theorem wm_X8_290 : Cond.methodLink RX8 290 yX8_refusalsOf ∈ gdW := gdW_at 853 (by decide +kernel) rfl
theorem wm_X8_295 : Cond.methodLink RX8 295 yX8_commonDivisor ∈ gdW := gdW_at 524 (by decide +kernel) rfl
theorem wm_X9_80 : Cond.methodLink RX9 80 yX9_bound ∈ gdW := gdW_at 974 (by decide +kernel) rfl
theorem wm_X9_87 : Cond.methodLink RX9 87 yX9_no ∈ gdW := gdW_at 977 (by decide +kernel) rfl
theorem wm_X9_94 : Cond.methodLink RX9 94 yX9_next ∈ gdW := gdW_at 989 (by decide +kernel) rfl
theorem wm_X9_98 : Cond.methodLink RX9 98 yX9_isIn ∈ gdW := gdW_at 997 (by decide +kernel) rfl
theorem wm_X9_105 : Cond.methodLink RX9 105 yX9_reads ∈ gdW := gdW_at 993 (by decide +kernel) rfl
theorem wm_X9_109 : Cond.methodLink RX9 109 yX9_isNext ∈ gdW := gdW_at 1000 (by decide +kernel) rfl
theorem wm_X9_113 : Cond.methodLink RX9 113 yX9_isHouse ∈ gdW := gdW_at 1028 (by decide +kernel) rfl
theorem wm_X9_116 : Cond.methodLink RX9 116 yX9_toldHouses ∈ gdW := gdW_at 1020 (by decide +kernel) rfl
theorem wm_X9_119 : Cond.methodLink RX9 119 yX9_comesLane ∈ gdW := gdW_at 1024 (by decide +kernel) rfl
theorem wm_X9_122 : Cond.methodLink RX9 122 yX9_isLane ∈ gdW := gdW_at 1032 (by decide +kernel) rfl
theorem wm_X9_125 : Cond.methodLink RX9 125 yX9_statement ∈ gdW := gdW_at 985 (by decide +kernel) rfl
theorem wm_X9_129 : Cond.methodLink RX9 129 yX9_passesAll ∈ gdW := gdW_at 1004 (by decide +kernel) rfl
theorem wm_X9_133 : Cond.methodLink RX9 133 yX9_comes ∈ gdW := gdW_at 1016 (by decide +kernel) rfl
theorem wm_X9_143 : Cond.methodLink RX9 143 yX9_passes ∈ gdW := gdW_at 1008 (by decide +kernel) rfl
theorem wm_X9_147 : Cond.methodLink RX9 147 yX9_passOne ∈ gdW := gdW_at 1012 (by decide +kernel) rfl
theorem wm_X9_153 : Cond.methodLink RX9 153 yX9_weightOf ∈ gdW := gdW_at 1048 (by decide +kernel) rfl
theorem wm_X9_156 : Cond.methodLink RX9 156 yX9_costOf ∈ gdW := gdW_at 1052 (by decide +kernel) rfl
theorem wm_X9_159 : Cond.methodLink RX9 159 yX9_driftOf ∈ gdW := gdW_at 1056 (by decide +kernel) rfl
theorem wm_X9_162 : Cond.methodLink RX9 162 yX9_allLanes ∈ gdW := gdW_at 1076 (by decide +kernel) rfl
theorem wm_X9_165 : Cond.methodLink RX9 165 yX9_bits ∈ gdW := gdW_at 1088 (by decide +kernel) rfl
theorem wm_X9_168 : Cond.methodLink RX9 168 yX9_partsOf ∈ gdW := gdW_at 1091 (by decide +kernel) rfl
theorem wm_X9_171 : Cond.methodLink RX9 171 yX9_ruledAs ∈ gdW := gdW_at 1099 (by decide +kernel) rfl
theorem wm_X9_174 : Cond.methodLink RX9 174 yX9_areLanes ∈ gdW := gdW_at 1072 (by decide +kernel) rfl
theorem wm_X9_177 : Cond.methodLink RX9 177 yX9_isForest ∈ gdW := gdW_at 1084 (by decide +kernel) rfl
theorem wm_X9_180 : Cond.methodLink RX9 180 yX9_isRuled ∈ gdW := gdW_at 1095 (by decide +kernel) rfl
theorem wm_X9_186 : Cond.methodLink RX9 186 yX9_isWay ∈ gdW := gdW_at 1080 (by decide +kernel) rfl
theorem wm_X9_189 : Cond.methodLink RX9 189 yX9_worthOf ∈ gdW := gdW_at 1119 (by decide +kernel) rfl
theorem wm_X9_193 : Cond.methodLink RX9 193 yX9_findWays ∈ gdW := gdW_at 1115 (by decide +kernel) rfl
theorem wm_X9_196 : Cond.methodLink RX9 196 yX9_sumWith ∈ gdW := gdW_at 1127 (by decide +kernel) rfl
theorem wm_X9_200 : Cond.methodLink RX9 200 yX9_divisor ∈ gdW := gdW_at 1151 (by decide +kernel) rfl
theorem wm_X9_204 : Cond.methodLink RX9 204 yX9_lowest ∈ gdW := gdW_at 1139 (by decide +kernel) rfl
theorem wm_X9_207 : Cond.methodLink RX9 207 yX9_inLeast ∈ gdW := gdW_at 1148 (by decide +kernel) rfl
theorem wm_X9_211 : Cond.methodLink RX9 211 yX9_share ∈ gdW := gdW_at 1144 (by decide +kernel) rfl
theorem wm_X9_216 : Cond.methodLink RX9 216 yX9_highOf ∈ gdW := gdW_at 1162 (by decide +kernel) rfl
theorem wm_X9_219 : Cond.methodLink RX9 219 yX9_lowOf ∈ gdW := gdW_at 1166 (by decide +kernel) rfl
theorem wm_X9_222 : Cond.methodLink RX9 222 yX9_costsOf ∈ gdW := gdW_at 1185 (by decide +kernel) rfl
theorem wm_X9_225 : Cond.methodLink RX9 225 yX9_cheapest ∈ gdW := gdW_at 1181 (by decide +kernel) rfl
theorem wm_X9_228 : Cond.methodLink RX9 228 yX9_isToward ∈ gdW := gdW_at 1201 (by decide +kernel) rfl
theorem wm_X9_231 : Cond.methodLink RX9 231 yX9_isOneEach ∈ gdW := gdW_at 1213 (by decide +kernel) rfl
theorem wm_X9_234 : Cond.methodLink RX9 234 yX9_areTwo ∈ gdW := gdW_at 1221 (by decide +kernel) rfl
theorem wm_X9_237 : Cond.methodLink RX9 237 yX9_sumTogether ∈ gdW := gdW_at 1225 (by decide +kernel) rfl
theorem wm_X9_241 : Cond.methodLink RX9 241 yX9_sumApart ∈ gdW := gdW_at 1229 (by decide +kernel) rfl
theorem wm_X9_253 : Cond.methodLink RX9 253 yX9_doJoin ∈ gdW := gdW_at 1250 (by decide +kernel) rfl
theorem wm_X9_262 : Cond.methodLink RX9 262 yX9_findPlan ∈ gdW := gdW_at 1246 (by decide +kernel) rfl
theorem wm_X9_272 : Cond.methodLink RX9 272 yX9_leads ∈ gdW := gdW_at 1273 (by decide +kernel) rfl
theorem wm_X9_276 : Cond.methodLink RX9 276 yX9_weightsFrom ∈ gdW := gdW_at 1269 (by decide +kernel) rfl
theorem wm_X9_279 : Cond.methodLink RX9 279 yX9_drawn ∈ gdW := gdW_at 1277 (by decide +kernel) rfl
theorem wm_X9_286 : Cond.methodLink RX9 286 yX9_walks ∈ gdW := gdW_at 1265 (by decide +kernel) rfl
theorem wm_X9_289 : Cond.methodLink RX9 289 yX9_rowWay ∈ gdW := gdW_at 1284 (by decide +kernel) rfl
theorem wm_X9_292 : Cond.methodLink RX9 292 yX9_steps ∈ gdW := gdW_at 1288 (by decide +kernel) rfl
theorem wm_X9_295 : Cond.methodLink RX9 295 yX9_dearest ∈ gdW := gdW_at 1292 (by decide +kernel) rfl
theorem wm_X9_298 : Cond.methodLink RX9 298 yX9_isDrawer ∈ gdW := gdW_at 1258 (by decide +kernel) rfl
theorem wm_X9_301 : Cond.methodLink RX9 301 yX9_makes ∈ gdW := gdW_at 1261 (by decide +kernel) rfl
theorem mf_X0_isDrawer : MFv yX0_isDrawer cX0_isDrawer 2 (some .boolean) RX0 1 := ⟨gdW_at 740 (by decide +kernel) rfl, gdW_sel (q := (yX0_isDrawer, 8)) 68 (by decide +kernel), gdW_at 9 (by decide +kernel) rfl, gdW_at 741 (by decide +kernel) rfl, by decide +kernel⟩
theorem mf_X0_goesOn : MFv yX0_goesOn cX0_goesOn 3 (some .boolean) RX0 2 := ⟨gdW_at 752 (by decide +kernel) rfl, gdW_sel (q := (yX0_goesOn, 8)) 71 (by decide +kernel), gdW_at 9 (by decide +kernel) rfl, gdW_at 753 (by decide +kernel) rfl, by decide +kernel⟩
theorem mf_X0_lookRound : MFv yX0_lookRound cX0_lookRound 3 none RX0 0 := ⟨gdW_at 748 (by decide +kernel) rfl, gdW_sel (q := (yX0_lookRound, 8)) 70 (by decide +kernel), gdW_at 9 (by decide +kernel) rfl, gdW_at 749 (by decide +kernel) rfl, by decide +kernel⟩
theorem mf_X0_begin : MFv yX0_begin cX0_begin 2 none RX0 1 := ⟨gdW_at 744 (by decide +kernel) rfl, gdW_sel (q := (yX0_begin, 8)) 69 (by decide +kernel), gdW_at 9 (by decide +kernel) rfl, gdW_at 745 (by decide +kernel) rfl, by decide +kernel⟩
theorem mf_X6_allHouses : MFv yX6_allHouses cX6_allHouses 1 (some .int) RX6 0 := ⟨gdW_at 637 (by decide +kernel) rfl, gdW_sel (q := (yX6_allHouses, 10)) 51 (by decide +kernel), gdW_at 2 (by decide +kernel) rfl, gdW_at 638 (by decide +kernel) rfl, by decide +kernel⟩
theorem mf_X0_below : MFv yX0_below cX0_below 2 (some .int) RX0 1 := ⟨gdW_at 769 (by decide +kernel) rfl, gdW_sel (q := (yX0_below, 8)) 75 (by decide +kernel), gdW_at 9 (by decide +kernel) rfl, gdW_at 770 (by decide +kernel) rfl, by decide +kernel⟩
theorem mf_X0_laneFrom : MFv yX0_laneFrom cX0_laneFrom 4 (some .int) RX0 1 := ⟨gdW_at 765 (by decide +kernel) rfl, gdW_sel (q := (yX0_laneFrom, 8)) 74 (by decide +kernel), gdW_at 9 (by decide +kernel) rfl, gdW_at 766 (by decide +kernel) rfl, by decide +kernel⟩
theorem mf_X6_hasLane : MFv yX6_hasLane cX6_hasLane 2 (some .boolean) RX6 1 := ⟨gdW_at 388 (by decide +kernel) rfl, gdW_sel (q := (yX6_hasLane, 10)) 19 (by decide +kernel), gdW_at 2 (by decide +kernel) rfl, gdW_at 389 (by decide +kernel) rfl, by decide +kernel⟩
theorem mf_X0_walkAbout : MFv yX0_walkAbout cX0_walkAbout 7 (some .int) RX0 0 := ⟨gdW_at 760 (by decide +kernel) rfl, gdW_sel (q := (yX0_walkAbout, 8)) 73 (by decide +kernel), gdW_at 9 (by decide +kernel) rfl, gdW_at 761 (by decide +kernel) rfl, by decide +kernel⟩
theorem mf_X7_copyTo : MFv yX7_copyTo cX7_copyTo 4 (some .int) RX7 2 := ⟨gdW_at 781 (by decide +kernel) rfl, gdW_sel (q := (yX7_copyTo, 7)) 77 (by decide +kernel), gdW_at 5 (by decide +kernel) rfl, gdW_at 782 (by decide +kernel) rfl, by decide +kernel⟩
theorem mf_X0_poolWorthWith : MFv yX0_poolWorthWith cX0_poolWorthWith 5 (some .int) RX0 2 := ⟨gdW_at 785 (by decide +kernel) rfl, gdW_sel (q := (yX0_poolWorthWith, 8)) 78 (by decide +kernel), gdW_at 9 (by decide +kernel) rfl, gdW_at 786 (by decide +kernel) rfl, by decide +kernel⟩
theorem mf_X0_narrow : MFv yX0_narrow cX0_narrow 6 (some .int) RX0 3 := ⟨gdW_at 789 (by decide +kernel) rfl, gdW_sel (q := (yX0_narrow, 8)) 79 (by decide +kernel), gdW_at 9 (by decide +kernel) rfl, gdW_at 790 (by decide +kernel) rfl, by decide +kernel⟩
theorem mf_X0_laneByLane : MFv yX0_laneByLane cX0_laneByLane 6 (some .int) RX0 0 := ⟨gdW_at 777 (by decide +kernel) rfl, gdW_sel (q := (yX0_laneByLane, 8)) 76 (by decide +kernel), gdW_at 9 (by decide +kernel) rfl, gdW_at 778 (by decide +kernel) rfl, by decide +kernel⟩
theorem mf_X6_costOf : MFv yX6_costOf cX6_costOf 4 (some .int) RX6 1 := ⟨gdW_at 566 (by decide +kernel) rfl, gdW_sel (q := (yX6_costOf, 10)) 41 (by decide +kernel), gdW_at 2 (by decide +kernel) rfl, gdW_at 567 (by decide +kernel) rfl, by decide +kernel⟩
theorem mf_X7_sortEvery : MFv yX7_sortEvery cX7_sortEvery 5 none RX7 1 := ⟨gdW_at 570 (by decide +kernel) rfl, gdW_sel (q := (yX7_sortEvery, 7)) 42 (by decide +kernel), gdW_at 5 (by decide +kernel) rfl, gdW_at 571 (by decide +kernel) rfl, by decide +kernel⟩
theorem mf_X7_sortByCost : MFv yX7_sortByCost cX7_sortByCost 2 none RX7 0 := ⟨gdW_at 562 (by decide +kernel) rfl, gdW_sel (q := (yX7_sortByCost, 7)) 40 (by decide +kernel), gdW_at 5 (by decide +kernel) rfl, gdW_at 563 (by decide +kernel) rfl, by decide +kernel⟩
theorem mf_X7_has : MFv yX7_has cX7_has 2 (some .boolean) RX7 1 := ⟨gdW_at 503 (by decide +kernel) rfl, gdW_sel (q := (yX7_has, 7)) 34 (by decide +kernel), gdW_at 5 (by decide +kernel) rfl, gdW_at 504 (by decide +kernel) rfl, by decide +kernel⟩
theorem mf_X7_bitsByCost : MFv yX7_bitsByCost cX7_bitsByCost 2 (some .int) RX7 1 := ⟨gdW_at 558 (by decide +kernel) rfl, gdW_sel (q := (yX7_bitsByCost, 7)) 39 (by decide +kernel), gdW_at 5 (by decide +kernel) rfl, gdW_at 559 (by decide +kernel) rfl, by decide +kernel⟩
theorem mf_X7_dearest : MFv yX7_dearest cX7_dearest 4 (some .int) RX7 0 := ⟨gdW_at 794 (by decide +kernel) rfl, gdW_sel (q := (yX7_dearest, 7)) 80 (by decide +kernel), gdW_at 5 (by decide +kernel) rfl, gdW_at 795 (by decide +kernel) rfl, by decide +kernel⟩
theorem mf_X7_at : MFv yX7_at cX7_at 2 (some .int) RX7 1 := ⟨gdW_at 499 (by decide +kernel) rfl, gdW_sel (q := (yX7_at, 7)) 33 (by decide +kernel), gdW_at 5 (by decide +kernel) rfl, gdW_at 500 (by decide +kernel) rfl, by decide +kernel⟩
theorem mf_X6_allLanes : MFv yX6_allLanes cX6_allLanes 1 (some .int) RX6 0 := ⟨gdW_at 457 (by decide +kernel) rfl, gdW_sel (q := (yX6_allLanes, 10)) 29 (by decide +kernel), gdW_at 2 (by decide +kernel) rfl, gdW_at 458 (by decide +kernel) rfl, by decide +kernel⟩
theorem mf_X6_hasAll : MFv yX6_hasAll cX6_hasAll 2 (some .boolean) RX6 1 := ⟨gdW_at 453 (by decide +kernel) rfl, gdW_sel (q := (yX6_hasAll, 10)) 28 (by decide +kernel), gdW_at 2 (by decide +kernel) rfl, gdW_at 454 (by decide +kernel) rfl, by decide +kernel⟩
theorem mf_X6_allows : MFv yX6_allows cX6_allows 2 (some .boolean) RX6 1 := ⟨gdW_at 260 (by decide +kernel) rfl, gdW_sel (q := (yX6_allows, 10)) 3 (by decide +kernel), gdW_at 2 (by decide +kernel) rfl, gdW_at 261 (by decide +kernel) rfl, by decide +kernel⟩
theorem mf_X2_stateOf : MFv yX2_stateOf cX2_stateOf 2 (some .int) RX2 1 := ⟨gdW_at 268 (by decide +kernel) rfl, gdW_sel (q := (yX2_stateOf, 2)) 5 (by decide +kernel), gdW_at 4 (by decide +kernel) rfl, gdW_at 269 (by decide +kernel) rfl, by decide +kernel⟩
theorem mf_X2_isForest : MFs yX2_isForest cX2_isForest 2 (some .boolean) 2 := ⟨gdW_at 271 (by decide +kernel) rfl, gdW_at 4 (by decide +kernel) rfl, gdW_at 272 (by decide +kernel) rfl, by decide +kernel⟩
theorem mf_X2_leavesForest : MFv yX2_leavesForest cX2_leavesForest 3 (some .boolean) RX2 2 := ⟨gdW_at 264 (by decide +kernel) rfl, gdW_sel (q := (yX2_leavesForest, 2)) 4 (by decide +kernel), gdW_at 4 (by decide +kernel) rfl, gdW_at 265 (by decide +kernel) rfl, by decide +kernel⟩
theorem mf_X2_isWay : MFv yX2_isWay cX2_isWay 2 (some .boolean) RX2 1 := ⟨gdW_at 461 (by decide +kernel) rfl, gdW_sel (q := (yX2_isWay, 2)) 30 (by decide +kernel), gdW_at 4 (by decide +kernel) rfl, gdW_at 462 (by decide +kernel) rfl, by decide +kernel⟩
theorem mf_X5_asWay : MFv yX5_asWay cX5_asWay 3 (some .int) RX5 0 := ⟨gdW_at 799 (by decide +kernel) rfl, gdW_sel (q := (yX5_asWay, 4)) 81 (by decide +kernel), gdW_at 8 (by decide +kernel) rfl, gdW_at 800 (by decide +kernel) rfl, by decide +kernel⟩
theorem mf_X0_makeNext : MFv yX0_makeNext cX0_makeNext 2 (some .int) RX0 1 := ⟨gdW_at 756 (by decide +kernel) rfl, gdW_sel (q := (yX0_makeNext, 8)) 72 (by decide +kernel), gdW_at 9 (by decide +kernel) rfl, gdW_at 757 (by decide +kernel) rfl, by decide +kernel⟩
theorem mf_X6_sets : MFv yX6_sets cX6_sets 1 (some .int) RX6 0 := ⟨gdW_at 256 (by decide +kernel) rfl, gdW_sel (q := (yX6_sets, 10)) 2 (by decide +kernel), gdW_at 2 (by decide +kernel) rfl, gdW_at 257 (by decide +kernel) rfl, by decide +kernel⟩
theorem mf_X1_manyOf : MFv yX1_manyOf cX1_manyOf 5 (some .int) RX1 1 := ⟨gdW_at 622 (by decide +kernel) rfl, gdW_sel (q := (yX1_manyOf, 2)) 49 (by decide +kernel), gdW_at 6 (by decide +kernel) rfl, gdW_at 623 (by decide +kernel) rfl, by decide +kernel⟩
theorem mf_J6_bitCount : MFs yJ6_bitCount cJ6_bitCount 1 (some .int) 1 := ⟨gdW_at 581 (by decide +kernel) rfl, gdW_at 12 (by decide +kernel) rfl, gdW_at 582 (by decide +kernel) rfl, by decide +kernel⟩
theorem mf_X2_partOf : MFs yX2_partOf cX2_partOf 2 (some .int) 2 := ⟨gdW_at 240 (by decide +kernel) rfl, gdW_at 4 (by decide +kernel) rfl, gdW_at 241 (by decide +kernel) rfl, by decide +kernel⟩
theorem mf_X2_areAllApart : MFv yX2_areAllApart cX2_areAllApart 7 (some .boolean) RX2 2 := ⟨gdW_at 646 (by decide +kernel) rfl, gdW_sel (q := (yX2_areAllApart, 2)) 53 (by decide +kernel), gdW_at 4 (by decide +kernel) rfl, gdW_at 647 (by decide +kernel) rfl, by decide +kernel⟩
theorem mf_X1_manyWithOneEach : MFv yX1_manyWithOneEach cX1_manyWithOneEach 6 (some .int) RX1 1 := ⟨gdW_at 641 (by decide +kernel) rfl, gdW_sel (q := (yX1_manyWithOneEach, 2)) 52 (by decide +kernel), gdW_at 6 (by decide +kernel) rfl, gdW_at 642 (by decide +kernel) rfl, by decide +kernel⟩
theorem mf_X1_isOpen : MFv yX1_isOpen cX1_isOpen 3 (some .boolean) RX1 2 := ⟨gdW_at 662 (by decide +kernel) rfl, gdW_sel (q := (yX1_isOpen, 2)) 56 (by decide +kernel), gdW_at 6 (by decide +kernel) rfl, gdW_at 663 (by decide +kernel) rfl, by decide +kernel⟩
theorem mf_X6_worthOf : MFv yX6_worthOf cX6_worthOf 4 (some .int) RX6 1 := ⟨gdW_at 275 (by decide +kernel) rfl, gdW_sel (q := (yX6_worthOf, 10)) 6 (by decide +kernel), gdW_at 2 (by decide +kernel) rfl, gdW_at 276 (by decide +kernel) rfl, by decide +kernel⟩
theorem mf_X1_worthOfWhole : MFv yX1_worthOfWhole cX1_worthOfWhole 6 (some .long) RX1 1 := ⟨gdW_at 658 (by decide +kernel) rfl, gdW_sel (q := (yX1_worthOfWhole, 2)) 55 (by decide +kernel), gdW_at 6 (by decide +kernel) rfl, gdW_at 659 (by decide +kernel) rfl, by decide +kernel⟩
theorem mf_X2_areTogether : MFv yX2_areTogether cX2_areTogether 5 (some .boolean) RX2 3 := ⟨gdW_at 610 (by decide +kernel) rfl, gdW_sel (q := (yX2_areTogether, 2)) 47 (by decide +kernel), gdW_at 4 (by decide +kernel) rfl, gdW_at 611 (by decide +kernel) rfl, by decide +kernel⟩
theorem mf_X1_worthApart : MFv yX1_worthApart cX1_worthApart 8 (some .long) RX1 3 := ⟨gdW_at 667 (by decide +kernel) rfl, gdW_sel (q := (yX1_worthApart, 2)) 57 (by decide +kernel), gdW_at 6 (by decide +kernel) rfl, gdW_at 668 (by decide +kernel) rfl, by decide +kernel⟩
theorem mf_X1_free : MFv yX1_free cX1_free 1 (some .int) RX1 0 := ⟨gdW_at 684 (by decide +kernel) rfl, gdW_sel (q := (yX1_free, 2)) 59 (by decide +kernel), gdW_at 6 (by decide +kernel) rfl, gdW_at 685 (by decide +kernel) rfl, by decide +kernel⟩
theorem mf_X1_chancesInAll : MFv yX1_chancesInAll cX1_chancesInAll 5 (some .long) RX1 0 := ⟨gdW_at 694 (by decide +kernel) rfl, gdW_sel (q := (yX1_chancesInAll, 2)) 61 (by decide +kernel), gdW_at 6 (by decide +kernel) rfl, gdW_at 695 (by decide +kernel) rfl, by decide +kernel⟩
theorem mf_X2_partsLeft : MFv yX2_partsLeft cX2_partsLeft 2 (some .int) RX2 1 := ⟨gdW_at 475 (by decide +kernel) rfl, gdW_sel (q := (yX2_partsLeft, 2)) 31 (by decide +kernel), gdW_at 4 (by decide +kernel) rfl, gdW_at 476 (by decide +kernel) rfl, by decide +kernel⟩
theorem mf_X1_chancesOf : MFv yX1_chancesOf cX1_chancesOf 7 (some .long) RX1 2 := ⟨gdW_at 690 (by decide +kernel) rfl, gdW_sel (q := (yX1_chancesOf, 2)) 60 (by decide +kernel), gdW_at 6 (by decide +kernel) rfl, gdW_at 691 (by decide +kernel) rfl, by decide +kernel⟩
theorem mf_X1_chancesToHold : MFv yX1_chancesToHold cX1_chancesToHold 6 (some .long) RX1 0 := ⟨gdW_at 680 (by decide +kernel) rfl, gdW_sel (q := (yX1_chancesToHold, 2)) 58 (by decide +kernel), gdW_at 6 (by decide +kernel) rfl, gdW_at 681 (by decide +kernel) rfl, by decide +kernel⟩
theorem mf_X2_apart : MFs yX2_apart cX2_apart 3 (some .int) 1 := ⟨gdW_at 231 (by decide +kernel) rfl, gdW_at 4 (by decide +kernel) rfl, gdW_at 232 (by decide +kernel) rfl, by decide +kernel⟩
theorem mf_J7_min : Cond.static Lib.Math.min.name ∈ gdW ∧ Cond.initialized "java/lang/Math" ∈ gdW ∧ Cond.code Lib.Math.min.name Lib.Math.min.code 2 (some .int) ∈ gdW := ⟨gdW_at 244 (by decide +kernel) rfl, gdW_at 10 (by decide +kernel) rfl, gdW_at 245 (by decide +kernel) rfl⟩
theorem mf_J7_max : Cond.static Lib.Math.max.name ∈ gdW ∧ Cond.initialized "java/lang/Math" ∈ gdW ∧ Cond.code Lib.Math.max.name Lib.Math.max.code 2 (some .int) ∈ gdW := ⟨gdW_at 247 (by decide +kernel) rfl, gdW_at 10 (by decide +kernel) rfl, gdW_at 248 (by decide +kernel) rfl⟩
theorem mf_X2_joined : MFs yX2_joined cX2_joined 9 (some .int) 3 := ⟨gdW_at 237 (by decide +kernel) rfl, gdW_at 4 (by decide +kernel) rfl, gdW_at 238 (by decide +kernel) rfl, by decide +kernel⟩
theorem mf_X2_joinAll : MFs yX2_joinAll cX2_joinAll 6 none 4 := ⟨gdW_at 234 (by decide +kernel) rfl, gdW_at 4 (by decide +kernel) rfl, gdW_at 235 (by decide +kernel) rfl, by decide +kernel⟩
theorem mf_X2_build : MFv yX2_build cX2_build 2 none RX2 0 := ⟨gdW_at 228 (by decide +kernel) rfl, gdW_sel (q := (yX2_build, 2)) 0 (by decide +kernel), gdW_at 4 (by decide +kernel) rfl, gdW_at 229 (by decide +kernel) rfl, by decide +kernel⟩
theorem mf_X2_hasRing : MFv yX2_hasRing cX2_hasRing 2 (some .boolean) RX2 1 := ⟨gdW_at 830 (by decide +kernel) rfl, gdW_sel (q := (yX2_hasRing, 2)) 85 (by decide +kernel), gdW_at 4 (by decide +kernel) rfl, gdW_at 831 (by decide +kernel) rfl, by decide +kernel⟩
theorem mf_X3_haveRoom : MFv yX3_haveRoom cX3_haveRoom 1 (some .boolean) RX3 0 := ⟨gdW_at 324 (by decide +kernel) rfl, gdW_sel (q := (yX3_haveRoom, 2)) 8 (by decide +kernel), gdW_at 3 (by decide +kernel) rfl, gdW_at 325 (by decide +kernel) rfl, by decide +kernel⟩
theorem mf_X3_append : MFv yX3_append cX3_append 2 (some .int) RX3 1 := ⟨gdW_at 328 (by decide +kernel) rfl, gdW_sel (q := (yX3_append, 2)) 9 (by decide +kernel), gdW_at 3 (by decide +kernel) rfl, gdW_at 329 (by decide +kernel) rfl, by decide +kernel⟩
theorem mf_X3_clear : MFv yX3_clear cX3_clear 1 none RX3 0 := ⟨gdW_at 418 (by decide +kernel) rfl, gdW_sel (q := (yX3_clear, 2)) 24 (by decide +kernel), gdW_at 3 (by decide +kernel) rfl, gdW_at 419 (by decide +kernel) rfl, by decide +kernel⟩
theorem mf_X3_afterStart : MFs yX3_afterStart cX3_afterStart 1 (some .int) 1 := ⟨gdW_at 350 (by decide +kernel) rfl, gdW_at 3 (by decide +kernel) rfl, gdW_at 351 (by decide +kernel) rfl, by decide +kernel⟩
theorem mf_X3_isDigit : MFs yX3_isDigit cX3_isDigit 1 (some .boolean) 1 := ⟨gdW_at 353 (by decide +kernel) rfl, gdW_at 3 (by decide +kernel) rfl, gdW_at 354 (by decide +kernel) rfl, by decide +kernel⟩
theorem mf_X3_afterComma : MFs yX3_afterComma cX3_afterComma 1 (some .int) 1 := ⟨gdW_at 356 (by decide +kernel) rfl, gdW_at 3 (by decide +kernel) rfl, gdW_at 357 (by decide +kernel) rfl, by decide +kernel⟩
theorem mf_X3_after : MFs yX3_after cX3_after 2 (some .int) 2 := ⟨gdW_at 347 (by decide +kernel) rfl, gdW_at 3 (by decide +kernel) rfl, gdW_at 348 (by decide +kernel) rfl, by decide +kernel⟩
theorem mf_X3_placeOfWrongForm : MFv yX3_placeOfWrongForm cX3_placeOfWrongForm 3 (some .int) RX3 0 := ⟨gdW_at 344 (by decide +kernel) rfl, gdW_sel (q := (yX3_placeOfWrongForm, 2)) 12 (by decide +kernel), gdW_at 3 (by decide +kernel) rfl, gdW_at 345 (by decide +kernel) rfl, by decide +kernel⟩
theorem mf_X3_letterAt : MFv yX3_letterAt cX3_letterAt 2 (some .int) RX3 1 := ⟨gdW_at 368 (by decide +kernel) rfl, gdW_sel (q := (yX3_letterAt, 2)) 15 (by decide +kernel), gdW_at 3 (by decide +kernel) rfl, gdW_at 369 (by decide +kernel) rfl, by decide +kernel⟩
theorem mf_X3_digitAt : MFv yX3_digitAt cX3_digitAt 2 (some .int) RX3 1 := ⟨gdW_at 372 (by decide +kernel) rfl, gdW_sel (q := (yX3_digitAt, 2)) 16 (by decide +kernel), gdW_at 3 (by decide +kernel) rfl, gdW_at 373 (by decide +kernel) rfl, by decide +kernel⟩
theorem mf_X3_number : MFv yX3_number cX3_number 5 (some .int) RX3 2 := ⟨gdW_at 364 (by decide +kernel) rfl, gdW_sel (q := (yX3_number, 2)) 14 (by decide +kernel), gdW_at 3 (by decide +kernel) rfl, gdW_at 365 (by decide +kernel) rfl, by decide +kernel⟩
theorem mf_X6_farthestHouse : MFv yX6_farthestHouse cX6_farthestHouse 3 (some .int) RX6 0 := ⟨gdW_at 380 (by decide +kernel) rfl, gdW_sel (q := (yX6_farthestHouse, 10)) 18 (by decide +kernel), gdW_at 2 (by decide +kernel) rfl, gdW_at 381 (by decide +kernel) rfl, by decide +kernel⟩
theorem mf_X6_setHouses : MFv yX6_setHouses cX6_setHouses 2 (some .boolean) RX6 1 := ⟨gdW_at 376 (by decide +kernel) rfl, gdW_sel (q := (yX6_setHouses, 10)) 17 (by decide +kernel), gdW_at 2 (by decide +kernel) rfl, gdW_at 377 (by decide +kernel) rfl, by decide +kernel⟩
theorem mf_X6_setRule : MFv yX6_setRule cX6_setRule 4 none RX6 2 := ⟨gdW_at 392 (by decide +kernel) rfl, gdW_sel (q := (yX6_setRule, 10)) 20 (by decide +kernel), gdW_at 2 (by decide +kernel) rfl, gdW_at 393 (by decide +kernel) rfl, by decide +kernel⟩
theorem mf_X3_tellRule : MFs yX3_tellRule cX3_tellRule 3 (some .boolean) 3 := ⟨gdW_at 384 (by decide +kernel) rfl, gdW_at 3 (by decide +kernel) rfl, gdW_at 385 (by decide +kernel) rfl, by decide +kernel⟩
theorem mf_X6_hasHouse : MFv yX6_hasHouse cX6_hasHouse 2 (some .boolean) RX6 1 := ⟨gdW_at 404 (by decide +kernel) rfl, gdW_sel (q := (yX6_hasHouse, 10)) 23 (by decide +kernel), gdW_at 2 (by decide +kernel) rfl, gdW_at 405 (by decide +kernel) rfl, by decide +kernel⟩
theorem mf_X6_weightByKind : MFs yX6_weightByKind cX6_weightByKind 2 (some .int) 2 := ⟨gdW_at 407 (by decide +kernel) rfl, gdW_at 2 (by decide +kernel) rfl, gdW_at 408 (by decide +kernel) rfl, by decide +kernel⟩
theorem mf_X6_costByKind : MFs yX6_costByKind cX6_costByKind 2 (some .int) 2 := ⟨gdW_at 410 (by decide +kernel) rfl, gdW_at 2 (by decide +kernel) rfl, gdW_at 411 (by decide +kernel) rfl, by decide +kernel⟩
theorem mf_X6_driftByKind : MFs yX6_driftByKind cX6_driftByKind 2 (some .int) 2 := ⟨gdW_at 413 (by decide +kernel) rfl, gdW_at 2 (by decide +kernel) rfl, gdW_at 414 (by decide +kernel) rfl, by decide +kernel⟩
theorem mf_X6_addLane : MFv yX6_addLane cX6_addLane 7 (some .boolean) RX6 6 := ⟨gdW_at 400 (by decide +kernel) rfl, gdW_sel (q := (yX6_addLane, 10)) 22 (by decide +kernel), gdW_at 2 (by decide +kernel) rfl, gdW_at 401 (by decide +kernel) rfl, by decide +kernel⟩
theorem mf_X3_tellLane : MFv yX3_tellLane cX3_tellLane 5 (some .boolean) RX3 3 := ⟨gdW_at 396 (by decide +kernel) rfl, gdW_sel (q := (yX3_tellLane, 2)) 21 (by decide +kernel), gdW_at 3 (by decide +kernel) rfl, gdW_at 397 (by decide +kernel) rfl, by decide +kernel⟩
theorem mf_X3_tellOne : MFv yX3_tellOne cX3_tellOne 5 (some .boolean) RX3 3 := ⟨gdW_at 360 (by decide +kernel) rfl, gdW_sel (q := (yX3_tellOne, 2)) 13 (by decide +kernel), gdW_at 3 (by decide +kernel) rfl, gdW_at 361 (by decide +kernel) rfl, by decide +kernel⟩
theorem mf_X3_tellTo : MFv yX3_tellTo cX3_tellTo 6 (some .int) RX3 1 := ⟨gdW_at 340 (by decide +kernel) rfl, gdW_sel (q := (yX3_tellTo, 2)) 11 (by decide +kernel), gdW_at 3 (by decide +kernel) rfl, gdW_at 341 (by decide +kernel) rfl, by decide +kernel⟩
theorem mf_X8_pairsOf : MFs yX8_pairsOf cX8_pairsOf 1 (some .int) 1 := ⟨gdW_at 702 (by decide +kernel) rfl, gdW_at 1 (by decide +kernel) rfl, gdW_at 703 (by decide +kernel) rfl, by decide +kernel⟩
theorem mf_X4_joinPairs : MFv yX4_joinPairs cX4_joinPairs 4 none RX4 0 := ⟨gdW_at 711 (by decide +kernel) rfl, gdW_sel (q := (yX4_joinPairs, 4)) 63 (by decide +kernel), gdW_at 7 (by decide +kernel) rfl, gdW_at 712 (by decide +kernel) rfl, by decide +kernel⟩
theorem mf_X8_yesNo : MFs yX8_yesNo cX8_yesNo 1 (some .int) 1 := ⟨gdW_at 467 (by decide +kernel) rfl, gdW_at 1 (by decide +kernel) rfl, gdW_at 468 (by decide +kernel) rfl, by decide +kernel⟩
theorem mf_X4_addThoseWithout : MFv yX4_addThoseWithout cX4_addThoseWithout 5 none RX4 2 := ⟨gdW_at 719 (by decide +kernel) rfl, gdW_sel (q := (yX4_addThoseWithout, 4)) 64 (by decide +kernel), gdW_at 7 (by decide +kernel) rfl, gdW_at 720 (by decide +kernel) rfl, by decide +kernel⟩
theorem mf_X4_chooseBest : MFv yX4_chooseBest cX4_chooseBest 4 none RX4 1 := ⟨gdW_at 723 (by decide +kernel) rfl, gdW_sel (q := (yX4_chooseBest, 4)) 65 (by decide +kernel), gdW_at 7 (by decide +kernel) rfl, gdW_at 724 (by decide +kernel) rfl, by decide +kernel⟩
theorem mf_X4_makeFor : MFv yX4_makeFor cX4_makeFor 5 none RX4 1 := ⟨gdW_at 706 (by decide +kernel) rfl, gdW_sel (q := (yX4_makeFor, 4)) 62 (by decide +kernel), gdW_at 7 (by decide +kernel) rfl, gdW_at 707 (by decide +kernel) rfl, by decide +kernel⟩
theorem mf_X4_mostWays : MFv yX4_mostWays cX4_mostWays 2 (some .int) RX4 1 := ⟨gdW_at 728 (by decide +kernel) rfl, gdW_sel (q := (yX4_mostWays, 4)) 66 (by decide +kernel), gdW_at 7 (by decide +kernel) rfl, gdW_at 729 (by decide +kernel) rfl, by decide +kernel⟩
theorem mf_X4_firstSet : MFv yX4_firstSet cX4_firstSet 2 (some .int) RX4 1 := ⟨gdW_at 732 (by decide +kernel) rfl, gdW_sel (q := (yX4_firstSet, 4)) 67 (by decide +kernel), gdW_at 7 (by decide +kernel) rfl, gdW_at 733 (by decide +kernel) rfl, by decide +kernel⟩
theorem mf_X5_hasRoom : MFv yX5_hasRoom cX5_hasRoom 1 (some .boolean) RX5 0 := ⟨gdW_at 812 (by decide +kernel) rfl, gdW_sel (q := (yX5_hasRoom, 4)) 82 (by decide +kernel), gdW_at 8 (by decide +kernel) rfl, gdW_at 813 (by decide +kernel) rfl, by decide +kernel⟩
theorem mf_X5_append : MFv yX5_append cX5_append 2 (some .int) RX5 1 := ⟨gdW_at 816 (by decide +kernel) rfl, gdW_sel (q := (yX5_append, 4)) 83 (by decide +kernel), gdW_at 8 (by decide +kernel) rfl, gdW_at 817 (by decide +kernel) rfl, by decide +kernel⟩
theorem mf_X5_clear : MFv yX5_clear cX5_clear 1 none RX5 0 := ⟨gdW_at 834 (by decide +kernel) rfl, gdW_sel (q := (yX5_clear, 4)) 86 (by decide +kernel), gdW_at 8 (by decide +kernel) rfl, gdW_at 835 (by decide +kernel) rfl, by decide +kernel⟩
theorem mf_X6_ruleOf : MFv yX6_ruleOf cX6_ruleOf 3 (some .int) RX6 1 := ⟨gdW_at 431 (by decide +kernel) rfl, gdW_sel (q := (yX6_ruleOf, 10)) 26 (by decide +kernel), gdW_at 2 (by decide +kernel) rfl, gdW_at 432 (by decide +kernel) rfl, by decide +kernel⟩
theorem mf_X5_judged : MFv yX5_judged cX5_judged 5 (some .int) RX5 0 := ⟨gdW_at 824 (by decide +kernel) rfl, gdW_sel (q := (yX5_judged, 4)) 84 (by decide +kernel), gdW_at 8 (by decide +kernel) rfl, gdW_at 825 (by decide +kernel) rfl, by decide +kernel⟩
theorem mf_X6_copy : MFv yX6_copy cX6_copy 3 none RX6 1 := ⟨gdW_at 336 (by decide +kernel) rfl, gdW_sel (q := (yX6_copy, 10)) 10 (by decide +kernel), gdW_at 2 (by decide +kernel) rfl, gdW_at 337 (by decide +kernel) rfl, by decide +kernel⟩
theorem mf_X6_hasAllHouses : MFv yX6_hasAllHouses cX6_hasAllHouses 2 (some .boolean) RX6 1 := ⟨gdW_at 633 (by decide +kernel) rfl, gdW_sel (q := (yX6_hasAllHouses, 10)) 50 (by decide +kernel), gdW_at 2 (by decide +kernel) rfl, gdW_at 634 (by decide +kernel) rfl, by decide +kernel⟩
theorem mf_X6_removeLatest : MFv yX6_removeLatest cX6_removeLatest 1 none RX6 0 := ⟨gdW_at 444 (by decide +kernel) rfl, gdW_sel (q := (yX6_removeLatest, 10)) 27 (by decide +kernel), gdW_at 2 (by decide +kernel) rfl, gdW_at 445 (by decide +kernel) rfl, by decide +kernel⟩
theorem mf_X6_costOfAll : MFv yX6_costOfAll cX6_costOfAll 1 (some .int) RX6 0 := ⟨gdW_at 850 (by decide +kernel) rfl, gdW_sel (q := (yX6_costOfAll, 10)) 87 (by decide +kernel), gdW_at 2 (by decide +kernel) rfl, gdW_at 851 (by decide +kernel) rfl, by decide +kernel⟩
theorem mf_X7_list : MFv yX7_list cX7_list 3 none RX7 0 := ⟨gdW_at 252 (by decide +kernel) rfl, gdW_sel (q := (yX7_list, 7)) 1 (by decide +kernel), gdW_at 5 (by decide +kernel) rfl, gdW_at 253 (by decide +kernel) rfl, by decide +kernel⟩
theorem mf_X7_worthWith : MFv yX7_worthWith cX7_worthWith 5 (some .long) RX7 1 := ⟨gdW_at 491 (by decide +kernel) rfl, gdW_sel (q := (yX7_worthWith, 7)) 32 (by decide +kernel), gdW_at 5 (by decide +kernel) rfl, gdW_at 492 (by decide +kernel) rfl, by decide +kernel⟩
theorem mf_X7_lanesInAll : MFv yX7_lanesInAll cX7_lanesInAll 3 (some .int) RX7 0 := ⟨gdW_at 541 (by decide +kernel) rfl, gdW_sel (q := (yX7_lanesInAll, 7)) 37 (by decide +kernel), gdW_at 5 (by decide +kernel) rfl, gdW_at 542 (by decide +kernel) rfl, by decide +kernel⟩
theorem mf_X7_lanesInNone : MFv yX7_lanesInNone cX7_lanesInNone 3 (some .int) RX7 0 := ⟨gdW_at 550 (by decide +kernel) rfl, gdW_sel (q := (yX7_lanesInNone, 7)) 38 (by decide +kernel), gdW_at 5 (by decide +kernel) rfl, gdW_at 551 (by decide +kernel) rfl, by decide +kernel⟩
theorem mf_X7_costByCost : MFv yX7_costByCost cX7_costByCost 2 (some .int) RX7 1 := ⟨gdW_at 574 (by decide +kernel) rfl, gdW_sel (q := (yX7_costByCost, 7)) 43 (by decide +kernel), gdW_at 5 (by decide +kernel) rfl, gdW_at 575 (by decide +kernel) rfl, by decide +kernel⟩
theorem mf_X7_stepBetween : MFv yX7_stepBetween cX7_stepBetween 6 (some .int) RX7 2 := ⟨gdW_at 592 (by decide +kernel) rfl, gdW_sel (q := (yX7_stepBetween, 7)) 44 (by decide +kernel), gdW_at 5 (by decide +kernel) rfl, gdW_at 593 (by decide +kernel) rfl, by decide +kernel⟩
theorem mf_X7_leadsTo : MFv yX7_leadsTo cX7_leadsTo 5 (some .boolean) RX7 2 := ⟨gdW_at 606 (by decide +kernel) rfl, gdW_sel (q := (yX7_leadsTo, 7)) 46 (by decide +kernel), gdW_at 5 (by decide +kernel) rfl, gdW_at 607 (by decide +kernel) rfl, by decide +kernel⟩
theorem mf_X7_manyToward : MFv yX7_manyToward cX7_manyToward 4 (some .int) RX7 1 := ⟨gdW_at 602 (by decide +kernel) rfl, gdW_sel (q := (yX7_manyToward, 7)) 45 (by decide +kernel), gdW_at 5 (by decide +kernel) rfl, gdW_at 603 (by decide +kernel) rfl, by decide +kernel⟩
theorem mf_X7_worthToward : MFv yX7_worthToward cX7_worthToward 5 (some .long) RX7 1 := ⟨gdW_at 614 (by decide +kernel) rfl, gdW_sel (q := (yX7_worthToward, 7)) 48 (by decide +kernel), gdW_at 5 (by decide +kernel) rfl, gdW_at 615 (by decide +kernel) rfl, by decide +kernel⟩
theorem mf_X8_refuse : MFv yX8_refuse cX8_refuse 3 (some .int) RX8 1 := ⟨gdW_at 320 (by decide +kernel) rfl, gdW_sel (q := (yX8_refuse, 12)) 7 (by decide +kernel), gdW_at 1 (by decide +kernel) rfl, gdW_at 321 (by decide +kernel) rfl, by decide +kernel⟩
theorem mf_X8_feed : MFv yX8_feed cX8_feed 2 (some .int) RX8 1 := ⟨gdW_at 315 (by decide +kernel) rfl, gdW_at 316 (by decide +kernel) rfl, gdW_at 1 (by decide +kernel) rfl, gdW_at 317 (by decide +kernel) rfl, by decide +kernel⟩
theorem mf_X8_lanesChanged : MFv yX8_lanesChanged cX8_lanesChanged 1 none RX8 0 := ⟨gdW_at 422 (by decide +kernel) rfl, gdW_sel (q := (yX8_lanesChanged, 12)) 25 (by decide +kernel), gdW_at 1 (by decide +kernel) rfl, gdW_at 423 (by decide +kernel) rfl, by decide +kernel⟩
theorem mf_X8_village : MFv yX8_village cX8_village 2 (some .int) RX8 0 := ⟨gdW_at 331 (by decide +kernel) rfl, gdW_at 332 (by decide +kernel) rfl, gdW_at 1 (by decide +kernel) rfl, gdW_at 333 (by decide +kernel) rfl, by decide +kernel⟩
theorem mf_X8_lane : MFv yX8_lane cX8_lane 3 (some .int) RX8 2 := ⟨gdW_at 425 (by decide +kernel) rfl, gdW_at 426 (by decide +kernel) rfl, gdW_at 1 (by decide +kernel) rfl, gdW_at 427 (by decide +kernel) rfl, by decide +kernel⟩
theorem mf_X8_rule : MFv yX8_rule cX8_rule 4 (some .int) RX8 2 := ⟨gdW_at 434 (by decide +kernel) rfl, gdW_at 435 (by decide +kernel) rfl, gdW_at 1 (by decide +kernel) rfl, gdW_at 436 (by decide +kernel) rfl, by decide +kernel⟩
theorem mf_X8_takeUp : MFv yX8_takeUp cX8_takeUp 1 (some .int) RX8 0 := ⟨gdW_at 439 (by decide +kernel) rfl, gdW_at 440 (by decide +kernel) rfl, gdW_at 1 (by decide +kernel) rfl, gdW_at 441 (by decide +kernel) rfl, by decide +kernel⟩
theorem mf_X8_is : MFv yX8_is cX8_is 2 (some .int) RX8 1 := ⟨gdW_at 448 (by decide +kernel) rfl, gdW_at 449 (by decide +kernel) rfl, gdW_at 1 (by decide +kernel) rfl, gdW_at 450 (by decide +kernel) rfl, by decide +kernel⟩
theorem mf_X8_hangs : MFv yX8_hangs cX8_hangs 2 (some .int) RX8 1 := ⟨gdW_at 470 (by decide +kernel) rfl, gdW_at 471 (by decide +kernel) rfl, gdW_at 1 (by decide +kernel) rfl, gdW_at 472 (by decide +kernel) rfl, by decide +kernel⟩
theorem mf_X8_parts : MFv yX8_parts cX8_parts 2 (some .int) RX8 1 := ⟨gdW_at 478 (by decide +kernel) rfl, gdW_at 479 (by decide +kernel) rfl, gdW_at 1 (by decide +kernel) rfl, gdW_at 480 (by decide +kernel) rfl, by decide +kernel⟩
theorem mf_X8_many : MFv yX8_many cX8_many 1 (some .int) RX8 0 := ⟨gdW_at 482 (by decide +kernel) rfl, gdW_at 483 (by decide +kernel) rfl, gdW_at 1 (by decide +kernel) rfl, gdW_at 484 (by decide +kernel) rfl, by decide +kernel⟩
theorem mf_X8_sum : MFv yX8_sum cX8_sum 1 (some .long) RX8 0 := ⟨gdW_at 486 (by decide +kernel) rfl, gdW_at 487 (by decide +kernel) rfl, gdW_at 1 (by decide +kernel) rfl, gdW_at 488 (by decide +kernel) rfl, by decide +kernel⟩
theorem mf_X8_way : MFv yX8_way cX8_way 2 (some .int) RX8 1 := ⟨gdW_at 494 (by decide +kernel) rfl, gdW_at 495 (by decide +kernel) rfl, gdW_at 1 (by decide +kernel) rfl, gdW_at 496 (by decide +kernel) rfl, by decide +kernel⟩
theorem mf_X8_refuseLong : MFv yX8_refuseLong cX8_refuseLong 2 (some .long) RX8 1 := ⟨gdW_at 511 (by decide +kernel) rfl, gdW_sel (q := (yX8_refuseLong, 12)) 35 (by decide +kernel), gdW_at 1 (by decide +kernel) rfl, gdW_at 512 (by decide +kernel) rfl, by decide +kernel⟩
theorem mf_X8_isPart : MFs yX8_isPart cX8_isPart 1 (some .boolean) 1 := ⟨gdW_at 519 (by decide +kernel) rfl, gdW_at 1 (by decide +kernel) rfl, gdW_at 520 (by decide +kernel) rfl, by decide +kernel⟩
theorem mf_X8_commonDivisor : MFs yX8_commonDivisor cX8_commonDivisor 11 (some .long) 2 := ⟨gdW_at 525 (by decide +kernel) rfl, gdW_at 1 (by decide +kernel) rfl, gdW_at 526 (by decide +kernel) rfl, by decide +kernel⟩
theorem mf_X8_leastTerms : MFs yX8_leastTerms cX8_leastTerms 7 (some .long) 3 := ⟨gdW_at 522 (by decide +kernel) rfl, gdW_at 1 (by decide +kernel) rfl, gdW_at 523 (by decide +kernel) rfl, by decide +kernel⟩
theorem mf_X8_likelyAll : MFv yX8_likelyAll cX8_likelyAll 3 (some .long) RX8 2 := ⟨gdW_at 516 (by decide +kernel) rfl, gdW_sel (q := (yX8_likelyAll, 12)) 36 (by decide +kernel), gdW_at 1 (by decide +kernel) rfl, gdW_at 517 (by decide +kernel) rfl, by decide +kernel⟩
theorem mf_X8_likely : MFv yX8_likely cX8_likely 3 (some .long) RX8 2 := ⟨gdW_at 506 (by decide +kernel) rfl, gdW_at 507 (by decide +kernel) rfl, gdW_at 1 (by decide +kernel) rfl, gdW_at 508 (by decide +kernel) rfl, by decide +kernel⟩
theorem mf_X8_pair : MFv yX8_pair cX8_pair 4 (some .long) RX8 3 := ⟨gdW_at 528 (by decide +kernel) rfl, gdW_at 529 (by decide +kernel) rfl, gdW_at 1 (by decide +kernel) rfl, gdW_at 530 (by decide +kernel) rfl, by decide +kernel⟩
theorem mf_X8_less : MFv yX8_less cX8_less 7 (some .int) RX8 2 := ⟨gdW_at 532 (by decide +kernel) rfl, gdW_at 533 (by decide +kernel) rfl, gdW_at 1 (by decide +kernel) rfl, gdW_at 534 (by decide +kernel) rfl, by decide +kernel⟩
theorem mf_X8_inAll : MFv yX8_inAll cX8_inAll 1 (some .int) RX8 0 := ⟨gdW_at 536 (by decide +kernel) rfl, gdW_at 537 (by decide +kernel) rfl, gdW_at 1 (by decide +kernel) rfl, gdW_at 538 (by decide +kernel) rfl, by decide +kernel⟩
theorem mf_X8_inNone : MFv yX8_inNone cX8_inNone 1 (some .int) RX8 0 := ⟨gdW_at 545 (by decide +kernel) rfl, gdW_at 546 (by decide +kernel) rfl, gdW_at 1 (by decide +kernel) rfl, gdW_at 547 (by decide +kernel) rfl, by decide +kernel⟩
theorem mf_X8_cheap : MFv yX8_cheap cX8_cheap 3 (some .int) RX8 2 := ⟨gdW_at 553 (by decide +kernel) rfl, gdW_at 554 (by decide +kernel) rfl, gdW_at 1 (by decide +kernel) rfl, gdW_at 555 (by decide +kernel) rfl, by decide +kernel⟩
theorem mf_X8_nights : MFv yX8_nights cX8_nights 3 (some .int) RX8 2 := ⟨gdW_at 577 (by decide +kernel) rfl, gdW_at 578 (by decide +kernel) rfl, gdW_at 1 (by decide +kernel) rfl, gdW_at 579 (by decide +kernel) rfl, by decide +kernel⟩
theorem mf_X8_step : MFv yX8_step cX8_step 3 (some .int) RX8 2 := ⟨gdW_at 587 (by decide +kernel) rfl, gdW_at 588 (by decide +kernel) rfl, gdW_at 1 (by decide +kernel) rfl, gdW_at 589 (by decide +kernel) rfl, by decide +kernel⟩
theorem mf_X8_toward : MFv yX8_toward cX8_toward 3 (some .long) RX8 2 := ⟨gdW_at 596 (by decide +kernel) rfl, gdW_at 597 (by decide +kernel) rfl, gdW_at 1 (by decide +kernel) rfl, gdW_at 598 (by decide +kernel) rfl, by decide +kernel⟩
theorem mf_X8_forests : MFv yX8_forests cX8_forests 2 (some .int) RX8 1 := ⟨gdW_at 617 (by decide +kernel) rfl, gdW_at 618 (by decide +kernel) rfl, gdW_at 1 (by decide +kernel) rfl, gdW_at 619 (by decide +kernel) rfl, by decide +kernel⟩
theorem mf_X8_ploughs : MFv yX8_ploughs cX8_ploughs 2 (some .int) RX8 1 := ⟨gdW_at 628 (by decide +kernel) rfl, gdW_at 629 (by decide +kernel) rfl, gdW_at 1 (by decide +kernel) rfl, gdW_at 630 (by decide +kernel) rfl, by decide +kernel⟩
theorem mf_X8_areTwoHouses : MFv yX8_areTwoHouses cX8_areTwoHouses 3 (some .boolean) RX8 2 := ⟨gdW_at 654 (by decide +kernel) rfl, gdW_sel (q := (yX8_areTwoHouses, 12)) 54 (by decide +kernel), gdW_at 1 (by decide +kernel) rfl, gdW_at 655 (by decide +kernel) rfl, by decide +kernel⟩
theorem mf_X8_hard : MFv yX8_hard cX8_hard 6 (some .long) RX8 3 := ⟨gdW_at 649 (by decide +kernel) rfl, gdW_at 650 (by decide +kernel) rfl, gdW_at 1 (by decide +kernel) rfl, gdW_at 651 (by decide +kernel) rfl, by decide +kernel⟩
theorem mf_X8_more : MFv yX8_more cX8_more 6 (some .long) RX8 3 := ⟨gdW_at 671 (by decide +kernel) rfl, gdW_at 672 (by decide +kernel) rfl, gdW_at 1 (by decide +kernel) rfl, gdW_at 673 (by decide +kernel) rfl, by decide +kernel⟩
theorem mf_X8_holds : MFv yX8_holds cX8_holds 2 (some .long) RX8 1 := ⟨gdW_at 675 (by decide +kernel) rfl, gdW_at 676 (by decide +kernel) rfl, gdW_at 1 (by decide +kernel) rfl, gdW_at 677 (by decide +kernel) rfl, by decide +kernel⟩
theorem mf_X8_plan : MFv yX8_plan cX8_plan 3 (some .int) RX8 2 := ⟨gdW_at 698 (by decide +kernel) rfl, gdW_at 699 (by decide +kernel) rfl, gdW_at 1 (by decide +kernel) rfl, gdW_at 700 (by decide +kernel) rfl, by decide +kernel⟩
theorem mf_X8_draw : MFv yX8_draw cX8_draw 3 (some .int) RX8 2 := ⟨gdW_at 735 (by decide +kernel) rfl, gdW_at 736 (by decide +kernel) rfl, gdW_at 1 (by decide +kernel) rfl, gdW_at 737 (by decide +kernel) rfl, by decide +kernel⟩
theorem mf_X8_often : MFv yX8_often cX8_often 8 (some .int) RX8 4 := ⟨gdW_at 803 (by decide +kernel) rfl, gdW_at 804 (by decide +kernel) rfl, gdW_at 1 (by decide +kernel) rfl, gdW_at 805 (by decide +kernel) rfl, by decide +kernel⟩
theorem mf_X8_row : MFv yX8_row cX8_row 2 (some .int) RX8 1 := ⟨gdW_at 807 (by decide +kernel) rfl, gdW_at 808 (by decide +kernel) rfl, gdW_at 1 (by decide +kernel) rfl, gdW_at 809 (by decide +kernel) rfl, by decide +kernel⟩
theorem mf_X8_judge : MFv yX8_judge cX8_judge 2 (some .int) RX8 0 := ⟨gdW_at 819 (by decide +kernel) rfl, gdW_at 820 (by decide +kernel) rfl, gdW_at 1 (by decide +kernel) rfl, gdW_at 821 (by decide +kernel) rfl, by decide +kernel⟩
theorem mf_X8_image : MFv yX8_image cX8_image 1 (some .int) RX8 0 := ⟨gdW_at 837 (by decide +kernel) rfl, gdW_at 838 (by decide +kernel) rfl, gdW_at 1 (by decide +kernel) rfl, gdW_at 839 (by decide +kernel) rfl, by decide +kernel⟩
theorem mf_X8_restore : MFv yX8_restore cX8_restore 1 (some .int) RX8 0 := ⟨gdW_at 841 (by decide +kernel) rfl, gdW_at 842 (by decide +kernel) rfl, gdW_at 1 (by decide +kernel) rfl, gdW_at 843 (by decide +kernel) rfl, by decide +kernel⟩
theorem mf_X8_refusalsOf : MFv yX8_refusalsOf cX8_refusalsOf 2 (some .int) RX8 1 := ⟨gdW_at 855 (by decide +kernel) rfl, gdW_sel (q := (yX8_refusalsOf, 12)) 88 (by decide +kernel), gdW_at 1 (by decide +kernel) rfl, gdW_at 856 (by decide +kernel) rfl, by decide +kernel⟩
theorem mf_X8_count : MFv yX8_count cX8_count 2 (some .int) RX8 1 := ⟨gdW_at 845 (by decide +kernel) rfl, gdW_at 846 (by decide +kernel) rfl, gdW_at 1 (by decide +kernel) rfl, gdW_at 847 (by decide +kernel) rfl, by decide +kernel⟩
theorem mf_X9_no : MFv yX9_no cX9_no 2 (some .int) RX9 1 := ⟨gdW_at 979 (by decide +kernel) rfl, gdW_sel (q := (yX9_no, 35)) 89 (by decide +kernel), gdW_at 11 (by decide +kernel) rfl, gdW_at 980 (by decide +kernel) rfl, by decide +kernel⟩
theorem mf_X9_lowest : MFv yX9_lowest cX9_lowest 2 (some .long) RX9 1 := ⟨gdW_at 1141 (by decide +kernel) rfl, gdW_sel (q := (yX9_lowest, 35)) 115 (by decide +kernel), gdW_at 11 (by decide +kernel) rfl, gdW_at 1142 (by decide +kernel) rfl, by decide +kernel⟩
theorem mf_X9_isIn : MFs yX9_isIn cX9_isIn 3 (some .boolean) 3 := ⟨gdW_at 998 (by decide +kernel) rfl, gdW_at 11 (by decide +kernel) rfl, gdW_at 999 (by decide +kernel) rfl, by decide +kernel⟩
theorem mf_X9_bound : MFs yX9_bound cX9_bound 3 (some .int) 3 := ⟨gdW_at 975 (by decide +kernel) rfl, gdW_at 11 (by decide +kernel) rfl, gdW_at 976 (by decide +kernel) rfl, by decide +kernel⟩
theorem mf_X9_isHouse : MFv yX9_isHouse cX9_isHouse 2 (some .boolean) RX9 1 := ⟨gdW_at 1030 (by decide +kernel) rfl, gdW_sel (q := (yX9_isHouse, 35)) 100 (by decide +kernel), gdW_at 11 (by decide +kernel) rfl, gdW_at 1031 (by decide +kernel) rfl, by decide +kernel⟩
theorem mf_X9_isLane : MFv yX9_isLane cX9_isLane 2 (some .boolean) RX9 1 := ⟨gdW_at 1034 (by decide +kernel) rfl, gdW_sel (q := (yX9_isLane, 35)) 101 (by decide +kernel), gdW_at 11 (by decide +kernel) rfl, gdW_at 1035 (by decide +kernel) rfl, by decide +kernel⟩
theorem mf_X9_feed : MFv yX9_feed cX9_feed 3 (some .int) RX9 1 := ⟨gdW_at 971 (by decide +kernel) rfl, gdW_at 972 (by decide +kernel) rfl, gdW_at 11 (by decide +kernel) rfl, gdW_at 973 (by decide +kernel) rfl, by decide +kernel⟩
theorem mf_X9_next : MFv yX9_next cX9_next 1 (some .int) RX9 0 := ⟨gdW_at 991 (by decide +kernel) rfl, gdW_sel (q := (yX9_next, 35)) 91 (by decide +kernel), gdW_at 11 (by decide +kernel) rfl, gdW_at 992 (by decide +kernel) rfl, by decide +kernel⟩
theorem mf_X9_isNext : MFv yX9_isNext cX9_isNext 2 (some .boolean) RX9 1 := ⟨gdW_at 1002 (by decide +kernel) rfl, gdW_sel (q := (yX9_isNext, 35)) 93 (by decide +kernel), gdW_at 11 (by decide +kernel) rfl, gdW_at 1003 (by decide +kernel) rfl, by decide +kernel⟩
theorem mf_X9_reads : MFv yX9_reads cX9_reads 5 (some .boolean) RX9 2 := ⟨gdW_at 995 (by decide +kernel) rfl, gdW_sel (q := (yX9_reads, 35)) 92 (by decide +kernel), gdW_at 11 (by decide +kernel) rfl, gdW_at 996 (by decide +kernel) rfl, by decide +kernel⟩
theorem mf_X9_statement : MFv yX9_statement cX9_statement 4 (some .boolean) RX9 0 := ⟨gdW_at 987 (by decide +kernel) rfl, gdW_sel (q := (yX9_statement, 35)) 90 (by decide +kernel), gdW_at 11 (by decide +kernel) rfl, gdW_at 988 (by decide +kernel) rfl, by decide +kernel⟩
theorem mf_X9_toldHouses : MFv yX9_toldHouses cX9_toldHouses 3 (some .int) RX9 0 := ⟨gdW_at 1022 (by decide +kernel) rfl, gdW_sel (q := (yX9_toldHouses, 35)) 98 (by decide +kernel), gdW_at 11 (by decide +kernel) rfl, gdW_at 1023 (by decide +kernel) rfl, by decide +kernel⟩
theorem mf_X9_comesLane : MFv yX9_comesLane cX9_comesLane 2 (some .boolean) RX9 1 := ⟨gdW_at 1026 (by decide +kernel) rfl, gdW_sel (q := (yX9_comesLane, 35)) 99 (by decide +kernel), gdW_at 11 (by decide +kernel) rfl, gdW_at 1027 (by decide +kernel) rfl, by decide +kernel⟩
theorem mf_X9_comes : MFv yX9_comes cX9_comes 3 (some .boolean) RX9 1 := ⟨gdW_at 1018 (by decide +kernel) rfl, gdW_sel (q := (yX9_comes, 35)) 97 (by decide +kernel), gdW_at 11 (by decide +kernel) rfl, gdW_at 1019 (by decide +kernel) rfl, by decide +kernel⟩
theorem mf_X9_passes : MFv yX9_passes cX9_passes 3 none RX9 1 := ⟨gdW_at 1010 (by decide +kernel) rfl, gdW_sel (q := (yX9_passes, 35)) 95 (by decide +kernel), gdW_at 11 (by decide +kernel) rfl, gdW_at 1011 (by decide +kernel) rfl, by decide +kernel⟩
theorem mf_X9_passOne : MFv yX9_passOne cX9_passOne 3 (some .int) RX9 1 := ⟨gdW_at 1014 (by decide +kernel) rfl, gdW_sel (q := (yX9_passOne, 35)) 96 (by decide +kernel), gdW_at 11 (by decide +kernel) rfl, gdW_at 1015 (by decide +kernel) rfl, by decide +kernel⟩
theorem mf_X9_passesAll : MFv yX9_passesAll cX9_passesAll 3 none RX9 2 := ⟨gdW_at 1006 (by decide +kernel) rfl, gdW_sel (q := (yX9_passesAll, 35)) 94 (by decide +kernel), gdW_at 11 (by decide +kernel) rfl, gdW_at 1007 (by decide +kernel) rfl, by decide +kernel⟩
theorem mf_X9_village : MFv yX9_village cX9_village 3 (some .int) RX9 0 := ⟨gdW_at 982 (by decide +kernel) rfl, gdW_at 983 (by decide +kernel) rfl, gdW_at 11 (by decide +kernel) rfl, gdW_at 984 (by decide +kernel) rfl, by decide +kernel⟩
theorem mf_X9_image : MFv yX9_image cX9_image 1 (some .int) RX9 0 := ⟨gdW_at 1037 (by decide +kernel) rfl, gdW_at 1038 (by decide +kernel) rfl, gdW_at 11 (by decide +kernel) rfl, gdW_at 1039 (by decide +kernel) rfl, by decide +kernel⟩
theorem mf_X9_restore : MFv yX9_restore cX9_restore 1 (some .int) RX9 0 := ⟨gdW_at 1041 (by decide +kernel) rfl, gdW_at 1042 (by decide +kernel) rfl, gdW_at 11 (by decide +kernel) rfl, gdW_at 1043 (by decide +kernel) rfl, by decide +kernel⟩
theorem mf_X9_weightOf : MFv yX9_weightOf cX9_weightOf 2 (some .int) RX9 1 := ⟨gdW_at 1050 (by decide +kernel) rfl, gdW_sel (q := (yX9_weightOf, 35)) 102 (by decide +kernel), gdW_at 11 (by decide +kernel) rfl, gdW_at 1051 (by decide +kernel) rfl, by decide +kernel⟩
theorem mf_X9_costOf : MFv yX9_costOf cX9_costOf 2 (some .int) RX9 1 := ⟨gdW_at 1054 (by decide +kernel) rfl, gdW_sel (q := (yX9_costOf, 35)) 103 (by decide +kernel), gdW_at 11 (by decide +kernel) rfl, gdW_at 1055 (by decide +kernel) rfl, by decide +kernel⟩
theorem mf_X9_driftOf : MFv yX9_driftOf cX9_driftOf 3 (some .int) RX9 1 := ⟨gdW_at 1058 (by decide +kernel) rfl, gdW_sel (q := (yX9_driftOf, 35)) 104 (by decide +kernel), gdW_at 11 (by decide +kernel) rfl, gdW_at 1059 (by decide +kernel) rfl, by decide +kernel⟩
theorem mf_X9_lane : MFv yX9_lane cX9_lane 3 (some .int) RX9 2 := ⟨gdW_at 1045 (by decide +kernel) rfl, gdW_at 1046 (by decide +kernel) rfl, gdW_at 11 (by decide +kernel) rfl, gdW_at 1047 (by decide +kernel) rfl, by decide +kernel⟩
theorem mf_X9_rule : MFv yX9_rule cX9_rule 4 (some .int) RX9 2 := ⟨gdW_at 1061 (by decide +kernel) rfl, gdW_at 1062 (by decide +kernel) rfl, gdW_at 11 (by decide +kernel) rfl, gdW_at 1063 (by decide +kernel) rfl, by decide +kernel⟩
theorem mf_X9_takeUp : MFv yX9_takeUp cX9_takeUp 1 (some .int) RX9 0 := ⟨gdW_at 1065 (by decide +kernel) rfl, gdW_at 1066 (by decide +kernel) rfl, gdW_at 11 (by decide +kernel) rfl, gdW_at 1067 (by decide +kernel) rfl, by decide +kernel⟩
theorem mf_X9_allLanes : MFv yX9_allLanes cX9_allLanes 1 (some .int) RX9 0 := ⟨gdW_at 1078 (by decide +kernel) rfl, gdW_sel (q := (yX9_allLanes, 35)) 106 (by decide +kernel), gdW_at 11 (by decide +kernel) rfl, gdW_at 1079 (by decide +kernel) rfl, by decide +kernel⟩
theorem mf_X9_ruledAs : MFv yX9_ruledAs cX9_ruledAs 4 (some .int) RX9 1 := ⟨gdW_at 1101 (by decide +kernel) rfl, gdW_sel (q := (yX9_ruledAs, 35)) 111 (by decide +kernel), gdW_at 11 (by decide +kernel) rfl, gdW_at 1102 (by decide +kernel) rfl, by decide +kernel⟩
theorem mf_X9_areLanes : MFv yX9_areLanes cX9_areLanes 2 (some .boolean) RX9 1 := ⟨gdW_at 1074 (by decide +kernel) rfl, gdW_sel (q := (yX9_areLanes, 35)) 105 (by decide +kernel), gdW_at 11 (by decide +kernel) rfl, gdW_at 1075 (by decide +kernel) rfl, by decide +kernel⟩
theorem mf_X9_bits : MFs yX9_bits cX9_bits 3 (some .int) 1 := ⟨gdW_at 1089 (by decide +kernel) rfl, gdW_at 11 (by decide +kernel) rfl, gdW_at 1090 (by decide +kernel) rfl, by decide +kernel⟩
theorem mf_X9_partsOf : MFv yX9_partsOf cX9_partsOf 7 (some .int) RX9 1 := ⟨gdW_at 1093 (by decide +kernel) rfl, gdW_sel (q := (yX9_partsOf, 35)) 109 (by decide +kernel), gdW_at 11 (by decide +kernel) rfl, gdW_at 1094 (by decide +kernel) rfl, by decide +kernel⟩
theorem mf_X9_isForest : MFv yX9_isForest cX9_isForest 3 (some .boolean) RX9 2 := ⟨gdW_at 1086 (by decide +kernel) rfl, gdW_sel (q := (yX9_isForest, 35)) 108 (by decide +kernel), gdW_at 11 (by decide +kernel) rfl, gdW_at 1087 (by decide +kernel) rfl, by decide +kernel⟩
theorem mf_X9_isRuled : MFv yX9_isRuled cX9_isRuled 2 (some .boolean) RX9 1 := ⟨gdW_at 1097 (by decide +kernel) rfl, gdW_sel (q := (yX9_isRuled, 35)) 110 (by decide +kernel), gdW_at 11 (by decide +kernel) rfl, gdW_at 1098 (by decide +kernel) rfl, by decide +kernel⟩
theorem mf_X9_isWay : MFv yX9_isWay cX9_isWay 2 (some .boolean) RX9 1 := ⟨gdW_at 1082 (by decide +kernel) rfl, gdW_sel (q := (yX9_isWay, 35)) 107 (by decide +kernel), gdW_at 11 (by decide +kernel) rfl, gdW_at 1083 (by decide +kernel) rfl, by decide +kernel⟩
theorem mf_X9_worthOf : MFv yX9_worthOf cX9_worthOf 5 (some .long) RX9 1 := ⟨gdW_at 1121 (by decide +kernel) rfl, gdW_sel (q := (yX9_worthOf, 35)) 113 (by decide +kernel), gdW_at 11 (by decide +kernel) rfl, gdW_at 1122 (by decide +kernel) rfl, by decide +kernel⟩
theorem mf_X9_costsOf : MFv yX9_costsOf cX9_costsOf 4 (some .int) RX9 1 := ⟨gdW_at 1187 (by decide +kernel) rfl, gdW_sel (q := (yX9_costsOf, 35)) 118 (by decide +kernel), gdW_at 11 (by decide +kernel) rfl, gdW_at 1188 (by decide +kernel) rfl, by decide +kernel⟩
theorem mf_X9_findWays : MFv yX9_findWays cX9_findWays 2 none RX9 0 := ⟨gdW_at 1117 (by decide +kernel) rfl, gdW_sel (q := (yX9_findWays, 35)) 112 (by decide +kernel), gdW_at 11 (by decide +kernel) rfl, gdW_at 1118 (by decide +kernel) rfl, by decide +kernel⟩
theorem mf_X9_sumWith : MFv yX9_sumWith cX9_sumWith 6 (some .long) RX9 2 := ⟨gdW_at 1129 (by decide +kernel) rfl, gdW_sel (q := (yX9_sumWith, 35)) 114 (by decide +kernel), gdW_at 11 (by decide +kernel) rfl, gdW_at 1130 (by decide +kernel) rfl, by decide +kernel⟩
theorem mf_X9_is : MFv yX9_is cX9_is 2 (some .int) RX9 1 := ⟨gdW_at 1069 (by decide +kernel) rfl, gdW_at 1070 (by decide +kernel) rfl, gdW_at 11 (by decide +kernel) rfl, gdW_at 1071 (by decide +kernel) rfl, by decide +kernel⟩
theorem mf_X9_hangs : MFv yX9_hangs cX9_hangs 2 (some .int) RX9 1 := ⟨gdW_at 1104 (by decide +kernel) rfl, gdW_at 1105 (by decide +kernel) rfl, gdW_at 11 (by decide +kernel) rfl, gdW_at 1106 (by decide +kernel) rfl, by decide +kernel⟩
theorem mf_X9_parts : MFv yX9_parts cX9_parts 2 (some .int) RX9 1 := ⟨gdW_at 1108 (by decide +kernel) rfl, gdW_at 1109 (by decide +kernel) rfl, gdW_at 11 (by decide +kernel) rfl, gdW_at 1110 (by decide +kernel) rfl, by decide +kernel⟩
theorem mf_X9_many : MFv yX9_many cX9_many 1 (some .int) RX9 0 := ⟨gdW_at 1112 (by decide +kernel) rfl, gdW_at 1113 (by decide +kernel) rfl, gdW_at 11 (by decide +kernel) rfl, gdW_at 1114 (by decide +kernel) rfl, by decide +kernel⟩
theorem mf_X9_sum : MFv yX9_sum cX9_sum 1 (some .long) RX9 0 := ⟨gdW_at 1124 (by decide +kernel) rfl, gdW_at 1125 (by decide +kernel) rfl, gdW_at 11 (by decide +kernel) rfl, gdW_at 1126 (by decide +kernel) rfl, by decide +kernel⟩
theorem mf_X9_way : MFv yX9_way cX9_way 2 (some .int) RX9 1 := ⟨gdW_at 1132 (by decide +kernel) rfl, gdW_at 1133 (by decide +kernel) rfl, gdW_at 11 (by decide +kernel) rfl, gdW_at 1134 (by decide +kernel) rfl, by decide +kernel⟩
theorem mf_X9_divisor : MFs yX9_divisor cX9_divisor 10 (some .long) 2 := ⟨gdW_at 1152 (by decide +kernel) rfl, gdW_at 11 (by decide +kernel) rfl, gdW_at 1153 (by decide +kernel) rfl, by decide +kernel⟩
theorem mf_X9_inLeast : MFs yX9_inLeast cX9_inLeast 5 (some .long) 3 := ⟨gdW_at 1149 (by decide +kernel) rfl, gdW_at 11 (by decide +kernel) rfl, gdW_at 1150 (by decide +kernel) rfl, by decide +kernel⟩
theorem mf_X9_share : MFv yX9_share cX9_share 3 (some .long) RX9 2 := ⟨gdW_at 1146 (by decide +kernel) rfl, gdW_sel (q := (yX9_share, 35)) 116 (by decide +kernel), gdW_at 11 (by decide +kernel) rfl, gdW_at 1147 (by decide +kernel) rfl, by decide +kernel⟩
theorem mf_X9_likely : MFv yX9_likely cX9_likely 3 (some .long) RX9 2 := ⟨gdW_at 1136 (by decide +kernel) rfl, gdW_at 1137 (by decide +kernel) rfl, gdW_at 11 (by decide +kernel) rfl, gdW_at 1138 (by decide +kernel) rfl, by decide +kernel⟩
theorem mf_X9_pair : MFv yX9_pair cX9_pair 4 (some .long) RX9 3 := ⟨gdW_at 1155 (by decide +kernel) rfl, gdW_at 1156 (by decide +kernel) rfl, gdW_at 11 (by decide +kernel) rfl, gdW_at 1157 (by decide +kernel) rfl, by decide +kernel⟩
theorem mf_X9_highOf : MFs yX9_highOf cX9_highOf 4 (some .long) 2 := ⟨gdW_at 1163 (by decide +kernel) rfl, gdW_at 11 (by decide +kernel) rfl, gdW_at 1164 (by decide +kernel) rfl, by decide +kernel⟩
theorem mf_X9_lowOf : MFs yX9_lowOf cX9_lowOf 4 (some .long) 2 := ⟨gdW_at 1167 (by decide +kernel) rfl, gdW_at 11 (by decide +kernel) rfl, gdW_at 1168 (by decide +kernel) rfl, by decide +kernel⟩
theorem mf_X9_less : MFv yX9_less cX9_less 17 (some .int) RX9 2 := ⟨gdW_at 1159 (by decide +kernel) rfl, gdW_at 1160 (by decide +kernel) rfl, gdW_at 11 (by decide +kernel) rfl, gdW_at 1161 (by decide +kernel) rfl, by decide +kernel⟩
theorem mf_X9_inAll : MFv yX9_inAll cX9_inAll 3 (some .int) RX9 0 := ⟨gdW_at 1170 (by decide +kernel) rfl, gdW_at 1171 (by decide +kernel) rfl, gdW_at 11 (by decide +kernel) rfl, gdW_at 1172 (by decide +kernel) rfl, by decide +kernel⟩
theorem mf_X9_inNone : MFv yX9_inNone cX9_inNone 3 (some .int) RX9 0 := ⟨gdW_at 1174 (by decide +kernel) rfl, gdW_at 1175 (by decide +kernel) rfl, gdW_at 11 (by decide +kernel) rfl, gdW_at 1176 (by decide +kernel) rfl, by decide +kernel⟩
theorem mf_X9_cheapest : MFv yX9_cheapest cX9_cheapest 7 (some .int) RX9 1 := ⟨gdW_at 1183 (by decide +kernel) rfl, gdW_sel (q := (yX9_cheapest, 35)) 117 (by decide +kernel), gdW_at 11 (by decide +kernel) rfl, gdW_at 1184 (by decide +kernel) rfl, by decide +kernel⟩
theorem mf_X9_cheap : MFv yX9_cheap cX9_cheap 4 (some .int) RX9 2 := ⟨gdW_at 1178 (by decide +kernel) rfl, gdW_at 1179 (by decide +kernel) rfl, gdW_at 11 (by decide +kernel) rfl, gdW_at 1180 (by decide +kernel) rfl, by decide +kernel⟩
theorem mf_X9_nights : MFv yX9_nights cX9_nights 3 (some .int) RX9 2 := ⟨gdW_at 1190 (by decide +kernel) rfl, gdW_at 1191 (by decide +kernel) rfl, gdW_at 11 (by decide +kernel) rfl, gdW_at 1192 (by decide +kernel) rfl, by decide +kernel⟩
theorem mf_X9_step : MFv yX9_step cX9_step 8 (some .int) RX9 2 := ⟨gdW_at 1194 (by decide +kernel) rfl, gdW_at 1195 (by decide +kernel) rfl, gdW_at 11 (by decide +kernel) rfl, gdW_at 1196 (by decide +kernel) rfl, by decide +kernel⟩
theorem mf_X9_isToward : MFv yX9_isToward cX9_isToward 4 (some .boolean) RX9 2 := ⟨gdW_at 1203 (by decide +kernel) rfl, gdW_sel (q := (yX9_isToward, 35)) 119 (by decide +kernel), gdW_at 11 (by decide +kernel) rfl, gdW_at 1204 (by decide +kernel) rfl, by decide +kernel⟩
theorem mf_X9_toward : MFv yX9_toward cX9_toward 6 (some .long) RX9 2 := ⟨gdW_at 1198 (by decide +kernel) rfl, gdW_at 1199 (by decide +kernel) rfl, gdW_at 11 (by decide +kernel) rfl, gdW_at 1200 (by decide +kernel) rfl, by decide +kernel⟩
theorem mf_X9_forests : MFv yX9_forests cX9_forests 5 (some .int) RX9 1 := ⟨gdW_at 1206 (by decide +kernel) rfl, gdW_at 1207 (by decide +kernel) rfl, gdW_at 11 (by decide +kernel) rfl, gdW_at 1208 (by decide +kernel) rfl, by decide +kernel⟩
theorem mf_X9_isOneEach : MFv yX9_isOneEach cX9_isOneEach 4 (some .boolean) RX9 1 := ⟨gdW_at 1215 (by decide +kernel) rfl, gdW_sel (q := (yX9_isOneEach, 35)) 120 (by decide +kernel), gdW_at 11 (by decide +kernel) rfl, gdW_at 1216 (by decide +kernel) rfl, by decide +kernel⟩
theorem mf_X9_ploughs : MFv yX9_ploughs cX9_ploughs 4 (some .int) RX9 1 := ⟨gdW_at 1210 (by decide +kernel) rfl, gdW_at 1211 (by decide +kernel) rfl, gdW_at 11 (by decide +kernel) rfl, gdW_at 1212 (by decide +kernel) rfl, by decide +kernel⟩
theorem mf_X9_sumApart : MFv yX9_sumApart cX9_sumApart 7 (some .long) RX9 3 := ⟨gdW_at 1231 (by decide +kernel) rfl, gdW_sel (q := (yX9_sumApart, 35)) 123 (by decide +kernel), gdW_at 11 (by decide +kernel) rfl, gdW_at 1232 (by decide +kernel) rfl, by decide +kernel⟩
theorem mf_X9_sumTogether : MFv yX9_sumTogether cX9_sumTogether 4 (some .long) RX9 0 := ⟨gdW_at 1227 (by decide +kernel) rfl, gdW_sel (q := (yX9_sumTogether, 35)) 122 (by decide +kernel), gdW_at 11 (by decide +kernel) rfl, gdW_at 1228 (by decide +kernel) rfl, by decide +kernel⟩
theorem mf_X9_areTwo : MFv yX9_areTwo cX9_areTwo 3 (some .boolean) RX9 2 := ⟨gdW_at 1223 (by decide +kernel) rfl, gdW_sel (q := (yX9_areTwo, 35)) 121 (by decide +kernel), gdW_at 11 (by decide +kernel) rfl, gdW_at 1224 (by decide +kernel) rfl, by decide +kernel⟩
theorem mf_X9_hard : MFv yX9_hard cX9_hard 6 (some .long) RX9 3 := ⟨gdW_at 1218 (by decide +kernel) rfl, gdW_at 1219 (by decide +kernel) rfl, gdW_at 11 (by decide +kernel) rfl, gdW_at 1220 (by decide +kernel) rfl, by decide +kernel⟩
theorem mf_X9_more : MFv yX9_more cX9_more 6 (some .long) RX9 3 := ⟨gdW_at 1234 (by decide +kernel) rfl, gdW_at 1235 (by decide +kernel) rfl, gdW_at 11 (by decide +kernel) rfl, gdW_at 1236 (by decide +kernel) rfl, by decide +kernel⟩
theorem mf_X9_holds : MFv yX9_holds cX9_holds 11 (some .long) RX9 1 := ⟨gdW_at 1238 (by decide +kernel) rfl, gdW_at 1239 (by decide +kernel) rfl, gdW_at 11 (by decide +kernel) rfl, gdW_at 1240 (by decide +kernel) rfl, by decide +kernel⟩
theorem mf_X9_doJoin : MFv yX9_doJoin cX9_doJoin 7 (some .boolean) RX9 1 := ⟨gdW_at 1252 (by decide +kernel) rfl, gdW_sel (q := (yX9_doJoin, 35)) 125 (by decide +kernel), gdW_at 11 (by decide +kernel) rfl, gdW_at 1253 (by decide +kernel) rfl, by decide +kernel⟩
theorem mf_X9_findPlan : MFv yX9_findPlan cX9_findPlan 5 none RX9 1 := ⟨gdW_at 1248 (by decide +kernel) rfl, gdW_sel (q := (yX9_findPlan, 35)) 124 (by decide +kernel), gdW_at 11 (by decide +kernel) rfl, gdW_at 1249 (by decide +kernel) rfl, by decide +kernel⟩
theorem mf_X9_plan : MFv yX9_plan cX9_plan 6 (some .int) RX9 2 := ⟨gdW_at 1243 (by decide +kernel) rfl, gdW_at 1244 (by decide +kernel) rfl, gdW_at 11 (by decide +kernel) rfl, gdW_at 1245 (by decide +kernel) rfl, by decide +kernel⟩
theorem mf_X9_drawn : MFv yX9_drawn cX9_drawn 3 (some .int) RX9 1 := ⟨gdW_at 1279 (by decide +kernel) rfl, gdW_sel (q := (yX9_drawn, 35)) 130 (by decide +kernel), gdW_at 11 (by decide +kernel) rfl, gdW_at 1280 (by decide +kernel) rfl, by decide +kernel⟩
theorem mf_X9_leads : MFv yX9_leads cX9_leads 3 (some .int) RX9 2 := ⟨gdW_at 1275 (by decide +kernel) rfl, gdW_sel (q := (yX9_leads, 35)) 129 (by decide +kernel), gdW_at 11 (by decide +kernel) rfl, gdW_at 1276 (by decide +kernel) rfl, by decide +kernel⟩
theorem mf_X9_weightsFrom : MFv yX9_weightsFrom cX9_weightsFrom 4 (some .int) RX9 1 := ⟨gdW_at 1271 (by decide +kernel) rfl, gdW_sel (q := (yX9_weightsFrom, 35)) 128 (by decide +kernel), gdW_at 11 (by decide +kernel) rfl, gdW_at 1272 (by decide +kernel) rfl, by decide +kernel⟩
theorem mf_X9_walks : MFv yX9_walks cX9_walks 8 (some .int) RX9 0 := ⟨gdW_at 1267 (by decide +kernel) rfl, gdW_sel (q := (yX9_walks, 35)) 127 (by decide +kernel), gdW_at 11 (by decide +kernel) rfl, gdW_at 1268 (by decide +kernel) rfl, by decide +kernel⟩
theorem mf_X9_steps : MFv yX9_steps cX9_steps 9 (some .int) RX9 0 := ⟨gdW_at 1290 (by decide +kernel) rfl, gdW_sel (q := (yX9_steps, 35)) 132 (by decide +kernel), gdW_at 11 (by decide +kernel) rfl, gdW_at 1291 (by decide +kernel) rfl, by decide +kernel⟩
theorem mf_X9_dearest : MFv yX9_dearest cX9_dearest 3 (some .int) RX9 0 := ⟨gdW_at 1294 (by decide +kernel) rfl, gdW_sel (q := (yX9_dearest, 35)) 133 (by decide +kernel), gdW_at 11 (by decide +kernel) rfl, gdW_at 1295 (by decide +kernel) rfl, by decide +kernel⟩
theorem mf_X9_rowWay : MFv yX9_rowWay cX9_rowWay 3 (some .int) RX9 0 := ⟨gdW_at 1286 (by decide +kernel) rfl, gdW_sel (q := (yX9_rowWay, 35)) 131 (by decide +kernel), gdW_at 11 (by decide +kernel) rfl, gdW_at 1287 (by decide +kernel) rfl, by decide +kernel⟩
theorem mf_X9_makes : MFv yX9_makes cX9_makes 2 (some .int) RX9 1 := ⟨gdW_at 1263 (by decide +kernel) rfl, gdW_sel (q := (yX9_makes, 35)) 126 (by decide +kernel), gdW_at 11 (by decide +kernel) rfl, gdW_at 1264 (by decide +kernel) rfl, by decide +kernel⟩
theorem mf_X9_isDrawer : MFs yX9_isDrawer cX9_isDrawer 1 (some .boolean) 1 := ⟨gdW_at 1259 (by decide +kernel) rfl, gdW_at 11 (by decide +kernel) rfl, gdW_at 1260 (by decide +kernel) rfl, by decide +kernel⟩
theorem mf_X9_draw : MFv yX9_draw cX9_draw 3 (some .int) RX9 2 := ⟨gdW_at 1255 (by decide +kernel) rfl, gdW_at 1256 (by decide +kernel) rfl, gdW_at 11 (by decide +kernel) rfl, gdW_at 1257 (by decide +kernel) rfl, by decide +kernel⟩
theorem mf_X9_often : MFv yX9_often cX9_often 9 (some .int) RX9 4 := ⟨gdW_at 1297 (by decide +kernel) rfl, gdW_at 1298 (by decide +kernel) rfl, gdW_at 11 (by decide +kernel) rfl, gdW_at 1299 (by decide +kernel) rfl, by decide +kernel⟩
theorem mf_X9_row : MFv yX9_row cX9_row 3 (some .int) RX9 1 := ⟨gdW_at 1301 (by decide +kernel) rfl, gdW_at 1302 (by decide +kernel) rfl, gdW_at 11 (by decide +kernel) rfl, gdW_at 1303 (by decide +kernel) rfl, by decide +kernel⟩
theorem mf_X9_judge : MFv yX9_judge cX9_judge 6 (some .int) RX9 0 := ⟨gdW_at 1305 (by decide +kernel) rfl, gdW_at 1306 (by decide +kernel) rfl, gdW_at 11 (by decide +kernel) rfl, gdW_at 1307 (by decide +kernel) rfl, by decide +kernel⟩
theorem mf_X9_count : MFv yX9_count cX9_count 4 (some .int) RX9 1 := ⟨gdW_at 1309 (by decide +kernel) rfl, gdW_at 1310 (by decide +kernel) rfl, gdW_at 11 (by decide +kernel) rfl, gdW_at 1311 (by decide +kernel) rfl, by decide +kernel⟩
end
section
section
variable {K : KX} {cc : ByteArray} {own : String} {G : Option Value → Mem → Prop} {pc : Nat} {ls : List (Nat × Value)} {m : Mem}
theorem R_mmax (hC : Cx K cc own G) {R : Room} {rest : List Value} {index : Nat} {x y : Int32} (hR : kR K = R) (hl1 : Cond.methodLink own index Lib.Math.max.name ∈ gdW) (hrm : (Nat.ble 1 R.frames && Nat.ble 21 R.locals) = true) (hcat : (rest.map fun v => v.category).sum ≤ 8) (hdg : decode cc pc = .ok (.invokestatic index, 3)) (kk : RX K (pc + 3) ls (.int (if x < y then y else x) :: rest) m) : RX K pc ls (.int y :: .int x :: rest) m := by
  intro H locs la hP hS hl
  have h8 : 1 ≤ (kR K).frames ∧ 21 ≤ (kR K).locals := by
    rw [hR]
    simp only [Bool.and_eq_true] at hrm
    exact ⟨Nat.le_of_ble_eq_true hrm.1, Nat.le_of_ble_eq_true hrm.2⟩
  have h9 : ((rest.map (gv (kad K))).map fun v => v.category).sum + 13 ≤ (kR K).locals := by
    rw [cat_sum]
    have := h8.2
    omega
  exact va_mmax hC.1 hC.2.1 (hC.2.2.1.trans hl.1.symm) hC.2.2.2.1 (hC.2.2.2.2.1 _ hl1) (hC.2.2.2.2.1 _ mf_J7_max.1) (hC.2.2.2.2.1 _ mf_J7_max.2.1) (hC.2.2.2.2.1 _ mf_J7_max.2.2) h8.1 h9 hC.2.2.2.2.2.2.2.2.2.1.1 hC.2.2.2.2.2.2.2.2.2.1.2 hdg (kk H locs la hP hS hl)
theorem R_mmin (hC : Cx K cc own G) {R : Room} {rest : List Value} {index : Nat} {x y : Int32} (hR : kR K = R) (hl1 : Cond.methodLink own index Lib.Math.min.name ∈ gdW) (hrm : (Nat.ble 1 R.frames && Nat.ble 21 R.locals) = true) (hcat : (rest.map fun v => v.category).sum ≤ 8) (hdg : decode cc pc = .ok (.invokestatic index, 3)) (kk : RX K (pc + 3) ls (.int (if y < x then y else x) :: rest) m) : RX K pc ls (.int y :: .int x :: rest) m := by
  intro H locs la hP hS hl
  have h8 : 1 ≤ (kR K).frames ∧ 21 ≤ (kR K).locals := by
    rw [hR]
    simp only [Bool.and_eq_true] at hrm
    exact ⟨Nat.le_of_ble_eq_true hrm.1, Nat.le_of_ble_eq_true hrm.2⟩
  have h9 : ((rest.map (gv (kad K))).map fun v => v.category).sum + 13 ≤ (kR K).locals := by
    rw [cat_sum]
    have := h8.2
    omega
  exact va_mmin hC.1 hC.2.1 (hC.2.2.1.trans hl.1.symm) hC.2.2.2.1 (hC.2.2.2.2.1 _ hl1) (hC.2.2.2.2.1 _ mf_J7_min.1) (hC.2.2.2.2.1 _ mf_J7_min.2.1) (hC.2.2.2.2.1 _ mf_J7_min.2.2) h8.1 h9 hC.2.2.2.2.2.2.2.2.2.1.1 hC.2.2.2.2.2.2.2.2.2.1.2 hdg (kk H locs la hP hS hl)
end
section
variable {K : KX} {cc : ByteArray} {G : Option Value → Mem → Prop} {pc : Nat} {ls : List (Nat × Value)} {st : List Value} {m : Mem}
theorem gf_X0_9 (hC : Cx K cc RX0 G) (hn : 43 ≤ kn K) (hdg : decode cc pc = .ok (.getfield 9, 3)) (kk : RX K (pc + 3) ls (.ref 1 :: st) m) : RX K pc ls (.ref 37 :: st) m := R_getR hC (k := 0) 37 (jx hn rfl) ly37 rfl inX0 (by decide) wf_X0_9 rfl hdg kk
theorem gf_X0_15 (hC : Cx K cc RX0 G) (hn : 43 ≤ kn K) (hdg : decode cc pc = .ok (.getfield 15, 3)) (kk : RX K (pc + 3) ls (.ref 26 :: st) m) : RX K pc ls (.ref 37 :: st) m := R_getR hC (k := 1) 37 (jx hn rfl) ly37 rfl inX0 (by decide) wf_X0_15 rfl hdg kk
theorem gf_X0_19 (hC : Cx K cc RX0 G) (hn : 43 ≤ kn K) (hdg : decode cc pc = .ok (.getfield 19, 3)) (kk : RX K (pc + 3) ls (.ref 35 :: st) m) : RX K pc ls (.ref 37 :: st) m := R_getR hC (k := 2) 37 (jx hn rfl) ly37 rfl inX0 (by decide) wf_X0_19 rfl hdg kk
theorem gf_X0_23 (hC : Cx K cc RX0 G) (hn : 43 ≤ kn K) (hdg : decode cc pc = .ok (.getfield 23, 3)) (kk : RX K (pc + 3) ls (.int (m.1 37 3) :: st) m) : RX K pc ls (.ref 37 :: st) m := R_getI hC (k := 3) 37 (jx hn rfl) ly37 rfl inX0 (by decide) wf_X0_23 rfl hdg kk
theorem pf_X0_23 {x : Int32} (hC : Cx K cc RX0 G) (hn : 43 ≤ kn K) (hdg : decode cc pc = .ok (.putfield 23, 3)) (kk : RX K (pc + 3) ls st (mu m 37 3 x)) : RX K pc ls (.int x :: .ref 37 :: st) m := R_put hC (k := 3) tyX0 tyX0_ok nmX0 37 (jx hn rfl) ly37 rfl inX0 (by decide) wf_X0_23 rfl rfl rfl rfl hdg kk
theorem gf_X0_27 (hC : Cx K cc RX0 G) (hn : 43 ≤ kn K) (hdg : decode cc pc = .ok (.getfield 27, 3)) (kk : RX K (pc + 3) ls (.ref 38 :: st) m) : RX K pc ls (.ref 37 :: st) m := R_getR hC (k := 4) 37 (jx hn rfl) ly37 rfl inX0 (by decide) wf_X0_27 rfl hdg kk
theorem gf_X0_31 (hC : Cx K cc RX0 G) (hn : 43 ≤ kn K) (hdg : decode cc pc = .ok (.getfield 31, 3)) (kk : RX K (pc + 3) ls (.ref 39 :: st) m) : RX K pc ls (.ref 37 :: st) m := R_getR hC (k := 5) 37 (jx hn rfl) ly37 rfl inX0 (by decide) wf_X0_31 rfl hdg kk
theorem gf_X0_34 (hC : Cx K cc RX0 G) (hn : 43 ≤ kn K) (hdg : decode cc pc = .ok (.getfield 34, 3)) (kk : RX K (pc + 3) ls (.ref 40 :: st) m) : RX K pc ls (.ref 37 :: st) m := R_getR hC (k := 6) 37 (jx hn rfl) ly37 rfl inX0 (by decide) wf_X0_34 rfl hdg kk
theorem gf_X0_37 (hC : Cx K cc RX0 G) (hn : 43 ≤ kn K) (hdg : decode cc pc = .ok (.getfield 37, 3)) (kk : RX K (pc + 3) ls (.ref 41 :: st) m) : RX K pc ls (.ref 37 :: st) m := R_getR hC (k := 7) 37 (jx hn rfl) ly37 rfl inX0 (by decide) wf_X0_37 rfl hdg kk
theorem gf_X0_59 (hC : Cx K cc RX0 G) (hn : 43 ≤ kn K) (hdg : decode cc pc = .ok (.getfield 59, 3)) (kk : RX K (pc + 3) ls (.int (m.1 26 2) :: st) m) : RX K pc ls (.ref 26 :: st) m := R_getIN hC (k := 2) 26 (jx hn rfl) ly26 rfl inX7 (by decide) wf_X0_59 rfl hdg kk
theorem gf_X0_76 (hC : Cx K cc RX0 G) {v : Nat} (hn : 43 ≤ kn K) (hv : isV v) (hdg : decode cc pc = .ok (.getfield 76, 3)) (kk : RX K (pc + 3) ls (.int (m.1 v 1) :: st) m) : RX K pc ls (.ref v :: st) m := R_getIN hC (k := 1) v (jv0 hn hv) (layV_of hv) rfl inX6 (by decide) wf_X0_76 rfl hdg kk
theorem gf_X0_85 (hC : Cx K cc RX0 G) {v : Nat} (hn : 43 ≤ kn K) (hv : isV v) (hdg : decode cc pc = .ok (.getfield 85, 3)) (kk : RX K (pc + 3) ls (.ref (v + 4) :: st) m) : RX K pc ls (.ref v :: st) m := R_getRN hC (k := 7) v (jv0 hn hv) (layV_of hv) rfl inX6 (by decide) wf_X0_85 rfl hdg kk
theorem gf_X0_88 (hC : Cx K cc RX0 G) {v : Nat} (hn : 43 ≤ kn K) (hv : isV v) (hdg : decode cc pc = .ok (.getfield 88, 3)) (kk : RX K (pc + 3) ls (.int (m.1 v 3) :: st) m) : RX K pc ls (.ref v :: st) m := R_getIN hC (k := 3) v (jv0 hn hv) (layV_of hv) rfl inX6 (by decide) wf_X0_88 rfl hdg kk
theorem gf_X0_91 (hC : Cx K cc RX0 G) {v : Nat} (hn : 43 ≤ kn K) (hv : isV v) (hdg : decode cc pc = .ok (.getfield 91, 3)) (kk : RX K (pc + 3) ls (.ref (v + 2) :: st) m) : RX K pc ls (.ref v :: st) m := R_getRN hC (k := 5) v (jv0 hn hv) (layV_of hv) rfl inX6 (by decide) wf_X0_91 rfl hdg kk
theorem gf_X0_94 (hC : Cx K cc RX0 G) {v : Nat} (hn : 43 ≤ kn K) (hv : isV v) (hdg : decode cc pc = .ok (.getfield 94, 3)) (kk : RX K (pc + 3) ls (.ref (v + 3) :: st) m) : RX K pc ls (.ref v :: st) m := R_getRN hC (k := 6) v (jv0 hn hv) (layV_of hv) rfl inX6 (by decide) wf_X0_94 rfl hdg kk
theorem gf_X0_97 (hC : Cx K cc RX0 G) {v : Nat} (hn : 43 ≤ kn K) (hv : isV v) (hdg : decode cc pc = .ok (.getfield 97, 3)) (kk : RX K (pc + 3) ls (.ref (v + 1) :: st) m) : RX K pc ls (.ref v :: st) m := R_getRN hC (k := 4) v (jv0 hn hv) (layV_of hv) rfl inX6 (by decide) wf_X0_97 rfl hdg kk
theorem gf_X1_9 (hC : Cx K cc RX1 G) (hn : 43 ≤ kn K) (hdg : decode cc pc = .ok (.getfield 9, 3)) (kk : RX K (pc + 3) ls (.ref 1 :: st) m) : RX K pc ls (.ref 30 :: st) m := R_getR hC (k := 0) 30 (jx hn rfl) ly30 rfl inX1 (by decide) wf_X1_9 rfl hdg kk
theorem gf_X1_15 (hC : Cx K cc RX1 G) (hn : 43 ≤ kn K) (hdg : decode cc pc = .ok (.getfield 15, 3)) (kk : RX K (pc + 3) ls (.ref 24 :: st) m) : RX K pc ls (.ref 30 :: st) m := R_getR hC (k := 1) 30 (jx hn rfl) ly30 rfl inX1 (by decide) wf_X1_15 rfl hdg kk
theorem gf_X1_54 (hC : Cx K cc RX1 G) {v : Nat} (hn : 43 ≤ kn K) (hv : isV v) (hdg : decode cc pc = .ok (.getfield 54, 3)) (kk : RX K (pc + 3) ls (.int (m.1 v 3) :: st) m) : RX K pc ls (.ref v :: st) m := R_getIN hC (k := 3) v (jv0 hn hv) (layV_of hv) rfl inX6 (by decide) wf_X1_54 rfl hdg kk
theorem gf_X1_61 (hC : Cx K cc RX1 G) {v : Nat} (hn : 43 ≤ kn K) (hv : isV v) (hdg : decode cc pc = .ok (.getfield 61, 3)) (kk : RX K (pc + 3) ls (.int (m.1 v 2) :: st) m) : RX K pc ls (.ref v :: st) m := R_getIN hC (k := 2) v (jv0 hn hv) (layV_of hv) rfl inX6 (by decide) wf_X1_61 rfl hdg kk
theorem gf_X1_76 (hC : Cx K cc RX1 G) {v : Nat} (hn : 43 ≤ kn K) (hv : isV v) (hdg : decode cc pc = .ok (.getfield 76, 3)) (kk : RX K (pc + 3) ls (.int (m.1 v 1) :: st) m) : RX K pc ls (.ref v :: st) m := R_getIN hC (k := 1) v (jv0 hn hv) (layV_of hv) rfl inX6 (by decide) wf_X1_76 rfl hdg kk
theorem gf_X1_79 (hC : Cx K cc RX1 G) {v : Nat} (hn : 43 ≤ kn K) (hv : isV v) (hdg : decode cc pc = .ok (.getfield 79, 3)) (kk : RX K (pc + 3) ls (.ref (v + 6) :: st) m) : RX K pc ls (.ref v :: st) m := R_getRN hC (k := 9) v (jv0 hn hv) (layV_of hv) rfl inX6 (by decide) wf_X1_79 rfl hdg kk
theorem gf_X2_9 (hC : Cx K cc RX2 G) (hn : 43 ≤ kn K) (hdg : decode cc pc = .ok (.getfield 9, 3)) (kk : RX K (pc + 3) ls (.ref 1 :: st) m) : RX K pc ls (.ref 24 :: st) m := R_getR hC (k := 0) 24 (jx hn rfl) ly24 rfl inX2 (by decide) wf_X2_9 rfl hdg kk
theorem gf_X2_15 (hC : Cx K cc RX2 G) (hn : 43 ≤ kn K) (hdg : decode cc pc = .ok (.getfield 15, 3)) (kk : RX K (pc + 3) ls (.ref 25 :: st) m) : RX K pc ls (.ref 24 :: st) m := R_getR hC (k := 1) 24 (jx hn rfl) ly24 rfl inX2 (by decide) wf_X2_15 rfl hdg kk
theorem gf_X2_19 (hC : Cx K cc RX2 G) {v : Nat} (hn : 43 ≤ kn K) (hv : isV v) (hdg : decode cc pc = .ok (.getfield 19, 3)) (kk : RX K (pc + 3) ls (.int (m.1 v 0) :: st) m) : RX K pc ls (.ref v :: st) m := R_getIN hC (k := 0) v (jv0 hn hv) (layV_of hv) rfl inX6 (by decide) wf_X2_19 rfl hdg kk
theorem gf_X2_29 (hC : Cx K cc RX2 G) {v : Nat} (hn : 43 ≤ kn K) (hv : isV v) (hdg : decode cc pc = .ok (.getfield 29, 3)) (kk : RX K (pc + 3) ls (.int (m.1 v 1) :: st) m) : RX K pc ls (.ref v :: st) m := R_getIN hC (k := 1) v (jv0 hn hv) (layV_of hv) rfl inX6 (by decide) wf_X2_29 rfl hdg kk
theorem gf_X2_32 (hC : Cx K cc RX2 G) {v : Nat} (hn : 43 ≤ kn K) (hv : isV v) (hdg : decode cc pc = .ok (.getfield 32, 3)) (kk : RX K (pc + 3) ls (.ref (v + 2) :: st) m) : RX K pc ls (.ref v :: st) m := R_getRN hC (k := 5) v (jv0 hn hv) (layV_of hv) rfl inX6 (by decide) wf_X2_32 rfl hdg kk
theorem gf_X2_35 (hC : Cx K cc RX2 G) {v : Nat} (hn : 43 ≤ kn K) (hv : isV v) (hdg : decode cc pc = .ok (.getfield 35, 3)) (kk : RX K (pc + 3) ls (.ref (v + 3) :: st) m) : RX K pc ls (.ref v :: st) m := R_getRN hC (k := 6) v (jv0 hn hv) (layV_of hv) rfl inX6 (by decide) wf_X2_35 rfl hdg kk
theorem gf_X3_9 (hC : Cx K cc RX3 G) (hn : 43 ≤ kn K) (hdg : decode cc pc = .ok (.getfield 9, 3)) (kk : RX K (pc + 3) ls (.ref 23 :: st) m) : RX K pc ls (.ref 22 :: st) m := R_getR hC (k := 0) 22 (jx hn rfl) ly22 rfl inX3 (by decide) wf_X3_9 rfl hdg kk
theorem gf_X3_15 (hC : Cx K cc RX3 G) (hn : 43 ≤ kn K) (hdg : decode cc pc = .ok (.getfield 15, 3)) (kk : RX K (pc + 3) ls (.int (m.1 22 1) :: st) m) : RX K pc ls (.ref 22 :: st) m := R_getI hC (k := 1) 22 (jx hn rfl) ly22 rfl inX3 (by decide) wf_X3_15 rfl hdg kk
theorem pf_X3_15 {x : Int32} (hC : Cx K cc RX3 G) (hn : 43 ≤ kn K) (hdg : decode cc pc = .ok (.putfield 15, 3)) (kk : RX K (pc + 3) ls st (mu m 22 1 x)) : RX K pc ls (.int x :: .ref 22 :: st) m := R_put hC (k := 1) tyX3 tyX3_ok nmX3 22 (jx hn rfl) ly22 rfl inX3 (by decide) wf_X3_15 rfl rfl rfl rfl hdg kk
theorem gf_X4_9 (hC : Cx K cc RX4 G) (hn : 43 ≤ kn K) (hdg : decode cc pc = .ok (.getfield 9, 3)) (kk : RX K (pc + 3) ls (.int (m.1 31 0) :: st) m) : RX K pc ls (.ref 31 :: st) m := R_getI hC (k := 0) 31 (jx hn rfl) ly31 rfl inX4 (by decide) wf_X4_9 rfl hdg kk
theorem pf_X4_9 {x : Int32} (hC : Cx K cc RX4 G) (hn : 43 ≤ kn K) (hdg : decode cc pc = .ok (.putfield 9, 3)) (kk : RX K (pc + 3) ls st (mu m 31 0 x)) : RX K pc ls (.int x :: .ref 31 :: st) m := R_put hC (k := 0) tyX4 tyX4_ok nmX4 31 (jx hn rfl) ly31 rfl inX4 (by decide) wf_X4_9 rfl rfl rfl rfl hdg kk
theorem gf_X4_15 (hC : Cx K cc RX4 G) (hn : 43 ≤ kn K) (hdg : decode cc pc = .ok (.getfield 15, 3)) (kk : RX K (pc + 3) ls (.ref 32 :: st) m) : RX K pc ls (.ref 31 :: st) m := R_getR hC (k := 1) 31 (jx hn rfl) ly31 rfl inX4 (by decide) wf_X4_15 rfl hdg kk
theorem gf_X4_19 (hC : Cx K cc RX4 G) (hn : 43 ≤ kn K) (hdg : decode cc pc = .ok (.getfield 19, 3)) (kk : RX K (pc + 3) ls (.ref 33 :: st) m) : RX K pc ls (.ref 31 :: st) m := R_getR hC (k := 2) 31 (jx hn rfl) ly31 rfl inX4 (by decide) wf_X4_19 rfl hdg kk
theorem gf_X4_22 (hC : Cx K cc RX4 G) (hn : 43 ≤ kn K) (hdg : decode cc pc = .ok (.getfield 22, 3)) (kk : RX K (pc + 3) ls (.ref 34 :: st) m) : RX K pc ls (.ref 31 :: st) m := R_getR hC (k := 3) 31 (jx hn rfl) ly31 rfl inX4 (by decide) wf_X4_22 rfl hdg kk
theorem gf_X5_9 (hC : Cx K cc RX5 G) (hn : 43 ≤ kn K) (hdg : decode cc pc = .ok (.getfield 9, 3)) (kk : RX K (pc + 3) ls (.ref 1 :: st) m) : RX K pc ls (.ref 35 :: st) m := R_getR hC (k := 0) 35 (jx hn rfl) ly35 rfl inX5 (by decide) wf_X5_9 rfl hdg kk
theorem gf_X5_15 (hC : Cx K cc RX5 G) (hn : 43 ≤ kn K) (hdg : decode cc pc = .ok (.getfield 15, 3)) (kk : RX K (pc + 3) ls (.ref 24 :: st) m) : RX K pc ls (.ref 35 :: st) m := R_getR hC (k := 1) 35 (jx hn rfl) ly35 rfl inX5 (by decide) wf_X5_15 rfl hdg kk
theorem gf_X5_19 (hC : Cx K cc RX5 G) (hn : 43 ≤ kn K) (hdg : decode cc pc = .ok (.getfield 19, 3)) (kk : RX K (pc + 3) ls (.ref 36 :: st) m) : RX K pc ls (.ref 35 :: st) m := R_getR hC (k := 2) 35 (jx hn rfl) ly35 rfl inX5 (by decide) wf_X5_19 rfl hdg kk
theorem gf_X5_23 (hC : Cx K cc RX5 G) (hn : 43 ≤ kn K) (hdg : decode cc pc = .ok (.getfield 23, 3)) (kk : RX K (pc + 3) ls (.int (m.1 35 3) :: st) m) : RX K pc ls (.ref 35 :: st) m := R_getI hC (k := 3) 35 (jx hn rfl) ly35 rfl inX5 (by decide) wf_X5_23 rfl hdg kk
theorem pf_X5_23 {x : Int32} (hC : Cx K cc RX5 G) (hn : 43 ≤ kn K) (hdg : decode cc pc = .ok (.putfield 23, 3)) (kk : RX K (pc + 3) ls st (mu m 35 3 x)) : RX K pc ls (.int x :: .ref 35 :: st) m := R_put hC (k := 3) tyX5 tyX5_ok nmX5 35 (jx hn rfl) ly35 rfl inX5 (by decide) wf_X5_23 rfl rfl rfl rfl hdg kk
theorem gf_X6_9 (hC : Cx K cc RX6 G) {v : Nat} (hn : 43 ≤ kn K) (hv : isV v) (hdg : decode cc pc = .ok (.getfield 9, 3)) (kk : RX K (pc + 3) ls (.int (m.1 v 0) :: st) m) : RX K pc ls (.ref v :: st) m := R_getI hC (k := 0) v (jv0 hn hv) (layV_of hv) rfl inX6 (by decide) wf_X6_9 rfl hdg kk
theorem pf_X6_9 {x : Int32} (hC : Cx K cc RX6 G) {v : Nat} (hn : 43 ≤ kn K) (hv : isV v) (hdg : decode cc pc = .ok (.putfield 9, 3)) (kk : RX K (pc + 3) ls st (mu m v 0 x)) : RX K pc ls (.int x :: .ref v :: st) m := R_put hC (k := 0) tyX6 tyX6_ok nmX6 v (jv0 hn hv) (layV_of hv) rfl inX6 (by decide) wf_X6_9 rfl rfl rfl rfl hdg kk
theorem gf_X6_15 (hC : Cx K cc RX6 G) {v : Nat} (hn : 43 ≤ kn K) (hv : isV v) (hdg : decode cc pc = .ok (.getfield 15, 3)) (kk : RX K (pc + 3) ls (.int (m.1 v 1) :: st) m) : RX K pc ls (.ref v :: st) m := R_getI hC (k := 1) v (jv0 hn hv) (layV_of hv) rfl inX6 (by decide) wf_X6_15 rfl hdg kk
theorem pf_X6_15 {x : Int32} (hC : Cx K cc RX6 G) {v : Nat} (hn : 43 ≤ kn K) (hv : isV v) (hdg : decode cc pc = .ok (.putfield 15, 3)) (kk : RX K (pc + 3) ls st (mu m v 1 x)) : RX K pc ls (.int x :: .ref v :: st) m := R_put hC (k := 1) tyX6 tyX6_ok nmX6 v (jv0 hn hv) (layV_of hv) rfl inX6 (by decide) wf_X6_15 rfl rfl rfl rfl hdg kk
theorem gf_X6_18 (hC : Cx K cc RX6 G) {v : Nat} (hn : 43 ≤ kn K) (hv : isV v) (hdg : decode cc pc = .ok (.getfield 18, 3)) (kk : RX K (pc + 3) ls (.int (m.1 v 2) :: st) m) : RX K pc ls (.ref v :: st) m := R_getI hC (k := 2) v (jv0 hn hv) (layV_of hv) rfl inX6 (by decide) wf_X6_18 rfl hdg kk
theorem pf_X6_18 {x : Int32} (hC : Cx K cc RX6 G) {v : Nat} (hn : 43 ≤ kn K) (hv : isV v) (hdg : decode cc pc = .ok (.putfield 18, 3)) (kk : RX K (pc + 3) ls st (mu m v 2 x)) : RX K pc ls (.int x :: .ref v :: st) m := R_put hC (k := 2) tyX6 tyX6_ok nmX6 v (jv0 hn hv) (layV_of hv) rfl inX6 (by decide) wf_X6_18 rfl rfl rfl rfl hdg kk
theorem gf_X6_21 (hC : Cx K cc RX6 G) {v : Nat} (hn : 43 ≤ kn K) (hv : isV v) (hdg : decode cc pc = .ok (.getfield 21, 3)) (kk : RX K (pc + 3) ls (.int (m.1 v 3) :: st) m) : RX K pc ls (.ref v :: st) m := R_getI hC (k := 3) v (jv0 hn hv) (layV_of hv) rfl inX6 (by decide) wf_X6_21 rfl hdg kk
theorem pf_X6_21 {x : Int32} (hC : Cx K cc RX6 G) {v : Nat} (hn : 43 ≤ kn K) (hv : isV v) (hdg : decode cc pc = .ok (.putfield 21, 3)) (kk : RX K (pc + 3) ls st (mu m v 3 x)) : RX K pc ls (.int x :: .ref v :: st) m := R_put hC (k := 3) tyX6 tyX6_ok nmX6 v (jv0 hn hv) (layV_of hv) rfl inX6 (by decide) wf_X6_21 rfl rfl rfl rfl hdg kk
theorem gf_X6_24 (hC : Cx K cc RX6 G) {v : Nat} (hn : 43 ≤ kn K) (hv : isV v) (hdg : decode cc pc = .ok (.getfield 24, 3)) (kk : RX K (pc + 3) ls (.ref (v + 1) :: st) m) : RX K pc ls (.ref v :: st) m := R_getR hC (k := 4) v (jv0 hn hv) (layV_of hv) rfl inX6 (by decide) wf_X6_24 rfl hdg kk
theorem gf_X6_28 (hC : Cx K cc RX6 G) {v : Nat} (hn : 43 ≤ kn K) (hv : isV v) (hdg : decode cc pc = .ok (.getfield 28, 3)) (kk : RX K (pc + 3) ls (.ref (v + 2) :: st) m) : RX K pc ls (.ref v :: st) m := R_getR hC (k := 5) v (jv0 hn hv) (layV_of hv) rfl inX6 (by decide) wf_X6_28 rfl hdg kk
theorem gf_X6_31 (hC : Cx K cc RX6 G) {v : Nat} (hn : 43 ≤ kn K) (hv : isV v) (hdg : decode cc pc = .ok (.getfield 31, 3)) (kk : RX K (pc + 3) ls (.ref (v + 3) :: st) m) : RX K pc ls (.ref v :: st) m := R_getR hC (k := 6) v (jv0 hn hv) (layV_of hv) rfl inX6 (by decide) wf_X6_31 rfl hdg kk
theorem gf_X6_34 (hC : Cx K cc RX6 G) {v : Nat} (hn : 43 ≤ kn K) (hv : isV v) (hdg : decode cc pc = .ok (.getfield 34, 3)) (kk : RX K (pc + 3) ls (.ref (v + 4) :: st) m) : RX K pc ls (.ref v :: st) m := R_getR hC (k := 7) v (jv0 hn hv) (layV_of hv) rfl inX6 (by decide) wf_X6_34 rfl hdg kk
theorem gf_X6_37 (hC : Cx K cc RX6 G) {v : Nat} (hn : 43 ≤ kn K) (hv : isV v) (hdg : decode cc pc = .ok (.getfield 37, 3)) (kk : RX K (pc + 3) ls (.ref (v + 5) :: st) m) : RX K pc ls (.ref v :: st) m := R_getR hC (k := 8) v (jv0 hn hv) (layV_of hv) rfl inX6 (by decide) wf_X6_37 rfl hdg kk
theorem gf_X6_40 (hC : Cx K cc RX6 G) {v : Nat} (hn : 43 ≤ kn K) (hv : isV v) (hdg : decode cc pc = .ok (.getfield 40, 3)) (kk : RX K (pc + 3) ls (.ref (v + 6) :: st) m) : RX K pc ls (.ref v :: st) m := R_getR hC (k := 9) v (jv0 hn hv) (layV_of hv) rfl inX6 (by decide) wf_X6_40 rfl hdg kk
theorem gf_X7_9 (hC : Cx K cc RX7 G) (hn : 43 ≤ kn K) (hdg : decode cc pc = .ok (.getfield 9, 3)) (kk : RX K (pc + 3) ls (.ref 1 :: st) m) : RX K pc ls (.ref 26 :: st) m := R_getR hC (k := 0) 26 (jx hn rfl) ly26 rfl inX7 (by decide) wf_X7_9 rfl hdg kk
theorem gf_X7_15 (hC : Cx K cc RX7 G) (hn : 43 ≤ kn K) (hdg : decode cc pc = .ok (.getfield 15, 3)) (kk : RX K (pc + 3) ls (.ref 24 :: st) m) : RX K pc ls (.ref 26 :: st) m := R_getR hC (k := 1) 26 (jx hn rfl) ly26 rfl inX7 (by decide) wf_X7_15 rfl hdg kk
theorem gf_X7_19 (hC : Cx K cc RX7 G) (hn : 43 ≤ kn K) (hdg : decode cc pc = .ok (.getfield 19, 3)) (kk : RX K (pc + 3) ls (.int (m.1 26 2) :: st) m) : RX K pc ls (.ref 26 :: st) m := R_getI hC (k := 2) 26 (jx hn rfl) ly26 rfl inX7 (by decide) wf_X7_19 rfl hdg kk
theorem pf_X7_19 {x : Int32} (hC : Cx K cc RX7 G) (hn : 43 ≤ kn K) (hdg : decode cc pc = .ok (.putfield 19, 3)) (kk : RX K (pc + 3) ls st (mu m 26 2 x)) : RX K pc ls (.int x :: .ref 26 :: st) m := R_put hC (k := 2) tyX7 tyX7_ok nmX7 26 (jx hn rfl) ly26 rfl inX7 (by decide) wf_X7_19 rfl rfl rfl rfl hdg kk
theorem gf_X7_23 (hC : Cx K cc RX7 G) (hn : 43 ≤ kn K) (hdg : decode cc pc = .ok (.getfield 23, 3)) (kk : RX K (pc + 3) ls (.ref 27 :: st) m) : RX K pc ls (.ref 26 :: st) m := R_getR hC (k := 3) 26 (jx hn rfl) ly26 rfl inX7 (by decide) wf_X7_23 rfl hdg kk
theorem gf_X7_27 (hC : Cx K cc RX7 G) (hn : 43 ≤ kn K) (hdg : decode cc pc = .ok (.getfield 27, 3)) (kk : RX K (pc + 3) ls (.ref 28 :: st) m) : RX K pc ls (.ref 26 :: st) m := R_getR hC (k := 4) 26 (jx hn rfl) ly26 rfl inX7 (by decide) wf_X7_27 rfl hdg kk
theorem gf_X7_30 (hC : Cx K cc RX7 G) (hn : 43 ≤ kn K) (hdg : decode cc pc = .ok (.getfield 30, 3)) (kk : RX K (pc + 3) ls (.ref 29 :: st) m) : RX K pc ls (.ref 26 :: st) m := R_getR hC (k := 5) 26 (jx hn rfl) ly26 rfl inX7 (by decide) wf_X7_30 rfl hdg kk
theorem gf_X7_33 (hC : Cx K cc RX7 G) (hn : 43 ≤ kn K) (hdg : decode cc pc = .ok (.getfield 33, 3)) (kk : RX K (pc + 3) ls (.int (m.1 26 6) :: st) m) : RX K pc ls (.ref 26 :: st) m := R_getI hC (k := 6) 26 (jx hn rfl) ly26 rfl inX7 (by decide) wf_X7_33 rfl hdg kk
theorem pf_X7_33 {x : Int32} (hC : Cx K cc RX7 G) (hn : 43 ≤ kn K) (n1 : narrow .boolean (.int x) = .int x) (n2 : fits .boolean (.int x) = true) (hdg : decode cc pc = .ok (.putfield 33, 3)) (kk : RX K (pc + 3) ls st (mu m 26 6 x)) : RX K pc ls (.int x :: .ref 26 :: st) m := R_put hC (k := 6) tyX7 tyX7_ok nmX7 26 (jx hn rfl) ly26 rfl inX7 (by decide) wf_X7_33 rfl rfl n1 n2 hdg kk
theorem gf_X7_81 (hC : Cx K cc RX7 G) {v : Nat} (hn : 43 ≤ kn K) (hv : isV v) (hdg : decode cc pc = .ok (.getfield 81, 3)) (kk : RX K (pc + 3) ls (.int (m.1 v 1) :: st) m) : RX K pc ls (.ref v :: st) m := R_getIN hC (k := 1) v (jv0 hn hv) (layV_of hv) rfl inX6 (by decide) wf_X7_81 rfl hdg kk
theorem gf_X7_84 (hC : Cx K cc RX7 G) {v : Nat} (hn : 43 ≤ kn K) (hv : isV v) (hdg : decode cc pc = .ok (.getfield 84, 3)) (kk : RX K (pc + 3) ls (.ref (v + 1) :: st) m) : RX K pc ls (.ref v :: st) m := R_getRN hC (k := 4) v (jv0 hn hv) (layV_of hv) rfl inX6 (by decide) wf_X7_84 rfl hdg kk
theorem gf_X7_87 (hC : Cx K cc RX7 G) {v : Nat} (hn : 43 ≤ kn K) (hv : isV v) (hdg : decode cc pc = .ok (.getfield 87, 3)) (kk : RX K (pc + 3) ls (.ref (v + 3) :: st) m) : RX K pc ls (.ref v :: st) m := R_getRN hC (k := 6) v (jv0 hn hv) (layV_of hv) rfl inX6 (by decide) wf_X7_87 rfl hdg kk
theorem gf_X8_10 (hC : Cx K cc RX8 G) (hn : 43 ≤ kn K) (hdg : decode cc pc = .ok (.getfield 10, 3)) (kk : RX K (pc + 3) ls (.ref 1 :: st) m) : RX K pc ls (.ref 0 :: st) m := R_getR hC (k := 0) 0 (jx hn rfl) ly0 rfl inX8 (by decide) wf_X8_10 rfl hdg kk
theorem gf_X8_16 (hC : Cx K cc RX8 G) (hn : 43 ≤ kn K) (hdg : decode cc pc = .ok (.getfield 16, 3)) (kk : RX K (pc + 3) ls (.ref 8 :: st) m) : RX K pc ls (.ref 0 :: st) m := R_getR hC (k := 1) 0 (jx hn rfl) ly0 rfl inX8 (by decide) wf_X8_16 rfl hdg kk
theorem gf_X8_19 (hC : Cx K cc RX8 G) (hn : 43 ≤ kn K) (hdg : decode cc pc = .ok (.getfield 19, 3)) (kk : RX K (pc + 3) ls (.ref 15 :: st) m) : RX K pc ls (.ref 0 :: st) m := R_getR hC (k := 2) 0 (jx hn rfl) ly0 rfl inX8 (by decide) wf_X8_19 rfl hdg kk
theorem gf_X8_22 (hC : Cx K cc RX8 G) (hn : 43 ≤ kn K) (hdg : decode cc pc = .ok (.getfield 22, 3)) (kk : RX K (pc + 3) ls (.int (m.1 0 3) :: st) m) : RX K pc ls (.ref 0 :: st) m := R_getI hC (k := 3) 0 (jx hn rfl) ly0 rfl inX8 (by decide) wf_X8_22 rfl hdg kk
theorem pf_X8_22 {x : Int32} (hC : Cx K cc RX8 G) (hn : 43 ≤ kn K) (n1 : narrow .boolean (.int x) = .int x) (n2 : fits .boolean (.int x) = true) (hdg : decode cc pc = .ok (.putfield 22, 3)) (kk : RX K (pc + 3) ls st (mu m 0 3 x)) : RX K pc ls (.int x :: .ref 0 :: st) m := R_put hC (k := 3) tyX8 tyX8_ok nmX8 0 (jx hn rfl) ly0 rfl inX8 (by decide) wf_X8_22 rfl rfl n1 n2 hdg kk
theorem gf_X8_29 (hC : Cx K cc RX8 G) (hn : 43 ≤ kn K) (hdg : decode cc pc = .ok (.getfield 29, 3)) (kk : RX K (pc + 3) ls (.ref 22 :: st) m) : RX K pc ls (.ref 0 :: st) m := R_getR hC (k := 4) 0 (jx hn rfl) ly0 rfl inX8 (by decide) wf_X8_29 rfl hdg kk
theorem gf_X8_38 (hC : Cx K cc RX8 G) (hn : 43 ≤ kn K) (hdg : decode cc pc = .ok (.getfield 38, 3)) (kk : RX K (pc + 3) ls (.ref 24 :: st) m) : RX K pc ls (.ref 0 :: st) m := R_getR hC (k := 5) 0 (jx hn rfl) ly0 rfl inX8 (by decide) wf_X8_38 rfl hdg kk
theorem gf_X8_47 (hC : Cx K cc RX8 G) (hn : 43 ≤ kn K) (hdg : decode cc pc = .ok (.getfield 47, 3)) (kk : RX K (pc + 3) ls (.ref 26 :: st) m) : RX K pc ls (.ref 0 :: st) m := R_getR hC (k := 6) 0 (jx hn rfl) ly0 rfl inX8 (by decide) wf_X8_47 rfl hdg kk
theorem gf_X8_54 (hC : Cx K cc RX8 G) (hn : 43 ≤ kn K) (hdg : decode cc pc = .ok (.getfield 54, 3)) (kk : RX K (pc + 3) ls (.ref 30 :: st) m) : RX K pc ls (.ref 0 :: st) m := R_getR hC (k := 7) 0 (jx hn rfl) ly0 rfl inX8 (by decide) wf_X8_54 rfl hdg kk
theorem gf_X8_61 (hC : Cx K cc RX8 G) (hn : 43 ≤ kn K) (hdg : decode cc pc = .ok (.getfield 61, 3)) (kk : RX K (pc + 3) ls (.ref 31 :: st) m) : RX K pc ls (.ref 0 :: st) m := R_getR hC (k := 8) 0 (jx hn rfl) ly0 rfl inX8 (by decide) wf_X8_61 rfl hdg kk
theorem gf_X8_68 (hC : Cx K cc RX8 G) (hn : 43 ≤ kn K) (hdg : decode cc pc = .ok (.getfield 68, 3)) (kk : RX K (pc + 3) ls (.ref 35 :: st) m) : RX K pc ls (.ref 0 :: st) m := R_getR hC (k := 9) 0 (jx hn rfl) ly0 rfl inX8 (by decide) wf_X8_68 rfl hdg kk
theorem gf_X8_77 (hC : Cx K cc RX8 G) (hn : 43 ≤ kn K) (hdg : decode cc pc = .ok (.getfield 77, 3)) (kk : RX K (pc + 3) ls (.ref 37 :: st) m) : RX K pc ls (.ref 0 :: st) m := R_getR hC (k := 10) 0 (jx hn rfl) ly0 rfl inX8 (by decide) wf_X8_77 rfl hdg kk
theorem gf_X8_81 (hC : Cx K cc RX8 G) (hn : 43 ≤ kn K) (hdg : decode cc pc = .ok (.getfield 81, 3)) (kk : RX K (pc + 3) ls (.ref 42 :: st) m) : RX K pc ls (.ref 0 :: st) m := R_getR hC (k := 11) 0 (jx hn rfl) ly0 rfl inX8 (by decide) wf_X8_81 rfl hdg kk
theorem gf_X8_119 (hC : Cx K cc RX8 G) {v : Nat} (hn : 43 ≤ kn K) (hv : isV v) (hdg : decode cc pc = .ok (.getfield 119, 3)) (kk : RX K (pc + 3) ls (.ref (v + 1) :: st) m) : RX K pc ls (.ref v :: st) m := R_getRN hC (k := 4) v (jv0 hn hv) (layV_of hv) rfl inX6 (by decide) wf_X8_119 rfl hdg kk
theorem gf_X8_122 (hC : Cx K cc RX8 G) {v : Nat} (hn : 43 ≤ kn K) (hv : isV v) (hdg : decode cc pc = .ok (.getfield 122, 3)) (kk : RX K (pc + 3) ls (.ref (v + 2) :: st) m) : RX K pc ls (.ref v :: st) m := R_getRN hC (k := 5) v (jv0 hn hv) (layV_of hv) rfl inX6 (by decide) wf_X8_122 rfl hdg kk
theorem gf_X8_125 (hC : Cx K cc RX8 G) {v : Nat} (hn : 43 ≤ kn K) (hv : isV v) (hdg : decode cc pc = .ok (.getfield 125, 3)) (kk : RX K (pc + 3) ls (.ref (v + 3) :: st) m) : RX K pc ls (.ref v :: st) m := R_getRN hC (k := 6) v (jv0 hn hv) (layV_of hv) rfl inX6 (by decide) wf_X8_125 rfl hdg kk
theorem gf_X8_128 (hC : Cx K cc RX8 G) {v : Nat} (hn : 43 ≤ kn K) (hv : isV v) (hdg : decode cc pc = .ok (.getfield 128, 3)) (kk : RX K (pc + 3) ls (.ref (v + 4) :: st) m) : RX K pc ls (.ref v :: st) m := R_getRN hC (k := 7) v (jv0 hn hv) (layV_of hv) rfl inX6 (by decide) wf_X8_128 rfl hdg kk
theorem gf_X8_131 (hC : Cx K cc RX8 G) {v : Nat} (hn : 43 ≤ kn K) (hv : isV v) (hdg : decode cc pc = .ok (.getfield 131, 3)) (kk : RX K (pc + 3) ls (.ref (v + 5) :: st) m) : RX K pc ls (.ref v :: st) m := R_getRN hC (k := 8) v (jv0 hn hv) (layV_of hv) rfl inX6 (by decide) wf_X8_131 rfl hdg kk
theorem gf_X8_134 (hC : Cx K cc RX8 G) {v : Nat} (hn : 43 ≤ kn K) (hv : isV v) (hdg : decode cc pc = .ok (.getfield 134, 3)) (kk : RX K (pc + 3) ls (.ref (v + 6) :: st) m) : RX K pc ls (.ref v :: st) m := R_getRN hC (k := 9) v (jv0 hn hv) (layV_of hv) rfl inX6 (by decide) wf_X8_134 rfl hdg kk
theorem gf_X8_144 (hC : Cx K cc RX8 G) {v : Nat} (hn : 43 ≤ kn K) (hv : isV v) (hdg : decode cc pc = .ok (.getfield 144, 3)) (kk : RX K (pc + 3) ls (.int (m.1 v 1) :: st) m) : RX K pc ls (.ref v :: st) m := R_getIN hC (k := 1) v (jv0 hn hv) (layV_of hv) rfl inX6 (by decide) wf_X8_144 rfl hdg kk
theorem gf_X8_164 (hC : Cx K cc RX8 G) (hn : 43 ≤ kn K) (hdg : decode cc pc = .ok (.getfield 164, 3)) (kk : RX K (pc + 3) ls (.int (m.1 26 2) :: st) m) : RX K pc ls (.ref 26 :: st) m := R_getIN hC (k := 2) 26 (jx hn rfl) ly26 rfl inX7 (by decide) wf_X8_164 rfl hdg kk
theorem gf_X8_239 (hC : Cx K cc RX8 G) {v : Nat} (hn : 43 ≤ kn K) (hv : isV v) (hdg : decode cc pc = .ok (.getfield 239, 3)) (kk : RX K (pc + 3) ls (.int (m.1 v 2) :: st) m) : RX K pc ls (.ref v :: st) m := R_getIN hC (k := 2) v (jv0 hn hv) (layV_of hv) rfl inX6 (by decide) wf_X8_239 rfl hdg kk
theorem gf_X8_242 (hC : Cx K cc RX8 G) {v : Nat} (hn : 43 ≤ kn K) (hv : isV v) (hdg : decode cc pc = .ok (.getfield 242, 3)) (kk : RX K (pc + 3) ls (.int (m.1 v 3) :: st) m) : RX K pc ls (.ref v :: st) m := R_getIN hC (k := 3) v (jv0 hn hv) (layV_of hv) rfl inX6 (by decide) wf_X8_242 rfl hdg kk
theorem gf_X8_252 (hC : Cx K cc RX8 G) {v : Nat} (hn : 43 ≤ kn K) (hv : isV v) (hdg : decode cc pc = .ok (.getfield 252, 3)) (kk : RX K (pc + 3) ls (.int (m.1 v 0) :: st) m) : RX K pc ls (.ref v :: st) m := R_getIN hC (k := 0) v (jv0 hn hv) (layV_of hv) rfl inX6 (by decide) wf_X8_252 rfl hdg kk
theorem gf_X8_288 (hC : Cx K cc RX8 G) (hn : 43 ≤ kn K) (hdg : decode cc pc = .ok (.getfield 288, 3)) (kk : RX K (pc + 3) ls (.int (m.1 22 1) :: st) m) : RX K pc ls (.ref 22 :: st) m := R_getIN hC (k := 1) 22 (jx hn rfl) ly22 rfl inX3 (by decide) wf_X8_288 rfl hdg kk
theorem gf_X8_289 (hC : Cx K cc RX8 G) (hn : 43 ≤ kn K) (hdg : decode cc pc = .ok (.getfield 289, 3)) (kk : RX K (pc + 3) ls (.int (m.1 35 3) :: st) m) : RX K pc ls (.ref 35 :: st) m := R_getIN hC (k := 3) 35 (jx hn rfl) ly35 rfl inX5 (by decide) wf_X8_289 rfl hdg kk
theorem gf_X9_7 (hC : Cx K cc RX9 G) (hn64 : 64 ≤ kn K) (hdg : decode cc pc = .ok (.getfield 7, 3)) (kk : RX K (pc + 3) ls (.ref 44 :: st) m) : RX K pc ls (.ref 43 :: st) m := R_getR hC (k := 0) 43 (jx hn64 rfl) ly43 rfl inX9 (by decide) wf_X9_7 rfl hdg kk
theorem gf_X9_13 (hC : Cx K cc RX9 G) (hn64 : 64 ≤ kn K) (hdg : decode cc pc = .ok (.getfield 13, 3)) (kk : RX K (pc + 3) ls (.ref 45 :: st) m) : RX K pc ls (.ref 43 :: st) m := R_getR hC (k := 1) 43 (jx hn64 rfl) ly43 rfl inX9 (by decide) wf_X9_13 rfl hdg kk
theorem gf_X9_16 (hC : Cx K cc RX9 G) (hn64 : 64 ≤ kn K) (hdg : decode cc pc = .ok (.getfield 16, 3)) (kk : RX K (pc + 3) ls (.ref 46 :: st) m) : RX K pc ls (.ref 43 :: st) m := R_getR hC (k := 2) 43 (jx hn64 rfl) ly43 rfl inX9 (by decide) wf_X9_16 rfl hdg kk
theorem gf_X9_19 (hC : Cx K cc RX9 G) (hn64 : 64 ≤ kn K) (hdg : decode cc pc = .ok (.getfield 19, 3)) (kk : RX K (pc + 3) ls (.ref 47 :: st) m) : RX K pc ls (.ref 43 :: st) m := R_getR hC (k := 3) 43 (jx hn64 rfl) ly43 rfl inX9 (by decide) wf_X9_19 rfl hdg kk
theorem gf_X9_22 (hC : Cx K cc RX9 G) (hn64 : 64 ≤ kn K) (hdg : decode cc pc = .ok (.getfield 22, 3)) (kk : RX K (pc + 3) ls (.ref 48 :: st) m) : RX K pc ls (.ref 43 :: st) m := R_getR hC (k := 4) 43 (jx hn64 rfl) ly43 rfl inX9 (by decide) wf_X9_22 rfl hdg kk
theorem gf_X9_25 (hC : Cx K cc RX9 G) (hn64 : 64 ≤ kn K) (hdg : decode cc pc = .ok (.getfield 25, 3)) (kk : RX K (pc + 3) ls (.ref 49 :: st) m) : RX K pc ls (.ref 43 :: st) m := R_getR hC (k := 5) 43 (jx hn64 rfl) ly43 rfl inX9 (by decide) wf_X9_25 rfl hdg kk
theorem gf_X9_28 (hC : Cx K cc RX9 G) (hn64 : 64 ≤ kn K) (hdg : decode cc pc = .ok (.getfield 28, 3)) (kk : RX K (pc + 3) ls (.ref 50 :: st) m) : RX K pc ls (.ref 43 :: st) m := R_getR hC (k := 6) 43 (jx hn64 rfl) ly43 rfl inX9 (by decide) wf_X9_28 rfl hdg kk
theorem gf_X9_31 (hC : Cx K cc RX9 G) (hn64 : 64 ≤ kn K) (hdg : decode cc pc = .ok (.getfield 31, 3)) (kk : RX K (pc + 3) ls (.ref 51 :: st) m) : RX K pc ls (.ref 43 :: st) m := R_getR hC (k := 7) 43 (jx hn64 rfl) ly43 rfl inX9 (by decide) wf_X9_31 rfl hdg kk
theorem gf_X9_34 (hC : Cx K cc RX9 G) (hn64 : 64 ≤ kn K) (hdg : decode cc pc = .ok (.getfield 34, 3)) (kk : RX K (pc + 3) ls (.int (m.1 43 8) :: st) m) : RX K pc ls (.ref 43 :: st) m := R_getI hC (k := 8) 43 (jx hn64 rfl) ly43 rfl inX9 (by decide) wf_X9_34 rfl hdg kk
theorem pf_X9_34 {x : Int32} (hC : Cx K cc RX9 G) (hn64 : 64 ≤ kn K) (hdg : decode cc pc = .ok (.putfield 34, 3)) (kk : RX K (pc + 3) ls st (mu m 43 8 x)) : RX K pc ls (.int x :: .ref 43 :: st) m := R_put hC (k := 8) tyX9 tyX9_ok nmX9 43 (jx hn64 rfl) ly43 rfl inX9 (by decide) wf_X9_34 rfl rfl rfl rfl hdg kk
theorem gf_X9_38 (hC : Cx K cc RX9 G) (hn64 : 64 ≤ kn K) (hdg : decode cc pc = .ok (.getfield 38, 3)) (kk : RX K (pc + 3) ls (.ref 52 :: st) m) : RX K pc ls (.ref 43 :: st) m := R_getR hC (k := 10) 43 (jx hn64 rfl) ly43 rfl inX9 (by decide) wf_X9_38 rfl hdg kk
theorem gf_X9_41 (hC : Cx K cc RX9 G) (hn64 : 64 ≤ kn K) (hdg : decode cc pc = .ok (.getfield 41, 3)) (kk : RX K (pc + 3) ls (.ref 53 :: st) m) : RX K pc ls (.ref 43 :: st) m := R_getR hC (k := 11) 43 (jx hn64 rfl) ly43 rfl inX9 (by decide) wf_X9_41 rfl hdg kk
theorem gf_X9_44 (hC : Cx K cc RX9 G) (hn64 : 64 ≤ kn K) (hdg : decode cc pc = .ok (.getfield 44, 3)) (kk : RX K (pc + 3) ls (.ref 54 :: st) m) : RX K pc ls (.ref 43 :: st) m := R_getR hC (k := 12) 43 (jx hn64 rfl) ly43 rfl inX9 (by decide) wf_X9_44 rfl hdg kk
theorem gf_X9_47 (hC : Cx K cc RX9 G) (hn64 : 64 ≤ kn K) (hdg : decode cc pc = .ok (.getfield 47, 3)) (kk : RX K (pc + 3) ls (.ref 55 :: st) m) : RX K pc ls (.ref 43 :: st) m := R_getR hC (k := 13) 43 (jx hn64 rfl) ly43 rfl inX9 (by decide) wf_X9_47 rfl hdg kk
theorem gf_X9_50 (hC : Cx K cc RX9 G) (hn64 : 64 ≤ kn K) (hdg : decode cc pc = .ok (.getfield 50, 3)) (kk : RX K (pc + 3) ls (.ref 56 :: st) m) : RX K pc ls (.ref 43 :: st) m := R_getR hC (k := 17) 43 (jx hn64 rfl) ly43 rfl inX9 (by decide) wf_X9_50 rfl hdg kk
theorem gf_X9_53 (hC : Cx K cc RX9 G) (hn64 : 64 ≤ kn K) (hdg : decode cc pc = .ok (.getfield 53, 3)) (kk : RX K (pc + 3) ls (.ref 57 :: st) m) : RX K pc ls (.ref 43 :: st) m := R_getR hC (k := 21) 43 (jx hn64 rfl) ly43 rfl inX9 (by decide) wf_X9_53 rfl hdg kk
theorem gf_X9_56 (hC : Cx K cc RX9 G) (hn64 : 64 ≤ kn K) (hdg : decode cc pc = .ok (.getfield 56, 3)) (kk : RX K (pc + 3) ls (.ref 58 :: st) m) : RX K pc ls (.ref 43 :: st) m := R_getR hC (k := 22) 43 (jx hn64 rfl) ly43 rfl inX9 (by decide) wf_X9_56 rfl hdg kk
theorem gf_X9_59 (hC : Cx K cc RX9 G) (hn64 : 64 ≤ kn K) (hdg : decode cc pc = .ok (.getfield 59, 3)) (kk : RX K (pc + 3) ls (.ref 59 :: st) m) : RX K pc ls (.ref 43 :: st) m := R_getR hC (k := 23) 43 (jx hn64 rfl) ly43 rfl inX9 (by decide) wf_X9_59 rfl hdg kk
theorem gf_X9_63 (hC : Cx K cc RX9 G) (hn64 : 64 ≤ kn K) (hdg : decode cc pc = .ok (.getfield 63, 3)) (kk : RX K (pc + 3) ls (.ref 60 :: st) m) : RX K pc ls (.ref 43 :: st) m := R_getR hC (k := 25) 43 (jx hn64 rfl) ly43 rfl inX9 (by decide) wf_X9_63 rfl hdg kk
theorem gf_X9_66 (hC : Cx K cc RX9 G) (hn64 : 64 ≤ kn K) (hdg : decode cc pc = .ok (.getfield 66, 3)) (kk : RX K (pc + 3) ls (.ref 61 :: st) m) : RX K pc ls (.ref 43 :: st) m := R_getR hC (k := 26) 43 (jx hn64 rfl) ly43 rfl inX9 (by decide) wf_X9_66 rfl hdg kk
theorem gf_X9_69 (hC : Cx K cc RX9 G) (hn64 : 64 ≤ kn K) (hdg : decode cc pc = .ok (.getfield 69, 3)) (kk : RX K (pc + 3) ls (.ref 62 :: st) m) : RX K pc ls (.ref 43 :: st) m := R_getR hC (k := 27) 43 (jx hn64 rfl) ly43 rfl inX9 (by decide) wf_X9_69 rfl hdg kk
theorem gf_X9_72 (hC : Cx K cc RX9 G) (hn64 : 64 ≤ kn K) (hdg : decode cc pc = .ok (.getfield 72, 3)) (kk : RX K (pc + 3) ls (.ref 63 :: st) m) : RX K pc ls (.ref 43 :: st) m := R_getR hC (k := 33) 43 (jx hn64 rfl) ly43 rfl inX9 (by decide) wf_X9_72 rfl hdg kk
theorem gf_X9_77 (hC : Cx K cc RX9 G) (hn64 : 64 ≤ kn K) (hdg : decode cc pc = .ok (.getfield 77, 3)) (kk : RX K (pc + 3) ls (.int (m.1 43 9) :: st) m) : RX K pc ls (.ref 43 :: st) m := R_getI hC (k := 9) 43 (jx hn64 rfl) ly43 rfl inX9 (by decide) wf_X9_77 rfl hdg kk
theorem pf_X9_77 {x : Int32} (hC : Cx K cc RX9 G) (hn64 : 64 ≤ kn K) (hdg : decode cc pc = .ok (.putfield 77, 3)) (kk : RX K (pc + 3) ls st (mu m 43 9 x)) : RX K pc ls (.int x :: .ref 43 :: st) m := R_put hC (k := 9) tyX9 tyX9_ok nmX9 43 (jx hn64 rfl) ly43 rfl inX9 (by decide) wf_X9_77 rfl rfl rfl rfl hdg kk
theorem gf_X9_84 (hC : Cx K cc RX9 G) (hn64 : 64 ≤ kn K) (hdg : decode cc pc = .ok (.getfield 84, 3)) (kk : RX K (pc + 3) ls (.int (m.1 43 14) :: st) m) : RX K pc ls (.ref 43 :: st) m := R_getI hC (k := 14) 43 (jx hn64 rfl) ly43 rfl inX9 (by decide) wf_X9_84 rfl hdg kk
theorem pf_X9_84 {x : Int32} (hC : Cx K cc RX9 G) (hn64 : 64 ≤ kn K) (hdg : decode cc pc = .ok (.putfield 84, 3)) (kk : RX K (pc + 3) ls st (mu m 43 14 x)) : RX K pc ls (.int x :: .ref 43 :: st) m := R_put hC (k := 14) tyX9 tyX9_ok nmX9 43 (jx hn64 rfl) ly43 rfl inX9 (by decide) wf_X9_84 rfl rfl rfl rfl hdg kk
theorem gf_X9_91 (hC : Cx K cc RX9 G) (hn64 : 64 ≤ kn K) (hdg : decode cc pc = .ok (.getfield 91, 3)) (kk : RX K (pc + 3) ls (.int (m.1 43 15) :: st) m) : RX K pc ls (.ref 43 :: st) m := R_getI hC (k := 15) 43 (jx hn64 rfl) ly43 rfl inX9 (by decide) wf_X9_91 rfl hdg kk
theorem pf_X9_91 {x : Int32} (hC : Cx K cc RX9 G) (hn64 : 64 ≤ kn K) (hdg : decode cc pc = .ok (.putfield 91, 3)) (kk : RX K (pc + 3) ls st (mu m 43 15 x)) : RX K pc ls (.int x :: .ref 43 :: st) m := R_put hC (k := 15) tyX9 tyX9_ok nmX9 43 (jx hn64 rfl) ly43 rfl inX9 (by decide) wf_X9_91 rfl rfl rfl rfl hdg kk
theorem gf_X9_102 (hC : Cx K cc RX9 G) (hn64 : 64 ≤ kn K) (hdg : decode cc pc = .ok (.getfield 102, 3)) (kk : RX K (pc + 3) ls (.int (m.1 43 16) :: st) m) : RX K pc ls (.ref 43 :: st) m := R_getI hC (k := 16) 43 (jx hn64 rfl) ly43 rfl inX9 (by decide) wf_X9_102 rfl hdg kk
theorem pf_X9_102 {x : Int32} (hC : Cx K cc RX9 G) (hn64 : 64 ≤ kn K) (hdg : decode cc pc = .ok (.putfield 102, 3)) (kk : RX K (pc + 3) ls st (mu m 43 16 x)) : RX K pc ls (.int x :: .ref 43 :: st) m := R_put hC (k := 16) tyX9 tyX9_ok nmX9 43 (jx hn64 rfl) ly43 rfl inX9 (by decide) wf_X9_102 rfl rfl rfl rfl hdg kk
theorem gf_X9_136 (hC : Cx K cc RX9 G) (hn64 : 64 ≤ kn K) (hdg : decode cc pc = .ok (.getfield 136, 3)) (kk : RX K (pc + 3) ls (.int (m.1 43 19) :: st) m) : RX K pc ls (.ref 43 :: st) m := R_getI hC (k := 19) 43 (jx hn64 rfl) ly43 rfl inX9 (by decide) wf_X9_136 rfl hdg kk
theorem pf_X9_136 {x : Int32} (hC : Cx K cc RX9 G) (hn64 : 64 ≤ kn K) (n1 : narrow .boolean (.int x) = .int x) (n2 : fits .boolean (.int x) = true) (hdg : decode cc pc = .ok (.putfield 136, 3)) (kk : RX K (pc + 3) ls st (mu m 43 19 x)) : RX K pc ls (.int x :: .ref 43 :: st) m := R_put hC (k := 19) tyX9 tyX9_ok nmX9 43 (jx hn64 rfl) ly43 rfl inX9 (by decide) wf_X9_136 rfl rfl n1 n2 hdg kk
theorem gf_X9_140 (hC : Cx K cc RX9 G) (hn64 : 64 ≤ kn K) (hdg : decode cc pc = .ok (.getfield 140, 3)) (kk : RX K (pc + 3) ls (.int (m.1 43 20) :: st) m) : RX K pc ls (.ref 43 :: st) m := R_getI hC (k := 20) 43 (jx hn64 rfl) ly43 rfl inX9 (by decide) wf_X9_140 rfl hdg kk
theorem pf_X9_140 {x : Int32} (hC : Cx K cc RX9 G) (hn64 : 64 ≤ kn K) (hdg : decode cc pc = .ok (.putfield 140, 3)) (kk : RX K (pc + 3) ls st (mu m 43 20 x)) : RX K pc ls (.int x :: .ref 43 :: st) m := R_put hC (k := 20) tyX9 tyX9_ok nmX9 43 (jx hn64 rfl) ly43 rfl inX9 (by decide) wf_X9_140 rfl rfl rfl rfl hdg kk
theorem gf_X9_150 (hC : Cx K cc RX9 G) (hn64 : 64 ≤ kn K) (hdg : decode cc pc = .ok (.getfield 150, 3)) (kk : RX K (pc + 3) ls (.int (m.1 43 18) :: st) m) : RX K pc ls (.ref 43 :: st) m := R_getI hC (k := 18) 43 (jx hn64 rfl) ly43 rfl inX9 (by decide) wf_X9_150 rfl hdg kk
theorem pf_X9_150 {x : Int32} (hC : Cx K cc RX9 G) (hn64 : 64 ≤ kn K) (n1 : narrow .boolean (.int x) = .int x) (n2 : fits .boolean (.int x) = true) (hdg : decode cc pc = .ok (.putfield 150, 3)) (kk : RX K (pc + 3) ls st (mu m 43 18 x)) : RX K pc ls (.int x :: .ref 43 :: st) m := R_put hC (k := 18) tyX9 tyX9_ok nmX9 43 (jx hn64 rfl) ly43 rfl inX9 (by decide) wf_X9_150 rfl rfl n1 n2 hdg kk
theorem gf_X9_183 (hC : Cx K cc RX9 G) (hn64 : 64 ≤ kn K) (hdg : decode cc pc = .ok (.getfield 183, 3)) (kk : RX K (pc + 3) ls (.int (m.1 43 24) :: st) m) : RX K pc ls (.ref 43 :: st) m := R_getI hC (k := 24) 43 (jx hn64 rfl) ly43 rfl inX9 (by decide) wf_X9_183 rfl hdg kk
theorem pf_X9_183 {x : Int32} (hC : Cx K cc RX9 G) (hn64 : 64 ≤ kn K) (hdg : decode cc pc = .ok (.putfield 183, 3)) (kk : RX K (pc + 3) ls st (mu m 43 24 x)) : RX K pc ls (.int x :: .ref 43 :: st) m := R_put hC (k := 24) tyX9 tyX9_ok nmX9 43 (jx hn64 rfl) ly43 rfl inX9 (by decide) wf_X9_183 rfl rfl rfl rfl hdg kk
theorem gf_X9_247 (hC : Cx K cc RX9 G) (hn64 : 64 ≤ kn K) (hdg : decode cc pc = .ok (.getfield 247, 3)) (kk : RX K (pc + 3) ls (.int (m.1 43 28) :: st) m) : RX K pc ls (.ref 43 :: st) m := R_getI hC (k := 28) 43 (jx hn64 rfl) ly43 rfl inX9 (by decide) wf_X9_247 rfl hdg kk
theorem pf_X9_247 {x : Int32} (hC : Cx K cc RX9 G) (hn64 : 64 ≤ kn K) (hdg : decode cc pc = .ok (.putfield 247, 3)) (kk : RX K (pc + 3) ls st (mu m 43 28 x)) : RX K pc ls (.int x :: .ref 43 :: st) m := R_put hC (k := 28) tyX9 tyX9_ok nmX9 43 (jx hn64 rfl) ly43 rfl inX9 (by decide) wf_X9_247 rfl rfl rfl rfl hdg kk
theorem gf_X9_250 (hC : Cx K cc RX9 G) (hn64 : 64 ≤ kn K) (hdg : decode cc pc = .ok (.getfield 250, 3)) (kk : RX K (pc + 3) ls (.int (m.1 43 29) :: st) m) : RX K pc ls (.ref 43 :: st) m := R_getI hC (k := 29) 43 (jx hn64 rfl) ly43 rfl inX9 (by decide) wf_X9_250 rfl hdg kk
theorem pf_X9_250 {x : Int32} (hC : Cx K cc RX9 G) (hn64 : 64 ≤ kn K) (hdg : decode cc pc = .ok (.putfield 250, 3)) (kk : RX K (pc + 3) ls st (mu m 43 29 x)) : RX K pc ls (.int x :: .ref 43 :: st) m := R_put hC (k := 29) tyX9 tyX9_ok nmX9 43 (jx hn64 rfl) ly43 rfl inX9 (by decide) wf_X9_250 rfl rfl rfl rfl hdg kk
theorem gf_X9_256 (hC : Cx K cc RX9 G) (hn64 : 64 ≤ kn K) (hdg : decode cc pc = .ok (.getfield 256, 3)) (kk : RX K (pc + 3) ls (.int (m.1 43 30) :: st) m) : RX K pc ls (.ref 43 :: st) m := R_getI hC (k := 30) 43 (jx hn64 rfl) ly43 rfl inX9 (by decide) wf_X9_256 rfl hdg kk
theorem pf_X9_256 {x : Int32} (hC : Cx K cc RX9 G) (hn64 : 64 ≤ kn K) (hdg : decode cc pc = .ok (.putfield 256, 3)) (kk : RX K (pc + 3) ls st (mu m 43 30 x)) : RX K pc ls (.int x :: .ref 43 :: st) m := R_put hC (k := 30) tyX9 tyX9_ok nmX9 43 (jx hn64 rfl) ly43 rfl inX9 (by decide) wf_X9_256 rfl rfl rfl rfl hdg kk
theorem gf_X9_259 (hC : Cx K cc RX9 G) (hn64 : 64 ≤ kn K) (hdg : decode cc pc = .ok (.getfield 259, 3)) (kk : RX K (pc + 3) ls (.int (m.1 43 31) :: st) m) : RX K pc ls (.ref 43 :: st) m := R_getI hC (k := 31) 43 (jx hn64 rfl) ly43 rfl inX9 (by decide) wf_X9_259 rfl hdg kk
theorem pf_X9_259 {x : Int32} (hC : Cx K cc RX9 G) (hn64 : 64 ≤ kn K) (hdg : decode cc pc = .ok (.putfield 259, 3)) (kk : RX K (pc + 3) ls st (mu m 43 31 x)) : RX K pc ls (.int x :: .ref 43 :: st) m := R_put hC (k := 31) tyX9 tyX9_ok nmX9 43 (jx hn64 rfl) ly43 rfl inX9 (by decide) wf_X9_259 rfl rfl rfl rfl hdg kk
theorem gf_X9_266 (hC : Cx K cc RX9 G) (hn64 : 64 ≤ kn K) (hdg : decode cc pc = .ok (.getfield 266, 3)) (kk : RX K (pc + 3) ls (.int (m.1 43 32) :: st) m) : RX K pc ls (.ref 43 :: st) m := R_getI hC (k := 32) 43 (jx hn64 rfl) ly43 rfl inX9 (by decide) wf_X9_266 rfl hdg kk
theorem pf_X9_266 {x : Int32} (hC : Cx K cc RX9 G) (hn64 : 64 ≤ kn K) (hdg : decode cc pc = .ok (.putfield 266, 3)) (kk : RX K (pc + 3) ls st (mu m 43 32 x)) : RX K pc ls (.int x :: .ref 43 :: st) m := R_put hC (k := 32) tyX9 tyX9_ok nmX9 43 (jx hn64 rfl) ly43 rfl inX9 (by decide) wf_X9_266 rfl rfl rfl rfl hdg kk
theorem gf_X9_283 (hC : Cx K cc RX9 G) (hn64 : 64 ≤ kn K) (hdg : decode cc pc = .ok (.getfield 283, 3)) (kk : RX K (pc + 3) ls (.int (m.1 43 34) :: st) m) : RX K pc ls (.ref 43 :: st) m := R_getI hC (k := 34) 43 (jx hn64 rfl) ly43 rfl inX9 (by decide) wf_X9_283 rfl hdg kk
theorem pf_X9_283 {x : Int32} (hC : Cx K cc RX9 G) (hn64 : 64 ≤ kn K) (hdg : decode cc pc = .ok (.putfield 283, 3)) (kk : RX K (pc + 3) ls st (mu m 43 34 x)) : RX K pc ls (.int x :: .ref 43 :: st) m := R_put hC (k := 34) tyX9 tyX9_ok nmX9 43 (jx hn64 rfl) ly43 rfl inX9 (by decide) wf_X9_283 rfl rfl rfl rfl hdg kk
end
end
section
theorem dJ6_bitCount_0 : decode cJ6_bitCount 0 = .ok (.iload_n 0, 1) := by decide +kernel
theorem dJ6_bitCount_1 : decode cJ6_bitCount 1 = .ok (.iload_n 0, 1) := by decide +kernel
theorem dJ6_bitCount_2 : decode cJ6_bitCount 2 = .ok (.iconst 1, 1) := by decide +kernel
theorem dJ6_bitCount_3 : decode cJ6_bitCount 3 = .ok (.iushr, 1) := by decide +kernel
theorem dJ6_bitCount_4 : decode cJ6_bitCount 4 = .ok (.ldc_w 265, 3) := by decide +kernel
theorem dJ6_bitCount_7 : decode cJ6_bitCount 7 = .ok (.iand, 1) := by decide +kernel
theorem dJ6_bitCount_8 : decode cJ6_bitCount 8 = .ok (.isub, 1) := by decide +kernel
theorem dJ6_bitCount_9 : decode cJ6_bitCount 9 = .ok (.istore_n 0, 1) := by decide +kernel
theorem dJ6_bitCount_10 : decode cJ6_bitCount 10 = .ok (.iload_n 0, 1) := by decide +kernel
theorem dJ6_bitCount_11 : decode cJ6_bitCount 11 = .ok (.ldc_w 266, 3) := by decide +kernel
theorem dJ6_bitCount_14 : decode cJ6_bitCount 14 = .ok (.iand, 1) := by decide +kernel
theorem dJ6_bitCount_15 : decode cJ6_bitCount 15 = .ok (.iload_n 0, 1) := by decide +kernel
theorem dJ6_bitCount_16 : decode cJ6_bitCount 16 = .ok (.iconst 2, 1) := by decide +kernel
theorem dJ6_bitCount_17 : decode cJ6_bitCount 17 = .ok (.iushr, 1) := by decide +kernel
theorem dJ6_bitCount_18 : decode cJ6_bitCount 18 = .ok (.ldc_w 266, 3) := by decide +kernel
theorem dJ6_bitCount_21 : decode cJ6_bitCount 21 = .ok (.iand, 1) := by decide +kernel
theorem dJ6_bitCount_22 : decode cJ6_bitCount 22 = .ok (.iadd, 1) := by decide +kernel
theorem dJ6_bitCount_23 : decode cJ6_bitCount 23 = .ok (.istore_n 0, 1) := by decide +kernel
theorem dJ6_bitCount_24 : decode cJ6_bitCount 24 = .ok (.iload_n 0, 1) := by decide +kernel
theorem dJ6_bitCount_25 : decode cJ6_bitCount 25 = .ok (.iload_n 0, 1) := by decide +kernel
theorem dJ6_bitCount_26 : decode cJ6_bitCount 26 = .ok (.iconst 4, 1) := by decide +kernel
theorem dJ6_bitCount_27 : decode cJ6_bitCount 27 = .ok (.iushr, 1) := by decide +kernel
theorem dJ6_bitCount_28 : decode cJ6_bitCount 28 = .ok (.iadd, 1) := by decide +kernel
theorem dJ6_bitCount_29 : decode cJ6_bitCount 29 = .ok (.ldc_w 267, 3) := by decide +kernel
theorem dJ6_bitCount_32 : decode cJ6_bitCount 32 = .ok (.iand, 1) := by decide +kernel
theorem dJ6_bitCount_33 : decode cJ6_bitCount 33 = .ok (.istore_n 0, 1) := by decide +kernel
theorem dJ6_bitCount_34 : decode cJ6_bitCount 34 = .ok (.iload_n 0, 1) := by decide +kernel
theorem dJ6_bitCount_35 : decode cJ6_bitCount 35 = .ok (.iload_n 0, 1) := by decide +kernel
theorem dJ6_bitCount_36 : decode cJ6_bitCount 36 = .ok (.bipush 8, 2) := by decide +kernel
theorem dJ6_bitCount_38 : decode cJ6_bitCount 38 = .ok (.iushr, 1) := by decide +kernel
theorem dJ6_bitCount_39 : decode cJ6_bitCount 39 = .ok (.iadd, 1) := by decide +kernel
theorem dJ6_bitCount_40 : decode cJ6_bitCount 40 = .ok (.istore_n 0, 1) := by decide +kernel
theorem dJ6_bitCount_41 : decode cJ6_bitCount 41 = .ok (.iload_n 0, 1) := by decide +kernel
theorem dJ6_bitCount_42 : decode cJ6_bitCount 42 = .ok (.iload_n 0, 1) := by decide +kernel
theorem dJ6_bitCount_43 : decode cJ6_bitCount 43 = .ok (.bipush 16, 2) := by decide +kernel
theorem dJ6_bitCount_45 : decode cJ6_bitCount 45 = .ok (.iushr, 1) := by decide +kernel
theorem dJ6_bitCount_46 : decode cJ6_bitCount 46 = .ok (.iadd, 1) := by decide +kernel
theorem dJ6_bitCount_47 : decode cJ6_bitCount 47 = .ok (.istore_n 0, 1) := by decide +kernel
theorem dJ6_bitCount_48 : decode cJ6_bitCount 48 = .ok (.iload_n 0, 1) := by decide +kernel
theorem dJ6_bitCount_49 : decode cJ6_bitCount 49 = .ok (.bipush 63, 2) := by decide +kernel
theorem dJ6_bitCount_51 : decode cJ6_bitCount 51 = .ok (.iand, 1) := by decide +kernel
theorem dJ6_bitCount_52 : decode cJ6_bitCount 52 = .ok (.ireturn, 1) := by decide +kernel
def gJ6_bitCount (a1 : Int32) : Option (Int32) := lete (a1 - (((a1.toUInt32 >>> ((1 : Int32).toUInt32 &&& Int32.toUInt32 31)).toInt32) &&& 1431655765)) (fun x1 => lete ((x1 &&& 858993459) + (((x1.toUInt32 >>> ((2 : Int32).toUInt32 &&& Int32.toUInt32 31)).toInt32) &&& 858993459)) (fun x2 => lete ((x2 + ((x2.toUInt32 >>> ((4 : Int32).toUInt32 &&& Int32.toUInt32 31)).toInt32)) &&& 252645135) (fun x3 => lete (x3 + ((x3.toUInt32 >>> ((8 : Int32).toUInt32 &&& Int32.toUInt32 31)).toInt32)) (fun x4 => lete (x4 + ((x4.toUInt32 >>> ((16 : Int32).toUInt32 &&& Int32.toUInt32 31)).toInt32)) (fun x5 => some (x5 &&& 63))))))
set_option maxHeartbeats 4000000 in
set_option maxRecDepth 20000 in
theorem LJ6_bitCount {n : Nat} {m : Mem} {a1 : Int32} {r : Int32} (hg : gJ6_bitCount a1 = some r) : MX yJ6_bitCount cJ6_bitCount 1 (some .int) { frames := 0, cells := 0, slots := 0, locals := 0 } n [.int a1] m (some (.int r)) m := by
  refine MX_of (by decide) (Nat.le_of_ble_eq_true rfl) (Or.inr (Or.inl ⟨rfl, _, rfl⟩)) (fun K hC hk hL hR => ?_)
  show RX K 0 [(0, .int a1)] [] m
  rw [gJ6_bitCount] at hg
  refine R_iload_n (pc := 0) hC 0 dJ6_bitCount_0 rfl rfl ?_
  refine R_iload_n (pc := 1) hC 0 dJ6_bitCount_1 rfl rfl ?_
  refine R_iconst (pc := 2) hC dJ6_bitCount_2 ki_1 ?_
  refine R_iushr (pc := 3) hC dJ6_bitCount_3 ?_
  refine R_ldcw (pc := 4) hC wc_J6_265 dJ6_bitCount_4 ?_
  refine R_iand (pc := 7) hC dJ6_bitCount_7 ?_
  refine R_isub (pc := 8) hC dJ6_bitCount_8 ?_
  obtain ⟨x1, hx1, hg⟩ := lete_some hg
  refine R_top hx1 ?_
  refine R_istore_n (pc := 9) hC dJ6_bitCount_9 rfl hL rfl (show _ = [(0, .int x1)] from rfl) ?_
  refine R_iload_n (pc := 10) hC 0 dJ6_bitCount_10 rfl rfl ?_
  refine R_ldcw (pc := 11) hC wc_J6_266 dJ6_bitCount_11 ?_
  refine R_iand (pc := 14) hC dJ6_bitCount_14 ?_
  refine R_iload_n (pc := 15) hC 0 dJ6_bitCount_15 rfl rfl ?_
  refine R_iconst (pc := 16) hC dJ6_bitCount_16 ki_2 ?_
  refine R_iushr (pc := 17) hC dJ6_bitCount_17 ?_
  refine R_ldcw (pc := 18) hC wc_J6_266 dJ6_bitCount_18 ?_
  refine R_iand (pc := 21) hC dJ6_bitCount_21 ?_
  refine R_iadd (pc := 22) hC dJ6_bitCount_22 ?_
  obtain ⟨x2, hx2, hg⟩ := lete_some hg
  refine R_top hx2 ?_
  refine R_istore_n (pc := 23) hC dJ6_bitCount_23 rfl hL rfl (show _ = [(0, .int x2)] from rfl) ?_
  refine R_iload_n (pc := 24) hC 0 dJ6_bitCount_24 rfl rfl ?_
  refine R_iload_n (pc := 25) hC 0 dJ6_bitCount_25 rfl rfl ?_
  refine R_iconst (pc := 26) hC dJ6_bitCount_26 ki_4 ?_
  refine R_iushr (pc := 27) hC dJ6_bitCount_27 ?_
  refine R_iadd (pc := 28) hC dJ6_bitCount_28 ?_
  refine R_ldcw (pc := 29) hC wc_J6_267 dJ6_bitCount_29 ?_
  refine R_iand (pc := 32) hC dJ6_bitCount_32 ?_
  obtain ⟨x3, hx3, hg⟩ := lete_some hg
  refine R_top hx3 ?_
  refine R_istore_n (pc := 33) hC dJ6_bitCount_33 rfl hL rfl (show _ = [(0, .int x3)] from rfl) ?_
  refine R_iload_n (pc := 34) hC 0 dJ6_bitCount_34 rfl rfl ?_
  refine R_iload_n (pc := 35) hC 0 dJ6_bitCount_35 rfl rfl ?_
  refine R_bipush (pc := 36) hC dJ6_bitCount_36 kb_8 ?_
  refine R_iushr (pc := 38) hC dJ6_bitCount_38 ?_
  refine R_iadd (pc := 39) hC dJ6_bitCount_39 ?_
  obtain ⟨x4, hx4, hg⟩ := lete_some hg
  refine R_top hx4 ?_
  refine R_istore_n (pc := 40) hC dJ6_bitCount_40 rfl hL rfl (show _ = [(0, .int x4)] from rfl) ?_
  refine R_iload_n (pc := 41) hC 0 dJ6_bitCount_41 rfl rfl ?_
  refine R_iload_n (pc := 42) hC 0 dJ6_bitCount_42 rfl rfl ?_
  refine R_bipush (pc := 43) hC dJ6_bitCount_43 kb_16 ?_
  refine R_iushr (pc := 45) hC dJ6_bitCount_45 ?_
  refine R_iadd (pc := 46) hC dJ6_bitCount_46 ?_
  obtain ⟨x5, hx5, hg⟩ := lete_some hg
  refine R_top hx5 ?_
  refine R_istore_n (pc := 47) hC dJ6_bitCount_47 rfl hL rfl (show _ = [(0, .int x5)] from rfl) ?_
  refine R_iload_n (pc := 48) hC 0 dJ6_bitCount_48 rfl rfl ?_
  refine R_bipush (pc := 49) hC dJ6_bitCount_49 kb_63 ?_
  refine R_iand (pc := 51) hC dJ6_bitCount_51 ?_
  cases hg
  exact R_ireturn (pc := 52) hC dJ6_bitCount_52 ⟨rfl, rfl⟩
theorem dX8_pairsOf_0 : decode cX8_pairsOf 0 = .ok (.iload_n 0, 1) := by decide +kernel
theorem dX8_pairsOf_1 : decode cX8_pairsOf 1 = .ok (.iload_n 0, 1) := by decide +kernel
theorem dX8_pairsOf_2 : decode cX8_pairsOf 2 = .ok (.iconst 1, 1) := by decide +kernel
theorem dX8_pairsOf_3 : decode cX8_pairsOf 3 = .ok (.isub, 1) := by decide +kernel
theorem dX8_pairsOf_4 : decode cX8_pairsOf 4 = .ok (.imul, 1) := by decide +kernel
theorem dX8_pairsOf_5 : decode cX8_pairsOf 5 = .ok (.iconst 2, 1) := by decide +kernel
theorem dX8_pairsOf_6 : decode cX8_pairsOf 6 = .ok (.idiv, 1) := by decide +kernel
theorem dX8_pairsOf_7 : decode cX8_pairsOf 7 = .ok (.ireturn, 1) := by decide +kernel
def gX8_pairsOf (a1 : Int32) : Option (Int32) := some ((a1 * (a1 - 1)) / 2)
set_option maxHeartbeats 4000000 in
set_option maxRecDepth 20000 in
theorem LX8_pairsOf {n : Nat} {m : Mem} {a1 : Int32} {r : Int32} (hn : 43 ≤ n) (hg : gX8_pairsOf a1 = some r) : MX yX8_pairsOf cX8_pairsOf 1 (some .int) { frames := 0, cells := 0, slots := 0, locals := 0 } n [.int a1] m (some (.int r)) m := by
  refine MX_of (by decide) (Nat.le_of_ble_eq_true rfl) (Or.inr (Or.inl ⟨rfl, _, rfl⟩)) (fun K hC hk hL hR => ?_)
  replace hn : 43 ≤ kn K := hk.symm ▸ hn
  show RX K 0 [(0, .int a1)] [] m
  rw [gX8_pairsOf] at hg
  refine R_iload_n (pc := 0) hC 0 dX8_pairsOf_0 rfl rfl ?_
  refine R_iload_n (pc := 1) hC 0 dX8_pairsOf_1 rfl rfl ?_
  refine R_iconst (pc := 2) hC dX8_pairsOf_2 ki_1 ?_
  refine R_isub (pc := 3) hC dX8_pairsOf_3 ?_
  refine R_imul (pc := 4) hC dX8_pairsOf_4 ?_
  refine R_iconst (pc := 5) hC dX8_pairsOf_5 ki_2 ?_
  refine R_idiv (pc := 6) hC dX8_pairsOf_6 (by decide) ?_
  cases hg
  exact R_ireturn (pc := 7) hC dX8_pairsOf_7 ⟨rfl, rfl⟩
theorem dX8_yesNo_0 : decode cX8_yesNo 0 = .ok (.iload_n 0, 1) := by decide +kernel
theorem dX8_yesNo_1 : decode cX8_yesNo 1 = .ok (.ifCond .eq 7, 3) := by decide +kernel
theorem dX8_yesNo_4 : decode cX8_yesNo 4 = .ok (.iconst 1, 1) := by decide +kernel
theorem dX8_yesNo_5 : decode cX8_yesNo 5 = .ok (.goto 4, 3) := by decide +kernel
theorem dX8_yesNo_8 : decode cX8_yesNo 8 = .ok (.iconst 0, 1) := by decide +kernel
theorem dX8_yesNo_9 : decode cX8_yesNo 9 = .ok (.ireturn, 1) := by decide +kernel
def gX8_yesNo (a1 : Bool) : Option (Int32) := (if a1 = true then some 1 else some 0)
set_option maxHeartbeats 4000000 in
set_option maxRecDepth 20000 in
theorem LX8_yesNo {n : Nat} {m : Mem} {a1 : Bool} {r : Int32} (hn : 43 ≤ n) (hg : gX8_yesNo a1 = some r) : MX yX8_yesNo cX8_yesNo 1 (some .int) { frames := 0, cells := 0, slots := 0, locals := 0 } n [.int (b2i a1)] m (some (.int r)) m := by
  refine MX_of (by decide) (Nat.le_of_ble_eq_true rfl) (Or.inr (Or.inl ⟨rfl, _, rfl⟩)) (fun K hC hk hL hR => ?_)
  replace hn : 43 ≤ kn K := hk.symm ▸ hn
  show RX K 0 [(0, .int (b2i a1))] [] m
  rw [gX8_yesNo] at hg
  refine R_iload_n (pc := 0) hC 0 dX8_yesNo_0 rfl rfl ?_
  refine R_ifB_eq (tgt := 8) (pc := 1) hC dX8_yesNo_1 (by decide) (fun c => ?_) (fun c => ?_)
  · replace hg := (if_neg c).symm.trans hg
    refine R_iconst (pc := 8) hC dX8_yesNo_8 ki_0 ?_
    cases hg
    exact R_ireturn (pc := 9) hC dX8_yesNo_9 ⟨rfl, rfl⟩
  · replace hg := (if_pos c).symm.trans hg
    refine R_iconst (pc := 4) hC dX8_yesNo_4 ki_1 ?_
    refine R_goto (tgt := 9) (pc := 5) hC dX8_yesNo_5 (by decide) ?_
    cases hg
    exact R_ireturn (pc := 9) hC dX8_yesNo_9 ⟨rfl, rfl⟩
theorem dX8_isPart_0 : decode cX8_isPart 0 = .ok (.iload_n 0, 1) := by decide +kernel
theorem dX8_isPart_1 : decode cX8_isPart 1 = .ok (.ifCond .eq 8, 3) := by decide +kernel
theorem dX8_isPart_4 : decode cX8_isPart 4 = .ok (.iload_n 0, 1) := by decide +kernel
theorem dX8_isPart_5 : decode cX8_isPart 5 = .ok (.iconst 1, 1) := by decide +kernel
theorem dX8_isPart_6 : decode cX8_isPart 6 = .ok (.if_icmp .ne 7, 3) := by decide +kernel
theorem dX8_isPart_9 : decode cX8_isPart 9 = .ok (.iconst 1, 1) := by decide +kernel
theorem dX8_isPart_10 : decode cX8_isPart 10 = .ok (.goto 4, 3) := by decide +kernel
theorem dX8_isPart_13 : decode cX8_isPart 13 = .ok (.iconst 0, 1) := by decide +kernel
theorem dX8_isPart_14 : decode cX8_isPart 14 = .ok (.ireturn, 1) := by decide +kernel
def gX8_isPart (a1 : Int32) : Option (Bool) := (if a1 = 0 then some true else (if a1 = 1 then some true else some false))
set_option maxHeartbeats 4000000 in
set_option maxRecDepth 20000 in
theorem LX8_isPart {n : Nat} {m : Mem} {a1 : Int32} {r : Bool} (hn : 43 ≤ n) (hg : gX8_isPart a1 = some r) : MX yX8_isPart cX8_isPart 1 (some .boolean) { frames := 0, cells := 0, slots := 0, locals := 0 } n [.int a1] m (some (.int (b2i r))) m := by
  refine MX_of (by decide) (Nat.le_of_ble_eq_true rfl) (Or.inr (Or.inr (Or.inr ⟨rfl, _, rfl⟩))) (fun K hC hk hL hR => ?_)
  replace hn : 43 ≤ kn K := hk.symm ▸ hn
  show RX K 0 [(0, .int a1)] [] m
  rw [gX8_isPart] at hg
  refine R_iload_n (pc := 0) hC 0 dX8_isPart_0 rfl rfl ?_
  refine R_if_eq (tgt := 9) (pc := 1) hC dX8_isPart_1 (by decide) (fun c => ?_) (fun c => ?_)
  · replace hg := (if_pos c).symm.trans hg
    refine R_iconst (pc := 9) hC dX8_isPart_9 ki_1 ?_
    refine R_goto (tgt := 14) (pc := 10) hC dX8_isPart_10 (by decide) ?_
    cases hg
    exact R_ireturn (pc := 14) hC dX8_isPart_14 ⟨rfl, rfl⟩
  · replace hg := (if_neg c).symm.trans hg
    refine R_iload_n (pc := 4) hC 0 dX8_isPart_4 rfl rfl ?_
    refine R_iconst (pc := 5) hC dX8_isPart_5 ki_1 ?_
    refine R_icmp_ne (tgt := 13) (pc := 6) hC dX8_isPart_6 (by decide) (fun c => ?_) (fun c => ?_)
    · replace hg := (if_neg c).symm.trans hg
      refine R_iconst (pc := 13) hC dX8_isPart_13 ki_0 ?_
      cases hg
      exact R_ireturn (pc := 14) hC dX8_isPart_14 ⟨rfl, rfl⟩
    · replace hg := (if_pos c).symm.trans hg
      refine R_iconst (pc := 9) hC dX8_isPart_9 ki_1 ?_
      refine R_goto (tgt := 14) (pc := 10) hC dX8_isPart_10 (by decide) ?_
      cases hg
      exact R_ireturn (pc := 14) hC dX8_isPart_14 ⟨rfl, rfl⟩
theorem dX8_commonDivisor_0 : decode cX8_commonDivisor 0 = .ok (.lload_n 0, 1) := by decide +kernel
theorem dX8_commonDivisor_1 : decode cX8_commonDivisor 1 = .ok (.lstore 4, 2) := by decide +kernel
theorem dX8_commonDivisor_3 : decode cX8_commonDivisor 3 = .ok (.lload_n 2, 1) := by decide +kernel
theorem dX8_commonDivisor_4 : decode cX8_commonDivisor 4 = .ok (.lstore 6, 2) := by decide +kernel
theorem dX8_commonDivisor_6 : decode cX8_commonDivisor 6 = .ok (.iconst 0, 1) := by decide +kernel
theorem dX8_commonDivisor_7 : decode cX8_commonDivisor 7 = .ok (.istore 8, 2) := by decide +kernel
theorem dX8_commonDivisor_9 : decode cX8_commonDivisor 9 = .ok (.iload 8, 2) := by decide +kernel
theorem dX8_commonDivisor_11 : decode cX8_commonDivisor 11 = .ok (.sipush 200, 3) := by decide +kernel
theorem dX8_commonDivisor_14 : decode cX8_commonDivisor 14 = .ok (.if_icmp .ge 31, 3) := by decide +kernel
theorem dX8_commonDivisor_17 : decode cX8_commonDivisor 17 = .ok (.lload 6, 2) := by decide +kernel
theorem dX8_commonDivisor_19 : decode cX8_commonDivisor 19 = .ok (.lconst 0, 1) := by decide +kernel
theorem dX8_commonDivisor_20 : decode cX8_commonDivisor 20 = .ok (.lcmp, 1) := by decide +kernel
theorem dX8_commonDivisor_21 : decode cX8_commonDivisor 21 = .ok (.ifCond .eq 24, 3) := by decide +kernel
theorem dX8_commonDivisor_24 : decode cX8_commonDivisor 24 = .ok (.lload 4, 2) := by decide +kernel
theorem dX8_commonDivisor_26 : decode cX8_commonDivisor 26 = .ok (.lload 6, 2) := by decide +kernel
theorem dX8_commonDivisor_28 : decode cX8_commonDivisor 28 = .ok (.lrem, 1) := by decide +kernel
theorem dX8_commonDivisor_29 : decode cX8_commonDivisor 29 = .ok (.lstore 9, 2) := by decide +kernel
theorem dX8_commonDivisor_31 : decode cX8_commonDivisor 31 = .ok (.lload 6, 2) := by decide +kernel
theorem dX8_commonDivisor_33 : decode cX8_commonDivisor 33 = .ok (.lstore 4, 2) := by decide +kernel
theorem dX8_commonDivisor_35 : decode cX8_commonDivisor 35 = .ok (.lload 9, 2) := by decide +kernel
theorem dX8_commonDivisor_37 : decode cX8_commonDivisor 37 = .ok (.lstore 6, 2) := by decide +kernel
theorem dX8_commonDivisor_39 : decode cX8_commonDivisor 39 = .ok (.iinc 8 1, 3) := by decide +kernel
theorem dX8_commonDivisor_42 : decode cX8_commonDivisor 42 = .ok (.goto (-33), 3) := by decide +kernel
theorem dX8_commonDivisor_45 : decode cX8_commonDivisor 45 = .ok (.lload 4, 2) := by decide +kernel
theorem dX8_commonDivisor_47 : decode cX8_commonDivisor 47 = .ok (.lreturn, 1) := by decide +kernel
def bX8_commonDivisor_9  : (Int64 × Int64 × Int32) → Option ((Int64 × Int64 × Int32) ⊕ (Int64 × Int64 × Int32))
  | (y1, y2, y3) => (if 200 ≤ y3 then some (.inr (y1, y2, y3)) else (if (lg_cmp y2 0) = 0 then some (.inr (y1, y2, y3)) else chk (¬ y2 = 0) (lete (y1 - y1 / y2 * y2) (fun x5 => some (.inl (y2, x5, y3 + 1))))))
def gX8_commonDivisor (F : Nat) (a1 : Int64) (a2 : Int64) : Option (Int64) := (iter F (bX8_commonDivisor_9) (a1, a2, 0)).bind (fun e6 => some e6.1)
set_option maxHeartbeats 4000000 in
set_option maxRecDepth 20000 in
theorem LX8_commonDivisor {n : Nat} {F : Nat} {m : Mem} {a1 : Int64} {a2 : Int64} {r : Int64} (hn : 43 ≤ n) (hg : gX8_commonDivisor F a1 a2 = some r) : MX yX8_commonDivisor cX8_commonDivisor 11 (some .long) { frames := 0, cells := 0, slots := 0, locals := 0 } n [.long a1, .long a2] m (some (.long r)) m := by
  refine MX_of (by decide) (Nat.le_of_ble_eq_true rfl) (Or.inr (Or.inr (Or.inl ⟨rfl, _, rfl⟩))) (fun K hC hk hL hR => ?_)
  replace hn : 43 ≤ kn K := hk.symm ▸ hn
  show RX K 0 [(0, .long a1), (2, .long a2)] [] m
  rw [gX8_commonDivisor] at hg
  refine R_lload_n (pc := 0) hC 0 dX8_commonDivisor_0 rfl rfl ?_
  refine R_lstore (pc := 1) hC dX8_commonDivisor_1 hL rfl (show _ = [(4, .long a1), (0, .long a1), (2, .long a2)] from rfl) ?_
  refine R_lload_n (pc := 3) hC 2 dX8_commonDivisor_3 rfl rfl ?_
  refine R_lstore (pc := 4) hC dX8_commonDivisor_4 hL rfl (show _ = [(6, .long a2), (4, .long a1), (0, .long a1), (2, .long a2)] from rfl) ?_
  refine R_iconst (pc := 6) hC dX8_commonDivisor_6 ki_0 ?_
  refine R_istore (pc := 7) hC dX8_commonDivisor_7 hL rfl (show _ = [(8, .int 0), (6, .long a2), (4, .long a1), (0, .long a1), (2, .long a2)] from rfl) ?_
  refine R_pick [3, 4, 2, 1, 0] (ls' := [(0, .long a1), (2, .long a2), (4, .long a1), (6, .long a2), (8, .int 0)]) rfl ?_
  obtain ⟨e6, he6, hg⟩ := bind_some hg
  refine iter_walk (P := fun s : (Int64 × Int64 × Int32) => RX K 9 [(0, .long a1), (2, .long a2), (4, .long s.1), (6, .long s.2.1), (8, .int s.2.2)] [] m) (Qe := fun s : (Int64 × Int64 × Int32) => RX K 45 [(0, .long a1), (2, .long a2), (4, .long s.1), (6, .long s.2.1), (8, .int s.2.2)] [] m) (fun s7 o hg kL9 kE9 => ?_) _ _ _ he6 ?_
  · obtain ⟨y1, y2, y3⟩ := s7
    rw [bX8_commonDivisor_9] at hg
    show RX K 9 [(0, .long a1), (2, .long a2), (4, .long y1), (6, .long y2), (8, .int y3)] [] m
    refine R_iload (pc := 9) hC 4 dX8_commonDivisor_9 rfl ?_
    refine R_sipush (pc := 11) hC dX8_commonDivisor_11 ks_200 ?_
    refine R_icmp_ge (tgt := 45) (pc := 14) hC dX8_commonDivisor_14 (by decide) (fun c => ?_) (fun c => ?_)
    · replace hg := (if_pos c).symm.trans hg
      refine R_pick [0, 1, 2, 3, 4] (ls' := [(0, .long a1), (2, .long a2), (4, .long y1), (6, .long y2), (8, .int y3)]) rfl ?_
      exact kE9 _ (Option.some.inj hg).symm
    · replace hg := (if_neg c).symm.trans hg
      refine R_lload (pc := 17) hC 3 dX8_commonDivisor_17 rfl ?_
      refine R_lconst (pc := 19) hC dX8_commonDivisor_19 kl_0 ?_
      refine R_lcmp (pc := 20) hC dX8_commonDivisor_20 ?_
      refine R_if_eq (tgt := 45) (pc := 21) hC dX8_commonDivisor_21 (by decide) (fun c => ?_) (fun c => ?_)
      · replace hg := (if_pos c).symm.trans hg
        refine R_pick [0, 1, 2, 3, 4] (ls' := [(0, .long a1), (2, .long a2), (4, .long y1), (6, .long y2), (8, .int y3)]) rfl ?_
        exact kE9 _ (Option.some.inj hg).symm
      · replace hg := (if_neg c).symm.trans hg
        refine R_lload (pc := 24) hC 2 dX8_commonDivisor_24 rfl ?_
        refine R_lload (pc := 26) hC 3 dX8_commonDivisor_26 rfl ?_
        obtain ⟨c4, hg⟩ := chk_some hg
        refine R_lrem (pc := 28) hC dX8_commonDivisor_28 c4 ?_
        obtain ⟨x5, hx5, hg⟩ := lete_some hg
        refine R_topL hx5 ?_
        refine R_lstore (pc := 29) hC dX8_commonDivisor_29 hL rfl (show _ = [(9, .long x5), (0, .long a1), (2, .long a2), (4, .long y1), (6, .long y2), (8, .int y3)] from rfl) ?_
        refine R_lload (pc := 31) hC 4 dX8_commonDivisor_31 rfl ?_
        refine R_lstore (pc := 33) hC dX8_commonDivisor_33 hL rfl (show _ = [(4, .long y2), (9, .long x5), (0, .long a1), (2, .long a2), (6, .long y2), (8, .int y3)] from rfl) ?_
        refine R_lload (pc := 35) hC 1 dX8_commonDivisor_35 rfl ?_
        refine R_lstore (pc := 37) hC dX8_commonDivisor_37 hL rfl (show _ = [(6, .long x5), (4, .long y2), (9, .long x5), (0, .long a1), (2, .long a2), (8, .int y3)] from rfl) ?_
        refine R_iinc (pc := 39) hC 5 dX8_commonDivisor_39 rfl (iv ki_1) hL rfl (show _ = [(8, .int (y3 + 1)), (6, .long x5), (4, .long y2), (9, .long x5), (0, .long a1), (2, .long a2)] from rfl) ?_
        refine R_goto (tgt := 9) (pc := 42) hC dX8_commonDivisor_42 (by decide) ?_
        refine R_pick [4, 5, 2, 1, 0] (ls' := [(0, .long a1), (2, .long a2), (4, .long y2), (6, .long x5), (8, .int (y3 + 1))]) rfl ?_
        exact kL9 _ (Option.some.inj hg).symm
  · show RX K 45 [(0, .long a1), (2, .long a2), (4, .long e6.1), (6, .long e6.2.1), (8, .int e6.2.2)] [] m
    refine R_lload (pc := 45) hC 2 dX8_commonDivisor_45 rfl ?_
    cases hg
    exact R_lreturn (pc := 47) hC dX8_commonDivisor_47 ⟨rfl, rfl⟩
theorem dX8_leastTerms_0 : decode cX8_leastTerms 0 = .ok (.lload_n 0, 1) := by decide +kernel
theorem dX8_leastTerms_1 : decode cX8_leastTerms 1 = .ok (.lload_n 2, 1) := by decide +kernel
theorem dX8_leastTerms_2 : decode cX8_leastTerms 2 = .ok (.invokestatic 295, 3) := by decide +kernel
theorem dX8_leastTerms_5 : decode cX8_leastTerms 5 = .ok (.lstore 5, 2) := by decide +kernel
theorem dX8_leastTerms_7 : decode cX8_leastTerms 7 = .ok (.lload 5, 2) := by decide +kernel
theorem dX8_leastTerms_9 : decode cX8_leastTerms 9 = .ok (.lconst 0, 1) := by decide +kernel
theorem dX8_leastTerms_10 : decode cX8_leastTerms 10 = .ok (.lcmp, 1) := by decide +kernel
theorem dX8_leastTerms_11 : decode cX8_leastTerms 11 = .ok (.ifCond .ne 5, 3) := by decide +kernel
theorem dX8_leastTerms_14 : decode cX8_leastTerms 14 = .ok (.lconst 0, 1) := by decide +kernel
theorem dX8_leastTerms_15 : decode cX8_leastTerms 15 = .ok (.lreturn, 1) := by decide +kernel
theorem dX8_leastTerms_16 : decode cX8_leastTerms 16 = .ok (.iload 4, 2) := by decide +kernel
theorem dX8_leastTerms_18 : decode cX8_leastTerms 18 = .ok (.ifCond .ne 10, 3) := by decide +kernel
theorem dX8_leastTerms_21 : decode cX8_leastTerms 21 = .ok (.lload_n 0, 1) := by decide +kernel
theorem dX8_leastTerms_22 : decode cX8_leastTerms 22 = .ok (.lload 5, 2) := by decide +kernel
theorem dX8_leastTerms_24 : decode cX8_leastTerms 24 = .ok (.ldiv, 1) := by decide +kernel
theorem dX8_leastTerms_25 : decode cX8_leastTerms 25 = .ok (.goto 7, 3) := by decide +kernel
theorem dX8_leastTerms_28 : decode cX8_leastTerms 28 = .ok (.lload_n 2, 1) := by decide +kernel
theorem dX8_leastTerms_29 : decode cX8_leastTerms 29 = .ok (.lload 5, 2) := by decide +kernel
theorem dX8_leastTerms_31 : decode cX8_leastTerms 31 = .ok (.ldiv, 1) := by decide +kernel
theorem dX8_leastTerms_32 : decode cX8_leastTerms 32 = .ok (.lreturn, 1) := by decide +kernel
def gX8_leastTerms (F : Nat) (a1 : Int64) (a2 : Int64) (a3 : Int32) : Option (Int64) := (gX8_commonDivisor F a1 a2).bind (fun x1 => (if (lg_cmp x1 0) = 0 then some 0 else (if a3 = 0 then chk (¬ x1 = 0) (some (a1 / x1)) else chk (¬ x1 = 0) (some (a2 / x1)))))
set_option maxHeartbeats 4000000 in
set_option maxRecDepth 20000 in
theorem LX8_leastTerms {n : Nat} {F : Nat} {m : Mem} {a1 : Int64} {a2 : Int64} {a3 : Int32} {r : Int64} (hn : 43 ≤ n) (hg : gX8_leastTerms F a1 a2 a3 = some r) : MX yX8_leastTerms cX8_leastTerms 7 (some .long) { frames := 1, cells := 0, slots := 0, locals := 30 } n [.long a1, .long a2, .int a3] m (some (.long r)) m := by
  refine MX_of (by decide) (Nat.le_of_ble_eq_true rfl) (Or.inr (Or.inr (Or.inl ⟨rfl, _, rfl⟩))) (fun K hC hk hL hR => ?_)
  replace hn : 43 ≤ kn K := hk.symm ▸ hn
  show RX K 0 [(0, .long a1), (2, .long a2), (4, .int a3)] [] m
  rw [gX8_leastTerms] at hg
  refine R_lload_n (pc := 0) hC 0 dX8_leastTerms_0 rfl rfl ?_
  refine R_lload_n (pc := 1) hC 1 dX8_leastTerms_1 rfl rfl ?_
  obtain ⟨x1, hx1, hg⟩ := bind_some hg
  refine R_callS (pc := 2) (av := [.long a1, .long a2]) (rest := []) hC hR mf_X8_commonDivisor wm_X8_295 (LX8_commonDivisor hn hx1) rfl rfl rfl (Nat.le_of_ble_eq_true rfl) dX8_leastTerms_2 rfl ?_
  show RX K 5 [(0, .long a1), (2, .long a2), (4, .int a3)] [.long x1] m
  refine R_lstore (pc := 5) hC dX8_leastTerms_5 hL rfl (show _ = [(5, .long x1), (0, .long a1), (2, .long a2), (4, .int a3)] from rfl) ?_
  refine R_lload (pc := 7) hC 0 dX8_leastTerms_7 rfl ?_
  refine R_lconst (pc := 9) hC dX8_leastTerms_9 kl_0 ?_
  refine R_lcmp (pc := 10) hC dX8_leastTerms_10 ?_
  refine R_if_ne (tgt := 16) (pc := 11) hC dX8_leastTerms_11 (by decide) (fun c => ?_) (fun c => ?_)
  · replace hg := (if_neg c).symm.trans hg
    refine R_iload (pc := 16) hC 3 dX8_leastTerms_16 rfl ?_
    refine R_if_ne (tgt := 28) (pc := 18) hC dX8_leastTerms_18 (by decide) (fun c => ?_) (fun c => ?_)
    · replace hg := (if_neg c).symm.trans hg
      refine R_lload_n (pc := 28) hC 2 dX8_leastTerms_28 rfl rfl ?_
      refine R_lload (pc := 29) hC 0 dX8_leastTerms_29 rfl ?_
      obtain ⟨c2, hg⟩ := chk_some hg
      refine R_ldiv (pc := 31) hC dX8_leastTerms_31 c2 ?_
      cases hg
      exact R_lreturn (pc := 32) hC dX8_leastTerms_32 ⟨rfl, rfl⟩
    · replace hg := (if_pos c).symm.trans hg
      refine R_lload_n (pc := 21) hC 1 dX8_leastTerms_21 rfl rfl ?_
      refine R_lload (pc := 22) hC 0 dX8_leastTerms_22 rfl ?_
      obtain ⟨c3, hg⟩ := chk_some hg
      refine R_ldiv (pc := 24) hC dX8_leastTerms_24 c3 ?_
      refine R_goto (tgt := 32) (pc := 25) hC dX8_leastTerms_25 (by decide) ?_
      cases hg
      exact R_lreturn (pc := 32) hC dX8_leastTerms_32 ⟨rfl, rfl⟩
  · replace hg := (if_pos c).symm.trans hg
    refine R_lconst (pc := 14) hC dX8_leastTerms_14 kl_0 ?_
    cases hg
    exact R_lreturn (pc := 15) hC dX8_leastTerms_15 ⟨rfl, rfl⟩
end
