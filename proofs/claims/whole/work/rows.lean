section
-- ===== PART A: goes FIRST, ahead of the names: the tables' words, and 'selects' of the private methods out of them =====
/-- a private method of a class that the tables say can be made, by its rows of tables_1 -/
def lw_okq (q : MethodName × Nat) : Prop := (q.1.cls ≠ "java/lang/invoke/MethodHandle" ∧ q.1.cls ≠ "java/lang/invoke/VarHandle") ∧ Cond.instantiable q.1.cls q.2 ∈ tables_1 ∧ Cond.privateMethod q.1 ∈ tables_1 ∧ Cond.instanceMethod q.1 ∈ tables_1
theorem lw_p0 : lw_okq (⟨"HangsTogether$Joins", "build", "()V"⟩, 2) := ⟨⟨by decide +kernel, by decide +kernel⟩, List.mem_of_getElem? (i := 101) (by decide +kernel), List.mem_of_getElem? (i := 227) (by decide +kernel), List.mem_of_getElem? (i := 228) (by decide +kernel)⟩
theorem lw_p1 : lw_okq (⟨"HangsTogether$Ways", "list", "()V"⟩, 7) := ⟨⟨by decide +kernel, by decide +kernel⟩, List.mem_of_getElem? (i := 114) (by decide +kernel), List.mem_of_getElem? (i := 251) (by decide +kernel), List.mem_of_getElem? (i := 252) (by decide +kernel)⟩
theorem lw_p2 : lw_okq (⟨"HangsTogether$Village", "sets", "()I"⟩, 10) := ⟨⟨by decide +kernel, by decide +kernel⟩, List.mem_of_getElem? (i := 22) (by decide +kernel), List.mem_of_getElem? (i := 255) (by decide +kernel), List.mem_of_getElem? (i := 256) (by decide +kernel)⟩
theorem lw_p3 : lw_okq (⟨"HangsTogether$Village", "allows", "(I)Z"⟩, 10) := ⟨⟨by decide +kernel, by decide +kernel⟩, List.mem_of_getElem? (i := 22) (by decide +kernel), List.mem_of_getElem? (i := 259) (by decide +kernel), List.mem_of_getElem? (i := 260) (by decide +kernel)⟩
theorem lw_p4 : lw_okq (⟨"HangsTogether$Joins", "leavesForest", "(II)Z"⟩, 2) := ⟨⟨by decide +kernel, by decide +kernel⟩, List.mem_of_getElem? (i := 101) (by decide +kernel), List.mem_of_getElem? (i := 263) (by decide +kernel), List.mem_of_getElem? (i := 264) (by decide +kernel)⟩
theorem lw_p5 : lw_okq (⟨"HangsTogether$Joins", "stateOf", "(I)I"⟩, 2) := ⟨⟨by decide +kernel, by decide +kernel⟩, List.mem_of_getElem? (i := 101) (by decide +kernel), List.mem_of_getElem? (i := 267) (by decide +kernel), List.mem_of_getElem? (i := 268) (by decide +kernel)⟩
theorem lw_p6 : lw_okq (⟨"HangsTogether$Village", "worthOf", "(I)I"⟩, 10) := ⟨⟨by decide +kernel, by decide +kernel⟩, List.mem_of_getElem? (i := 22) (by decide +kernel), List.mem_of_getElem? (i := 274) (by decide +kernel), List.mem_of_getElem? (i := 275) (by decide +kernel)⟩
theorem lw_p7 : lw_okq (⟨"HangsTogether", "refuse", "(I)I"⟩, 12) := ⟨⟨by decide +kernel, by decide +kernel⟩, List.mem_of_getElem? (i := 14) (by decide +kernel), List.mem_of_getElem? (i := 319) (by decide +kernel), List.mem_of_getElem? (i := 320) (by decide +kernel)⟩
theorem lw_p8 : lw_okq (⟨"HangsTogether$Letters", "haveRoom", "()Z"⟩, 2) := ⟨⟨by decide +kernel, by decide +kernel⟩, List.mem_of_getElem? (i := 87) (by decide +kernel), List.mem_of_getElem? (i := 323) (by decide +kernel), List.mem_of_getElem? (i := 324) (by decide +kernel)⟩
theorem lw_p9 : lw_okq (⟨"HangsTogether$Letters", "append", "(I)I"⟩, 2) := ⟨⟨by decide +kernel, by decide +kernel⟩, List.mem_of_getElem? (i := 87) (by decide +kernel), List.mem_of_getElem? (i := 327) (by decide +kernel), List.mem_of_getElem? (i := 328) (by decide +kernel)⟩
theorem lw_p10 : lw_okq (⟨"HangsTogether$Village", "copy", "(LHangsTogether$Village;)V"⟩, 10) := ⟨⟨by decide +kernel, by decide +kernel⟩, List.mem_of_getElem? (i := 22) (by decide +kernel), List.mem_of_getElem? (i := 335) (by decide +kernel), List.mem_of_getElem? (i := 336) (by decide +kernel)⟩
theorem lw_p11 : lw_okq (⟨"HangsTogether$Letters", "tellTo", "(LHangsTogether$Village;)I"⟩, 2) := ⟨⟨by decide +kernel, by decide +kernel⟩, List.mem_of_getElem? (i := 87) (by decide +kernel), List.mem_of_getElem? (i := 339) (by decide +kernel), List.mem_of_getElem? (i := 340) (by decide +kernel)⟩
theorem lw_p12 : lw_okq (⟨"HangsTogether$Letters", "placeOfWrongForm", "()I"⟩, 2) := ⟨⟨by decide +kernel, by decide +kernel⟩, List.mem_of_getElem? (i := 87) (by decide +kernel), List.mem_of_getElem? (i := 343) (by decide +kernel), List.mem_of_getElem? (i := 344) (by decide +kernel)⟩
theorem lw_p13 : lw_okq (⟨"HangsTogether$Letters", "tellOne", "(LHangsTogether$Village;II)Z"⟩, 2) := ⟨⟨by decide +kernel, by decide +kernel⟩, List.mem_of_getElem? (i := 87) (by decide +kernel), List.mem_of_getElem? (i := 359) (by decide +kernel), List.mem_of_getElem? (i := 360) (by decide +kernel)⟩
theorem lw_p14 : lw_okq (⟨"HangsTogether$Letters", "number", "(II)I"⟩, 2) := ⟨⟨by decide +kernel, by decide +kernel⟩, List.mem_of_getElem? (i := 87) (by decide +kernel), List.mem_of_getElem? (i := 363) (by decide +kernel), List.mem_of_getElem? (i := 364) (by decide +kernel)⟩
theorem lw_p15 : lw_okq (⟨"HangsTogether$Letters", "letterAt", "(I)I"⟩, 2) := ⟨⟨by decide +kernel, by decide +kernel⟩, List.mem_of_getElem? (i := 87) (by decide +kernel), List.mem_of_getElem? (i := 367) (by decide +kernel), List.mem_of_getElem? (i := 368) (by decide +kernel)⟩
def lw_privs_1 : List (MethodName × Nat) := [(⟨"HangsTogether$Joins", "build", "()V"⟩, 2), (⟨"HangsTogether$Ways", "list", "()V"⟩, 7), (⟨"HangsTogether$Village", "sets", "()I"⟩, 10), (⟨"HangsTogether$Village", "allows", "(I)Z"⟩, 10), (⟨"HangsTogether$Joins", "leavesForest", "(II)Z"⟩, 2), (⟨"HangsTogether$Joins", "stateOf", "(I)I"⟩, 2), (⟨"HangsTogether$Village", "worthOf", "(I)I"⟩, 10), (⟨"HangsTogether", "refuse", "(I)I"⟩, 12), (⟨"HangsTogether$Letters", "haveRoom", "()Z"⟩, 2), (⟨"HangsTogether$Letters", "append", "(I)I"⟩, 2), (⟨"HangsTogether$Village", "copy", "(LHangsTogether$Village;)V"⟩, 10), (⟨"HangsTogether$Letters", "tellTo", "(LHangsTogether$Village;)I"⟩, 2), (⟨"HangsTogether$Letters", "placeOfWrongForm", "()I"⟩, 2), (⟨"HangsTogether$Letters", "tellOne", "(LHangsTogether$Village;II)Z"⟩, 2), (⟨"HangsTogether$Letters", "number", "(II)I"⟩, 2), (⟨"HangsTogether$Letters", "letterAt", "(I)I"⟩, 2)]
theorem lw_r1 : ∀ q ∈ lw_privs_1, lw_okq q := List.forall_mem_cons.mpr ⟨lw_p0, List.forall_mem_cons.mpr ⟨lw_p1, List.forall_mem_cons.mpr ⟨lw_p2, List.forall_mem_cons.mpr ⟨lw_p3, List.forall_mem_cons.mpr ⟨lw_p4, List.forall_mem_cons.mpr ⟨lw_p5, List.forall_mem_cons.mpr ⟨lw_p6, List.forall_mem_cons.mpr ⟨lw_p7, List.forall_mem_cons.mpr ⟨lw_p8, List.forall_mem_cons.mpr ⟨lw_p9, List.forall_mem_cons.mpr ⟨lw_p10, List.forall_mem_cons.mpr ⟨lw_p11, List.forall_mem_cons.mpr ⟨lw_p12, List.forall_mem_cons.mpr ⟨lw_p13, List.forall_mem_cons.mpr ⟨lw_p14, List.forall_mem_cons.mpr ⟨lw_p15, fun _ h => absurd h List.not_mem_nil⟩⟩⟩⟩⟩⟩⟩⟩⟩⟩⟩⟩⟩⟩⟩⟩
theorem lw_p16 : lw_okq (⟨"HangsTogether$Letters", "digitAt", "(I)I"⟩, 2) := ⟨⟨by decide +kernel, by decide +kernel⟩, List.mem_of_getElem? (i := 87) (by decide +kernel), List.mem_of_getElem? (i := 371) (by decide +kernel), List.mem_of_getElem? (i := 372) (by decide +kernel)⟩
theorem lw_p17 : lw_okq (⟨"HangsTogether$Village", "setHouses", "(I)Z"⟩, 10) := ⟨⟨by decide +kernel, by decide +kernel⟩, List.mem_of_getElem? (i := 22) (by decide +kernel), List.mem_of_getElem? (i := 375) (by decide +kernel), List.mem_of_getElem? (i := 376) (by decide +kernel)⟩
theorem lw_p18 : lw_okq (⟨"HangsTogether$Village", "farthestHouse", "()I"⟩, 10) := ⟨⟨by decide +kernel, by decide +kernel⟩, List.mem_of_getElem? (i := 22) (by decide +kernel), List.mem_of_getElem? (i := 379) (by decide +kernel), List.mem_of_getElem? (i := 380) (by decide +kernel)⟩
theorem lw_p19 : lw_okq (⟨"HangsTogether$Village", "hasLane", "(I)Z"⟩, 10) := ⟨⟨by decide +kernel, by decide +kernel⟩, List.mem_of_getElem? (i := 22) (by decide +kernel), List.mem_of_getElem? (i := 387) (by decide +kernel), List.mem_of_getElem? (i := 388) (by decide +kernel)⟩
theorem lw_p20 : lw_okq (⟨"HangsTogether$Village", "setRule", "(II)V"⟩, 10) := ⟨⟨by decide +kernel, by decide +kernel⟩, List.mem_of_getElem? (i := 22) (by decide +kernel), List.mem_of_getElem? (i := 391) (by decide +kernel), List.mem_of_getElem? (i := 392) (by decide +kernel)⟩
theorem lw_p21 : lw_okq (⟨"HangsTogether$Letters", "tellLane", "(LHangsTogether$Village;II)Z"⟩, 2) := ⟨⟨by decide +kernel, by decide +kernel⟩, List.mem_of_getElem? (i := 87) (by decide +kernel), List.mem_of_getElem? (i := 395) (by decide +kernel), List.mem_of_getElem? (i := 396) (by decide +kernel)⟩
theorem lw_p22 : lw_okq (⟨"HangsTogether$Village", "addLane", "(IIIIII)Z"⟩, 10) := ⟨⟨by decide +kernel, by decide +kernel⟩, List.mem_of_getElem? (i := 22) (by decide +kernel), List.mem_of_getElem? (i := 399) (by decide +kernel), List.mem_of_getElem? (i := 400) (by decide +kernel)⟩
theorem lw_p23 : lw_okq (⟨"HangsTogether$Village", "hasHouse", "(I)Z"⟩, 10) := ⟨⟨by decide +kernel, by decide +kernel⟩, List.mem_of_getElem? (i := 22) (by decide +kernel), List.mem_of_getElem? (i := 403) (by decide +kernel), List.mem_of_getElem? (i := 404) (by decide +kernel)⟩
theorem lw_p24 : lw_okq (⟨"HangsTogether$Letters", "clear", "()V"⟩, 2) := ⟨⟨by decide +kernel, by decide +kernel⟩, List.mem_of_getElem? (i := 87) (by decide +kernel), List.mem_of_getElem? (i := 417) (by decide +kernel), List.mem_of_getElem? (i := 418) (by decide +kernel)⟩
theorem lw_p25 : lw_okq (⟨"HangsTogether", "lanesChanged", "()V"⟩, 12) := ⟨⟨by decide +kernel, by decide +kernel⟩, List.mem_of_getElem? (i := 14) (by decide +kernel), List.mem_of_getElem? (i := 421) (by decide +kernel), List.mem_of_getElem? (i := 422) (by decide +kernel)⟩
theorem lw_p26 : lw_okq (⟨"HangsTogether$Village", "ruleOf", "(I)I"⟩, 10) := ⟨⟨by decide +kernel, by decide +kernel⟩, List.mem_of_getElem? (i := 22) (by decide +kernel), List.mem_of_getElem? (i := 430) (by decide +kernel), List.mem_of_getElem? (i := 431) (by decide +kernel)⟩
theorem lw_p27 : lw_okq (⟨"HangsTogether$Village", "removeLatest", "()V"⟩, 10) := ⟨⟨by decide +kernel, by decide +kernel⟩, List.mem_of_getElem? (i := 22) (by decide +kernel), List.mem_of_getElem? (i := 443) (by decide +kernel), List.mem_of_getElem? (i := 444) (by decide +kernel)⟩
theorem lw_p28 : lw_okq (⟨"HangsTogether$Village", "hasAll", "(I)Z"⟩, 10) := ⟨⟨by decide +kernel, by decide +kernel⟩, List.mem_of_getElem? (i := 22) (by decide +kernel), List.mem_of_getElem? (i := 452) (by decide +kernel), List.mem_of_getElem? (i := 453) (by decide +kernel)⟩
theorem lw_p29 : lw_okq (⟨"HangsTogether$Village", "allLanes", "()I"⟩, 10) := ⟨⟨by decide +kernel, by decide +kernel⟩, List.mem_of_getElem? (i := 22) (by decide +kernel), List.mem_of_getElem? (i := 456) (by decide +kernel), List.mem_of_getElem? (i := 457) (by decide +kernel)⟩
theorem lw_p30 : lw_okq (⟨"HangsTogether$Joins", "isWay", "(I)Z"⟩, 2) := ⟨⟨by decide +kernel, by decide +kernel⟩, List.mem_of_getElem? (i := 101) (by decide +kernel), List.mem_of_getElem? (i := 460) (by decide +kernel), List.mem_of_getElem? (i := 461) (by decide +kernel)⟩
theorem lw_p31 : lw_okq (⟨"HangsTogether$Joins", "partsLeft", "(I)I"⟩, 2) := ⟨⟨by decide +kernel, by decide +kernel⟩, List.mem_of_getElem? (i := 101) (by decide +kernel), List.mem_of_getElem? (i := 474) (by decide +kernel), List.mem_of_getElem? (i := 475) (by decide +kernel)⟩
def lw_privs_2 : List (MethodName × Nat) := [(⟨"HangsTogether$Letters", "digitAt", "(I)I"⟩, 2), (⟨"HangsTogether$Village", "setHouses", "(I)Z"⟩, 10), (⟨"HangsTogether$Village", "farthestHouse", "()I"⟩, 10), (⟨"HangsTogether$Village", "hasLane", "(I)Z"⟩, 10), (⟨"HangsTogether$Village", "setRule", "(II)V"⟩, 10), (⟨"HangsTogether$Letters", "tellLane", "(LHangsTogether$Village;II)Z"⟩, 2), (⟨"HangsTogether$Village", "addLane", "(IIIIII)Z"⟩, 10), (⟨"HangsTogether$Village", "hasHouse", "(I)Z"⟩, 10), (⟨"HangsTogether$Letters", "clear", "()V"⟩, 2), (⟨"HangsTogether", "lanesChanged", "()V"⟩, 12), (⟨"HangsTogether$Village", "ruleOf", "(I)I"⟩, 10), (⟨"HangsTogether$Village", "removeLatest", "()V"⟩, 10), (⟨"HangsTogether$Village", "hasAll", "(I)Z"⟩, 10), (⟨"HangsTogether$Village", "allLanes", "()I"⟩, 10), (⟨"HangsTogether$Joins", "isWay", "(I)Z"⟩, 2), (⟨"HangsTogether$Joins", "partsLeft", "(I)I"⟩, 2)]
theorem lw_r2 : ∀ q ∈ lw_privs_2, lw_okq q := List.forall_mem_cons.mpr ⟨lw_p16, List.forall_mem_cons.mpr ⟨lw_p17, List.forall_mem_cons.mpr ⟨lw_p18, List.forall_mem_cons.mpr ⟨lw_p19, List.forall_mem_cons.mpr ⟨lw_p20, List.forall_mem_cons.mpr ⟨lw_p21, List.forall_mem_cons.mpr ⟨lw_p22, List.forall_mem_cons.mpr ⟨lw_p23, List.forall_mem_cons.mpr ⟨lw_p24, List.forall_mem_cons.mpr ⟨lw_p25, List.forall_mem_cons.mpr ⟨lw_p26, List.forall_mem_cons.mpr ⟨lw_p27, List.forall_mem_cons.mpr ⟨lw_p28, List.forall_mem_cons.mpr ⟨lw_p29, List.forall_mem_cons.mpr ⟨lw_p30, List.forall_mem_cons.mpr ⟨lw_p31, fun _ h => absurd h List.not_mem_nil⟩⟩⟩⟩⟩⟩⟩⟩⟩⟩⟩⟩⟩⟩⟩⟩
theorem lw_p32 : lw_okq (⟨"HangsTogether$Ways", "worthWith", "(I)J"⟩, 7) := ⟨⟨by decide +kernel, by decide +kernel⟩, List.mem_of_getElem? (i := 114) (by decide +kernel), List.mem_of_getElem? (i := 490) (by decide +kernel), List.mem_of_getElem? (i := 491) (by decide +kernel)⟩
theorem lw_p33 : lw_okq (⟨"HangsTogether$Ways", "at", "(I)I"⟩, 7) := ⟨⟨by decide +kernel, by decide +kernel⟩, List.mem_of_getElem? (i := 114) (by decide +kernel), List.mem_of_getElem? (i := 498) (by decide +kernel), List.mem_of_getElem? (i := 499) (by decide +kernel)⟩
theorem lw_p34 : lw_okq (⟨"HangsTogether$Ways", "has", "(I)Z"⟩, 7) := ⟨⟨by decide +kernel, by decide +kernel⟩, List.mem_of_getElem? (i := 114) (by decide +kernel), List.mem_of_getElem? (i := 502) (by decide +kernel), List.mem_of_getElem? (i := 503) (by decide +kernel)⟩
theorem lw_p35 : lw_okq (⟨"HangsTogether", "refuseLong", "(I)J"⟩, 12) := ⟨⟨by decide +kernel, by decide +kernel⟩, List.mem_of_getElem? (i := 14) (by decide +kernel), List.mem_of_getElem? (i := 510) (by decide +kernel), List.mem_of_getElem? (i := 511) (by decide +kernel)⟩
theorem lw_p36 : lw_okq (⟨"HangsTogether", "likelyAll", "(II)J"⟩, 12) := ⟨⟨by decide +kernel, by decide +kernel⟩, List.mem_of_getElem? (i := 14) (by decide +kernel), List.mem_of_getElem? (i := 515) (by decide +kernel), List.mem_of_getElem? (i := 516) (by decide +kernel)⟩
theorem lw_p37 : lw_okq (⟨"HangsTogether$Ways", "lanesInAll", "()I"⟩, 7) := ⟨⟨by decide +kernel, by decide +kernel⟩, List.mem_of_getElem? (i := 114) (by decide +kernel), List.mem_of_getElem? (i := 540) (by decide +kernel), List.mem_of_getElem? (i := 541) (by decide +kernel)⟩
theorem lw_p38 : lw_okq (⟨"HangsTogether$Ways", "lanesInNone", "()I"⟩, 7) := ⟨⟨by decide +kernel, by decide +kernel⟩, List.mem_of_getElem? (i := 114) (by decide +kernel), List.mem_of_getElem? (i := 549) (by decide +kernel), List.mem_of_getElem? (i := 550) (by decide +kernel)⟩
theorem lw_p39 : lw_okq (⟨"HangsTogether$Ways", "bitsByCost", "(I)I"⟩, 7) := ⟨⟨by decide +kernel, by decide +kernel⟩, List.mem_of_getElem? (i := 114) (by decide +kernel), List.mem_of_getElem? (i := 557) (by decide +kernel), List.mem_of_getElem? (i := 558) (by decide +kernel)⟩
theorem lw_p40 : lw_okq (⟨"HangsTogether$Ways", "sortByCost", "()V"⟩, 7) := ⟨⟨by decide +kernel, by decide +kernel⟩, List.mem_of_getElem? (i := 114) (by decide +kernel), List.mem_of_getElem? (i := 561) (by decide +kernel), List.mem_of_getElem? (i := 562) (by decide +kernel)⟩
theorem lw_p41 : lw_okq (⟨"HangsTogether$Village", "costOf", "(I)I"⟩, 10) := ⟨⟨by decide +kernel, by decide +kernel⟩, List.mem_of_getElem? (i := 22) (by decide +kernel), List.mem_of_getElem? (i := 565) (by decide +kernel), List.mem_of_getElem? (i := 566) (by decide +kernel)⟩
theorem lw_p42 : lw_okq (⟨"HangsTogether$Ways", "sortEvery", "(I)V"⟩, 7) := ⟨⟨by decide +kernel, by decide +kernel⟩, List.mem_of_getElem? (i := 114) (by decide +kernel), List.mem_of_getElem? (i := 569) (by decide +kernel), List.mem_of_getElem? (i := 570) (by decide +kernel)⟩
theorem lw_p43 : lw_okq (⟨"HangsTogether$Ways", "costByCost", "(I)I"⟩, 7) := ⟨⟨by decide +kernel, by decide +kernel⟩, List.mem_of_getElem? (i := 114) (by decide +kernel), List.mem_of_getElem? (i := 573) (by decide +kernel), List.mem_of_getElem? (i := 574) (by decide +kernel)⟩
theorem lw_p44 : lw_okq (⟨"HangsTogether$Ways", "stepBetween", "(II)I"⟩, 7) := ⟨⟨by decide +kernel, by decide +kernel⟩, List.mem_of_getElem? (i := 114) (by decide +kernel), List.mem_of_getElem? (i := 591) (by decide +kernel), List.mem_of_getElem? (i := 592) (by decide +kernel)⟩
theorem lw_p45 : lw_okq (⟨"HangsTogether$Ways", "manyToward", "(I)I"⟩, 7) := ⟨⟨by decide +kernel, by decide +kernel⟩, List.mem_of_getElem? (i := 114) (by decide +kernel), List.mem_of_getElem? (i := 601) (by decide +kernel), List.mem_of_getElem? (i := 602) (by decide +kernel)⟩
theorem lw_p46 : lw_okq (⟨"HangsTogether$Ways", "leadsTo", "(II)Z"⟩, 7) := ⟨⟨by decide +kernel, by decide +kernel⟩, List.mem_of_getElem? (i := 114) (by decide +kernel), List.mem_of_getElem? (i := 605) (by decide +kernel), List.mem_of_getElem? (i := 606) (by decide +kernel)⟩
theorem lw_p47 : lw_okq (⟨"HangsTogether$Joins", "areTogether", "(III)Z"⟩, 2) := ⟨⟨by decide +kernel, by decide +kernel⟩, List.mem_of_getElem? (i := 101) (by decide +kernel), List.mem_of_getElem? (i := 609) (by decide +kernel), List.mem_of_getElem? (i := 610) (by decide +kernel)⟩
def lw_privs_3 : List (MethodName × Nat) := [(⟨"HangsTogether$Ways", "worthWith", "(I)J"⟩, 7), (⟨"HangsTogether$Ways", "at", "(I)I"⟩, 7), (⟨"HangsTogether$Ways", "has", "(I)Z"⟩, 7), (⟨"HangsTogether", "refuseLong", "(I)J"⟩, 12), (⟨"HangsTogether", "likelyAll", "(II)J"⟩, 12), (⟨"HangsTogether$Ways", "lanesInAll", "()I"⟩, 7), (⟨"HangsTogether$Ways", "lanesInNone", "()I"⟩, 7), (⟨"HangsTogether$Ways", "bitsByCost", "(I)I"⟩, 7), (⟨"HangsTogether$Ways", "sortByCost", "()V"⟩, 7), (⟨"HangsTogether$Village", "costOf", "(I)I"⟩, 10), (⟨"HangsTogether$Ways", "sortEvery", "(I)V"⟩, 7), (⟨"HangsTogether$Ways", "costByCost", "(I)I"⟩, 7), (⟨"HangsTogether$Ways", "stepBetween", "(II)I"⟩, 7), (⟨"HangsTogether$Ways", "manyToward", "(I)I"⟩, 7), (⟨"HangsTogether$Ways", "leadsTo", "(II)Z"⟩, 7), (⟨"HangsTogether$Joins", "areTogether", "(III)Z"⟩, 2)]
theorem lw_r3 : ∀ q ∈ lw_privs_3, lw_okq q := List.forall_mem_cons.mpr ⟨lw_p32, List.forall_mem_cons.mpr ⟨lw_p33, List.forall_mem_cons.mpr ⟨lw_p34, List.forall_mem_cons.mpr ⟨lw_p35, List.forall_mem_cons.mpr ⟨lw_p36, List.forall_mem_cons.mpr ⟨lw_p37, List.forall_mem_cons.mpr ⟨lw_p38, List.forall_mem_cons.mpr ⟨lw_p39, List.forall_mem_cons.mpr ⟨lw_p40, List.forall_mem_cons.mpr ⟨lw_p41, List.forall_mem_cons.mpr ⟨lw_p42, List.forall_mem_cons.mpr ⟨lw_p43, List.forall_mem_cons.mpr ⟨lw_p44, List.forall_mem_cons.mpr ⟨lw_p45, List.forall_mem_cons.mpr ⟨lw_p46, List.forall_mem_cons.mpr ⟨lw_p47, fun _ h => absurd h List.not_mem_nil⟩⟩⟩⟩⟩⟩⟩⟩⟩⟩⟩⟩⟩⟩⟩⟩
theorem lw_p48 : lw_okq (⟨"HangsTogether$Ways", "worthToward", "(I)J"⟩, 7) := ⟨⟨by decide +kernel, by decide +kernel⟩, List.mem_of_getElem? (i := 114) (by decide +kernel), List.mem_of_getElem? (i := 613) (by decide +kernel), List.mem_of_getElem? (i := 614) (by decide +kernel)⟩
theorem lw_p49 : lw_okq (⟨"HangsTogether$Forests", "manyOf", "(I)I"⟩, 2) := ⟨⟨by decide +kernel, by decide +kernel⟩, List.mem_of_getElem? (i := 144) (by decide +kernel), List.mem_of_getElem? (i := 621) (by decide +kernel), List.mem_of_getElem? (i := 622) (by decide +kernel)⟩
theorem lw_p50 : lw_okq (⟨"HangsTogether$Village", "hasAllHouses", "(I)Z"⟩, 10) := ⟨⟨by decide +kernel, by decide +kernel⟩, List.mem_of_getElem? (i := 22) (by decide +kernel), List.mem_of_getElem? (i := 632) (by decide +kernel), List.mem_of_getElem? (i := 633) (by decide +kernel)⟩
theorem lw_p51 : lw_okq (⟨"HangsTogether$Village", "allHouses", "()I"⟩, 10) := ⟨⟨by decide +kernel, by decide +kernel⟩, List.mem_of_getElem? (i := 22) (by decide +kernel), List.mem_of_getElem? (i := 636) (by decide +kernel), List.mem_of_getElem? (i := 637) (by decide +kernel)⟩
theorem lw_p52 : lw_okq (⟨"HangsTogether$Forests", "manyWithOneEach", "(I)I"⟩, 2) := ⟨⟨by decide +kernel, by decide +kernel⟩, List.mem_of_getElem? (i := 144) (by decide +kernel), List.mem_of_getElem? (i := 640) (by decide +kernel), List.mem_of_getElem? (i := 641) (by decide +kernel)⟩
theorem lw_p53 : lw_okq (⟨"HangsTogether$Joins", "areAllApart", "(II)Z"⟩, 2) := ⟨⟨by decide +kernel, by decide +kernel⟩, List.mem_of_getElem? (i := 101) (by decide +kernel), List.mem_of_getElem? (i := 645) (by decide +kernel), List.mem_of_getElem? (i := 646) (by decide +kernel)⟩
theorem lw_p54 : lw_okq (⟨"HangsTogether", "areTwoHouses", "(II)Z"⟩, 12) := ⟨⟨by decide +kernel, by decide +kernel⟩, List.mem_of_getElem? (i := 14) (by decide +kernel), List.mem_of_getElem? (i := 653) (by decide +kernel), List.mem_of_getElem? (i := 654) (by decide +kernel)⟩
theorem lw_p55 : lw_okq (⟨"HangsTogether$Forests", "worthOfWhole", "(I)J"⟩, 2) := ⟨⟨by decide +kernel, by decide +kernel⟩, List.mem_of_getElem? (i := 144) (by decide +kernel), List.mem_of_getElem? (i := 657) (by decide +kernel), List.mem_of_getElem? (i := 658) (by decide +kernel)⟩
theorem lw_p56 : lw_okq (⟨"HangsTogether$Forests", "isOpen", "(II)Z"⟩, 2) := ⟨⟨by decide +kernel, by decide +kernel⟩, List.mem_of_getElem? (i := 144) (by decide +kernel), List.mem_of_getElem? (i := 661) (by decide +kernel), List.mem_of_getElem? (i := 662) (by decide +kernel)⟩
theorem lw_p57 : lw_okq (⟨"HangsTogether$Forests", "worthApart", "(III)J"⟩, 2) := ⟨⟨by decide +kernel, by decide +kernel⟩, List.mem_of_getElem? (i := 144) (by decide +kernel), List.mem_of_getElem? (i := 666) (by decide +kernel), List.mem_of_getElem? (i := 667) (by decide +kernel)⟩
theorem lw_p58 : lw_okq (⟨"HangsTogether$Forests", "chancesToHold", "()J"⟩, 2) := ⟨⟨by decide +kernel, by decide +kernel⟩, List.mem_of_getElem? (i := 144) (by decide +kernel), List.mem_of_getElem? (i := 679) (by decide +kernel), List.mem_of_getElem? (i := 680) (by decide +kernel)⟩
theorem lw_p59 : lw_okq (⟨"HangsTogether$Forests", "free", "()I"⟩, 2) := ⟨⟨by decide +kernel, by decide +kernel⟩, List.mem_of_getElem? (i := 144) (by decide +kernel), List.mem_of_getElem? (i := 683) (by decide +kernel), List.mem_of_getElem? (i := 684) (by decide +kernel)⟩
theorem lw_p60 : lw_okq (⟨"HangsTogether$Forests", "chancesOf", "(II)J"⟩, 2) := ⟨⟨by decide +kernel, by decide +kernel⟩, List.mem_of_getElem? (i := 144) (by decide +kernel), List.mem_of_getElem? (i := 689) (by decide +kernel), List.mem_of_getElem? (i := 690) (by decide +kernel)⟩
theorem lw_p61 : lw_okq (⟨"HangsTogether$Forests", "chancesInAll", "()J"⟩, 2) := ⟨⟨by decide +kernel, by decide +kernel⟩, List.mem_of_getElem? (i := 144) (by decide +kernel), List.mem_of_getElem? (i := 693) (by decide +kernel), List.mem_of_getElem? (i := 694) (by decide +kernel)⟩
theorem lw_p62 : lw_okq (⟨"HangsTogether$Plans", "makeFor", "(I)V"⟩, 4) := ⟨⟨by decide +kernel, by decide +kernel⟩, List.mem_of_getElem? (i := 157) (by decide +kernel), List.mem_of_getElem? (i := 705) (by decide +kernel), List.mem_of_getElem? (i := 706) (by decide +kernel)⟩
theorem lw_p63 : lw_okq (⟨"HangsTogether$Plans", "joinPairs", "()V"⟩, 4) := ⟨⟨by decide +kernel, by decide +kernel⟩, List.mem_of_getElem? (i := 157) (by decide +kernel), List.mem_of_getElem? (i := 710) (by decide +kernel), List.mem_of_getElem? (i := 711) (by decide +kernel)⟩
def lw_privs_4 : List (MethodName × Nat) := [(⟨"HangsTogether$Ways", "worthToward", "(I)J"⟩, 7), (⟨"HangsTogether$Forests", "manyOf", "(I)I"⟩, 2), (⟨"HangsTogether$Village", "hasAllHouses", "(I)Z"⟩, 10), (⟨"HangsTogether$Village", "allHouses", "()I"⟩, 10), (⟨"HangsTogether$Forests", "manyWithOneEach", "(I)I"⟩, 2), (⟨"HangsTogether$Joins", "areAllApart", "(II)Z"⟩, 2), (⟨"HangsTogether", "areTwoHouses", "(II)Z"⟩, 12), (⟨"HangsTogether$Forests", "worthOfWhole", "(I)J"⟩, 2), (⟨"HangsTogether$Forests", "isOpen", "(II)Z"⟩, 2), (⟨"HangsTogether$Forests", "worthApart", "(III)J"⟩, 2), (⟨"HangsTogether$Forests", "chancesToHold", "()J"⟩, 2), (⟨"HangsTogether$Forests", "free", "()I"⟩, 2), (⟨"HangsTogether$Forests", "chancesOf", "(II)J"⟩, 2), (⟨"HangsTogether$Forests", "chancesInAll", "()J"⟩, 2), (⟨"HangsTogether$Plans", "makeFor", "(I)V"⟩, 4), (⟨"HangsTogether$Plans", "joinPairs", "()V"⟩, 4)]
theorem lw_r4 : ∀ q ∈ lw_privs_4, lw_okq q := List.forall_mem_cons.mpr ⟨lw_p48, List.forall_mem_cons.mpr ⟨lw_p49, List.forall_mem_cons.mpr ⟨lw_p50, List.forall_mem_cons.mpr ⟨lw_p51, List.forall_mem_cons.mpr ⟨lw_p52, List.forall_mem_cons.mpr ⟨lw_p53, List.forall_mem_cons.mpr ⟨lw_p54, List.forall_mem_cons.mpr ⟨lw_p55, List.forall_mem_cons.mpr ⟨lw_p56, List.forall_mem_cons.mpr ⟨lw_p57, List.forall_mem_cons.mpr ⟨lw_p58, List.forall_mem_cons.mpr ⟨lw_p59, List.forall_mem_cons.mpr ⟨lw_p60, List.forall_mem_cons.mpr ⟨lw_p61, List.forall_mem_cons.mpr ⟨lw_p62, List.forall_mem_cons.mpr ⟨lw_p63, fun _ h => absurd h List.not_mem_nil⟩⟩⟩⟩⟩⟩⟩⟩⟩⟩⟩⟩⟩⟩⟩⟩
theorem lw_p64 : lw_okq (⟨"HangsTogether$Plans", "addThoseWithout", "(II)V"⟩, 4) := ⟨⟨by decide +kernel, by decide +kernel⟩, List.mem_of_getElem? (i := 157) (by decide +kernel), List.mem_of_getElem? (i := 718) (by decide +kernel), List.mem_of_getElem? (i := 719) (by decide +kernel)⟩
theorem lw_p65 : lw_okq (⟨"HangsTogether$Plans", "chooseBest", "(I)V"⟩, 4) := ⟨⟨by decide +kernel, by decide +kernel⟩, List.mem_of_getElem? (i := 157) (by decide +kernel), List.mem_of_getElem? (i := 722) (by decide +kernel), List.mem_of_getElem? (i := 723) (by decide +kernel)⟩
theorem lw_p66 : lw_okq (⟨"HangsTogether$Plans", "mostWays", "(I)I"⟩, 4) := ⟨⟨by decide +kernel, by decide +kernel⟩, List.mem_of_getElem? (i := 157) (by decide +kernel), List.mem_of_getElem? (i := 727) (by decide +kernel), List.mem_of_getElem? (i := 728) (by decide +kernel)⟩
theorem lw_p67 : lw_okq (⟨"HangsTogether$Plans", "firstSet", "(I)I"⟩, 4) := ⟨⟨by decide +kernel, by decide +kernel⟩, List.mem_of_getElem? (i := 157) (by decide +kernel), List.mem_of_getElem? (i := 731) (by decide +kernel), List.mem_of_getElem? (i := 732) (by decide +kernel)⟩
theorem lw_p68 : lw_okq (⟨"HangsTogether$Drawers", "isDrawer", "(I)Z"⟩, 8) := ⟨⟨by decide +kernel, by decide +kernel⟩, List.mem_of_getElem? (i := 196) (by decide +kernel), List.mem_of_getElem? (i := 739) (by decide +kernel), List.mem_of_getElem? (i := 740) (by decide +kernel)⟩
theorem lw_p69 : lw_okq (⟨"HangsTogether$Drawers", "begin", "(I)V"⟩, 8) := ⟨⟨by decide +kernel, by decide +kernel⟩, List.mem_of_getElem? (i := 196) (by decide +kernel), List.mem_of_getElem? (i := 743) (by decide +kernel), List.mem_of_getElem? (i := 744) (by decide +kernel)⟩
theorem lw_p70 : lw_okq (⟨"HangsTogether$Drawers", "lookRound", "()V"⟩, 8) := ⟨⟨by decide +kernel, by decide +kernel⟩, List.mem_of_getElem? (i := 196) (by decide +kernel), List.mem_of_getElem? (i := 747) (by decide +kernel), List.mem_of_getElem? (i := 748) (by decide +kernel)⟩
theorem lw_p71 : lw_okq (⟨"HangsTogether$Drawers", "goesOn", "(II)Z"⟩, 8) := ⟨⟨by decide +kernel, by decide +kernel⟩, List.mem_of_getElem? (i := 196) (by decide +kernel), List.mem_of_getElem? (i := 751) (by decide +kernel), List.mem_of_getElem? (i := 752) (by decide +kernel)⟩
theorem lw_p72 : lw_okq (⟨"HangsTogether$Drawers", "makeNext", "(I)I"⟩, 8) := ⟨⟨by decide +kernel, by decide +kernel⟩, List.mem_of_getElem? (i := 196) (by decide +kernel), List.mem_of_getElem? (i := 755) (by decide +kernel), List.mem_of_getElem? (i := 756) (by decide +kernel)⟩
theorem lw_p73 : lw_okq (⟨"HangsTogether$Drawers", "walkAbout", "()I"⟩, 8) := ⟨⟨by decide +kernel, by decide +kernel⟩, List.mem_of_getElem? (i := 196) (by decide +kernel), List.mem_of_getElem? (i := 759) (by decide +kernel), List.mem_of_getElem? (i := 760) (by decide +kernel)⟩
theorem lw_p74 : lw_okq (⟨"HangsTogether$Drawers", "laneFrom", "(I)I"⟩, 8) := ⟨⟨by decide +kernel, by decide +kernel⟩, List.mem_of_getElem? (i := 196) (by decide +kernel), List.mem_of_getElem? (i := 764) (by decide +kernel), List.mem_of_getElem? (i := 765) (by decide +kernel)⟩
theorem lw_p75 : lw_okq (⟨"HangsTogether$Drawers", "below", "(I)I"⟩, 8) := ⟨⟨by decide +kernel, by decide +kernel⟩, List.mem_of_getElem? (i := 196) (by decide +kernel), List.mem_of_getElem? (i := 768) (by decide +kernel), List.mem_of_getElem? (i := 769) (by decide +kernel)⟩
theorem lw_p76 : lw_okq (⟨"HangsTogether$Drawers", "laneByLane", "()I"⟩, 8) := ⟨⟨by decide +kernel, by decide +kernel⟩, List.mem_of_getElem? (i := 196) (by decide +kernel), List.mem_of_getElem? (i := 776) (by decide +kernel), List.mem_of_getElem? (i := 777) (by decide +kernel)⟩
theorem lw_p77 : lw_okq (⟨"HangsTogether$Ways", "copyTo", "([I[I)I"⟩, 7) := ⟨⟨by decide +kernel, by decide +kernel⟩, List.mem_of_getElem? (i := 114) (by decide +kernel), List.mem_of_getElem? (i := 780) (by decide +kernel), List.mem_of_getElem? (i := 781) (by decide +kernel)⟩
theorem lw_p78 : lw_okq (⟨"HangsTogether$Drawers", "poolWorthWith", "(II)I"⟩, 8) := ⟨⟨by decide +kernel, by decide +kernel⟩, List.mem_of_getElem? (i := 196) (by decide +kernel), List.mem_of_getElem? (i := 784) (by decide +kernel), List.mem_of_getElem? (i := 785) (by decide +kernel)⟩
theorem lw_p79 : lw_okq (⟨"HangsTogether$Drawers", "narrow", "(IIZ)I"⟩, 8) := ⟨⟨by decide +kernel, by decide +kernel⟩, List.mem_of_getElem? (i := 196) (by decide +kernel), List.mem_of_getElem? (i := 788) (by decide +kernel), List.mem_of_getElem? (i := 789) (by decide +kernel)⟩
def lw_privs_5 : List (MethodName × Nat) := [(⟨"HangsTogether$Plans", "addThoseWithout", "(II)V"⟩, 4), (⟨"HangsTogether$Plans", "chooseBest", "(I)V"⟩, 4), (⟨"HangsTogether$Plans", "mostWays", "(I)I"⟩, 4), (⟨"HangsTogether$Plans", "firstSet", "(I)I"⟩, 4), (⟨"HangsTogether$Drawers", "isDrawer", "(I)Z"⟩, 8), (⟨"HangsTogether$Drawers", "begin", "(I)V"⟩, 8), (⟨"HangsTogether$Drawers", "lookRound", "()V"⟩, 8), (⟨"HangsTogether$Drawers", "goesOn", "(II)Z"⟩, 8), (⟨"HangsTogether$Drawers", "makeNext", "(I)I"⟩, 8), (⟨"HangsTogether$Drawers", "walkAbout", "()I"⟩, 8), (⟨"HangsTogether$Drawers", "laneFrom", "(I)I"⟩, 8), (⟨"HangsTogether$Drawers", "below", "(I)I"⟩, 8), (⟨"HangsTogether$Drawers", "laneByLane", "()I"⟩, 8), (⟨"HangsTogether$Ways", "copyTo", "([I[I)I"⟩, 7), (⟨"HangsTogether$Drawers", "poolWorthWith", "(II)I"⟩, 8), (⟨"HangsTogether$Drawers", "narrow", "(IIZ)I"⟩, 8)]
theorem lw_r5 : ∀ q ∈ lw_privs_5, lw_okq q := List.forall_mem_cons.mpr ⟨lw_p64, List.forall_mem_cons.mpr ⟨lw_p65, List.forall_mem_cons.mpr ⟨lw_p66, List.forall_mem_cons.mpr ⟨lw_p67, List.forall_mem_cons.mpr ⟨lw_p68, List.forall_mem_cons.mpr ⟨lw_p69, List.forall_mem_cons.mpr ⟨lw_p70, List.forall_mem_cons.mpr ⟨lw_p71, List.forall_mem_cons.mpr ⟨lw_p72, List.forall_mem_cons.mpr ⟨lw_p73, List.forall_mem_cons.mpr ⟨lw_p74, List.forall_mem_cons.mpr ⟨lw_p75, List.forall_mem_cons.mpr ⟨lw_p76, List.forall_mem_cons.mpr ⟨lw_p77, List.forall_mem_cons.mpr ⟨lw_p78, List.forall_mem_cons.mpr ⟨lw_p79, fun _ h => absurd h List.not_mem_nil⟩⟩⟩⟩⟩⟩⟩⟩⟩⟩⟩⟩⟩⟩⟩⟩
theorem lw_p80 : lw_okq (⟨"HangsTogether$Ways", "dearest", "()I"⟩, 7) := ⟨⟨by decide +kernel, by decide +kernel⟩, List.mem_of_getElem? (i := 114) (by decide +kernel), List.mem_of_getElem? (i := 793) (by decide +kernel), List.mem_of_getElem? (i := 794) (by decide +kernel)⟩
theorem lw_p81 : lw_okq (⟨"HangsTogether$Row", "asWay", "()I"⟩, 4) := ⟨⟨by decide +kernel, by decide +kernel⟩, List.mem_of_getElem? (i := 176) (by decide +kernel), List.mem_of_getElem? (i := 798) (by decide +kernel), List.mem_of_getElem? (i := 799) (by decide +kernel)⟩
theorem lw_p82 : lw_okq (⟨"HangsTogether$Row", "hasRoom", "()Z"⟩, 4) := ⟨⟨by decide +kernel, by decide +kernel⟩, List.mem_of_getElem? (i := 176) (by decide +kernel), List.mem_of_getElem? (i := 811) (by decide +kernel), List.mem_of_getElem? (i := 812) (by decide +kernel)⟩
theorem lw_p83 : lw_okq (⟨"HangsTogether$Row", "append", "(I)I"⟩, 4) := ⟨⟨by decide +kernel, by decide +kernel⟩, List.mem_of_getElem? (i := 176) (by decide +kernel), List.mem_of_getElem? (i := 815) (by decide +kernel), List.mem_of_getElem? (i := 816) (by decide +kernel)⟩
theorem lw_p84 : lw_okq (⟨"HangsTogether$Row", "judged", "()I"⟩, 4) := ⟨⟨by decide +kernel, by decide +kernel⟩, List.mem_of_getElem? (i := 176) (by decide +kernel), List.mem_of_getElem? (i := 823) (by decide +kernel), List.mem_of_getElem? (i := 824) (by decide +kernel)⟩
theorem lw_p85 : lw_okq (⟨"HangsTogether$Joins", "hasRing", "(I)Z"⟩, 2) := ⟨⟨by decide +kernel, by decide +kernel⟩, List.mem_of_getElem? (i := 101) (by decide +kernel), List.mem_of_getElem? (i := 829) (by decide +kernel), List.mem_of_getElem? (i := 830) (by decide +kernel)⟩
theorem lw_p86 : lw_okq (⟨"HangsTogether$Row", "clear", "()V"⟩, 4) := ⟨⟨by decide +kernel, by decide +kernel⟩, List.mem_of_getElem? (i := 176) (by decide +kernel), List.mem_of_getElem? (i := 833) (by decide +kernel), List.mem_of_getElem? (i := 834) (by decide +kernel)⟩
theorem lw_p87 : lw_okq (⟨"HangsTogether$Village", "costOfAll", "()I"⟩, 10) := ⟨⟨by decide +kernel, by decide +kernel⟩, List.mem_of_getElem? (i := 22) (by decide +kernel), List.mem_of_getElem? (i := 849) (by decide +kernel), List.mem_of_getElem? (i := 850) (by decide +kernel)⟩
theorem lw_p88 : lw_okq (⟨"HangsTogether", "refusalsOf", "(I)I"⟩, 12) := ⟨⟨by decide +kernel, by decide +kernel⟩, List.mem_of_getElem? (i := 14) (by decide +kernel), List.mem_of_getElem? (i := 854) (by decide +kernel), List.mem_of_getElem? (i := 855) (by decide +kernel)⟩
theorem lw_p89 : lw_okq (⟨"HangsTogetherModel", "no", "(I)I"⟩, 35) := ⟨⟨by decide +kernel, by decide +kernel⟩, List.mem_of_getElem? (i := 858) (by decide +kernel), List.mem_of_getElem? (i := 978) (by decide +kernel), List.mem_of_getElem? (i := 979) (by decide +kernel)⟩
theorem lw_p90 : lw_okq (⟨"HangsTogetherModel", "statement", "()Z"⟩, 35) := ⟨⟨by decide +kernel, by decide +kernel⟩, List.mem_of_getElem? (i := 858) (by decide +kernel), List.mem_of_getElem? (i := 986) (by decide +kernel), List.mem_of_getElem? (i := 987) (by decide +kernel)⟩
theorem lw_p91 : lw_okq (⟨"HangsTogetherModel", "next", "()I"⟩, 35) := ⟨⟨by decide +kernel, by decide +kernel⟩, List.mem_of_getElem? (i := 858) (by decide +kernel), List.mem_of_getElem? (i := 990) (by decide +kernel), List.mem_of_getElem? (i := 991) (by decide +kernel)⟩
theorem lw_p92 : lw_okq (⟨"HangsTogetherModel", "reads", "(II)Z"⟩, 35) := ⟨⟨by decide +kernel, by decide +kernel⟩, List.mem_of_getElem? (i := 858) (by decide +kernel), List.mem_of_getElem? (i := 994) (by decide +kernel), List.mem_of_getElem? (i := 995) (by decide +kernel)⟩
theorem lw_p93 : lw_okq (⟨"HangsTogetherModel", "isNext", "(I)Z"⟩, 35) := ⟨⟨by decide +kernel, by decide +kernel⟩, List.mem_of_getElem? (i := 858) (by decide +kernel), List.mem_of_getElem? (i := 1001) (by decide +kernel), List.mem_of_getElem? (i := 1002) (by decide +kernel)⟩
theorem lw_p94 : lw_okq (⟨"HangsTogetherModel", "passesAll", "(IZ)V"⟩, 35) := ⟨⟨by decide +kernel, by decide +kernel⟩, List.mem_of_getElem? (i := 858) (by decide +kernel), List.mem_of_getElem? (i := 1005) (by decide +kernel), List.mem_of_getElem? (i := 1006) (by decide +kernel)⟩
theorem lw_p95 : lw_okq (⟨"HangsTogetherModel", "passes", "([I)V"⟩, 35) := ⟨⟨by decide +kernel, by decide +kernel⟩, List.mem_of_getElem? (i := 858) (by decide +kernel), List.mem_of_getElem? (i := 1009) (by decide +kernel), List.mem_of_getElem? (i := 1010) (by decide +kernel)⟩
def lw_privs_6 : List (MethodName × Nat) := [(⟨"HangsTogether$Ways", "dearest", "()I"⟩, 7), (⟨"HangsTogether$Row", "asWay", "()I"⟩, 4), (⟨"HangsTogether$Row", "hasRoom", "()Z"⟩, 4), (⟨"HangsTogether$Row", "append", "(I)I"⟩, 4), (⟨"HangsTogether$Row", "judged", "()I"⟩, 4), (⟨"HangsTogether$Joins", "hasRing", "(I)Z"⟩, 2), (⟨"HangsTogether$Row", "clear", "()V"⟩, 4), (⟨"HangsTogether$Village", "costOfAll", "()I"⟩, 10), (⟨"HangsTogether", "refusalsOf", "(I)I"⟩, 12), (⟨"HangsTogetherModel", "no", "(I)I"⟩, 35), (⟨"HangsTogetherModel", "statement", "()Z"⟩, 35), (⟨"HangsTogetherModel", "next", "()I"⟩, 35), (⟨"HangsTogetherModel", "reads", "(II)Z"⟩, 35), (⟨"HangsTogetherModel", "isNext", "(I)Z"⟩, 35), (⟨"HangsTogetherModel", "passesAll", "(IZ)V"⟩, 35), (⟨"HangsTogetherModel", "passes", "([I)V"⟩, 35)]
theorem lw_r6 : ∀ q ∈ lw_privs_6, lw_okq q := List.forall_mem_cons.mpr ⟨lw_p80, List.forall_mem_cons.mpr ⟨lw_p81, List.forall_mem_cons.mpr ⟨lw_p82, List.forall_mem_cons.mpr ⟨lw_p83, List.forall_mem_cons.mpr ⟨lw_p84, List.forall_mem_cons.mpr ⟨lw_p85, List.forall_mem_cons.mpr ⟨lw_p86, List.forall_mem_cons.mpr ⟨lw_p87, List.forall_mem_cons.mpr ⟨lw_p88, List.forall_mem_cons.mpr ⟨lw_p89, List.forall_mem_cons.mpr ⟨lw_p90, List.forall_mem_cons.mpr ⟨lw_p91, List.forall_mem_cons.mpr ⟨lw_p92, List.forall_mem_cons.mpr ⟨lw_p93, List.forall_mem_cons.mpr ⟨lw_p94, List.forall_mem_cons.mpr ⟨lw_p95, fun _ h => absurd h List.not_mem_nil⟩⟩⟩⟩⟩⟩⟩⟩⟩⟩⟩⟩⟩⟩⟩⟩
theorem lw_p96 : lw_okq (⟨"HangsTogetherModel", "passOne", "(I)I"⟩, 35) := ⟨⟨by decide +kernel, by decide +kernel⟩, List.mem_of_getElem? (i := 858) (by decide +kernel), List.mem_of_getElem? (i := 1013) (by decide +kernel), List.mem_of_getElem? (i := 1014) (by decide +kernel)⟩
theorem lw_p97 : lw_okq (⟨"HangsTogetherModel", "comes", "(I)Z"⟩, 35) := ⟨⟨by decide +kernel, by decide +kernel⟩, List.mem_of_getElem? (i := 858) (by decide +kernel), List.mem_of_getElem? (i := 1017) (by decide +kernel), List.mem_of_getElem? (i := 1018) (by decide +kernel)⟩
theorem lw_p98 : lw_okq (⟨"HangsTogetherModel", "toldHouses", "()I"⟩, 35) := ⟨⟨by decide +kernel, by decide +kernel⟩, List.mem_of_getElem? (i := 858) (by decide +kernel), List.mem_of_getElem? (i := 1021) (by decide +kernel), List.mem_of_getElem? (i := 1022) (by decide +kernel)⟩
theorem lw_p99 : lw_okq (⟨"HangsTogetherModel", "comesLane", "(I)Z"⟩, 35) := ⟨⟨by decide +kernel, by decide +kernel⟩, List.mem_of_getElem? (i := 858) (by decide +kernel), List.mem_of_getElem? (i := 1025) (by decide +kernel), List.mem_of_getElem? (i := 1026) (by decide +kernel)⟩
theorem lw_p100 : lw_okq (⟨"HangsTogetherModel", "isHouse", "(I)Z"⟩, 35) := ⟨⟨by decide +kernel, by decide +kernel⟩, List.mem_of_getElem? (i := 858) (by decide +kernel), List.mem_of_getElem? (i := 1029) (by decide +kernel), List.mem_of_getElem? (i := 1030) (by decide +kernel)⟩
theorem lw_p101 : lw_okq (⟨"HangsTogetherModel", "isLane", "(I)Z"⟩, 35) := ⟨⟨by decide +kernel, by decide +kernel⟩, List.mem_of_getElem? (i := 858) (by decide +kernel), List.mem_of_getElem? (i := 1033) (by decide +kernel), List.mem_of_getElem? (i := 1034) (by decide +kernel)⟩
theorem lw_p102 : lw_okq (⟨"HangsTogetherModel", "weightOf", "(I)I"⟩, 35) := ⟨⟨by decide +kernel, by decide +kernel⟩, List.mem_of_getElem? (i := 858) (by decide +kernel), List.mem_of_getElem? (i := 1049) (by decide +kernel), List.mem_of_getElem? (i := 1050) (by decide +kernel)⟩
theorem lw_p103 : lw_okq (⟨"HangsTogetherModel", "costOf", "(I)I"⟩, 35) := ⟨⟨by decide +kernel, by decide +kernel⟩, List.mem_of_getElem? (i := 858) (by decide +kernel), List.mem_of_getElem? (i := 1053) (by decide +kernel), List.mem_of_getElem? (i := 1054) (by decide +kernel)⟩
theorem lw_p104 : lw_okq (⟨"HangsTogetherModel", "driftOf", "(I)I"⟩, 35) := ⟨⟨by decide +kernel, by decide +kernel⟩, List.mem_of_getElem? (i := 858) (by decide +kernel), List.mem_of_getElem? (i := 1057) (by decide +kernel), List.mem_of_getElem? (i := 1058) (by decide +kernel)⟩
theorem lw_p105 : lw_okq (⟨"HangsTogetherModel", "areLanes", "(I)Z"⟩, 35) := ⟨⟨by decide +kernel, by decide +kernel⟩, List.mem_of_getElem? (i := 858) (by decide +kernel), List.mem_of_getElem? (i := 1073) (by decide +kernel), List.mem_of_getElem? (i := 1074) (by decide +kernel)⟩
theorem lw_p106 : lw_okq (⟨"HangsTogetherModel", "allLanes", "()I"⟩, 35) := ⟨⟨by decide +kernel, by decide +kernel⟩, List.mem_of_getElem? (i := 858) (by decide +kernel), List.mem_of_getElem? (i := 1077) (by decide +kernel), List.mem_of_getElem? (i := 1078) (by decide +kernel)⟩
theorem lw_p107 : lw_okq (⟨"HangsTogetherModel", "isWay", "(I)Z"⟩, 35) := ⟨⟨by decide +kernel, by decide +kernel⟩, List.mem_of_getElem? (i := 858) (by decide +kernel), List.mem_of_getElem? (i := 1081) (by decide +kernel), List.mem_of_getElem? (i := 1082) (by decide +kernel)⟩
theorem lw_p108 : lw_okq (⟨"HangsTogetherModel", "isForest", "(II)Z"⟩, 35) := ⟨⟨by decide +kernel, by decide +kernel⟩, List.mem_of_getElem? (i := 858) (by decide +kernel), List.mem_of_getElem? (i := 1085) (by decide +kernel), List.mem_of_getElem? (i := 1086) (by decide +kernel)⟩
theorem lw_p109 : lw_okq (⟨"HangsTogetherModel", "partsOf", "(I)I"⟩, 35) := ⟨⟨by decide +kernel, by decide +kernel⟩, List.mem_of_getElem? (i := 858) (by decide +kernel), List.mem_of_getElem? (i := 1092) (by decide +kernel), List.mem_of_getElem? (i := 1093) (by decide +kernel)⟩
theorem lw_p110 : lw_okq (⟨"HangsTogetherModel", "isRuled", "(I)Z"⟩, 35) := ⟨⟨by decide +kernel, by decide +kernel⟩, List.mem_of_getElem? (i := 858) (by decide +kernel), List.mem_of_getElem? (i := 1096) (by decide +kernel), List.mem_of_getElem? (i := 1097) (by decide +kernel)⟩
theorem lw_p111 : lw_okq (⟨"HangsTogetherModel", "ruledAs", "(I)I"⟩, 35) := ⟨⟨by decide +kernel, by decide +kernel⟩, List.mem_of_getElem? (i := 858) (by decide +kernel), List.mem_of_getElem? (i := 1100) (by decide +kernel), List.mem_of_getElem? (i := 1101) (by decide +kernel)⟩
def lw_privs_7 : List (MethodName × Nat) := [(⟨"HangsTogetherModel", "passOne", "(I)I"⟩, 35), (⟨"HangsTogetherModel", "comes", "(I)Z"⟩, 35), (⟨"HangsTogetherModel", "toldHouses", "()I"⟩, 35), (⟨"HangsTogetherModel", "comesLane", "(I)Z"⟩, 35), (⟨"HangsTogetherModel", "isHouse", "(I)Z"⟩, 35), (⟨"HangsTogetherModel", "isLane", "(I)Z"⟩, 35), (⟨"HangsTogetherModel", "weightOf", "(I)I"⟩, 35), (⟨"HangsTogetherModel", "costOf", "(I)I"⟩, 35), (⟨"HangsTogetherModel", "driftOf", "(I)I"⟩, 35), (⟨"HangsTogetherModel", "areLanes", "(I)Z"⟩, 35), (⟨"HangsTogetherModel", "allLanes", "()I"⟩, 35), (⟨"HangsTogetherModel", "isWay", "(I)Z"⟩, 35), (⟨"HangsTogetherModel", "isForest", "(II)Z"⟩, 35), (⟨"HangsTogetherModel", "partsOf", "(I)I"⟩, 35), (⟨"HangsTogetherModel", "isRuled", "(I)Z"⟩, 35), (⟨"HangsTogetherModel", "ruledAs", "(I)I"⟩, 35)]
theorem lw_r7 : ∀ q ∈ lw_privs_7, lw_okq q := List.forall_mem_cons.mpr ⟨lw_p96, List.forall_mem_cons.mpr ⟨lw_p97, List.forall_mem_cons.mpr ⟨lw_p98, List.forall_mem_cons.mpr ⟨lw_p99, List.forall_mem_cons.mpr ⟨lw_p100, List.forall_mem_cons.mpr ⟨lw_p101, List.forall_mem_cons.mpr ⟨lw_p102, List.forall_mem_cons.mpr ⟨lw_p103, List.forall_mem_cons.mpr ⟨lw_p104, List.forall_mem_cons.mpr ⟨lw_p105, List.forall_mem_cons.mpr ⟨lw_p106, List.forall_mem_cons.mpr ⟨lw_p107, List.forall_mem_cons.mpr ⟨lw_p108, List.forall_mem_cons.mpr ⟨lw_p109, List.forall_mem_cons.mpr ⟨lw_p110, List.forall_mem_cons.mpr ⟨lw_p111, fun _ h => absurd h List.not_mem_nil⟩⟩⟩⟩⟩⟩⟩⟩⟩⟩⟩⟩⟩⟩⟩⟩
theorem lw_p112 : lw_okq (⟨"HangsTogetherModel", "findWays", "()V"⟩, 35) := ⟨⟨by decide +kernel, by decide +kernel⟩, List.mem_of_getElem? (i := 858) (by decide +kernel), List.mem_of_getElem? (i := 1116) (by decide +kernel), List.mem_of_getElem? (i := 1117) (by decide +kernel)⟩
theorem lw_p113 : lw_okq (⟨"HangsTogetherModel", "worthOf", "(I)J"⟩, 35) := ⟨⟨by decide +kernel, by decide +kernel⟩, List.mem_of_getElem? (i := 858) (by decide +kernel), List.mem_of_getElem? (i := 1120) (by decide +kernel), List.mem_of_getElem? (i := 1121) (by decide +kernel)⟩
theorem lw_p114 : lw_okq (⟨"HangsTogetherModel", "sumWith", "(II)J"⟩, 35) := ⟨⟨by decide +kernel, by decide +kernel⟩, List.mem_of_getElem? (i := 858) (by decide +kernel), List.mem_of_getElem? (i := 1128) (by decide +kernel), List.mem_of_getElem? (i := 1129) (by decide +kernel)⟩
theorem lw_p115 : lw_okq (⟨"HangsTogetherModel", "lowest", "(I)J"⟩, 35) := ⟨⟨by decide +kernel, by decide +kernel⟩, List.mem_of_getElem? (i := 858) (by decide +kernel), List.mem_of_getElem? (i := 1140) (by decide +kernel), List.mem_of_getElem? (i := 1141) (by decide +kernel)⟩
theorem lw_p116 : lw_okq (⟨"HangsTogetherModel", "share", "(II)J"⟩, 35) := ⟨⟨by decide +kernel, by decide +kernel⟩, List.mem_of_getElem? (i := 858) (by decide +kernel), List.mem_of_getElem? (i := 1145) (by decide +kernel), List.mem_of_getElem? (i := 1146) (by decide +kernel)⟩
theorem lw_p117 : lw_okq (⟨"HangsTogetherModel", "cheapest", "(I)I"⟩, 35) := ⟨⟨by decide +kernel, by decide +kernel⟩, List.mem_of_getElem? (i := 858) (by decide +kernel), List.mem_of_getElem? (i := 1182) (by decide +kernel), List.mem_of_getElem? (i := 1183) (by decide +kernel)⟩
theorem lw_p118 : lw_okq (⟨"HangsTogetherModel", "costsOf", "(I)I"⟩, 35) := ⟨⟨by decide +kernel, by decide +kernel⟩, List.mem_of_getElem? (i := 858) (by decide +kernel), List.mem_of_getElem? (i := 1186) (by decide +kernel), List.mem_of_getElem? (i := 1187) (by decide +kernel)⟩
theorem lw_p119 : lw_okq (⟨"HangsTogetherModel", "isToward", "(II)Z"⟩, 35) := ⟨⟨by decide +kernel, by decide +kernel⟩, List.mem_of_getElem? (i := 858) (by decide +kernel), List.mem_of_getElem? (i := 1202) (by decide +kernel), List.mem_of_getElem? (i := 1203) (by decide +kernel)⟩
theorem lw_p120 : lw_okq (⟨"HangsTogetherModel", "isOneEach", "(I)Z"⟩, 35) := ⟨⟨by decide +kernel, by decide +kernel⟩, List.mem_of_getElem? (i := 858) (by decide +kernel), List.mem_of_getElem? (i := 1214) (by decide +kernel), List.mem_of_getElem? (i := 1215) (by decide +kernel)⟩
theorem lw_p121 : lw_okq (⟨"HangsTogetherModel", "areTwo", "(II)Z"⟩, 35) := ⟨⟨by decide +kernel, by decide +kernel⟩, List.mem_of_getElem? (i := 858) (by decide +kernel), List.mem_of_getElem? (i := 1222) (by decide +kernel), List.mem_of_getElem? (i := 1223) (by decide +kernel)⟩
theorem lw_p122 : lw_okq (⟨"HangsTogetherModel", "sumTogether", "()J"⟩, 35) := ⟨⟨by decide +kernel, by decide +kernel⟩, List.mem_of_getElem? (i := 858) (by decide +kernel), List.mem_of_getElem? (i := 1226) (by decide +kernel), List.mem_of_getElem? (i := 1227) (by decide +kernel)⟩
theorem lw_p123 : lw_okq (⟨"HangsTogetherModel", "sumApart", "(IIZ)J"⟩, 35) := ⟨⟨by decide +kernel, by decide +kernel⟩, List.mem_of_getElem? (i := 858) (by decide +kernel), List.mem_of_getElem? (i := 1230) (by decide +kernel), List.mem_of_getElem? (i := 1231) (by decide +kernel)⟩
theorem lw_p124 : lw_okq (⟨"HangsTogetherModel", "findPlan", "(I)V"⟩, 35) := ⟨⟨by decide +kernel, by decide +kernel⟩, List.mem_of_getElem? (i := 858) (by decide +kernel), List.mem_of_getElem? (i := 1247) (by decide +kernel), List.mem_of_getElem? (i := 1248) (by decide +kernel)⟩
theorem lw_p125 : lw_okq (⟨"HangsTogetherModel", "doJoin", "(I)Z"⟩, 35) := ⟨⟨by decide +kernel, by decide +kernel⟩, List.mem_of_getElem? (i := 858) (by decide +kernel), List.mem_of_getElem? (i := 1251) (by decide +kernel), List.mem_of_getElem? (i := 1252) (by decide +kernel)⟩
theorem lw_p126 : lw_okq (⟨"HangsTogetherModel", "makes", "(I)I"⟩, 35) := ⟨⟨by decide +kernel, by decide +kernel⟩, List.mem_of_getElem? (i := 858) (by decide +kernel), List.mem_of_getElem? (i := 1262) (by decide +kernel), List.mem_of_getElem? (i := 1263) (by decide +kernel)⟩
theorem lw_p127 : lw_okq (⟨"HangsTogetherModel", "walks", "()I"⟩, 35) := ⟨⟨by decide +kernel, by decide +kernel⟩, List.mem_of_getElem? (i := 858) (by decide +kernel), List.mem_of_getElem? (i := 1266) (by decide +kernel), List.mem_of_getElem? (i := 1267) (by decide +kernel)⟩
def lw_privs_8 : List (MethodName × Nat) := [(⟨"HangsTogetherModel", "findWays", "()V"⟩, 35), (⟨"HangsTogetherModel", "worthOf", "(I)J"⟩, 35), (⟨"HangsTogetherModel", "sumWith", "(II)J"⟩, 35), (⟨"HangsTogetherModel", "lowest", "(I)J"⟩, 35), (⟨"HangsTogetherModel", "share", "(II)J"⟩, 35), (⟨"HangsTogetherModel", "cheapest", "(I)I"⟩, 35), (⟨"HangsTogetherModel", "costsOf", "(I)I"⟩, 35), (⟨"HangsTogetherModel", "isToward", "(II)Z"⟩, 35), (⟨"HangsTogetherModel", "isOneEach", "(I)Z"⟩, 35), (⟨"HangsTogetherModel", "areTwo", "(II)Z"⟩, 35), (⟨"HangsTogetherModel", "sumTogether", "()J"⟩, 35), (⟨"HangsTogetherModel", "sumApart", "(IIZ)J"⟩, 35), (⟨"HangsTogetherModel", "findPlan", "(I)V"⟩, 35), (⟨"HangsTogetherModel", "doJoin", "(I)Z"⟩, 35), (⟨"HangsTogetherModel", "makes", "(I)I"⟩, 35), (⟨"HangsTogetherModel", "walks", "()I"⟩, 35)]
theorem lw_r8 : ∀ q ∈ lw_privs_8, lw_okq q := List.forall_mem_cons.mpr ⟨lw_p112, List.forall_mem_cons.mpr ⟨lw_p113, List.forall_mem_cons.mpr ⟨lw_p114, List.forall_mem_cons.mpr ⟨lw_p115, List.forall_mem_cons.mpr ⟨lw_p116, List.forall_mem_cons.mpr ⟨lw_p117, List.forall_mem_cons.mpr ⟨lw_p118, List.forall_mem_cons.mpr ⟨lw_p119, List.forall_mem_cons.mpr ⟨lw_p120, List.forall_mem_cons.mpr ⟨lw_p121, List.forall_mem_cons.mpr ⟨lw_p122, List.forall_mem_cons.mpr ⟨lw_p123, List.forall_mem_cons.mpr ⟨lw_p124, List.forall_mem_cons.mpr ⟨lw_p125, List.forall_mem_cons.mpr ⟨lw_p126, List.forall_mem_cons.mpr ⟨lw_p127, fun _ h => absurd h List.not_mem_nil⟩⟩⟩⟩⟩⟩⟩⟩⟩⟩⟩⟩⟩⟩⟩⟩
theorem lw_p128 : lw_okq (⟨"HangsTogetherModel", "weightsFrom", "(I)I"⟩, 35) := ⟨⟨by decide +kernel, by decide +kernel⟩, List.mem_of_getElem? (i := 858) (by decide +kernel), List.mem_of_getElem? (i := 1270) (by decide +kernel), List.mem_of_getElem? (i := 1271) (by decide +kernel)⟩
theorem lw_p129 : lw_okq (⟨"HangsTogetherModel", "leads", "(II)I"⟩, 35) := ⟨⟨by decide +kernel, by decide +kernel⟩, List.mem_of_getElem? (i := 858) (by decide +kernel), List.mem_of_getElem? (i := 1274) (by decide +kernel), List.mem_of_getElem? (i := 1275) (by decide +kernel)⟩
theorem lw_p130 : lw_okq (⟨"HangsTogetherModel", "drawn", "(J)I"⟩, 35) := ⟨⟨by decide +kernel, by decide +kernel⟩, List.mem_of_getElem? (i := 858) (by decide +kernel), List.mem_of_getElem? (i := 1278) (by decide +kernel), List.mem_of_getElem? (i := 1279) (by decide +kernel)⟩
theorem lw_p131 : lw_okq (⟨"HangsTogetherModel", "rowWay", "()I"⟩, 35) := ⟨⟨by decide +kernel, by decide +kernel⟩, List.mem_of_getElem? (i := 858) (by decide +kernel), List.mem_of_getElem? (i := 1285) (by decide +kernel), List.mem_of_getElem? (i := 1286) (by decide +kernel)⟩
theorem lw_p132 : lw_okq (⟨"HangsTogetherModel", "steps", "()I"⟩, 35) := ⟨⟨by decide +kernel, by decide +kernel⟩, List.mem_of_getElem? (i := 858) (by decide +kernel), List.mem_of_getElem? (i := 1289) (by decide +kernel), List.mem_of_getElem? (i := 1290) (by decide +kernel)⟩
theorem lw_p133 : lw_okq (⟨"HangsTogetherModel", "dearest", "()I"⟩, 35) := ⟨⟨by decide +kernel, by decide +kernel⟩, List.mem_of_getElem? (i := 858) (by decide +kernel), List.mem_of_getElem? (i := 1293) (by decide +kernel), List.mem_of_getElem? (i := 1294) (by decide +kernel)⟩
def lw_privs_9 : List (MethodName × Nat) := [(⟨"HangsTogetherModel", "weightsFrom", "(I)I"⟩, 35), (⟨"HangsTogetherModel", "leads", "(II)I"⟩, 35), (⟨"HangsTogetherModel", "drawn", "(J)I"⟩, 35), (⟨"HangsTogetherModel", "rowWay", "()I"⟩, 35), (⟨"HangsTogetherModel", "steps", "()I"⟩, 35), (⟨"HangsTogetherModel", "dearest", "()I"⟩, 35)]
theorem lw_r9 : ∀ q ∈ lw_privs_9, lw_okq q := List.forall_mem_cons.mpr ⟨lw_p128, List.forall_mem_cons.mpr ⟨lw_p129, List.forall_mem_cons.mpr ⟨lw_p130, List.forall_mem_cons.mpr ⟨lw_p131, List.forall_mem_cons.mpr ⟨lw_p132, List.forall_mem_cons.mpr ⟨lw_p133, fun _ h => absurd h List.not_mem_nil⟩⟩⟩⟩⟩⟩
def lw_privs : List (MethodName × Nat) := lw_privs_1 ++ (lw_privs_2 ++ (lw_privs_3 ++ (lw_privs_4 ++ (lw_privs_5 ++ (lw_privs_6 ++ (lw_privs_7 ++ (lw_privs_8 ++ (lw_privs_9))))))))
def lw_tbl : List Cond := k2_sels lw_privs ++ tables_1
theorem lw_privs_ok : ∀ q ∈ lw_privs, lw_okq q := by
  show ∀ q ∈ lw_privs_1 ++ (lw_privs_2 ++ (lw_privs_3 ++ (lw_privs_4 ++ (lw_privs_5 ++ (lw_privs_6 ++ (lw_privs_7 ++ (lw_privs_8 ++ (lw_privs_9)))))))), lw_okq q
  exact List.forall_mem_append.mpr ⟨lw_r1, List.forall_mem_append.mpr ⟨lw_r2, List.forall_mem_append.mpr ⟨lw_r3, List.forall_mem_append.mpr ⟨lw_r4, List.forall_mem_append.mpr ⟨lw_r5, List.forall_mem_append.mpr ⟨lw_r6, List.forall_mem_append.mpr ⟨lw_r7, List.forall_mem_append.mpr ⟨lw_r8, lw_r9⟩⟩⟩⟩⟩⟩⟩⟩
-- ===== end of PART A; then your names; then what follows =====
end
section
/-! ===== the class's own small words ===== -/
abbrev Mem : Type := (Nat → Nat → Int32) × (Nat → Nat → Int64)
def mu (m : Mem) (j k : Nat) (v : Int32) : Mem := (fun i => if i = j then upd (m.1 j) k v else m.1 i, m.2)
def muL (m : Mem) (j k : Nat) (v : Int64) : Mem := (m.1, fun i => if i = j then vp_updL (m.2 j) k v else m.2 i)
def b2i (b : Bool) : Int32 := if b = true then 1 else 0
/-- the cells in the order in which they are made: an array (long or not, its length), or an object (its class, its fields: none a number, some j the cell j) -/
abbrev LayT : Type := (Bool × Nat) ⊕ (Nat × List (Option Nat))
def layV (v : Nat) : LayT := .inr (6, [none, none, none, none, some (v + 1), some (v + 2), some (v + 3), some (v + 4), some (v + 5), some (v + 6)])
def layL : List LayT := [
  .inr (8, [some 1, some 8, some 15, none, some 22, some 24, some 26, some 30, some 31, some 35, some 37, some 42]),
  layV 1, .inl (false, 10), .inl (false, 10), .inl (false, 10), .inl (false, 10), .inl (false, 10), .inl (false, 10),
  layV 8, .inl (false, 10), .inl (false, 10), .inl (false, 10), .inl (false, 10), .inl (false, 10), .inl (false, 10),
  layV 15, .inl (false, 10), .inl (false, 10), .inl (false, 10), .inl (false, 10), .inl (false, 10), .inl (false, 10),
  .inr (3, [some 23, none]), .inl (false, 72),
  .inr (2, [some 1, some 25]), .inl (false, 1024),
  .inr (7, [some 1, some 24, none, some 27, some 28, some 29, none]), .inl (false, 252), .inl (false, 252), .inl (false, 252),
  .inr (1, [some 1, some 24]),
  .inr (4, [none, some 32, some 33, some 34]), .inl (false, 1024), .inl (false, 11), .inl (false, 11),
  .inr (5, [some 1, some 24, some 36, none]), .inl (false, 10),
  .inr (0, [some 1, some 26, some 35, none, some 38, some 39, some 40, some 41]), .inl (false, 7), .inl (false, 7), .inl (false, 252), .inl (false, 252),
  .inl (false, 7),
  .inr (9, [some 44, some 45, some 46, some 47, some 48, some 49, some 50, some 51, none, none, some 52, some 53, some 54, some 55, none, none, none, some 56, none, none, none, some 57, some 58, some 59, none, some 60, some 61, some 62, none, none, none, none, none, some 63, none]),
  .inl (false, 7), .inl (false, 11), .inl (false, 11), .inl (false, 11), .inl (false, 11), .inl (false, 11), .inl (false, 11), .inl (false, 11),
  .inl (false, 72), .inl (false, 36), .inl (false, 36), .inl (false, 216), .inl (false, 200), .inl (false, 7), .inl (false, 1024), .inl (true, 1024), .inl (false, 10), .inl (false, 10), .inl (false, 130), .inl (false, 10)]
def lay (j : Nat) : LayT := layL.getD j (.inl (false, 0))
def cfv (a : Nat → Nat) (f : Nat → Int32) : Nat → List (Option Nat) → List Value
  | _, [] => []
  | k, none :: fs => .int (f k) :: cfv a f (k + 1) fs
  | k, some j :: fs => .ref (a j) :: cfv a f (k + 1) fs
def cellQ (cI cJ : ClassId) (a : Nat → Nat) (f : Nat → Int32) (g : Nat → Int64) : LayT → va_E
  | .inl (false, n) => .inl (cI, n, .inl f)
  | .inl (true, n) => .inl (cJ, n, .inr (.inl g))
  | .inr (ci, fs) => .inr (ci, cfv a f 0 fs)
def cellsL (cI cJ : ClassId) (a : Nat → Nat) (n : Nat) (m : Mem) : va_W := (List.range n).map (fun j => (a j, cellQ cI cJ a (m.1 j) (m.2 j) (lay j)))
theorem cellsL_get {cI cJ : ClassId} {a : Nat → Nat} {n : Nat} {m : Mem} {j : Nat} (hj : j < n) : (cellsL cI cJ a n m)[j]? = some (a j, cellQ cI cJ a (m.1 j) (m.2 j) (lay j)) := by
  unfold cellsL
  rw [List.getElem?_map, List.getElem?_range hj]
  rfl
theorem cfv_int {a : Nat → Nat} {f : Nat → Int32} : ∀ (fs : List (Option Nat)) (i k : Nat), fs[k]? = some none → (cfv a f i fs)[k]? = some (.int (f (i + k)))
  | [], _, k, h => by simp at h
  | x :: fs, i, 0, h => by
    have hx : x = none := by simpa using h
    subst hx
    simp [cfv]
  | none :: fs, i, k + 1, h => by
    have := cfv_int (a := a) (f := f) fs (i + 1) k (by simpa using h)
    simp only [cfv, List.getElem?_cons_succ]
    rw [this]
    congr 3
    omega
  | some j :: fs, i, k + 1, h => by
    have := cfv_int (a := a) (f := f) fs (i + 1) k (by simpa using h)
    simp only [cfv, List.getElem?_cons_succ]
    rw [this]
    congr 3
    omega
theorem cfv_ref {a : Nat → Nat} {f : Nat → Int32} {j : Nat} : ∀ (fs : List (Option Nat)) (i k : Nat), fs[k]? = some (some j) → (cfv a f i fs)[k]? = some (.ref (a j))
  | [], _, k, h => by simp at h
  | x :: fs, i, 0, h => by
    have hx : x = some j := by simpa using h
    subst hx
    simp [cfv]
  | none :: fs, i, k + 1, h => by
    simp only [cfv, List.getElem?_cons_succ]
    exact cfv_ref fs (i + 1) k (by simpa using h)
  | some _ :: fs, i, k + 1, h => by
    simp only [cfv, List.getElem?_cons_succ]
    exact cfv_ref fs (i + 1) k (by simpa using h)
theorem cfv_len {a : Nat → Nat} {f : Nat → Int32} : ∀ (fs : List (Option Nat)) (i : Nat), (cfv a f i fs).length = fs.length
  | [], _ => rfl
  | none :: fs, i => by simp [cfv, cfv_len fs (i + 1)]
  | some _ :: fs, i => by simp [cfv, cfv_len fs (i + 1)]
theorem cfv_out {a : Nat → Nat} {f : Nat → Int32} {v : Int32} : ∀ (fs : List (Option Nat)) (i k : Nat), k < i → cfv a (upd f k v) i fs = cfv a f i fs
  | [], _, _, _ => rfl
  | none :: fs, i, k, h => by
    have h1 : upd f k v i = f i := by simp [upd]; omega
    simp only [cfv, cfv_out fs (i + 1) k (by omega), h1]
  | some _ :: fs, i, k, h => by simp only [cfv, cfv_out fs (i + 1) k (by omega)]
theorem cfv_set {a : Nat → Nat} {f : Nat → Int32} {v : Int32} : ∀ (fs : List (Option Nat)) (i k : Nat), fs[k]? = some none → (cfv a f i fs).set k (.int v) = cfv a (upd f (i + k) v) i fs
  | [], _, k, h => by simp at h
  | x :: fs, i, 0, h => by
    have hx : x = none := by simpa using h
    subst hx
    simp only [cfv, List.set_cons_zero, Nat.add_zero]
    rw [cfv_out fs (i + 1) i (by omega)]
    simp [upd]
  | none :: fs, i, k + 1, h => by
    have h1 := cfv_set (a := a) (f := f) (v := v) fs (i + 1) k (by simpa using h)
    have h2 : upd f (i + (k + 1)) v i = f i := by simp [upd]
    simp only [cfv, List.set_cons_succ, h1, h2]
    rw [show i + 1 + k = i + (k + 1) by omega]
  | some _ :: fs, i, k + 1, h => by
    have h1 := cfv_set (a := a) (f := f) (v := v) fs (i + 1) k (by simpa using h)
    simp only [cfv, List.set_cons_succ, h1]
    rw [show i + 1 + k = i + (k + 1) by omega]
theorem cellsL_set {cI cJ : ClassId} {a : Nat → Nat} {n : Nat} {m m' : Mem} {j : Nat} {e : va_E} (ho : ∀ i, i ≠ j → m'.1 i = m.1 i ∧ m'.2 i = m.2 i) (he : cellQ cI cJ a (m'.1 j) (m'.2 j) (lay j) = e) : (cellsL cI cJ a n m).set j (a j, e) = cellsL cI cJ a n m' := by
  apply List.ext_getElem?
  intro i
  rw [List.getElem?_set]
  by_cases hi : j = i
  · subst hi
    rw [if_pos rfl]
    by_cases hj : j < n
    · rw [if_pos (by simp [cellsL, hj]), cellsL_get hj, he]
    · rw [if_neg (by simp [cellsL, hj])]
      symm
      rw [List.getElem?_eq_none_iff]
      simp [cellsL]; omega
  · rw [if_neg hi]
    by_cases hj : i < n
    · rw [cellsL_get hj, cellsL_get hj, (ho i (fun h => hi h.symm)).1, (ho i (fun h => hi h.symm)).2]
    · rw [List.getElem?_eq_none_iff.mpr (by simp [cellsL]; omega), List.getElem?_eq_none_iff.mpr (by simp [cellsL]; omega)]
theorem mu_o {m : Mem} {j k : Nat} {v : Int32} : ∀ i, i ≠ j → (mu m j k v).1 i = m.1 i ∧ (mu m j k v).2 i = m.2 i := fun i h => ⟨if_neg h, rfl⟩
theorem mu_s {m : Mem} {j k : Nat} {v : Int32} : (mu m j k v).1 j = upd (m.1 j) k v := if_pos rfl
theorem muL_o {m : Mem} {j k : Nat} {v : Int64} : ∀ i, i ≠ j → (muL m j k v).1 i = m.1 i ∧ (muL m j k v).2 i = m.2 i := fun i h => ⟨rfl, if_neg h⟩
theorem muL_s {m : Mem} {j k : Nat} {v : Int64} : (muL m j k v).2 j = vp_updL (m.2 j) k v := if_pos rfl
def gv (a : Nat → Nat) : Value → Value
  | .ref j => .ref (a j)
  | v => v
def gl (a : Nat → Nat) (ls : List (Nat × Value)) : List (Nat × Value) := ls.map (fun q => (q.1, gv a q.2))
theorem gv_cat (a : Nat → Nat) (v : Value) : (gv a v).category = v.category := by cases v <;> rfl
end
section
def RX0 : String := "HangsTogether$Drawers"
def TX0 : u_T := fun k => match k with
  | 0 => ("HangsTogether$Drawers", "village", "LHangsTogether$Village;", true)
  | 1 => ("HangsTogether$Drawers", "ways", "LHangsTogether$Ways;", true)
  | 2 => ("HangsTogether$Drawers", "told", "LHangsTogether$Row;", true)
  | 3 => ("HangsTogether$Drawers", "seed", "I", false)
  | 4 => ("HangsTogether$Drawers", "lanesOn", "[I", true)
  | 5 => ("HangsTogether$Drawers", "weightOn", "[I", true)
  | 6 => ("HangsTogether$Drawers", "pool", "[I", true)
  | _ => ("HangsTogether$Drawers", "poolWorth", "[I", true)
def tyX0 : Nat → FieldType := fun k => match k with
  | 0 => .object "HangsTogether$Village"
  | 1 => .object "HangsTogether$Ways"
  | 2 => .object "HangsTogether$Row"
  | 3 => .int
  | 4 => .array .int
  | 5 => .array .int
  | 6 => .array .int
  | _ => .array .int
abbrev wsX00 : List Cond := u_ws RX0 TX0 8
theorem nmX0 : ∀ a, a < 8 → ∀ b, b < 8 → a ≠ b → (TX0 a).2.1 ≠ (TX0 b).2.1 := by decide +kernel
theorem tyX0_ok : ∀ k, k < 8 → parseFieldDescriptor (TX0 k).2.2.1 = some (tyX0 k) := by decide +kernel
abbrev cX0_init : ByteArray := prog_2_method_1_code
def yX0_init : MethodName := ⟨RX0, "<init>", "(LHangsTogether$Village;LHangsTogether$Ways;LHangsTogether$Row;)V"⟩
abbrev cX0_isDrawer : ByteArray := prog_2_method_2_code
def yX0_isDrawer : MethodName := ⟨RX0, "isDrawer", "(I)Z"⟩
abbrev cX0_begin : ByteArray := prog_2_method_3_code
def yX0_begin : MethodName := ⟨RX0, "begin", "(I)V"⟩
abbrev cX0_makeNext : ByteArray := prog_2_method_4_code
def yX0_makeNext : MethodName := ⟨RX0, "makeNext", "(I)I"⟩
abbrev cX0_below : ByteArray := prog_2_method_5_code
def yX0_below : MethodName := ⟨RX0, "below", "(I)I"⟩
abbrev cX0_lookRound : ByteArray := prog_2_method_6_code
def yX0_lookRound : MethodName := ⟨RX0, "lookRound", "()V"⟩
abbrev cX0_goesOn : ByteArray := prog_2_method_7_code
def yX0_goesOn : MethodName := ⟨RX0, "goesOn", "(II)Z"⟩
abbrev cX0_walkAbout : ByteArray := prog_2_method_8_code
def yX0_walkAbout : MethodName := ⟨RX0, "walkAbout", "()I"⟩
abbrev cX0_laneFrom : ByteArray := prog_2_method_9_code
def yX0_laneFrom : MethodName := ⟨RX0, "laneFrom", "(I)I"⟩
abbrev cX0_laneByLane : ByteArray := prog_2_method_10_code
def yX0_laneByLane : MethodName := ⟨RX0, "laneByLane", "()I"⟩
abbrev cX0_poolWorthWith : ByteArray := prog_2_method_11_code
def yX0_poolWorthWith : MethodName := ⟨RX0, "poolWorthWith", "(II)I"⟩
abbrev cX0_narrow : ByteArray := prog_2_method_12_code
def yX0_narrow : MethodName := ⟨RX0, "narrow", "(IIZ)I"⟩
def RX1 : String := "HangsTogether$Forests"
def TX1 : u_T := fun k => match k with
  | 0 => ("HangsTogether$Forests", "village", "LHangsTogether$Village;", true)
  | _ => ("HangsTogether$Forests", "joins", "LHangsTogether$Joins;", true)
def tyX1 : Nat → FieldType := fun k => match k with
  | 0 => .object "HangsTogether$Village"
  | _ => .object "HangsTogether$Joins"
abbrev wsX10 : List Cond := u_ws RX1 TX1 2
theorem nmX1 : ∀ a, a < 2 → ∀ b, b < 2 → a ≠ b → (TX1 a).2.1 ≠ (TX1 b).2.1 := by decide +kernel
theorem tyX1_ok : ∀ k, k < 2 → parseFieldDescriptor (TX1 k).2.2.1 = some (tyX1 k) := by decide +kernel
abbrev cX1_init : ByteArray := prog_3_method_1_code
def yX1_init : MethodName := ⟨RX1, "<init>", "(LHangsTogether$Village;LHangsTogether$Joins;)V"⟩
abbrev cX1_manyOf : ByteArray := prog_3_method_2_code
def yX1_manyOf : MethodName := ⟨RX1, "manyOf", "(I)I"⟩
abbrev cX1_manyWithOneEach : ByteArray := prog_3_method_3_code
def yX1_manyWithOneEach : MethodName := ⟨RX1, "manyWithOneEach", "(I)I"⟩
abbrev cX1_worthOfWhole : ByteArray := prog_3_method_4_code
def yX1_worthOfWhole : MethodName := ⟨RX1, "worthOfWhole", "(I)J"⟩
abbrev cX1_worthApart : ByteArray := prog_3_method_5_code
def yX1_worthApart : MethodName := ⟨RX1, "worthApart", "(III)J"⟩
abbrev cX1_isOpen : ByteArray := prog_3_method_6_code
def yX1_isOpen : MethodName := ⟨RX1, "isOpen", "(II)Z"⟩
abbrev cX1_free : ByteArray := prog_3_method_7_code
def yX1_free : MethodName := ⟨RX1, "free", "()I"⟩
abbrev cX1_chancesInAll : ByteArray := prog_3_method_8_code
def yX1_chancesInAll : MethodName := ⟨RX1, "chancesInAll", "()J"⟩
abbrev cX1_chancesToHold : ByteArray := prog_3_method_9_code
def yX1_chancesToHold : MethodName := ⟨RX1, "chancesToHold", "()J"⟩
abbrev cX1_chancesOf : ByteArray := prog_3_method_10_code
def yX1_chancesOf : MethodName := ⟨RX1, "chancesOf", "(II)J"⟩
def RX2 : String := "HangsTogether$Joins"
def TX2 : u_T := fun k => match k with
  | 0 => ("HangsTogether$Joins", "village", "LHangsTogether$Village;", true)
  | _ => ("HangsTogether$Joins", "state", "[I", true)
def tyX2 : Nat → FieldType := fun k => match k with
  | 0 => .object "HangsTogether$Village"
  | _ => .array .int
abbrev wsX20 : List Cond := u_ws RX2 TX2 2
theorem nmX2 : ∀ a, a < 2 → ∀ b, b < 2 → a ≠ b → (TX2 a).2.1 ≠ (TX2 b).2.1 := by decide +kernel
theorem tyX2_ok : ∀ k, k < 2 → parseFieldDescriptor (TX2 k).2.2.1 = some (tyX2 k) := by decide +kernel
abbrev cX2_init : ByteArray := prog_4_method_1_code
def yX2_init : MethodName := ⟨RX2, "<init>", "(LHangsTogether$Village;)V"⟩
abbrev cX2_build : ByteArray := prog_4_method_2_code
def yX2_build : MethodName := ⟨RX2, "build", "()V"⟩
abbrev cX2_joinAll : ByteArray := prog_4_method_3_code
def yX2_joinAll : MethodName := ⟨RX2, "joinAll", "([IIII)V"⟩
abbrev cX2_apart : ByteArray := prog_4_method_4_code
def yX2_apart : MethodName := ⟨RX2, "apart", "(I)I"⟩
abbrev cX2_joined : ByteArray := prog_4_method_5_code
def yX2_joined : MethodName := ⟨RX2, "joined", "(III)I"⟩
abbrev cX2_partOf : ByteArray := prog_4_method_6_code
def yX2_partOf : MethodName := ⟨RX2, "partOf", "(II)I"⟩
abbrev cX2_isForest : ByteArray := prog_4_method_7_code
def yX2_isForest : MethodName := ⟨RX2, "isForest", "(II)Z"⟩
abbrev cX2_stateOf : ByteArray := prog_4_method_8_code
def yX2_stateOf : MethodName := ⟨RX2, "stateOf", "(I)I"⟩
abbrev cX2_partsLeft : ByteArray := prog_4_method_9_code
def yX2_partsLeft : MethodName := ⟨RX2, "partsLeft", "(I)I"⟩
abbrev cX2_hasRing : ByteArray := prog_4_method_10_code
def yX2_hasRing : MethodName := ⟨RX2, "hasRing", "(I)Z"⟩
abbrev cX2_leavesForest : ByteArray := prog_4_method_11_code
def yX2_leavesForest : MethodName := ⟨RX2, "leavesForest", "(II)Z"⟩
abbrev cX2_areTogether : ByteArray := prog_4_method_12_code
def yX2_areTogether : MethodName := ⟨RX2, "areTogether", "(III)Z"⟩
abbrev cX2_isWay : ByteArray := prog_4_method_13_code
def yX2_isWay : MethodName := ⟨RX2, "isWay", "(I)Z"⟩
abbrev cX2_areAllApart : ByteArray := prog_4_method_14_code
def yX2_areAllApart : MethodName := ⟨RX2, "areAllApart", "(II)Z"⟩
def RX3 : String := "HangsTogether$Letters"
def TX3 : u_T := fun k => match k with
  | 0 => ("HangsTogether$Letters", "letter", "[I", true)
  | _ => ("HangsTogether$Letters", "size", "I", false)
def tyX3 : Nat → FieldType := fun k => match k with
  | 0 => .array .int
  | _ => .int
abbrev wsX30 : List Cond := u_ws RX3 TX3 2
theorem nmX3 : ∀ a, a < 2 → ∀ b, b < 2 → a ≠ b → (TX3 a).2.1 ≠ (TX3 b).2.1 := by decide +kernel
theorem tyX3_ok : ∀ k, k < 2 → parseFieldDescriptor (TX3 k).2.2.1 = some (tyX3 k) := by decide +kernel
abbrev cX3_init : ByteArray := prog_5_method_1_code
def yX3_init : MethodName := ⟨RX3, "<init>", "()V"⟩
abbrev cX3_haveRoom : ByteArray := prog_5_method_2_code
def yX3_haveRoom : MethodName := ⟨RX3, "haveRoom", "()Z"⟩
abbrev cX3_append : ByteArray := prog_5_method_3_code
def yX3_append : MethodName := ⟨RX3, "append", "(I)I"⟩
abbrev cX3_clear : ByteArray := prog_5_method_4_code
def yX3_clear : MethodName := ⟨RX3, "clear", "()V"⟩
abbrev cX3_tellTo : ByteArray := prog_5_method_5_code
def yX3_tellTo : MethodName := ⟨RX3, "tellTo", "(LHangsTogether$Village;)I"⟩
abbrev cX3_placeOfWrongForm : ByteArray := prog_5_method_6_code
def yX3_placeOfWrongForm : MethodName := ⟨RX3, "placeOfWrongForm", "()I"⟩
abbrev cX3_after : ByteArray := prog_5_method_7_code
def yX3_after : MethodName := ⟨RX3, "after", "(II)I"⟩
abbrev cX3_afterStart : ByteArray := prog_5_method_8_code
def yX3_afterStart : MethodName := ⟨RX3, "afterStart", "(I)I"⟩
abbrev cX3_afterComma : ByteArray := prog_5_method_9_code
def yX3_afterComma : MethodName := ⟨RX3, "afterComma", "(I)I"⟩
abbrev cX3_isDigit : ByteArray := prog_5_method_10_code
def yX3_isDigit : MethodName := ⟨RX3, "isDigit", "(I)Z"⟩
abbrev cX3_tellOne : ByteArray := prog_5_method_11_code
def yX3_tellOne : MethodName := ⟨RX3, "tellOne", "(LHangsTogether$Village;II)Z"⟩
abbrev cX3_tellRule : ByteArray := prog_5_method_12_code
def yX3_tellRule : MethodName := ⟨RX3, "tellRule", "(LHangsTogether$Village;II)Z"⟩
abbrev cX3_tellLane : ByteArray := prog_5_method_13_code
def yX3_tellLane : MethodName := ⟨RX3, "tellLane", "(LHangsTogether$Village;II)Z"⟩
abbrev cX3_number : ByteArray := prog_5_method_14_code
def yX3_number : MethodName := ⟨RX3, "number", "(II)I"⟩
abbrev cX3_digitAt : ByteArray := prog_5_method_15_code
def yX3_digitAt : MethodName := ⟨RX3, "digitAt", "(I)I"⟩
abbrev cX3_letterAt : ByteArray := prog_5_method_16_code
def yX3_letterAt : MethodName := ⟨RX3, "letterAt", "(I)I"⟩
def RX4 : String := "HangsTogether$Plans"
def TX4 : u_T := fun k => match k with
  | 0 => ("HangsTogether$Plans", "houses", "I", false)
  | 1 => ("HangsTogether$Plans", "ways", "[I", true)
  | 2 => ("HangsTogether$Plans", "most", "[I", true)
  | _ => ("HangsTogether$Plans", "first", "[I", true)
def tyX4 : Nat → FieldType := fun k => match k with
  | 0 => .int
  | 1 => .array .int
  | 2 => .array .int
  | _ => .array .int
abbrev wsX40 : List Cond := u_ws RX4 TX4 4
theorem nmX4 : ∀ a, a < 4 → ∀ b, b < 4 → a ≠ b → (TX4 a).2.1 ≠ (TX4 b).2.1 := by decide +kernel
theorem tyX4_ok : ∀ k, k < 4 → parseFieldDescriptor (TX4 k).2.2.1 = some (tyX4 k) := by decide +kernel
abbrev cX4_init : ByteArray := prog_6_method_1_code
def yX4_init : MethodName := ⟨RX4, "<init>", "()V"⟩
abbrev cX4_makeFor : ByteArray := prog_6_method_2_code
def yX4_makeFor : MethodName := ⟨RX4, "makeFor", "(I)V"⟩
abbrev cX4_joinPairs : ByteArray := prog_6_method_3_code
def yX4_joinPairs : MethodName := ⟨RX4, "joinPairs", "()V"⟩
abbrev cX4_addThoseWithout : ByteArray := prog_6_method_4_code
def yX4_addThoseWithout : MethodName := ⟨RX4, "addThoseWithout", "(II)V"⟩
abbrev cX4_chooseBest : ByteArray := prog_6_method_5_code
def yX4_chooseBest : MethodName := ⟨RX4, "chooseBest", "(I)V"⟩
abbrev cX4_mostWays : ByteArray := prog_6_method_6_code
def yX4_mostWays : MethodName := ⟨RX4, "mostWays", "(I)I"⟩
abbrev cX4_firstSet : ByteArray := prog_6_method_7_code
def yX4_firstSet : MethodName := ⟨RX4, "firstSet", "(I)I"⟩
def RX5 : String := "HangsTogether$Row"
def TX5 : u_T := fun k => match k with
  | 0 => ("HangsTogether$Row", "village", "LHangsTogether$Village;", true)
  | 1 => ("HangsTogether$Row", "joins", "LHangsTogether$Joins;", true)
  | 2 => ("HangsTogether$Row", "told", "[I", true)
  | _ => ("HangsTogether$Row", "size", "I", false)
def tyX5 : Nat → FieldType := fun k => match k with
  | 0 => .object "HangsTogether$Village"
  | 1 => .object "HangsTogether$Joins"
  | 2 => .array .int
  | _ => .int
abbrev wsX50 : List Cond := u_ws RX5 TX5 4
theorem nmX5 : ∀ a, a < 4 → ∀ b, b < 4 → a ≠ b → (TX5 a).2.1 ≠ (TX5 b).2.1 := by decide +kernel
theorem tyX5_ok : ∀ k, k < 4 → parseFieldDescriptor (TX5 k).2.2.1 = some (tyX5 k) := by decide +kernel
abbrev cX5_init : ByteArray := prog_7_method_1_code
def yX5_init : MethodName := ⟨RX5, "<init>", "(LHangsTogether$Village;LHangsTogether$Joins;)V"⟩
abbrev cX5_hasRoom : ByteArray := prog_7_method_2_code
def yX5_hasRoom : MethodName := ⟨RX5, "hasRoom", "()Z"⟩
abbrev cX5_append : ByteArray := prog_7_method_3_code
def yX5_append : MethodName := ⟨RX5, "append", "(I)I"⟩
abbrev cX5_clear : ByteArray := prog_7_method_4_code
def yX5_clear : MethodName := ⟨RX5, "clear", "()V"⟩
abbrev cX5_judged : ByteArray := prog_7_method_5_code
def yX5_judged : MethodName := ⟨RX5, "judged", "()I"⟩
abbrev cX5_asWay : ByteArray := prog_7_method_6_code
def yX5_asWay : MethodName := ⟨RX5, "asWay", "()I"⟩
def RX6 : String := "HangsTogether$Village"
def TX6 : u_T := fun k => match k with
  | 0 => ("HangsTogether$Village", "houses", "I", false)
  | 1 => ("HangsTogether$Village", "lanes", "I", false)
  | 2 => ("HangsTogether$Village", "must", "I", false)
  | 3 => ("HangsTogether$Village", "barred", "I", false)
  | 4 => ("HangsTogether$Village", "kind", "[I", true)
  | 5 => ("HangsTogether$Village", "from", "[I", true)
  | 6 => ("HangsTogether$Village", "to", "[I", true)
  | 7 => ("HangsTogether$Village", "weight", "[I", true)
  | 8 => ("HangsTogether$Village", "cost", "[I", true)
  | _ => ("HangsTogether$Village", "drift", "[I", true)
def tyX6 : Nat → FieldType := fun k => match k with
  | 0 => .int
  | 1 => .int
  | 2 => .int
  | 3 => .int
  | 4 => .array .int
  | 5 => .array .int
  | 6 => .array .int
  | 7 => .array .int
  | 8 => .array .int
  | _ => .array .int
abbrev wsX60 : List Cond := u_ws RX6 TX6 10
theorem nmX6 : ∀ a, a < 10 → ∀ b, b < 10 → a ≠ b → (TX6 a).2.1 ≠ (TX6 b).2.1 := by decide +kernel
theorem tyX6_ok : ∀ k, k < 10 → parseFieldDescriptor (TX6 k).2.2.1 = some (tyX6 k) := by decide +kernel
abbrev cX6_init : ByteArray := prog_8_method_1_code
def yX6_init : MethodName := ⟨RX6, "<init>", "()V"⟩
abbrev cX6_copy : ByteArray := prog_8_method_2_code
def yX6_copy : MethodName := ⟨RX6, "copy", "(LHangsTogether$Village;)V"⟩
abbrev cX6_hasHouse : ByteArray := prog_8_method_3_code
def yX6_hasHouse : MethodName := ⟨RX6, "hasHouse", "(I)Z"⟩
abbrev cX6_hasAllHouses : ByteArray := prog_8_method_4_code
def yX6_hasAllHouses : MethodName := ⟨RX6, "hasAllHouses", "(I)Z"⟩
abbrev cX6_allHouses : ByteArray := prog_8_method_5_code
def yX6_allHouses : MethodName := ⟨RX6, "allHouses", "()I"⟩
abbrev cX6_hasLane : ByteArray := prog_8_method_6_code
def yX6_hasLane : MethodName := ⟨RX6, "hasLane", "(I)Z"⟩
abbrev cX6_hasAll : ByteArray := prog_8_method_7_code
def yX6_hasAll : MethodName := ⟨RX6, "hasAll", "(I)Z"⟩
abbrev cX6_allLanes : ByteArray := prog_8_method_8_code
def yX6_allLanes : MethodName := ⟨RX6, "allLanes", "()I"⟩
abbrev cX6_sets : ByteArray := prog_8_method_9_code
def yX6_sets : MethodName := ⟨RX6, "sets", "()I"⟩
abbrev cX6_ruleOf : ByteArray := prog_8_method_10_code
def yX6_ruleOf : MethodName := ⟨RX6, "ruleOf", "(I)I"⟩
abbrev cX6_setRule : ByteArray := prog_8_method_11_code
def yX6_setRule : MethodName := ⟨RX6, "setRule", "(II)V"⟩
abbrev cX6_allows : ByteArray := prog_8_method_12_code
def yX6_allows : MethodName := ⟨RX6, "allows", "(I)Z"⟩
abbrev cX6_setHouses : ByteArray := prog_8_method_13_code
def yX6_setHouses : MethodName := ⟨RX6, "setHouses", "(I)Z"⟩
abbrev cX6_farthestHouse : ByteArray := prog_8_method_14_code
def yX6_farthestHouse : MethodName := ⟨RX6, "farthestHouse", "()I"⟩
abbrev cX6_addLane : ByteArray := prog_8_method_15_code
def yX6_addLane : MethodName := ⟨RX6, "addLane", "(IIIIII)Z"⟩
abbrev cX6_removeLatest : ByteArray := prog_8_method_16_code
def yX6_removeLatest : MethodName := ⟨RX6, "removeLatest", "()V"⟩
abbrev cX6_costOfAll : ByteArray := prog_8_method_17_code
def yX6_costOfAll : MethodName := ⟨RX6, "costOfAll", "()I"⟩
abbrev cX6_costOf : ByteArray := prog_8_method_18_code
def yX6_costOf : MethodName := ⟨RX6, "costOf", "(I)I"⟩
abbrev cX6_worthOf : ByteArray := prog_8_method_19_code
def yX6_worthOf : MethodName := ⟨RX6, "worthOf", "(I)I"⟩
abbrev cX6_weightByKind : ByteArray := prog_8_method_20_code
def yX6_weightByKind : MethodName := ⟨RX6, "weightByKind", "(II)I"⟩
abbrev cX6_costByKind : ByteArray := prog_8_method_21_code
def yX6_costByKind : MethodName := ⟨RX6, "costByKind", "(II)I"⟩
abbrev cX6_driftByKind : ByteArray := prog_8_method_22_code
def yX6_driftByKind : MethodName := ⟨RX6, "driftByKind", "(II)I"⟩
def RX7 : String := "HangsTogether$Ways"
def TX7 : u_T := fun k => match k with
  | 0 => ("HangsTogether$Ways", "village", "LHangsTogether$Village;", true)
  | 1 => ("HangsTogether$Ways", "joins", "LHangsTogether$Joins;", true)
  | 2 => ("HangsTogether$Ways", "size", "I", false)
  | 3 => ("HangsTogether$Ways", "bits", "[I", true)
  | 4 => ("HangsTogether$Ways", "worth", "[I", true)
  | 5 => ("HangsTogether$Ways", "keys", "[I", true)
  | _ => ("HangsTogether$Ways", "sorted", "Z", false)
def tyX7 : Nat → FieldType := fun k => match k with
  | 0 => .object "HangsTogether$Village"
  | 1 => .object "HangsTogether$Joins"
  | 2 => .int
  | 3 => .array .int
  | 4 => .array .int
  | 5 => .array .int
  | _ => .boolean
abbrev wsX70 : List Cond := u_ws RX7 TX7 7
theorem nmX7 : ∀ a, a < 7 → ∀ b, b < 7 → a ≠ b → (TX7 a).2.1 ≠ (TX7 b).2.1 := by decide +kernel
theorem tyX7_ok : ∀ k, k < 7 → parseFieldDescriptor (TX7 k).2.2.1 = some (tyX7 k) := by decide +kernel
abbrev cX7_init : ByteArray := prog_9_method_1_code
def yX7_init : MethodName := ⟨RX7, "<init>", "(LHangsTogether$Village;LHangsTogether$Joins;)V"⟩
abbrev cX7_list : ByteArray := prog_9_method_2_code
def yX7_list : MethodName := ⟨RX7, "list", "()V"⟩
abbrev cX7_has : ByteArray := prog_9_method_3_code
def yX7_has : MethodName := ⟨RX7, "has", "(I)Z"⟩
abbrev cX7_at : ByteArray := prog_9_method_4_code
def yX7_at : MethodName := ⟨RX7, "at", "(I)I"⟩
abbrev cX7_copyTo : ByteArray := prog_9_method_5_code
def yX7_copyTo : MethodName := ⟨RX7, "copyTo", "([I[I)I"⟩
abbrev cX7_worthWith : ByteArray := prog_9_method_6_code
def yX7_worthWith : MethodName := ⟨RX7, "worthWith", "(I)J"⟩
abbrev cX7_lanesInAll : ByteArray := prog_9_method_7_code
def yX7_lanesInAll : MethodName := ⟨RX7, "lanesInAll", "()I"⟩
abbrev cX7_lanesInNone : ByteArray := prog_9_method_8_code
def yX7_lanesInNone : MethodName := ⟨RX7, "lanesInNone", "()I"⟩
abbrev cX7_bitsByCost : ByteArray := prog_9_method_9_code
def yX7_bitsByCost : MethodName := ⟨RX7, "bitsByCost", "(I)I"⟩
abbrev cX7_costByCost : ByteArray := prog_9_method_10_code
def yX7_costByCost : MethodName := ⟨RX7, "costByCost", "(I)I"⟩
abbrev cX7_sortByCost : ByteArray := prog_9_method_11_code
def yX7_sortByCost : MethodName := ⟨RX7, "sortByCost", "()V"⟩
abbrev cX7_sortEvery : ByteArray := prog_9_method_12_code
def yX7_sortEvery : MethodName := ⟨RX7, "sortEvery", "(I)V"⟩
abbrev cX7_dearest : ByteArray := prog_9_method_13_code
def yX7_dearest : MethodName := ⟨RX7, "dearest", "()I"⟩
abbrev cX7_stepBetween : ByteArray := prog_9_method_14_code
def yX7_stepBetween : MethodName := ⟨RX7, "stepBetween", "(II)I"⟩
abbrev cX7_manyToward : ByteArray := prog_9_method_15_code
def yX7_manyToward : MethodName := ⟨RX7, "manyToward", "(I)I"⟩
abbrev cX7_worthToward : ByteArray := prog_9_method_16_code
def yX7_worthToward : MethodName := ⟨RX7, "worthToward", "(I)J"⟩
abbrev cX7_leadsTo : ByteArray := prog_9_method_17_code
def yX7_leadsTo : MethodName := ⟨RX7, "leadsTo", "(II)Z"⟩
def RX8 : String := "HangsTogether"
def TX8 : u_T := fun k => match k with
  | 0 => ("HangsTogether", "now", "LHangsTogether$Village;", true)
  | 1 => ("HangsTogether", "draft", "LHangsTogether$Village;", true)
  | 2 => ("HangsTogether", "taken", "LHangsTogether$Village;", true)
  | 3 => ("HangsTogether", "imageTaken", "Z", false)
  | 4 => ("HangsTogether", "letters", "LHangsTogether$Letters;", true)
  | 5 => ("HangsTogether", "joins", "LHangsTogether$Joins;", true)
  | 6 => ("HangsTogether", "ways", "LHangsTogether$Ways;", true)
  | 7 => ("HangsTogether", "woods", "LHangsTogether$Forests;", true)
  | 8 => ("HangsTogether", "plans", "LHangsTogether$Plans;", true)
  | 9 => ("HangsTogether", "toldRow", "LHangsTogether$Row;", true)
  | 10 => ("HangsTogether", "drawers", "LHangsTogether$Drawers;", true)
  | _ => ("HangsTogether", "refusals", "[I", true)
def tyX8 : Nat → FieldType := fun k => match k with
  | 0 => .object "HangsTogether$Village"
  | 1 => .object "HangsTogether$Village"
  | 2 => .object "HangsTogether$Village"
  | 3 => .boolean
  | 4 => .object "HangsTogether$Letters"
  | 5 => .object "HangsTogether$Joins"
  | 6 => .object "HangsTogether$Ways"
  | 7 => .object "HangsTogether$Forests"
  | 8 => .object "HangsTogether$Plans"
  | 9 => .object "HangsTogether$Row"
  | 10 => .object "HangsTogether$Drawers"
  | _ => .array .int
abbrev wsX80 : List Cond := u_ws RX8 TX8 12
theorem nmX8 : ∀ a, a < 12 → ∀ b, b < 12 → a ≠ b → (TX8 a).2.1 ≠ (TX8 b).2.1 := by decide +kernel
theorem tyX8_ok : ∀ k, k < 12 → parseFieldDescriptor (TX8 k).2.2.1 = some (tyX8 k) := by decide +kernel
abbrev cX8_init : ByteArray := prog_1_method_1_code
def yX8_init : MethodName := ⟨RX8, "<init>", "()V"⟩
abbrev cX8_feed : ByteArray := prog_1_method_2_code
def yX8_feed : MethodName := ⟨RX8, "feed", "(I)I"⟩
abbrev cX8_village : ByteArray := prog_1_method_3_code
def yX8_village : MethodName := ⟨RX8, "village", "()I"⟩
abbrev cX8_lane : ByteArray := prog_1_method_4_code
def yX8_lane : MethodName := ⟨RX8, "lane", "(II)I"⟩
abbrev cX8_rule : ByteArray := prog_1_method_5_code
def yX8_rule : MethodName := ⟨RX8, "rule", "(II)I"⟩
abbrev cX8_takeUp : ByteArray := prog_1_method_6_code
def yX8_takeUp : MethodName := ⟨RX8, "takeUp", "()I"⟩
abbrev cX8_is : ByteArray := prog_1_method_7_code
def yX8_is : MethodName := ⟨RX8, "is", "(I)I"⟩
abbrev cX8_hangs : ByteArray := prog_1_method_8_code
def yX8_hangs : MethodName := ⟨RX8, "hangs", "(I)I"⟩
abbrev cX8_parts : ByteArray := prog_1_method_9_code
def yX8_parts : MethodName := ⟨RX8, "parts", "(I)I"⟩
abbrev cX8_many : ByteArray := prog_1_method_10_code
def yX8_many : MethodName := ⟨RX8, "many", "()I"⟩
abbrev cX8_sum : ByteArray := prog_1_method_11_code
def yX8_sum : MethodName := ⟨RX8, "sum", "()J"⟩
abbrev cX8_way : ByteArray := prog_1_method_12_code
def yX8_way : MethodName := ⟨RX8, "way", "(I)I"⟩
abbrev cX8_likely : ByteArray := prog_1_method_13_code
def yX8_likely : MethodName := ⟨RX8, "likely", "(II)J"⟩
abbrev cX8_pair : ByteArray := prog_1_method_14_code
def yX8_pair : MethodName := ⟨RX8, "pair", "(III)J"⟩
abbrev cX8_less : ByteArray := prog_1_method_15_code
def yX8_less : MethodName := ⟨RX8, "less", "(II)I"⟩
abbrev cX8_inAll : ByteArray := prog_1_method_16_code
def yX8_inAll : MethodName := ⟨RX8, "inAll", "()I"⟩
abbrev cX8_inNone : ByteArray := prog_1_method_17_code
def yX8_inNone : MethodName := ⟨RX8, "inNone", "()I"⟩
abbrev cX8_cheap : ByteArray := prog_1_method_18_code
def yX8_cheap : MethodName := ⟨RX8, "cheap", "(II)I"⟩
abbrev cX8_nights : ByteArray := prog_1_method_19_code
def yX8_nights : MethodName := ⟨RX8, "nights", "(II)I"⟩
abbrev cX8_step : ByteArray := prog_1_method_20_code
def yX8_step : MethodName := ⟨RX8, "step", "(II)I"⟩
abbrev cX8_toward : ByteArray := prog_1_method_21_code
def yX8_toward : MethodName := ⟨RX8, "toward", "(II)J"⟩
abbrev cX8_forests : ByteArray := prog_1_method_22_code
def yX8_forests : MethodName := ⟨RX8, "forests", "(I)I"⟩
abbrev cX8_ploughs : ByteArray := prog_1_method_23_code
def yX8_ploughs : MethodName := ⟨RX8, "ploughs", "(I)I"⟩
abbrev cX8_hard : ByteArray := prog_1_method_24_code
def yX8_hard : MethodName := ⟨RX8, "hard", "(III)J"⟩
abbrev cX8_more : ByteArray := prog_1_method_25_code
def yX8_more : MethodName := ⟨RX8, "more", "(III)J"⟩
abbrev cX8_holds : ByteArray := prog_1_method_26_code
def yX8_holds : MethodName := ⟨RX8, "holds", "(I)J"⟩
abbrev cX8_plan : ByteArray := prog_1_method_27_code
def yX8_plan : MethodName := ⟨RX8, "plan", "(II)I"⟩
abbrev cX8_draw : ByteArray := prog_1_method_28_code
def yX8_draw : MethodName := ⟨RX8, "draw", "(II)I"⟩
abbrev cX8_often : ByteArray := prog_1_method_29_code
def yX8_often : MethodName := ⟨RX8, "often", "(IIII)I"⟩
abbrev cX8_row : ByteArray := prog_1_method_30_code
def yX8_row : MethodName := ⟨RX8, "row", "(I)I"⟩
abbrev cX8_judge : ByteArray := prog_1_method_31_code
def yX8_judge : MethodName := ⟨RX8, "judge", "()I"⟩
abbrev cX8_image : ByteArray := prog_1_method_32_code
def yX8_image : MethodName := ⟨RX8, "image", "()I"⟩
abbrev cX8_restore : ByteArray := prog_1_method_33_code
def yX8_restore : MethodName := ⟨RX8, "restore", "()I"⟩
abbrev cX8_count : ByteArray := prog_1_method_34_code
def yX8_count : MethodName := ⟨RX8, "count", "(I)I"⟩
abbrev cX8_refusalsOf : ByteArray := prog_1_method_35_code
def yX8_refusalsOf : MethodName := ⟨RX8, "refusalsOf", "(I)I"⟩
abbrev cX8_refuse : ByteArray := prog_1_method_36_code
def yX8_refuse : MethodName := ⟨RX8, "refuse", "(I)I"⟩
abbrev cX8_refuseLong : ByteArray := prog_1_method_37_code
def yX8_refuseLong : MethodName := ⟨RX8, "refuseLong", "(I)J"⟩
abbrev cX8_lanesChanged : ByteArray := prog_1_method_38_code
def yX8_lanesChanged : MethodName := ⟨RX8, "lanesChanged", "()V"⟩
abbrev cX8_areTwoHouses : ByteArray := prog_1_method_39_code
def yX8_areTwoHouses : MethodName := ⟨RX8, "areTwoHouses", "(II)Z"⟩
abbrev cX8_likelyAll : ByteArray := prog_1_method_40_code
def yX8_likelyAll : MethodName := ⟨RX8, "likelyAll", "(II)J"⟩
abbrev cX8_isPart : ByteArray := prog_1_method_41_code
def yX8_isPart : MethodName := ⟨RX8, "isPart", "(I)Z"⟩
abbrev cX8_yesNo : ByteArray := prog_1_method_42_code
def yX8_yesNo : MethodName := ⟨RX8, "yesNo", "(Z)I"⟩
abbrev cX8_pairsOf : ByteArray := prog_1_method_43_code
def yX8_pairsOf : MethodName := ⟨RX8, "pairsOf", "(I)I"⟩
abbrev cX8_leastTerms : ByteArray := prog_1_method_44_code
def yX8_leastTerms : MethodName := ⟨RX8, "leastTerms", "(JJI)J"⟩
abbrev cX8_commonDivisor : ByteArray := prog_1_method_45_code
def yX8_commonDivisor : MethodName := ⟨RX8, "commonDivisor", "(JJ)J"⟩
def RX9 : String := "HangsTogetherModel"
def TX9 : u_T := fun k => match k with
  | 0 => ("HangsTogetherModel", "refused", "[I", true)
  | 1 => ("HangsTogetherModel", "kind", "[I", true)
  | 2 => ("HangsTogetherModel", "from", "[I", true)
  | 3 => ("HangsTogetherModel", "to", "[I", true)
  | 4 => ("HangsTogetherModel", "ofW", "[I", true)
  | 5 => ("HangsTogetherModel", "ofC", "[I", true)
  | 6 => ("HangsTogetherModel", "ofD", "[I", true)
  | 7 => ("HangsTogetherModel", "ruled", "[I", true)
  | 8 => ("HangsTogetherModel", "houses", "I", false)
  | 9 => ("HangsTogetherModel", "lanes", "I", false)
  | 10 => ("HangsTogetherModel", "tape", "[I", true)
  | 11 => ("HangsTogetherModel", "letter", "[I", true)
  | 12 => ("HangsTogetherModel", "letterAt", "[I", true)
  | 13 => ("HangsTogetherModel", "told", "[I", true)
  | 14 => ("HangsTogetherModel", "taped", "I", false)
  | 15 => ("HangsTogetherModel", "at", "I", false)
  | 16 => ("HangsTogetherModel", "statements", "I", false)
  | 17 => ("HangsTogetherModel", "kept", "[I", true)
  | 18 => ("HangsTogetherModel", "hasImage", "Z", false)
  | 19 => ("HangsTogetherModel", "isKeeping", "Z", false)
  | 20 => ("HangsTogetherModel", "cursor", "I", false)
  | 21 => ("HangsTogetherModel", "part", "[I", true)
  | 22 => ("HangsTogetherModel", "ways", "[I", true)
  | 23 => ("HangsTogetherModel", "worths", "[J", true)
  | 24 => ("HangsTogetherModel", "wayMany", "I", false)
  | 25 => ("HangsTogetherModel", "pairA", "[I", true)
  | 26 => ("HangsTogetherModel", "pairB", "[I", true)
  | 27 => ("HangsTogetherModel", "trees", "[I", true)
  | 28 => ("HangsTogetherModel", "pairs", "I", false)
  | 29 => ("HangsTogetherModel", "treeMany", "I", false)
  | 30 => ("HangsTogetherModel", "planMany", "I", false)
  | 31 => ("HangsTogetherModel", "planBits", "I", false)
  | 32 => ("HangsTogetherModel", "lots", "I", false)
  | 33 => ("HangsTogetherModel", "row", "[I", true)
  | _ => ("HangsTogetherModel", "rowMany", "I", false)
def tyX9 : Nat → FieldType := fun k => match k with
  | 0 => .array .int
  | 1 => .array .int
  | 2 => .array .int
  | 3 => .array .int
  | 4 => .array .int
  | 5 => .array .int
  | 6 => .array .int
  | 7 => .array .int
  | 8 => .int
  | 9 => .int
  | 10 => .array .int
  | 11 => .array .int
  | 12 => .array .int
  | 13 => .array .int
  | 14 => .int
  | 15 => .int
  | 16 => .int
  | 17 => .array .int
  | 18 => .boolean
  | 19 => .boolean
  | 20 => .int
  | 21 => .array .int
  | 22 => .array .int
  | 23 => .array .long
  | 24 => .int
  | 25 => .array .int
  | 26 => .array .int
  | 27 => .array .int
  | 28 => .int
  | 29 => .int
  | 30 => .int
  | 31 => .int
  | 32 => .int
  | 33 => .array .int
  | _ => .int
abbrev wsX90 : List Cond := u_ws RX9 TX9 35
theorem nmX9 : ∀ a, a < 35 → ∀ b, b < 35 → a ≠ b → (TX9 a).2.1 ≠ (TX9 b).2.1 := by decide +kernel
theorem tyX9_ok : ∀ k, k < 35 → parseFieldDescriptor (TX9 k).2.2.1 = some (tyX9 k) := by decide +kernel
abbrev cX9_init : ByteArray := prog_11_method_1_code
def yX9_init : MethodName := ⟨RX9, "<init>", "()V"⟩
abbrev cX9_no : ByteArray := prog_11_method_2_code
def yX9_no : MethodName := ⟨RX9, "no", "(I)I"⟩
abbrev cX9_lowest : ByteArray := prog_11_method_3_code
def yX9_lowest : MethodName := ⟨RX9, "lowest", "(I)J"⟩
abbrev cX9_isIn : ByteArray := prog_11_method_4_code
def yX9_isIn : MethodName := ⟨RX9, "isIn", "(III)Z"⟩
abbrev cX9_bound : ByteArray := prog_11_method_5_code
def yX9_bound : MethodName := ⟨RX9, "bound", "(III)I"⟩
abbrev cX9_isHouse : ByteArray := prog_11_method_6_code
def yX9_isHouse : MethodName := ⟨RX9, "isHouse", "(I)Z"⟩
abbrev cX9_isLane : ByteArray := prog_11_method_7_code
def yX9_isLane : MethodName := ⟨RX9, "isLane", "(I)Z"⟩
abbrev cX9_feed : ByteArray := prog_11_method_8_code
def yX9_feed : MethodName := ⟨RX9, "feed", "(I)I"⟩
abbrev cX9_next : ByteArray := prog_11_method_9_code
def yX9_next : MethodName := ⟨RX9, "next", "()I"⟩
abbrev cX9_isNext : ByteArray := prog_11_method_10_code
def yX9_isNext : MethodName := ⟨RX9, "isNext", "(I)Z"⟩
abbrev cX9_reads : ByteArray := prog_11_method_11_code
def yX9_reads : MethodName := ⟨RX9, "reads", "(II)Z"⟩
abbrev cX9_statement : ByteArray := prog_11_method_12_code
def yX9_statement : MethodName := ⟨RX9, "statement", "()Z"⟩
abbrev cX9_toldHouses : ByteArray := prog_11_method_13_code
def yX9_toldHouses : MethodName := ⟨RX9, "toldHouses", "()I"⟩
abbrev cX9_comesLane : ByteArray := prog_11_method_14_code
def yX9_comesLane : MethodName := ⟨RX9, "comesLane", "(I)Z"⟩
abbrev cX9_comes : ByteArray := prog_11_method_15_code
def yX9_comes : MethodName := ⟨RX9, "comes", "(I)Z"⟩
abbrev cX9_village : ByteArray := prog_11_method_16_code
def yX9_village : MethodName := ⟨RX9, "village", "()I"⟩
abbrev cX9_passes : ByteArray := prog_11_method_17_code
def yX9_passes : MethodName := ⟨RX9, "passes", "([I)V"⟩
abbrev cX9_passOne : ByteArray := prog_11_method_18_code
def yX9_passOne : MethodName := ⟨RX9, "passOne", "(I)I"⟩
abbrev cX9_passesAll : ByteArray := prog_11_method_19_code
def yX9_passesAll : MethodName := ⟨RX9, "passesAll", "(IZ)V"⟩
abbrev cX9_image : ByteArray := prog_11_method_20_code
def yX9_image : MethodName := ⟨RX9, "image", "()I"⟩
abbrev cX9_restore : ByteArray := prog_11_method_21_code
def yX9_restore : MethodName := ⟨RX9, "restore", "()I"⟩
abbrev cX9_weightOf : ByteArray := prog_11_method_22_code
def yX9_weightOf : MethodName := ⟨RX9, "weightOf", "(I)I"⟩
abbrev cX9_costOf : ByteArray := prog_11_method_23_code
def yX9_costOf : MethodName := ⟨RX9, "costOf", "(I)I"⟩
abbrev cX9_driftOf : ByteArray := prog_11_method_24_code
def yX9_driftOf : MethodName := ⟨RX9, "driftOf", "(I)I"⟩
abbrev cX9_lane : ByteArray := prog_11_method_25_code
def yX9_lane : MethodName := ⟨RX9, "lane", "(II)I"⟩
abbrev cX9_rule : ByteArray := prog_11_method_26_code
def yX9_rule : MethodName := ⟨RX9, "rule", "(II)I"⟩
abbrev cX9_takeUp : ByteArray := prog_11_method_27_code
def yX9_takeUp : MethodName := ⟨RX9, "takeUp", "()I"⟩
abbrev cX9_allLanes : ByteArray := prog_11_method_28_code
def yX9_allLanes : MethodName := ⟨RX9, "allLanes", "()I"⟩
abbrev cX9_ruledAs : ByteArray := prog_11_method_29_code
def yX9_ruledAs : MethodName := ⟨RX9, "ruledAs", "(I)I"⟩
abbrev cX9_areLanes : ByteArray := prog_11_method_30_code
def yX9_areLanes : MethodName := ⟨RX9, "areLanes", "(I)Z"⟩
abbrev cX9_bits : ByteArray := prog_11_method_31_code
def yX9_bits : MethodName := ⟨RX9, "bits", "(I)I"⟩
abbrev cX9_partsOf : ByteArray := prog_11_method_32_code
def yX9_partsOf : MethodName := ⟨RX9, "partsOf", "(I)I"⟩
abbrev cX9_isForest : ByteArray := prog_11_method_33_code
def yX9_isForest : MethodName := ⟨RX9, "isForest", "(II)Z"⟩
abbrev cX9_isRuled : ByteArray := prog_11_method_34_code
def yX9_isRuled : MethodName := ⟨RX9, "isRuled", "(I)Z"⟩
abbrev cX9_isWay : ByteArray := prog_11_method_35_code
def yX9_isWay : MethodName := ⟨RX9, "isWay", "(I)Z"⟩
abbrev cX9_worthOf : ByteArray := prog_11_method_36_code
def yX9_worthOf : MethodName := ⟨RX9, "worthOf", "(I)J"⟩
abbrev cX9_costsOf : ByteArray := prog_11_method_37_code
def yX9_costsOf : MethodName := ⟨RX9, "costsOf", "(I)I"⟩
abbrev cX9_findWays : ByteArray := prog_11_method_38_code
def yX9_findWays : MethodName := ⟨RX9, "findWays", "()V"⟩
abbrev cX9_sumWith : ByteArray := prog_11_method_39_code
def yX9_sumWith : MethodName := ⟨RX9, "sumWith", "(II)J"⟩
abbrev cX9_is : ByteArray := prog_11_method_40_code
def yX9_is : MethodName := ⟨RX9, "is", "(I)I"⟩
abbrev cX9_hangs : ByteArray := prog_11_method_41_code
def yX9_hangs : MethodName := ⟨RX9, "hangs", "(I)I"⟩
abbrev cX9_parts : ByteArray := prog_11_method_42_code
def yX9_parts : MethodName := ⟨RX9, "parts", "(I)I"⟩
abbrev cX9_many : ByteArray := prog_11_method_43_code
def yX9_many : MethodName := ⟨RX9, "many", "()I"⟩
abbrev cX9_sum : ByteArray := prog_11_method_44_code
def yX9_sum : MethodName := ⟨RX9, "sum", "()J"⟩
abbrev cX9_way : ByteArray := prog_11_method_45_code
def yX9_way : MethodName := ⟨RX9, "way", "(I)I"⟩
abbrev cX9_divisor : ByteArray := prog_11_method_46_code
def yX9_divisor : MethodName := ⟨RX9, "divisor", "(JJ)J"⟩
abbrev cX9_inLeast : ByteArray := prog_11_method_47_code
def yX9_inLeast : MethodName := ⟨RX9, "inLeast", "(JJI)J"⟩
abbrev cX9_share : ByteArray := prog_11_method_48_code
def yX9_share : MethodName := ⟨RX9, "share", "(II)J"⟩
abbrev cX9_likely : ByteArray := prog_11_method_49_code
def yX9_likely : MethodName := ⟨RX9, "likely", "(II)J"⟩
abbrev cX9_pair : ByteArray := prog_11_method_50_code
def yX9_pair : MethodName := ⟨RX9, "pair", "(III)J"⟩
abbrev cX9_highOf : ByteArray := prog_11_method_51_code
def yX9_highOf : MethodName := ⟨RX9, "highOf", "(JJ)J"⟩
abbrev cX9_lowOf : ByteArray := prog_11_method_52_code
def yX9_lowOf : MethodName := ⟨RX9, "lowOf", "(JJ)J"⟩
abbrev cX9_less : ByteArray := prog_11_method_53_code
def yX9_less : MethodName := ⟨RX9, "less", "(II)I"⟩
abbrev cX9_inAll : ByteArray := prog_11_method_54_code
def yX9_inAll : MethodName := ⟨RX9, "inAll", "()I"⟩
abbrev cX9_inNone : ByteArray := prog_11_method_55_code
def yX9_inNone : MethodName := ⟨RX9, "inNone", "()I"⟩
abbrev cX9_cheapest : ByteArray := prog_11_method_56_code
def yX9_cheapest : MethodName := ⟨RX9, "cheapest", "(I)I"⟩
abbrev cX9_cheap : ByteArray := prog_11_method_57_code
def yX9_cheap : MethodName := ⟨RX9, "cheap", "(II)I"⟩
abbrev cX9_nights : ByteArray := prog_11_method_58_code
def yX9_nights : MethodName := ⟨RX9, "nights", "(II)I"⟩
abbrev cX9_step : ByteArray := prog_11_method_59_code
def yX9_step : MethodName := ⟨RX9, "step", "(II)I"⟩
abbrev cX9_isToward : ByteArray := prog_11_method_60_code
def yX9_isToward : MethodName := ⟨RX9, "isToward", "(II)Z"⟩
abbrev cX9_toward : ByteArray := prog_11_method_61_code
def yX9_toward : MethodName := ⟨RX9, "toward", "(II)J"⟩
abbrev cX9_forests : ByteArray := prog_11_method_62_code
def yX9_forests : MethodName := ⟨RX9, "forests", "(I)I"⟩
abbrev cX9_isOneEach : ByteArray := prog_11_method_63_code
def yX9_isOneEach : MethodName := ⟨RX9, "isOneEach", "(I)Z"⟩
abbrev cX9_ploughs : ByteArray := prog_11_method_64_code
def yX9_ploughs : MethodName := ⟨RX9, "ploughs", "(I)I"⟩
abbrev cX9_sumApart : ByteArray := prog_11_method_65_code
def yX9_sumApart : MethodName := ⟨RX9, "sumApart", "(IIZ)J"⟩
abbrev cX9_sumTogether : ByteArray := prog_11_method_66_code
def yX9_sumTogether : MethodName := ⟨RX9, "sumTogether", "()J"⟩
abbrev cX9_areTwo : ByteArray := prog_11_method_67_code
def yX9_areTwo : MethodName := ⟨RX9, "areTwo", "(II)Z"⟩
abbrev cX9_hard : ByteArray := prog_11_method_68_code
def yX9_hard : MethodName := ⟨RX9, "hard", "(III)J"⟩
abbrev cX9_more : ByteArray := prog_11_method_69_code
def yX9_more : MethodName := ⟨RX9, "more", "(III)J"⟩
abbrev cX9_holds : ByteArray := prog_11_method_70_code
def yX9_holds : MethodName := ⟨RX9, "holds", "(I)J"⟩
abbrev cX9_doJoin : ByteArray := prog_11_method_71_code
def yX9_doJoin : MethodName := ⟨RX9, "doJoin", "(I)Z"⟩
abbrev cX9_findPlan : ByteArray := prog_11_method_72_code
def yX9_findPlan : MethodName := ⟨RX9, "findPlan", "(I)V"⟩
abbrev cX9_plan : ByteArray := prog_11_method_73_code
def yX9_plan : MethodName := ⟨RX9, "plan", "(II)I"⟩
abbrev cX9_drawn : ByteArray := prog_11_method_74_code
def yX9_drawn : MethodName := ⟨RX9, "drawn", "(J)I"⟩
abbrev cX9_leads : ByteArray := prog_11_method_75_code
def yX9_leads : MethodName := ⟨RX9, "leads", "(II)I"⟩
abbrev cX9_weightsFrom : ByteArray := prog_11_method_76_code
def yX9_weightsFrom : MethodName := ⟨RX9, "weightsFrom", "(I)I"⟩
abbrev cX9_walks : ByteArray := prog_11_method_77_code
def yX9_walks : MethodName := ⟨RX9, "walks", "()I"⟩
abbrev cX9_steps : ByteArray := prog_11_method_78_code
def yX9_steps : MethodName := ⟨RX9, "steps", "()I"⟩
abbrev cX9_dearest : ByteArray := prog_11_method_79_code
def yX9_dearest : MethodName := ⟨RX9, "dearest", "()I"⟩
abbrev cX9_rowWay : ByteArray := prog_11_method_80_code
def yX9_rowWay : MethodName := ⟨RX9, "rowWay", "()I"⟩
abbrev cX9_makes : ByteArray := prog_11_method_81_code
def yX9_makes : MethodName := ⟨RX9, "makes", "(I)I"⟩
abbrev cX9_isDrawer : ByteArray := prog_11_method_82_code
def yX9_isDrawer : MethodName := ⟨RX9, "isDrawer", "(I)Z"⟩
abbrev cX9_draw : ByteArray := prog_11_method_83_code
def yX9_draw : MethodName := ⟨RX9, "draw", "(II)I"⟩
abbrev cX9_often : ByteArray := prog_11_method_84_code
def yX9_often : MethodName := ⟨RX9, "often", "(IIII)I"⟩
abbrev cX9_row : ByteArray := prog_11_method_85_code
def yX9_row : MethodName := ⟨RX9, "row", "(I)I"⟩
abbrev cX9_judge : ByteArray := prog_11_method_86_code
def yX9_judge : MethodName := ⟨RX9, "judge", "()I"⟩
abbrev cX9_count : ByteArray := prog_11_method_87_code
def yX9_count : MethodName := ⟨RX9, "count", "(I)I"⟩
def RL : String := "HangsTogetherLaw"
abbrev cL_law : ByteArray := code
def yL_law : MethodName := ⟨RL, "law", "([I)Z"⟩
abbrev vwCl : List vw_C := [(RX0, TX0, 8), (RX1, TX1, 2), (RX2, TX2, 2), (RX3, TX3, 2), (RX4, TX4, 4), (RX5, TX5, 4), (RX6, TX6, 10), (RX7, TX7, 7), (RX8, TX8, 12), (RX9, TX9, 35)]
def RJ6 : String := "java/lang/Integer"
abbrev cJ6_bitCount : ByteArray := prog_12_method_49_code
def yJ6_bitCount : MethodName := ⟨RJ6, "bitCount", "(I)I"⟩
def RJ7 : String := "java/lang/Math"
abbrev cJ7_min : ByteArray := prog_13_method_69_code
def yJ7_min : MethodName := ⟨RJ7, "min", "(II)I"⟩
abbrev cJ7_max : ByteArray := prog_13_method_65_code
def yJ7_max : MethodName := ⟨RJ7, "max", "(II)I"⟩
end
section
/-! ===== the words of the tables: those that every method takes along, and those of nest mates ===== -/
def isNest : Cond → Bool
  | .fieldLinkNest .. => true
  | .methodLinkNest .. => true
  | _ => false
def gdW : List Cond := lw_tbl.filter goodWord
def nsW : List Cond := tables_1.filter isNest
theorem gdW_in {w : Cond} (h : w ∈ lw_tbl) (g : goodWord w = true) : w ∈ gdW := List.mem_filter.mpr ⟨h, g⟩
theorem gdW_at {w : Cond} (i : Nat) (h : tables_1[i]? = some w) (g : goodWord w = true) : w ∈ gdW := gdW_in (List.mem_append_right _ (List.mem_of_getElem? h)) g
theorem nsW_at {w : Cond} (i : Nat) (h : tables_1[i]? = some w) (g : isNest w = true) : w ∈ nsW := List.mem_filter.mpr ⟨List.mem_of_getElem? h, g⟩
theorem gdW_sel {q : MethodName × Nat} (i : Nat) (h : lw_privs[i]? = some q) : Cond.selects q.1.cls q.1 q.1 ∈ gdW := gdW_in (List.mem_append_left _ (List.mem_map.mpr ⟨q, List.mem_of_getElem? h, rfl⟩)) rfl
theorem nsW_warm {s U : State} (hW : s.WarmedH U.vm) (h : ∀ w ∈ nsW, va_Nw w s) : ∀ w ∈ nsW, va_Nw w U := by
  intro w hw
  have h1 := h w hw
  have h2 : isNest w = true := (List.mem_filter.mp hw).2
  cases w <;> first | exact va_Nw.warmF hW h1 | exact va_Nw.warmM hW h1 | (simp [isNest] at h2)
/-- the words of a method: its own code, and the tables' -/
def wsM (y : MethodName) (cc : ByteArray) (nL : Nat) (ret : Option FieldType) : List Cond := Cond.code y cc nL ret :: gdW
theorem wsM_good {y : MethodName} {cc : ByteArray} {nL : Nat} {ret : Option FieldType} (h : Cond.code y cc nL ret ∈ gdW) : GoodIn gdW (wsM y cc nL ret) := by
  intro w hw
  have h1 : w ∈ gdW := (List.mem_cons.mp hw).elim (fun e => e ▸ h) id
  exact ⟨h1, good_of_word (List.mem_filter.mp h1).2⟩
/-! ===== the frame of a walk: all that stays ===== -/
abbrev KX : Type := Program × Launch × Env × Room × State × MethodId × Array Value × List Frame × Method × Code × Nat × va_G × ClassId × ClassId × (Nat → Nat) × Nat × (Nat → Prop) × (State → Prop) × Nat × Nat
def kp (K : KX) : Program := K.1
def kl (K : KX) : Launch := K.2.1
def ke (K : KX) : Env := K.2.2.1
def kR (K : KX) : Room := K.2.2.2.1
def ks (K : KX) : State := K.2.2.2.2.1
def km (K : KX) : MethodId := K.2.2.2.2.2.1
def ka (K : KX) : Array Value := K.2.2.2.2.2.2.1
def kb (K : KX) : List Frame := K.2.2.2.2.2.2.2.1
def kM (K : KX) : Method := K.2.2.2.2.2.2.2.2.1
def kc (K : KX) : Code := K.2.2.2.2.2.2.2.2.2.1
def kL (K : KX) : Nat := K.2.2.2.2.2.2.2.2.2.2.1
def kD (K : KX) : va_G := K.2.2.2.2.2.2.2.2.2.2.2.1
def kI (K : KX) : ClassId := K.2.2.2.2.2.2.2.2.2.2.2.2.1
def kJ (K : KX) : ClassId := K.2.2.2.2.2.2.2.2.2.2.2.2.2.1
def kad (K : KX) : Nat → Nat := K.2.2.2.2.2.2.2.2.2.2.2.2.2.2.1
def kn (K : KX) : Nat := K.2.2.2.2.2.2.2.2.2.2.2.2.2.2.2.1
def kA (K : KX) : Nat → Prop := K.2.2.2.2.2.2.2.2.2.2.2.2.2.2.2.2.1
def kQ (K : KX) : State → Prop := K.2.2.2.2.2.2.2.2.2.2.2.2.2.2.2.2.2.1
def kz (K : KX) : Nat := K.2.2.2.2.2.2.2.2.2.2.2.2.2.2.2.2.2.2.1
def kw (K : KX) : Nat := K.2.2.2.2.2.2.2.2.2.2.2.2.2.2.2.2.2.2.2
def RW (K : KX) (H : Heap) (locs : List Loc) (g : JFrame) : Prop := W (kp K) (kl K) (ke K) (kR K) (ks K) (km K) (ka K) (kb K) (kM K) (kc K) H locs (kz K) (kw K) (kQ K) g
def cels (K : KX) (m : Mem) : va_W := cellsL (kI K) (kJ K) (kad K) (kn K) m
def RX (K : KX) (pc : Nat) (ls : List (Nat × Value)) (st : List Value) (m : Mem) : Prop := ∀ (H : Heap) (locs : List Loc) (la : Array Slot), va_P (kD K) vwCl (cels K m) H → va_S (kA K) (ks K).heap H locs → lv_has la (kL K) (gl (kad K) ls) → RW K H locs (F0 (km K) pc la (st.map (gv (kad K))))
def retI : Option Value → Instr
  | some (.long _) => .lreturn
  | some _ => .ireturn
  | none => .return_
/-- what holds all along a walk: the machine, the code, the words, the tables, the cells apart; and how it may end -/
def Cx (K : KX) (cc : ByteArray) (own : String) (G : Option Value → Mem → Prop) : Prop :=
  (kp K).tables.exec = Jvm.exec ∧ (kc K).code = cc ∧ (kc K).maxLocals = kL K ∧ (ks K).vm.findClass own = some (km K).cls ∧ (∀ w ∈ gdW, w.before (ka K) (ks K) = true) ∧ (∀ w ∈ nsW, va_Nw w (ks K)) ∧ va_K (kD K) vwCl [(kI K, .int), (kJ K, .long)] (ks K) ∧ (∀ m, va_D (kA K) (cels K m)) ∧ (∀ q, (ks K).heap.size ≤ q → kA K q) ∧ (kz K ≤ (kR K).cells ∧ kw K ≤ (kR K).slots) ∧
  (∀ (pc : Nat) (la : Array Slot) (H : Heap) (locs : List Loc) (m : Mem) (r : Option Value), va_P (kD K) vwCl (cels K m) H → va_S (kA K) (ks K).heap H locs → G r m → decode cc pc = .ok (retI r, 1) → RW K H locs (F0 (km K) pc la r.toList))
theorem gl_at {a : Nat → Nat} {ls : List (Nat × Value)} {q i : Nat} {v : Value} (h : ls[q]? = some (i, v)) : (gl a ls)[q]? = some (i, gv a v) := by
  unfold gl; rw [List.getElem?_map, h]; rfl
def lst1 (i : Nat) (v : Value) (ls : List (Nat × Value)) : List (Nat × Value) := (i, v) :: ls.filter (fun q => !(q.1 == i) && !(q.1 + 1 == i && q.2.category == 2))
def lst2 (i : Nat) (v : Value) (ls : List (Nat × Value)) : List (Nat × Value) := (i, v) :: ls.filter (fun q => !(q.1 == i) && (!(q.1 == i + 1) && !(q.1 + 1 == i && q.2.category == 2)))
theorem gl_lst1 (a : Nat → Nat) (i : Nat) (v : Value) (ls : List (Nat × Value)) : (i, gv a v) :: (gl a ls).filter (fun q => !(q.1 == i) && !(q.1 + 1 == i && q.2.category == 2)) = gl a (lst1 i v ls) := by
  unfold gl lst1
  rw [List.map_cons, List.filter_map]
  congr 2
  apply List.filter_congr
  intro q _
  simp [gv_cat]
theorem gl_lst2 (a : Nat → Nat) (i : Nat) (v : Value) (ls : List (Nat × Value)) : (i, gv a v) :: (gl a ls).filter (fun q => !(q.1 == i) && (!(q.1 == i + 1) && !(q.1 + 1 == i && q.2.category == 2))) = gl a (lst2 i v ls) := by
  unfold gl lst2
  rw [List.map_cons, List.filter_map]
  congr 2
  apply List.filter_congr
  intro q _
  simp [gv_cat]
theorem gl_pick (a : Nat → Nat) (ls : List (Nat × Value)) (ks : List Nat) : lv_pick (gl a ls) ks = gl a (lv_pick ls ks) := by
  unfold lv_pick gl
  induction ks with
  | nil => rfl
  | cons k ks ih =>
    simp only [List.filterMap_cons, List.getElem?_map]
    cases h : ls[k]? with
    | none => simpa [h, List.getElem?_map] using ih
    | some x => simpa [h, List.getElem?_map] using ih
section
variable {K : KX} {cc : ByteArray} {own : String} {G : Option Value → Mem → Prop} {pc : Nat} {ls : List (Nat × Value)} {st : List Value} {m : Mem}
theorem R_pick (kS : List Nat) {ls' : List (Nat × Value)} (hl : lv_pick ls kS = ls') (kk : RX K pc ls' st m) : RX K pc ls st m := fun H locs la hP hS h => kk H locs la hP hS (lv_sub h kS (by rw [gl_pick, hl]))
theorem R_iconst (hC : Cx K cc own G) {n : Int} {v : Int32} (hdg : decode cc pc = .ok (.iconst n, 1)) (hv : Int32.ofInt n = v) (kk : RX K (pc + 1) ls (.int v :: st) m) : RX K pc ls st m := fun H locs la hP hS hl => lv_iconst hC.1 hC.2.1 hdg hv (kk H locs la hP hS hl)
theorem R_bipush (hC : Cx K cc own G) {n : Int} {v : Int32} (hdg : decode cc pc = .ok (.bipush n, 2)) (hv : (Int8.ofInt n).toInt32 = v) (kk : RX K (pc + 2) ls (.int v :: st) m) : RX K pc ls st m := fun H locs la hP hS hl => lv_bipush hC.1 hC.2.1 hdg hv (kk H locs la hP hS hl)
theorem R_sipush (hC : Cx K cc own G) {n : Int} {v : Int32} (hdg : decode cc pc = .ok (.sipush n, 3)) (hv : (Int16.ofInt n).toInt32 = v) (kk : RX K (pc + 3) ls (.int v :: st) m) : RX K pc ls st m := fun H locs la hP hS hl => lv_sipush hC.1 hC.2.1 hdg hv (kk H locs la hP hS hl)
theorem R_lconst (hC : Cx K cc own G) {n : Fin 2} {v : Int64} (hdg : decode cc pc = .ok (.lconst n, 1)) (hv : Int64.ofNat (n : Nat) = v) (kk : RX K (pc + 1) ls (.long v :: st) m) : RX K pc ls st m := fun H locs la hP hS hl => lv_lconst hC.1 hC.2.1 hdg hv (kk H locs la hP hS hl)
theorem R_iload_n (hC : Cx K cc own G) {k : Fin 4} {x : Int32} (q : Nat) {i : Nat} (hdg : decode cc pc = .ok (.iload_n k, 1)) (hi : (k : Nat) = i) (hq : ls[q]? = some (i, .int x)) (kk : RX K (pc + 1) ls (.int x :: st) m) : RX K pc ls st m := fun H locs la hP hS hl => lv_iload_n hC.1 hC.2.1 hdg hi (lv_at hl q (gl_at hq)) (kk H locs la hP hS hl)
theorem R_iload (hC : Cx K cc own G) {x : Int32} (q : Nat) {i : Nat} (hdg : decode cc pc = .ok (.iload i, 2)) (hq : ls[q]? = some (i, .int x)) (kk : RX K (pc + 2) ls (.int x :: st) m) : RX K pc ls st m := fun H locs la hP hS hl => lv_iload hC.1 hC.2.1 hdg (lv_at hl q (gl_at hq)) (kk H locs la hP hS hl)
theorem R_lload_n (hC : Cx K cc own G) {k : Fin 4} {x : Int64} (q : Nat) {i : Nat} (hdg : decode cc pc = .ok (.lload_n k, 1)) (hi : (k : Nat) = i) (hq : ls[q]? = some (i, .long x)) (kk : RX K (pc + 1) ls (.long x :: st) m) : RX K pc ls st m := fun H locs la hP hS hl => lv_lload_n hC.1 hC.2.1 hdg hi (lv_at hl q (gl_at hq)) (kk H locs la hP hS hl)
theorem R_lload (hC : Cx K cc own G) {x : Int64} (q : Nat) {i : Nat} (hdg : decode cc pc = .ok (.lload i, 2)) (hq : ls[q]? = some (i, .long x)) (kk : RX K (pc + 2) ls (.long x :: st) m) : RX K pc ls st m := fun H locs la hP hS hl => lv_lload hC.1 hC.2.1 hdg (lv_at hl q (gl_at hq)) (kk H locs la hP hS hl)
theorem R_aload_n (hC : Cx K cc own G) {k : Fin 4} {x : Nat} (q : Nat) {i : Nat} (hdg : decode cc pc = .ok (.aload_n k, 1)) (hi : (k : Nat) = i) (hq : ls[q]? = some (i, .ref x)) (kk : RX K (pc + 1) ls (.ref x :: st) m) : RX K pc ls st m := fun H locs la hP hS hl => lv_aload_n hC.1 hC.2.1 hdg hi (lv_at hl q (gl_at hq)) (kk H locs la hP hS hl)
theorem R_istore_n (hC : Cx K cc own G) {k : Fin 4} {x : Int32} {i : Nat} {ls' : List (Nat × Value)} (hdg : decode cc pc = .ok (.istore_n k, 1)) (hi : (k : Nat) = i) {nL : Nat} (hL : kL K = nL) (hn : Nat.blt i nL = true) (he : lst1 i (.int x) ls = ls') (kk : RX K (pc + 1) ls' st m) : RX K pc ls (.int x :: st) m := fun H locs la hP hS hl => lv_istore_n hC.1 hC.2.1 hdg hi hl (hL ▸ Nat.le_of_ble_eq_true hn) (gl_lst1 (kad K) i (.int x) ls) (fun la' hl' => kk H locs la' hP hS (he ▸ hl'))
theorem R_istore (hC : Cx K cc own G) {x : Int32} {i : Nat} {ls' : List (Nat × Value)} (hdg : decode cc pc = .ok (.istore i, 2)) {nL : Nat} (hL : kL K = nL) (hn : Nat.blt i nL = true) (he : lst1 i (.int x) ls = ls') (kk : RX K (pc + 2) ls' st m) : RX K pc ls (.int x :: st) m := fun H locs la hP hS hl => lv_istore hC.1 hC.2.1 hdg hl (hL ▸ Nat.le_of_ble_eq_true hn) (gl_lst1 (kad K) i (.int x) ls) (fun la' hl' => kk H locs la' hP hS (he ▸ hl'))
theorem R_lstore_n (hC : Cx K cc own G) {k : Fin 4} {x : Int64} {i : Nat} {ls' : List (Nat × Value)} (hdg : decode cc pc = .ok (.lstore_n k, 1)) (hi : (k : Nat) = i) {nL : Nat} (hL : kL K = nL) (hn : Nat.blt (i + 1) nL = true) (he : lst2 i (.long x) ls = ls') (kk : RX K (pc + 1) ls' st m) : RX K pc ls (.long x :: st) m := fun H locs la hP hS hl => lv_lstore_n hC.1 hC.2.1 hdg hi hl (hL ▸ Nat.le_of_ble_eq_true hn) (gl_lst2 (kad K) i (.long x) ls) (fun la' hl' => kk H locs la' hP hS (he ▸ hl'))
theorem R_lstore (hC : Cx K cc own G) {x : Int64} {i : Nat} {ls' : List (Nat × Value)} (hdg : decode cc pc = .ok (.lstore i, 2)) {nL : Nat} (hL : kL K = nL) (hn : Nat.blt (i + 1) nL = true) (he : lst2 i (.long x) ls = ls') (kk : RX K (pc + 2) ls' st m) : RX K pc ls (.long x :: st) m := fun H locs la hP hS hl => lv_lstore hC.1 hC.2.1 hdg hl (hL ▸ Nat.le_of_ble_eq_true hn) (gl_lst2 (kad K) i (.long x) ls) (fun la' hl' => kk H locs la' hP hS (he ▸ hl'))
theorem R_iinc (hC : Cx K cc own G) {x v : Int32} {n : Int} (q : Nat) {i : Nat} {ls' : List (Nat × Value)} (hdg : decode cc pc = .ok (.iinc i n, 3)) (hq : ls[q]? = some (i, .int x)) (hv : x + Int32.ofInt n = v) {nL : Nat} (hL : kL K = nL) (hn : Nat.blt i nL = true) (he : lst1 i (.int v) ls = ls') (kk : RX K (pc + 3) ls' st m) : RX K pc ls st m := fun H locs la hP hS hl => lv_iinc hC.1 hC.2.1 hdg hl (gl_at hq) hv (hL ▸ Nat.le_of_ble_eq_true hn) (gl_lst1 (kad K) i (.int v) ls) (fun la' hl' => kk H locs la' hP hS (he ▸ hl'))
theorem R_iadd (hC : Cx K cc own G) {x y : Int32} (hdg : decode cc pc = .ok (.iadd, 1)) (kk : RX K (pc + 1) ls (.int (x + y) :: st) m) : RX K pc ls (.int y :: .int x :: st) m := fun H locs la hP hS hl => lv_iadd hC.1 hC.2.1 hdg (kk H locs la hP hS hl)
theorem R_isub (hC : Cx K cc own G) {x y : Int32} (hdg : decode cc pc = .ok (.isub, 1)) (kk : RX K (pc + 1) ls (.int (x - y) :: st) m) : RX K pc ls (.int y :: .int x :: st) m := fun H locs la hP hS hl => lv_isub hC.1 hC.2.1 hdg (kk H locs la hP hS hl)
theorem R_imul (hC : Cx K cc own G) {x y : Int32} (hdg : decode cc pc = .ok (.imul, 1)) (kk : RX K (pc + 1) ls (.int (x * y) :: st) m) : RX K pc ls (.int y :: .int x :: st) m := fun H locs la hP hS hl => lv_imul hC.1 hC.2.1 hdg (kk H locs la hP hS hl)
theorem R_iand (hC : Cx K cc own G) {x y : Int32} (hdg : decode cc pc = .ok (.iand, 1)) (kk : RX K (pc + 1) ls (.int (x &&& y) :: st) m) : RX K pc ls (.int y :: .int x :: st) m := fun H locs la hP hS hl => lv_iand hC.1 hC.2.1 hdg (kk H locs la hP hS hl)
theorem R_ior (hC : Cx K cc own G) {x y : Int32} (hdg : decode cc pc = .ok (.ior, 1)) (kk : RX K (pc + 1) ls (.int (x ||| y) :: st) m) : RX K pc ls (.int y :: .int x :: st) m := fun H locs la hP hS hl => lv_ior hC.1 hC.2.1 hdg (kk H locs la hP hS hl)
theorem R_ixor (hC : Cx K cc own G) {x y : Int32} (hdg : decode cc pc = .ok (.ixor, 1)) (kk : RX K (pc + 1) ls (.int (x ^^^ y) :: st) m) : RX K pc ls (.int y :: .int x :: st) m := fun H locs la hP hS hl => lv_ixor hC.1 hC.2.1 hdg (kk H locs la hP hS hl)
theorem R_ishl (hC : Cx K cc own G) {x y : Int32} (hdg : decode cc pc = .ok (.ishl, 1)) (kk : RX K (pc + 1) ls (.int (x <<< (y &&& 31)) :: st) m) : RX K pc ls (.int y :: .int x :: st) m := fun H locs la hP hS hl => lv_ishl hC.1 hC.2.1 hdg (kk H locs la hP hS hl)
theorem R_ishr (hC : Cx K cc own G) {x y : Int32} (hdg : decode cc pc = .ok (.ishr, 1)) (kk : RX K (pc + 1) ls (.int (x >>> (y &&& 31)) :: st) m) : RX K pc ls (.int y :: .int x :: st) m := fun H locs la hP hS hl => lv_ishr hC.1 hC.2.1 hdg (kk H locs la hP hS hl)
theorem R_iushr (hC : Cx K cc own G) {x y : Int32} (hdg : decode cc pc = .ok (.iushr, 1)) (kk : RX K (pc + 1) ls (.int ((x.toUInt32 >>> (y.toUInt32 &&& Int32.toUInt32 31)).toInt32) :: st) m) : RX K pc ls (.int y :: .int x :: st) m := fun H locs la hP hS hl => lv_iushr hC.1 hC.2.1 hdg rfl (kk H locs la hP hS hl)
theorem R_idiv (hC : Cx K cc own G) {x y : Int32} (hdg : decode cc pc = .ok (.idiv, 1)) (hne : ¬ y = 0) (kk : RX K (pc + 1) ls (.int (x / y) :: st) m) : RX K pc ls (.int y :: .int x :: st) m := fun H locs la hP hS hl => lv_idiv hC.1 hC.2.1 hdg hne (kk H locs la hP hS hl)
theorem R_irem (hC : Cx K cc own G) {x y : Int32} (hdg : decode cc pc = .ok (.irem, 1)) (hne : ¬ y = 0) (kk : RX K (pc + 1) ls (.int (x - x / y * y) :: st) m) : RX K pc ls (.int y :: .int x :: st) m := fun H locs la hP hS hl => lv_irem hC.1 hC.2.1 hdg hne (kk H locs la hP hS hl)
theorem R_ineg (hC : Cx K cc own G) {x : Int32} (hdg : decode cc pc = .ok (.ineg, 1)) (kk : RX K (pc + 1) ls (.int (-x) :: st) m) : RX K pc ls (.int x :: st) m := fun H locs la hP hS hl => lv_ineg hC.1 hC.2.1 hdg (kk H locs la hP hS hl)
theorem R_ladd (hC : Cx K cc own G) {x y : Int64} (hdg : decode cc pc = .ok (.ladd, 1)) (kk : RX K (pc + 1) ls (.long (x + y) :: st) m) : RX K pc ls (.long y :: .long x :: st) m := fun H locs la hP hS hl => lv_ladd hC.1 hC.2.1 hdg (kk H locs la hP hS hl)
theorem R_lsub (hC : Cx K cc own G) {x y : Int64} (hdg : decode cc pc = .ok (.lsub, 1)) (kk : RX K (pc + 1) ls (.long (x - y) :: st) m) : RX K pc ls (.long y :: .long x :: st) m := fun H locs la hP hS hl => lv_lsub hC.1 hC.2.1 hdg (kk H locs la hP hS hl)
theorem R_lmul (hC : Cx K cc own G) {x y : Int64} (hdg : decode cc pc = .ok (.lmul, 1)) (kk : RX K (pc + 1) ls (.long (x * y) :: st) m) : RX K pc ls (.long y :: .long x :: st) m := fun H locs la hP hS hl => lv_lmul hC.1 hC.2.1 hdg (kk H locs la hP hS hl)
theorem R_land (hC : Cx K cc own G) {x y : Int64} (hdg : decode cc pc = .ok (.land, 1)) (kk : RX K (pc + 1) ls (.long (x &&& y) :: st) m) : RX K pc ls (.long y :: .long x :: st) m := fun H locs la hP hS hl => lv_land hC.1 hC.2.1 hdg (kk H locs la hP hS hl)
theorem R_ldiv (hC : Cx K cc own G) {x y : Int64} (hdg : decode cc pc = .ok (.ldiv, 1)) (hne : ¬ y = 0) (kk : RX K (pc + 1) ls (.long (x / y) :: st) m) : RX K pc ls (.long y :: .long x :: st) m := fun H locs la hP hS hl => lv_ldiv hC.1 hC.2.1 hdg hne (kk H locs la hP hS hl)
theorem R_lrem (hC : Cx K cc own G) {x y : Int64} (hdg : decode cc pc = .ok (.lrem, 1)) (hne : ¬ y = 0) (kk : RX K (pc + 1) ls (.long (x - x / y * y) :: st) m) : RX K pc ls (.long y :: .long x :: st) m := fun H locs la hP hS hl => lv_lrem hC.1 hC.2.1 hdg hne (kk H locs la hP hS hl)
theorem R_lshr (hC : Cx K cc own G) {x : Int64} {y : Int32} (hdg : decode cc pc = .ok (.lshr, 1)) (kk : RX K (pc + 1) ls (.long (x >>> (y.toInt64 &&& 63)) :: st) m) : RX K pc ls (.int y :: .long x :: st) m := fun H locs la hP hS hl => lv_lshr hC.1 hC.2.1 hdg rfl (kk H locs la hP hS hl)
theorem R_lcmp (hC : Cx K cc own G) {x y : Int64} (hdg : decode cc pc = .ok (.lcmp, 1)) (kk : RX K (pc + 1) ls (.int (lg_cmp x y) :: st) m) : RX K pc ls (.long y :: .long x :: st) m := fun H locs la hP hS hl => W.lcmp hC.1 hC.2.1 hdg (kk H locs la hP hS hl)
theorem R_i2l (hC : Cx K cc own G) {x : Int32} (hdg : decode cc pc = .ok (.i2l, 1)) (kk : RX K (pc + 1) ls (.long x.toInt64 :: st) m) : RX K pc ls (.int x :: st) m := fun H locs la hP hS hl => lv_i2l hC.1 hC.2.1 hdg rfl (kk H locs la hP hS hl)
theorem R_l2i (hC : Cx K cc own G) {x : Int64} (hdg : decode cc pc = .ok (.l2i, 1)) (kk : RX K (pc + 1) ls (.int x.toInt32 :: st) m) : RX K pc ls (.long x :: st) m := fun H locs la hP hS hl => lv_l2i hC.1 hC.2.1 hdg rfl (kk H locs la hP hS hl)
theorem R_dup (hC : Cx K cc own G) {v : Value} (hdg : decode cc pc = .ok (.dup, 1)) (hv : v.category = 1) (kk : RX K (pc + 1) ls (v :: v :: st) m) : RX K pc ls (v :: st) m := fun H locs la hP hS hl => lv_dup hC.1 hC.2.1 hdg ((gv_cat (kad K) v).trans hv) (kk H locs la hP hS hl)
theorem R_pop (hC : Cx K cc own G) {v : Value} (hdg : decode cc pc = .ok (.pop, 1)) (hv : v.category = 1) (kk : RX K (pc + 1) ls st m) : RX K pc ls (v :: st) m := fun H locs la hP hS hl => lv_pop hC.1 hC.2.1 hdg ((gv_cat (kad K) v).trans hv) (kk H locs la hP hS hl)
theorem R_dup2 (hC : Cx K cc own G) {v w : Value} (hdg : decode cc pc = .ok (.dup2, 1)) (hv : v.category = 1) (hw : w.category = 1) (kk : RX K (pc + 1) ls (v :: w :: v :: w :: st) m) : RX K pc ls (v :: w :: st) m := fun H locs la hP hS hl => lv_dup2_11 hC.1 hC.2.1 hdg ((gv_cat (kad K) v).trans hv) ((gv_cat (kad K) w).trans hw) (kk H locs la hP hS hl)
theorem R_goto (hC : Cx K cc own G) {off : Int} {tgt : Nat} (hdg : decode cc pc = .ok (.goto off, 3)) (ht : (pc : Int) + off = (tgt : Int)) (kk : RX K tgt ls st m) : RX K pc ls st m := fun H locs la hP hS hl => lv_goto hC.1 hC.2.1 hdg ht (kk H locs la hP hS hl)
theorem R_ldc (hC : Cx K cc own G) {index : Nat} {v : Int32} (hw : Cond.constant own index v ∈ gdW) (hdg : decode cc pc = .ok (.ldc index, 2)) (kk : RX K (pc + 2) ls (.int v :: st) m) : RX K pc ls st m := fun H locs la hP hS hl => lv_ldc hC.1 hC.2.1 hC.2.2.2.1 (hC.2.2.2.2.1 _ hw) hdg (kk H locs la hP hS hl)
theorem R_ldcw (hC : Cx K cc own G) {index : Nat} {v : Int32} (hw : Cond.constant own index v ∈ gdW) (hdg : decode cc pc = .ok (.ldc_w index, 3)) (kk : RX K (pc + 3) ls (.int v :: st) m) : RX K pc ls st m := fun H locs la hP hS hl => lv_ldcw hC.1 hC.2.1 hC.2.2.2.1 (hC.2.2.2.2.1 _ hw) hdg (kk H locs la hP hS hl)
theorem R_ldc2 (hC : Cx K cc own G) {index : Nat} {v : Int64} (hw : Cond.constantLong own index v ∈ gdW) (hdg : decode cc pc = .ok (.ldc2_w index, 3)) (kk : RX K (pc + 3) ls (.long v :: st) m) : RX K pc ls st m := fun H locs la hP hS hl => lv_ldc2 hC.1 hC.2.1 hC.2.2.2.1 (hC.2.2.2.2.1 _ hw) hdg (kk H locs la hP hS hl)
theorem R_icmp_eq (hC : Cx K cc own G) {x y : Int32} {off : Int} {tgt : Nat} (hdg : decode cc pc = .ok (.if_icmp .eq off, 3)) (ht : (pc : Int) + off = (tgt : Int)) (kt : x = y → RX K tgt ls st m) (kf : ¬ x = y → RX K (pc + 3) ls st m) : RX K pc ls (.int y :: .int x :: st) m := fun H locs la hP hS hl => lv_icmp_eq hC.1 hC.2.1 hdg ht (fun c => kt c H locs la hP hS hl) (fun c => kf c H locs la hP hS hl)
theorem R_if_eq (hC : Cx K cc own G) {x : Int32} {off : Int} {tgt : Nat} (hdg : decode cc pc = .ok (.ifCond .eq off, 3)) (ht : (pc : Int) + off = (tgt : Int)) (kt : x = 0 → RX K tgt ls st m) (kf : ¬ x = 0 → RX K (pc + 3) ls st m) : RX K pc ls (.int x :: st) m := fun H locs la hP hS hl => lv_if_eq hC.1 hC.2.1 hdg ht (fun c => kt c H locs la hP hS hl) (fun c => kf c H locs la hP hS hl)
theorem R_icmp_ne (hC : Cx K cc own G) {x y : Int32} {off : Int} {tgt : Nat} (hdg : decode cc pc = .ok (.if_icmp .ne off, 3)) (ht : (pc : Int) + off = (tgt : Int)) (kt : ¬ x = y → RX K tgt ls st m) (kf : x = y → RX K (pc + 3) ls st m) : RX K pc ls (.int y :: .int x :: st) m := fun H locs la hP hS hl => lv_icmp_ne hC.1 hC.2.1 hdg ht (fun c => kt c H locs la hP hS hl) (fun c => kf c H locs la hP hS hl)
theorem R_if_ne (hC : Cx K cc own G) {x : Int32} {off : Int} {tgt : Nat} (hdg : decode cc pc = .ok (.ifCond .ne off, 3)) (ht : (pc : Int) + off = (tgt : Int)) (kt : ¬ x = 0 → RX K tgt ls st m) (kf : x = 0 → RX K (pc + 3) ls st m) : RX K pc ls (.int x :: st) m := fun H locs la hP hS hl => lv_if_ne hC.1 hC.2.1 hdg ht (fun c => kt c H locs la hP hS hl) (fun c => kf c H locs la hP hS hl)
theorem R_icmp_lt (hC : Cx K cc own G) {x y : Int32} {off : Int} {tgt : Nat} (hdg : decode cc pc = .ok (.if_icmp .lt off, 3)) (ht : (pc : Int) + off = (tgt : Int)) (kt : x < y → RX K tgt ls st m) (kf : ¬ x < y → RX K (pc + 3) ls st m) : RX K pc ls (.int y :: .int x :: st) m := fun H locs la hP hS hl => lv_icmp_lt hC.1 hC.2.1 hdg ht (fun c => kt c H locs la hP hS hl) (fun c => kf c H locs la hP hS hl)
theorem R_if_lt (hC : Cx K cc own G) {x : Int32} {off : Int} {tgt : Nat} (hdg : decode cc pc = .ok (.ifCond .lt off, 3)) (ht : (pc : Int) + off = (tgt : Int)) (kt : x < 0 → RX K tgt ls st m) (kf : ¬ x < 0 → RX K (pc + 3) ls st m) : RX K pc ls (.int x :: st) m := fun H locs la hP hS hl => lv_if_lt hC.1 hC.2.1 hdg ht (fun c => kt c H locs la hP hS hl) (fun c => kf c H locs la hP hS hl)
theorem R_icmp_ge (hC : Cx K cc own G) {x y : Int32} {off : Int} {tgt : Nat} (hdg : decode cc pc = .ok (.if_icmp .ge off, 3)) (ht : (pc : Int) + off = (tgt : Int)) (kt : y ≤ x → RX K tgt ls st m) (kf : ¬ y ≤ x → RX K (pc + 3) ls st m) : RX K pc ls (.int y :: .int x :: st) m := fun H locs la hP hS hl => lv_icmp_ge hC.1 hC.2.1 hdg ht (fun c => kt c H locs la hP hS hl) (fun c => kf c H locs la hP hS hl)
theorem R_if_ge (hC : Cx K cc own G) {x : Int32} {off : Int} {tgt : Nat} (hdg : decode cc pc = .ok (.ifCond .ge off, 3)) (ht : (pc : Int) + off = (tgt : Int)) (kt : 0 ≤ x → RX K tgt ls st m) (kf : ¬ 0 ≤ x → RX K (pc + 3) ls st m) : RX K pc ls (.int x :: st) m := fun H locs la hP hS hl => lv_if_ge hC.1 hC.2.1 hdg ht (fun c => kt c H locs la hP hS hl) (fun c => kf c H locs la hP hS hl)
theorem R_icmp_gt (hC : Cx K cc own G) {x y : Int32} {off : Int} {tgt : Nat} (hdg : decode cc pc = .ok (.if_icmp .gt off, 3)) (ht : (pc : Int) + off = (tgt : Int)) (kt : y < x → RX K tgt ls st m) (kf : ¬ y < x → RX K (pc + 3) ls st m) : RX K pc ls (.int y :: .int x :: st) m := fun H locs la hP hS hl => lv_icmp_gt hC.1 hC.2.1 hdg ht (fun c => kt c H locs la hP hS hl) (fun c => kf c H locs la hP hS hl)
theorem R_if_gt (hC : Cx K cc own G) {x : Int32} {off : Int} {tgt : Nat} (hdg : decode cc pc = .ok (.ifCond .gt off, 3)) (ht : (pc : Int) + off = (tgt : Int)) (kt : 0 < x → RX K tgt ls st m) (kf : ¬ 0 < x → RX K (pc + 3) ls st m) : RX K pc ls (.int x :: st) m := fun H locs la hP hS hl => lv_if_gt hC.1 hC.2.1 hdg ht (fun c => kt c H locs la hP hS hl) (fun c => kf c H locs la hP hS hl)
theorem R_icmp_le (hC : Cx K cc own G) {x y : Int32} {off : Int} {tgt : Nat} (hdg : decode cc pc = .ok (.if_icmp .le off, 3)) (ht : (pc : Int) + off = (tgt : Int)) (kt : x ≤ y → RX K tgt ls st m) (kf : ¬ x ≤ y → RX K (pc + 3) ls st m) : RX K pc ls (.int y :: .int x :: st) m := fun H locs la hP hS hl => lv_icmp_le hC.1 hC.2.1 hdg ht (fun c => kt c H locs la hP hS hl) (fun c => kf c H locs la hP hS hl)
theorem R_if_le (hC : Cx K cc own G) {x : Int32} {off : Int} {tgt : Nat} (hdg : decode cc pc = .ok (.ifCond .le off, 3)) (ht : (pc : Int) + off = (tgt : Int)) (kt : x ≤ 0 → RX K tgt ls st m) (kf : ¬ x ≤ 0 → RX K (pc + 3) ls st m) : RX K pc ls (.int x :: st) m := fun H locs la hP hS hl => lv_if_le hC.1 hC.2.1 hdg ht (fun c => kt c H locs la hP hS hl) (fun c => kf c H locs la hP hS hl)
/-- an end -/
theorem R_ret (hC : Cx K cc own G) (r : Option Value) (hv : st = r.toList) (hg : r.toList.map (gv (kad K)) = r.toList) (hG : G r m) (hdg : decode cc pc = .ok (retI r, 1)) : RX K pc ls st m := by
  intro H locs la hP hS hl
  rw [hv, hg]
  exact hC.2.2.2.2.2.2.2.2.2.2 pc la H locs m r hP hS hG hdg
theorem R_ireturn (hC : Cx K cc own G) {v : Int32} (hdg : decode cc pc = .ok (.ireturn, 1)) (hG : G (some (.int v)) m) : RX K pc ls [.int v] m := R_ret hC (some (.int v)) rfl rfl hG hdg
theorem R_lreturn (hC : Cx K cc own G) {v : Int64} (hdg : decode cc pc = .ok (.lreturn, 1)) (hG : G (some (.long v)) m) : RX K pc ls [.long v] m := R_ret hC (some (.long v)) rfl rfl hG hdg
theorem R_return (hC : Cx K cc own G) (hdg : decode cc pc = .ok (.return_, 1)) (hG : G none m) : RX K pc ls [] m := R_ret hC none rfl rfl hG hdg
/-- arrays -/
theorem R_iaload (hC : Cx K cc own G) (j : Nat) {n : Nat} {i : Int32} (hj : j < kn K) (hy : lay j = .inl (false, n)) (hin : vp_in i n) (hdg : decode cc pc = .ok (.iaload, 1)) (kk : RX K (pc + 1) ls (.int (m.1 j i.toNatClampNeg) :: st) m) : RX K pc ls (.int i :: .ref j :: st) m := fun H locs la hP hS hl => va_iald hC.1 hC.2.1 hC.2.2.2.2.2.2.1 hP j 0 (by unfold cels; rw [cellsL_get hj, hy]; rfl) rfl hin hdg (kk H locs la hP hS hl)
theorem R_laload (hC : Cx K cc own G) (j : Nat) {n : Nat} {i : Int32} (hj : j < kn K) (hy : lay j = .inl (true, n)) (hin : vp_in i n) (hdg : decode cc pc = .ok (.laload, 1)) (kk : RX K (pc + 1) ls (.long (m.2 j i.toNatClampNeg) :: st) m) : RX K pc ls (.int i :: .ref j :: st) m := fun H locs la hP hS hl => va_lald hC.1 hC.2.1 hC.2.2.2.2.2.2.1 hP j 1 (by unfold cels; rw [cellsL_get hj, hy]; rfl) rfl hin hdg (kk H locs la hP hS hl)
theorem R_iastore (hC : Cx K cc own G) (j : Nat) {n : Nat} {i x : Int32} (hj : j < kn K) (hy : lay j = .inl (false, n)) (hin : vp_in i n) (hdg : decode cc pc = .ok (.iastore, 1)) (kk : RX K (pc + 1) ls st (mu m j i.toNatClampNeg x)) : RX K pc ls (.int x :: .int i :: .ref j :: st) m := by
  intro H locs la hP hS hl
  refine va_iast hC.1 hC.2.1 hC.2.2.2.2.2.2.1 hP (hC.2.2.2.2.2.2.2.1 m) hS j 0 (n := n) (f := m.1 j) (by unfold cels; rw [cellsL_get hj, hy]; rfl) rfl hin hdg (fun H1 locs1 hP1 hD1 hS1 => ?_)
  refine kk H1 locs1 la ?_ hS1 hl
  have e : (cels K m).set j (kad K j, Sum.inl (kI K, n, Sum.inl (upd (m.1 j) i.toNatClampNeg x))) = cels K (mu m j i.toNatClampNeg x) := cellsL_set mu_o (by rw [mu_s, hy]; rfl)
  rw [← e]
  exact hP1
theorem R_lastore (hC : Cx K cc own G) (j : Nat) {n : Nat} {i : Int32} {x : Int64} (hj : j < kn K) (hy : lay j = .inl (true, n)) (hin : vp_in i n) (hdg : decode cc pc = .ok (.lastore, 1)) (kk : RX K (pc + 1) ls st (muL m j i.toNatClampNeg x)) : RX K pc ls (.long x :: .int i :: .ref j :: st) m := by
  intro H locs la hP hS hl
  refine va_last hC.1 hC.2.1 hC.2.2.2.2.2.2.1 hP (hC.2.2.2.2.2.2.2.1 m) hS j 1 (n := n) (f := m.2 j) (by unfold cels; rw [cellsL_get hj, hy]; rfl) rfl hin hdg (fun H1 locs1 hP1 hD1 hS1 => ?_)
  refine kk H1 locs1 la ?_ hS1 hl
  have e : (cels K m).set j (kad K j, Sum.inl (kJ K, n, Sum.inr (Sum.inl (vp_updL (m.2 j) i.toNatClampNeg x)))) = cels K (muL m j i.toNatClampNeg x) := cellsL_set muL_o (by rw [muL_s, hy]; rfl)
  rw [← e]
  exact hP1
theorem R_alen (hC : Cx K cc own G) (j : Nat) {n : Nat} (hj : j < kn K) (hy : lay j = .inl (false, n)) (hdg : decode cc pc = .ok (.arraylength, 1)) (kk : RX K (pc + 1) ls (.int (Int32.ofNat n) :: st) m) : RX K pc ls (.ref j :: st) m := fun H locs la hP hS hl => va_alen hC.1 hC.2.1 hC.2.2.2.2.2.2.1 hP j 0 (x := (n, .inl (m.1 j))) (by unfold cels; rw [cellsL_get hj, hy]; rfl) rfl rfl hdg (kk H locs la hP hS hl)
/-- fields: a number, a cell; of one's own class or of a nest mate -/
theorem R_getI (hC : Cx K cc own G) {C : String} {T : u_T} {N ci k index : Nat} {fs : List (Option Nat)} (j : Nat) (hj : j < kn K) (hy : lay j = .inr (ci, fs)) (hc : vwCl[ci]? = some (C, T, N)) (hin : ∀ w ∈ u_ws C T N, w ∈ gdW) (hk : k < N) (hw : Cond.fieldLink own index (T k).1 (T k).2.1 (T k).2.2.1 ∈ gdW) (hf : fs[k]? = some none) (hdg : decode cc pc = .ok (.getfield index, 3)) (kk : RX K (pc + 3) ls (.int (m.1 j k) :: st) m) : RX K pc ls (.ref j :: st) m := fun H locs la hP hS hl => va_get hC.1 hC.2.1 hC.2.2.2.2.1 hin hC.2.2.2.1 hC.2.2.2.2.2.2.1 hP j (by unfold cels; rw [cellsL_get hj, hy]; rfl) hc k hk (hC.2.2.2.2.1 _ hw) (fun _ h => h) (by have := cfv_int (a := kad K) (f := m.1 j) fs 0 k hf; rw [Nat.zero_add] at this; exact this) hdg (kk H locs la hP hS hl)
theorem R_getR (hC : Cx K cc own G) {C : String} {T : u_T} {N ci k index j' : Nat} {fs : List (Option Nat)} (j : Nat) (hj : j < kn K) (hy : lay j = .inr (ci, fs)) (hc : vwCl[ci]? = some (C, T, N)) (hin : ∀ w ∈ u_ws C T N, w ∈ gdW) (hk : k < N) (hw : Cond.fieldLink own index (T k).1 (T k).2.1 (T k).2.2.1 ∈ gdW) (hf : fs[k]? = some (some j')) (hdg : decode cc pc = .ok (.getfield index, 3)) (kk : RX K (pc + 3) ls (.ref j' :: st) m) : RX K pc ls (.ref j :: st) m := fun H locs la hP hS hl => va_get hC.1 hC.2.1 hC.2.2.2.2.1 hin hC.2.2.2.1 hC.2.2.2.2.2.2.1 hP j (by unfold cels; rw [cellsL_get hj, hy]; rfl) hc k hk (hC.2.2.2.2.1 _ hw) (fun _ h => h) (cfv_ref (a := kad K) (f := m.1 j) fs 0 k hf) hdg (kk H locs la hP hS hl)
theorem R_getIN (hC : Cx K cc own G) {C host : String} {T : u_T} {N ci k index : Nat} {fs : List (Option Nat)} (j : Nat) (hj : j < kn K) (hy : lay j = .inr (ci, fs)) (hc : vwCl[ci]? = some (C, T, N)) (hin : ∀ w ∈ u_ws C T N, w ∈ gdW) (hk : k < N) (hw : Cond.fieldLinkNest own index (T k).1 (T k).2.1 (T k).2.2.1 host ∈ nsW) (hf : fs[k]? = some none) (hdg : decode cc pc = .ok (.getfield index, 3)) (kk : RX K (pc + 3) ls (.int (m.1 j k) :: st) m) : RX K pc ls (.ref j :: st) m := fun H locs la hP hS hl => va_getN hC.1 hC.2.1 hC.2.2.2.2.1 hin hC.2.2.2.1 hC.2.2.2.2.2.2.1 hP j (by unfold cels; rw [cellsL_get hj, hy]; rfl) hc k hk (va_Nw.use rfl (hC.2.2.2.2.2.1 _ hw)) (fun _ h => h) (by have := cfv_int (a := kad K) (f := m.1 j) fs 0 k hf; rw [Nat.zero_add] at this; exact this) hdg (kk H locs la hP hS hl)
theorem R_getRN (hC : Cx K cc own G) {C host : String} {T : u_T} {N ci k index j' : Nat} {fs : List (Option Nat)} (j : Nat) (hj : j < kn K) (hy : lay j = .inr (ci, fs)) (hc : vwCl[ci]? = some (C, T, N)) (hin : ∀ w ∈ u_ws C T N, w ∈ gdW) (hk : k < N) (hw : Cond.fieldLinkNest own index (T k).1 (T k).2.1 (T k).2.2.1 host ∈ nsW) (hf : fs[k]? = some (some j')) (hdg : decode cc pc = .ok (.getfield index, 3)) (kk : RX K (pc + 3) ls (.ref j' :: st) m) : RX K pc ls (.ref j :: st) m := fun H locs la hP hS hl => va_getN hC.1 hC.2.1 hC.2.2.2.2.1 hin hC.2.2.2.1 hC.2.2.2.2.2.2.1 hP j (by unfold cels; rw [cellsL_get hj, hy]; rfl) hc k hk (va_Nw.use rfl (hC.2.2.2.2.2.1 _ hw)) (fun _ h => h) (cfv_ref (a := kad K) (f := m.1 j) fs 0 k hf) hdg (kk H locs la hP hS hl)
theorem R_put (hC : Cx K cc own G) {C : String} {T : u_T} {N ci k index : Nat} {fs : List (Option Nat)} (ty0 : Nat → FieldType) (hty : ∀ k, k < N → parseFieldDescriptor (T k).2.2.1 = some (ty0 k)) (hnm : ∀ a, a < N → ∀ b, b < N → a ≠ b → (T a).2.1 ≠ (T b).2.1) (j : Nat) (hj : j < kn K) (hy : lay j = .inr (ci, fs)) (hc : vwCl[ci]? = some (C, T, N)) (hin : ∀ w ∈ u_ws C T N, w ∈ gdW) (hk : k < N) (hw : Cond.fieldLink own index (T k).1 (T k).2.1 (T k).2.2.1 ∈ gdW) (hf : fs[k]? = some none) (hfin : (T k).2.2.2 = false) {x : Int32} (hn : narrow (ty0 k) (.int x) = .int x) (hfit : fits (ty0 k) (.int x) = true) (hdg : decode cc pc = .ok (.putfield index, 3)) (kk : RX K (pc + 3) ls st (mu m j k x)) : RX K pc ls (.int x :: .ref j :: st) m := by
  intro H locs la hP hS hl
  have hlen : k < fs.length := (List.getElem?_eq_some_iff.mp hf).1
  refine va_put hC.1 hC.2.1 hC.2.2.2.2.1 hin ty0 hty hnm hC.2.2.2.1 hC.2.2.2.2.2.2.1 hP (hC.2.2.2.2.2.2.2.1 m) hS j (by unfold cels; rw [cellsL_get hj, hy]; rfl) hc k hk (hC.2.2.2.2.1 _ hw) (fun _ h => h) hfin (hty k hk) hn hfit (by rw [cfv_len]; exact hlen) hdg (fun H1 locs1 hP1 hD1 hS1 => ?_)
  refine kk H1 locs1 la ?_ hS1 hl
  have e : (cels K m).set j (kad K j, Sum.inr (ci, (cfv (kad K) (m.1 j) 0 fs).set k (.int x))) = cels K (mu m j k x) := cellsL_set mu_o (by rw [mu_s, hy, cfv_set fs 0 k hf, Nat.zero_add]; rfl)
  rw [← e]
  exact hP1
end
end
section
section
variable {K : KX} {cc : ByteArray} {own : String} {G : Option Value → Mem → Prop} {pc : Nat} {ls : List (Nat × Value)} {st : List Value} {m : Mem}
theorem R_tableIn (hC : Cx K cc own G) {dflt lo hi : Int} {offs : Array Int} {len : Nat} {x : Int32} {off : Int} {tgt : Nat} (hdg : decode cc pc = .ok (.tableswitch dflt lo hi offs, len)) (h1 : ¬ x.toInt < lo) (h2 : ¬ hi < x.toInt) (ho : offs[(x.toInt - lo).toNat]? = some off) (ht : (pc : Int) + off = (tgt : Int)) (kk : RX K tgt ls st m) : RX K pc ls (.int x :: st) m := fun H locs la hP hS hl => lv_tableIn hC.1 hC.2.1 hdg h1 h2 ho ht (kk H locs la hP hS hl)
theorem R_tableOut (hC : Cx K cc own G) {dflt lo hi : Int} {offs : Array Int} {len : Nat} {x : Int32} {tgt : Nat} (hdg : decode cc pc = .ok (.tableswitch dflt lo hi offs, len)) (h : x.toInt < lo ∨ hi < x.toInt) (ht : (pc : Int) + dflt = (tgt : Int)) (kk : RX K tgt ls st m) : RX K pc ls (.int x :: st) m := fun H locs la hP hS hl => lv_tableOut hC.1 hC.2.1 hdg h ht (kk H locs la hP hS hl)
theorem R_lookup (hC : Cx K cc own G) {dflt : Int} {ps : Array (Int × Int)} {len : Nat} {x : Int32} {off : Int} {tgt : Nat} (hdg : decode cc pc = .ok (.lookupswitch dflt ps, len)) (hp : (ps.toList.zip (ps.toList.drop 1)).all (fun (a, next) => a.1 < next.1) = true) (ho : Op.lookupswitch.offset ps.toList dflt x.toInt = off) (ht : (pc : Int) + off = (tgt : Int)) (kk : RX K tgt ls st m) : RX K pc ls (.int x :: st) m := fun H locs la hP hS hl => lv_lookup hC.1 hC.2.1 hdg hp ho ht (kk H locs la hP hS hl)
/-- what a switch leaves over -/
theorem tab_out {x : Int32} {lo hi : Int} (h : ∀ k : Nat, (k : Int) ≤ hi - lo → ¬ x.toInt = lo + k) : x.toInt < lo ∨ hi < x.toInt := by
  by_cases h1 : x.toInt < lo
  · exact Or.inl h1
  · by_cases h2 : hi < x.toInt
    · exact Or.inr h2
    · exfalso
      refine h (x.toInt - lo).toNat (by omega) (by omega)
theorem i32_ne {x y : Int32} (h : ¬ x = y) {n : Int} (hy : y.toInt = n) : ¬ x.toInt = n := fun e => h (Int32.toInt_inj.mp (e.trans hy.symm))
/-! ===== a method's contract: from the memory m with these arguments it returns r, and the memory is m1 ===== -/
def PcX (D : va_G) (cI cJ : ClassId) (a : Nat → Nat) (n : Nat) (av : List Value) (m : Mem) (sz : Nat) : Array Value → State → Prop := va_Pc (av.map (gv a)) (fun U => U.heap.size = sz ∧ va_P D vwCl (cellsL cI cJ a n m) U.heap ∧ va_K D vwCl [(cI, .int), (cJ, .long)] U ∧ va_D (fun _ => True) (cellsL cI cJ a n m) ∧ ∀ w ∈ nsW, va_Nw w U)
def QcX (D : va_G) (cI cJ : ClassId) (a : Nat → Nat) (n : Nat) (r : Option Value) (m1 : Mem) (A : Nat → Prop) : Array Value → State → Outcome → State → Prop := fun _ s0 oc t => oc = .returned r ∧ va_P D vwCl (cellsL cI cJ a n m1) t.heap ∧ va_F A s0 t
def MX (y : MethodName) (cc : ByteArray) (nL : Nat) (ret : Option FieldType) (rm : Room) (n : Nat) (av : List Value) (m : Mem) (r : Option Value) (m1 : Mem) : Prop :=
  ∀ (l : Launch) (D : va_G) (cI cJ : ClassId) (a : Nat → Nat) (sz : Nat), Met l y (wsM y cc nL ret) rm (PcX D cI cJ a n av m sz) (QcX D cI cJ a n r m1 (va_A (cellsL cI cJ a n m) sz)) 0 0 (va_A (cellsL cI cJ a n m) sz)
/-- the answer is of the method's type -/
def retOK (ret : Option FieldType) (r : Option Value) : Prop := (ret = none ∧ r = none) ∨ (ret = some .int ∧ ∃ v, r = some (.int v)) ∨ (ret = some .long ∧ ∃ v, r = some (.long v)) ∨ (ret = some .boolean ∧ ∃ b, r = some (.int (b2i b)))
theorem cellsL_apart {A : Nat → Prop} {cI cJ : ClassId} {a : Nat → Nat} {n : Nat} {m m' : Mem} (h : va_D A (cellsL cI cJ a n m)) : va_D A (cellsL cI cJ a n m') := by
  have key : ∀ (k : Nat) (q : Nat × va_E), (cellsL cI cJ a n m')[k]? = some q → k < n ∧ q.1 = a k := by
    intro k q hq
    have hk : k < n := by
      have := (List.getElem?_eq_some_iff.mp hq).1
      simpa [cellsL] using this
    rw [cellsL_get hk] at hq
    exact ⟨hk, by rw [← Option.some.inj hq]⟩
  refine ⟨fun i j p q hi hj e => ?_, fun k q hk => ?_⟩
  · obtain ⟨h1, h2⟩ := key i p hi
    obtain ⟨h3, h4⟩ := key j q hj
    exact h.1 i j _ _ (cellsL_get h1) (cellsL_get h3) (h2.symm.trans (e.trans h4))
  · obtain ⟨h1, h2⟩ := key k q hk
    rw [h2]
    exact h.2 k _ (cellsL_get h1)
theorem gl_args (a : Nat → Nat) : ∀ (i : Nat) (vs : List Value), lv_args i (vs.map (gv a)) = gl a (lv_args i vs)
  | _, [] => rfl
  | i, v :: vs => by
    simp only [List.map_cons, lv_args, gl_args a, gv_cat]
    rfl
theorem sl_len (a : Nat → Nat) : ∀ (vs : List Value), (lg_sl (vs.map (gv a))).length = (lg_sl vs).length
  | [] => rfl
  | v :: vs => by
    have := sl_len a vs
    unfold lg_sl at this ⊢
    simp only [List.map_cons, List.flatMap_cons, List.length_append, this, gv_cat]
    split <;> rfl
def GX (r0 : Option Value) (m0 : Mem) : Option Value → Mem → Prop := fun r m => r = r0 ∧ m = m0
set_option maxHeartbeats 4000000 in
theorem MX_of {y : MethodName} {cc : ByteArray} {nL : Nat} {ret : Option FieldType} {rm : Room} {n : Nat} {av : List Value} {m : Mem} {r : Option Value} {m1 : Mem} (hy : plainName y.cls = true) (hn : (lg_sl av).length ≤ nL) (hr : retOK ret r)
    (walk : ∀ K : KX, Cx K cc y.cls (GX r m1) → kn K = n → kL K = nL → kR K = rm → RX K 0 (lv_args 0 av) [] m) : MX y cc nL ret rm n av m r m1 := by
  intro l D cI cJ a sz
  refine Met.ofW (cc := cc) (maxL := nL) (ret := ret) hy rfl ?_
  intro p e s mid args below meth c s₁ B hml hv
  obtain ⟨rfl, hsz, hP, hK, hD0, hN⟩ := hv
  have hx := B.exec
  have hb := B.bytes
  have hrt := B.returns
  have hts := atoms_spec (ws := wsM y cc nL ret) B.pre
  have hown : s.vm.findClass y.cls = some mid.cls := findClass_of_methodNamed B.named
  have hlocks := B.notSynchronized
  subst hsz
  have hD := hD0.self (sz := s.heap.size)
  let K : KX := (p, l, e, rm, s, mid, (av.map (gv a)).toArray, below, meth, c, nL, D, cI, cJ, a, n, va_A (cellsL cI cJ a n m) s.heap.size, MQ below (QcX D cI cJ a n r m1 (va_A (cellsL cI cJ a n m) s.heap.size)) (av.map (gv a)).toArray s 0 0 (va_A (cellsL cI cJ a n m) s.heap.size), 0, 0)
  have hC : Cx K cc y.cls (GX r m1) := by
    refine ⟨hx, hb, hml, hown, fun w hw => hts w (List.mem_cons_of_mem _ hw), hN, hK, fun m' => cellsL_apart hD, fun q h => Or.inr h, ⟨Nat.zero_le _, Nat.zero_le _⟩, ?_⟩
    intro pc la H locs m2 r2 hP2 hS2 hG hdg
    obtain ⟨rfl, rfl⟩ := hG
    have hq : ∀ t : State, t.heap = H → s.WarmedH t.vm → QcX D cI cJ a n r2 m2 (va_A (cellsL cI cJ a n m) s.heap.size) (av.map (gv a)).toArray s (.returned r2) t := fun t ht _ => ⟨rfl, by rw [ht]; exact hP2, hS2.F ht⟩
    rcases hr with ⟨h1, rfl⟩ | ⟨h1, v, rfl⟩ | ⟨h1, v, rfl⟩ | ⟨h1, b, rfl⟩
    · exact W.vret hx hb (hrt.trans h1) hq hS2.2.2 hdg
    · exact W.iret hx hb (hrt.trans h1) hq hS2.2.2 hdg
    · exact W.lret hx hb (hrt.trans h1) hq hS2.2.2 hdg
    · exact W.zret hx hb (hrt.trans h1) (by cases b <;> rfl) hq hS2.2.2 hdg
  have hw := walk K hC rfl rfl rfl
  have hl := lv_entry (av.map (gv a)) (n := nL) (by rw [sl_len]; exact hn)
  rw [lg_entry_eq]
  rw [gl_args] at hl
  exact hw s.heap [] _ hP va_S.rf hl
set_option maxHeartbeats 4000000 in
theorem RW_call (hC : Cx K cc own G) {H : Heap} {locs : List Loc} {la : Array Slot} {st0 rest : List Value} {r : Option Value} {m1 : Mem} {arr : Array Value} (hS : va_S (kA K) (ks K).heap H locs)
    (hr : va_Run (kp K) (kl K) (ke K) (kR K) (ks K) (km K) (ka K) (kb K) (kM K) (kc K) H locs (kz K) (kw K) 0 0 (F0 (km K) pc la st0) rest (QcX (kD K) (kI K) (kJ K) (kad K) (kn K) r m1 (va_A (cels K m) H.size) arr) (va_A (cels K m) H.size))
    (kk : ∀ (H1 : Heap) (locs1 : List Loc), va_P (kD K) vwCl (cels K m1) H1 → va_S (kA K) (ks K).heap H1 locs1 → RW K H1 locs1 (F0 (km K) (pc + 3) la (r.toList ++ rest))) : RW K H locs (F0 (km K) pc la st0) := by
  have hf : ∀ q, va_A (cels K m) H.size q → kA K q := by
    intro q h
    rcases h with ⟨k, e, h⟩ | h
    · exact (hC.2.2.2.2.2.2.2.1 m).2 k _ h
    · exact hC.2.2.2.2.2.2.2.2.1 q (Nat.le_trans hS.1 h)
  intro T hT X
  obtain ⟨v, st₀, t, T', L, h0, X', hL, e1, e2, ⟨hv, hp, hz, hk⟩, st⟩ := hr T hT X
  cases hv
  rw [h0] at hz hk
  obtain ⟨t2, a1, b1⟩ := kk T'.heap (locs ++ L) (by rw [e1]; exact hp)
    ⟨Nat.le_trans hS.1 (by rw [e1]; exact hz), fun q h1 h2 => by rw [e1, hk q (Nat.lt_of_lt_of_le h1 hS.1) (fun z => h2 (hf q z))]; exact hS.2.1 q h1 h2, fun q hq => by
      rcases List.mem_append.mp hq with h | h
      · exact hS.2.2 q h
      · exact hf _ (hL q h)⟩ T' rfl X'
  exact ⟨t2, st t2 a1, b1⟩
/-- a method that may be called: by an object of class C, or statically -/
def MFv (y : MethodName) (cc : ByteArray) (nL : Nat) (ret : Option FieldType) (C : String) (np : Nat) : Prop := Cond.instanceMethod y ∈ gdW ∧ Cond.selects C y y ∈ gdW ∧ Cond.initialized C ∈ gdW ∧ Cond.code y cc nL ret ∈ gdW ∧ (y.cls = C ∧ y.cls ≠ "java/lang/invoke/MethodHandle" ∧ y.cls ≠ "java/lang/invoke/VarHandle" ∧ (parseMethodDescriptor y.desc).map (fun d => d.parameters.length) = some np)
def MFs (y : MethodName) (cc : ByteArray) (nL : Nat) (ret : Option FieldType) (np : Nat) : Prop := Cond.static y ∈ gdW ∧ Cond.initialized y.cls ∈ gdW ∧ Cond.code y cc nL ret ∈ gdW ∧ (y.cls ≠ "java/lang/invoke/MethodHandle" ∧ y.cls ≠ "java/lang/invoke/VarHandle" ∧ (parseMethodDescriptor y.desc).map (fun d => d.parameters.length) = some np)
def rmOK (rm R : Room) (maxL : Nat) : Bool := Nat.beq rm.cells 0 && (Nat.beq rm.slots 0 && (Nat.ble (rm.frames + 1) R.frames && Nat.ble (8 + (maxL + 11) + rm.locals) R.locals))
theorem rmOK_1 {rm R : Room} {maxL : Nat} (h : rmOK rm R maxL = true) : rm.cells = 0 ∧ rm.slots = 0 ∧ rm.frames + 1 ≤ R.frames ∧ 8 + (maxL + 11) + rm.locals ≤ R.locals := by
  simp only [rmOK, Bool.and_eq_true] at h
  exact ⟨Nat.eq_of_beq_eq_true h.1, Nat.eq_of_beq_eq_true h.2.1, Nat.le_of_ble_eq_true h.2.2.1, Nat.le_of_ble_eq_true h.2.2.2⟩
theorem pcx_blind {D : va_G} {cI cJ : ClassId} {a : Nat → Nat} {n : Nat} {av : List Value} {m : Mem} {sz : Nat} : FrameBlind (PcX D cI cJ a n av m sz) := fun A U g mk q => by
  obtain ⟨q0, q1, qP, qK, qD, qN⟩ := q
  exact ⟨q0, q1, qP, va_K.moved (u := U) (U := U.calling g mk A) (Vm.Alike.refl U.vm) qK, qD, fun w hw => va_Nw.same (by have h2 : isNest w = true := (List.mem_filter.mp hw).2; cases w <;> first | rfl | (simp [isNest] at h2)) (rfl : U.vm = (U.calling g mk A).vm) (qN w hw)⟩
theorem cat_sum (a : Nat → Nat) (st : List Value) : ((st.map (gv a)).map fun v => v.category).sum = (st.map fun v => v.category).sum := by
  rw [List.map_map]
  congr 1
  apply List.map_congr_left
  intro v _
  exact gv_cat a v
set_option maxHeartbeats 4000000 in
theorem pcx_pre (hC : Cx K cc own G) {H : Heap} {locs : List Loc} {av : List Value} (hP : va_P (kD K) vwCl (cels K m) H) : ∀ U : State, U.heap = H → (ks K).WarmedH U.vm → PcX (kD K) (kI K) (kJ K) (kad K) (kn K) av m H.size (av.map (gv (kad K))).toArray U := fun U hU hW => ⟨rfl, by rw [hU], by rw [hU]; exact hP, va_K.moved hW.alike hC.2.2.2.2.2.2.1, (hC.2.2.2.2.2.2.2.1 m).weaken (fun _ _ _ _ => trivial), nsW_warm hW hC.2.2.2.2.2.1⟩
set_option maxHeartbeats 4000000 in
theorem R_callV (hC : Cx K cc own G) {y : MethodName} {bytes : ByteArray} {maxL : Nat} {ret : Option FieldType} {rm R : Room} {av rest : List Value} {r : Option Value} {m1 : Mem} {C : String} {T : u_T} {N ci index np : Nat} {fs : List (Option Nat)} (hR : kR K = R) (j : Nat) (hj : j < kn K) (hy : lay j = .inr (ci, fs)) (hc : vwCl[ci]? = some (C, T, N)) (hF : MFv y bytes maxL ret C np) (hl1 : Cond.methodLink own index y ∈ gdW) (hM : MX y bytes maxL ret rm (kn K) (.ref j :: av) m r m1) (hrm : rmOK rm R maxL = true) (hlen : av.length = np) (hst : st = av.reverse ++ .ref j :: rest) (hcat : (rest.map fun v => v.category).sum ≤ 8) (hdg : decode cc pc = .ok (.invokevirtual index, 3)) (hrr : r.toList.map (gv (kad K)) = r.toList) (kk : RX K (pc + 3) ls (r.toList ++ rest) m1) : RX K pc ls st m := by
  intro H locs la hP hS hl
  obtain ⟨h1, h2, h3, h4⟩ := rmOK_1 hrm
  obtain ⟨f1, f2, f3, f4, f5⟩ := hF
  have hts := hC.2.2.2.2.1
  have hG : GoodIn gdW (wsV own index C y (wsM y bytes maxL ret)) := by
    intro w hw
    rcases List.mem_append.mp hw with h | h
    · have h9 : w ∈ gdW := by
        simp only [List.mem_cons, List.mem_nil_iff, or_false] at h
        rcases h with rfl | rfl | rfl | rfl
        · exact hl1
        · exact f1
        · exact f2
        · exact f3
      exact ⟨h9, good_of_word (List.mem_filter.mp h9).2⟩
    · exact wsM_good f4 w h
  have cw := cwV (R := kR K) (s := ks K) (args := ka K) (mc := 0) (ms := 0) (rm := rm) np hts hG rfl h1 h2 f5 (by rw [hR]; exact ⟨h3, h4⟩)
  refine RW_call hC (m := m) (m1 := m1) (r := r) (arr := (Value.ref (kad K j) :: av.map (gv (kad K))).toArray) (rest := rest.map (gv (kad K))) hS ?_ (fun H1 locs1 hP1 hS1 => ?_)
  · refine va_runV (nL := kL K) (cc := cc) (Ts := gdW) (own := own) (As := av.map (gv (kad K))) (b := kad K j) ⟨hC.1, hC.2.1, hC.2.2.1, hC.2.2.2.1, hts⟩ (hM (kl K) (kD K) (kI K) (kJ K) (kad K) H.size) cw ⟨pcx_blind, ?_, pcx_pre hC (locs := locs) (av := .ref j :: av) hP⟩ rfl (by rw [List.length_map]; exact hlen) hl.1 ?_ ?_ hdg hC.2.2.2.2.2.2.2.2.2.1
    · exact va_recv hC.2.2.2.2.2.2.1 hP hc (q0 := j) (fs := cfv (kad K) (m.1 j) 0 fs) (by unfold cels; rw [cellsL_get hj, hy]; rfl)
    · show st.map (gv (kad K)) = _
      rw [hst, List.map_append, List.map_reverse]
      rfl
    · exact lv_room (by rw [cat_sum]; exact hcat)
  · have := kk H1 locs1 la hP1 hS1 hl
    rw [List.map_append, hrr] at this
    exact this
set_option maxHeartbeats 4000000 in
theorem R_callVN (hC : Cx K cc own G) {y : MethodName} {bytes : ByteArray} {maxL : Nat} {ret : Option FieldType} {rm R : Room} {av rest : List Value} {r : Option Value} {m1 : Mem} {C host : String} {T : u_T} {N ci index np : Nat} {fs : List (Option Nat)} (hR : kR K = R) (j : Nat) (hj : j < kn K) (hy : lay j = .inr (ci, fs)) (hc : vwCl[ci]? = some (C, T, N)) (hF : MFv y bytes maxL ret C np) (hl1 : Cond.methodLinkNest own index y host ∈ nsW) (hM : MX y bytes maxL ret rm (kn K) (.ref j :: av) m r m1) (hrm : rmOK rm R maxL = true) (hlen : av.length = np) (hst : st = av.reverse ++ .ref j :: rest) (hcat : (rest.map fun v => v.category).sum ≤ 8) (hdg : decode cc pc = .ok (.invokevirtual index, 3)) (hrr : r.toList.map (gv (kad K)) = r.toList) (kk : RX K (pc + 3) ls (r.toList ++ rest) m1) : RX K pc ls st m := by
  intro H locs la hP hS hl
  obtain ⟨h1, h2, h3, h4⟩ := rmOK_1 hrm
  obtain ⟨f1, f2, f3, f4, f5⟩ := hF
  have hts := hC.2.2.2.2.1
  have cw := va_cnB (R := kR K) (s := ks K) (args := ka K) (mc := 0) (ms := 0) (rm := rm) np hts (wsM_good f4) rfl h1 h2 (hC.2.2.2.2.2.1 _ hl1) (hts _ (f5.1.symm ▸ f3)) f5.2 (by rw [hR]; exact ⟨h3, h4⟩)
  refine RW_call hC (m := m) (m1 := m1) (r := r) (arr := (Value.ref (kad K j) :: av.map (gv (kad K))).toArray) (rest := rest.map (gv (kad K))) hS ?_ (fun H1 locs1 hP1 hS1 => ?_)
  · refine va_runVN (C := C) (nL := kL K) (cc := cc) (Ts := gdW) (own := own) (As := av.map (gv (kad K))) (b := kad K j) ⟨hC.1, hC.2.1, hC.2.2.1, hC.2.2.2.1, hts⟩ (hM (kl K) (kD K) (kI K) (kJ K) (kad K) H.size) ⟨cw, hts _ f1, hts _ f2⟩ ⟨pcx_blind, ?_, pcx_pre hC (locs := locs) (av := .ref j :: av) hP⟩ rfl (by rw [List.length_map]; exact hlen) hl.1 ?_ ?_ hdg hC.2.2.2.2.2.2.2.2.2.1
    · exact va_recv hC.2.2.2.2.2.2.1 hP hc (q0 := j) (fs := cfv (kad K) (m.1 j) 0 fs) (by unfold cels; rw [cellsL_get hj, hy]; rfl)
    · show st.map (gv (kad K)) = _
      rw [hst, List.map_append, List.map_reverse]
      rfl
    · exact lv_room (by rw [cat_sum]; exact hcat)
  · have := kk H1 locs1 la hP1 hS1 hl
    rw [List.map_append, hrr] at this
    exact this
set_option maxHeartbeats 4000000 in
theorem R_callS (hC : Cx K cc own G) {y : MethodName} {bytes : ByteArray} {maxL : Nat} {ret : Option FieldType} {rm R : Room} {av rest : List Value} {r : Option Value} {m1 : Mem} {index np : Nat} (hR : kR K = R) (hF : MFs y bytes maxL ret np) (hl1 : Cond.methodLink own index y ∈ gdW) (hM : MX y bytes maxL ret rm (kn K) av m r m1) (hrm : rmOK rm R maxL = true) (hlen : av.length = np) (hst : st = av.reverse ++ rest) (hcat : (rest.map fun v => v.category).sum ≤ 8) (hdg : decode cc pc = .ok (.invokestatic index, 3)) (hrr : r.toList.map (gv (kad K)) = r.toList) (kk : RX K (pc + 3) ls (r.toList ++ rest) m1) : RX K pc ls st m := by
  intro H locs la hP hS hl
  obtain ⟨h1, h2, h3, h4⟩ := rmOK_1 hrm
  obtain ⟨f1, f3, f4, f5⟩ := hF
  have hts := hC.2.2.2.2.1
  have hG : GoodIn gdW (va_wsS own index y (wsM y bytes maxL ret)) := by
    intro w hw
    rcases List.mem_append.mp hw with h | h
    · have h9 : w ∈ gdW := by
        simp only [List.mem_cons, List.mem_nil_iff, or_false] at h
        rcases h with rfl | rfl | rfl
        · exact hl1
        · exact f1
        · exact f3
      exact ⟨h9, good_of_word (List.mem_filter.mp h9).2⟩
    · exact wsM_good f4 w h
  have cw := va_cwS (R := kR K) (s := ks K) (args := ka K) (mc := 0) (ms := 0) (rm := rm) np hts hG rfl h1 h2 f5 (by rw [hR]; exact ⟨h3, h4⟩)
  refine RW_call hC (m := m) (m1 := m1) (r := r) (arr := (av.map (gv (kad K))).toArray) (rest := rest.map (gv (kad K))) hS ?_ (fun H1 locs1 hP1 hS1 => ?_)
  · refine va_runS (nL := kL K) (cc := cc) (Ts := gdW) (own := own) (As := av.map (gv (kad K))) ⟨hC.1, hC.2.1, hC.2.2.1, hC.2.2.2.1, hts⟩ (hM (kl K) (kD K) (kI K) (kJ K) (kad K) H.size) cw ⟨pcx_blind, pcx_pre hC (locs := locs) (av := av) hP⟩ rfl (by rw [List.length_map]; exact hlen) hl.1 ?_ ?_ hdg hC.2.2.2.2.2.2.2.2.2.1
    · show st.map (gv (kad K)) = _
      rw [hst, List.map_append, List.map_reverse]
    · exact lv_room (by rw [cat_sum]; exact hcat)
  · have := kk H1 locs1 la hP1 hS1 hl
    rw [List.map_append, hrr] at this
    exact this
set_option maxHeartbeats 4000000 in
theorem R_callSN (hC : Cx K cc own G) {y : MethodName} {bytes : ByteArray} {maxL : Nat} {ret : Option FieldType} {rm R : Room} {av rest : List Value} {r : Option Value} {m1 : Mem} {host : String} {index np : Nat} (hR : kR K = R) (hF : MFs y bytes maxL ret np) (hl1 : Cond.methodLinkNest own index y host ∈ nsW) (hM : MX y bytes maxL ret rm (kn K) av m r m1) (hrm : rmOK rm R maxL = true) (hlen : av.length = np) (hst : st = av.reverse ++ rest) (hcat : (rest.map fun v => v.category).sum ≤ 8) (hdg : decode cc pc = .ok (.invokestatic index, 3)) (hrr : r.toList.map (gv (kad K)) = r.toList) (kk : RX K (pc + 3) ls (r.toList ++ rest) m1) : RX K pc ls st m := by
  intro H locs la hP hS hl
  obtain ⟨h1, h2, h3, h4⟩ := rmOK_1 hrm
  obtain ⟨f1, f3, f4, f5⟩ := hF
  have hts := hC.2.2.2.2.1
  have cw := va_cnB (R := kR K) (s := ks K) (args := ka K) (mc := 0) (ms := 0) (rm := rm) np hts (wsM_good f4) rfl h1 h2 (hC.2.2.2.2.2.1 _ hl1) (hts _ f3) f5 (by rw [hR]; exact ⟨h3, h4⟩)
  refine RW_call hC (m := m) (m1 := m1) (r := r) (arr := (av.map (gv (kad K))).toArray) (rest := rest.map (gv (kad K))) hS ?_ (fun H1 locs1 hP1 hS1 => ?_)
  · refine va_runSN (nL := kL K) (cc := cc) (Ts := gdW) (own := own) (As := av.map (gv (kad K))) ⟨hC.1, hC.2.1, hC.2.2.1, hC.2.2.2.1, hts⟩ (hM (kl K) (kD K) (kI K) (kJ K) (kad K) H.size) ⟨cw, hts _ f1, trivial⟩ ⟨pcx_blind, pcx_pre hC (locs := locs) (av := av) hP⟩ rfl (by rw [List.length_map]; exact hlen) hl.1 ?_ ?_ hdg hC.2.2.2.2.2.2.2.2.2.1
    · show st.map (gv (kad K)) = _
      rw [hst, List.map_append, List.map_reverse]
    · exact lv_room (by rw [cat_sum]; exact hcat)
  · have := kk H1 locs1 la hP1 hS1 hl
    rw [List.map_append, hrr] at this
    exact this
theorem lk_out {d v : Int} : ∀ (ps : List (Int × Int)), (∀ p ∈ ps, ¬ v = p.1) → Op.lookupswitch.offset ps d v = d
  | [], _ => rfl
  | (a, o) :: r, h => by
    have h1 := h (a, o) List.mem_cons_self
    simp only [Op.lookupswitch.offset]
    rw [if_neg (fun e => h1 e.symm)]
    exact lk_out r (fun p hp => h p (List.mem_cons_of_mem _ hp))
/-- cells that the class has, with its object made; that both have -/
theorem jx {n N j : Nat} (h : N ≤ n) (hb : Nat.blt j N = true) : j < n := Nat.lt_of_lt_of_le (Nat.le_of_ble_eq_true hb) h
/-- the three villages -/
def isV (v : Nat) : Prop := v = 1 ∨ v = 8 ∨ v = 15
theorem layV_of {v : Nat} (h : isV v) : lay v = layV v := by rcases h with rfl | rfl | rfl <;> rfl
theorem layVa {v k : Nat} (h : isV v) (h1 : 1 ≤ k) (hk : k ≤ 6) : lay (v + k) = .inl (false, 10) := by
  have : k = 1 ∨ k = 2 ∨ k = 3 ∨ k = 4 ∨ k = 5 ∨ k = 6 := by omega
  rcases h with rfl | rfl | rfl <;> rcases this with rfl | rfl | rfl | rfl | rfl | rfl <;> rfl
theorem jv {n v k : Nat} (h : 43 ≤ n) (hv : isV v) (hk : Nat.ble k 6 = true) : v + k < n := by
  have := Nat.le_of_ble_eq_true hk
  rcases hv with rfl | rfl | rfl <;> omega
/-- loops -/
def iter {σ ρ : Type} : Nat → (σ → Option (σ ⊕ ρ)) → σ → Option ρ
  | 0, _, _ => none
  | n + 1, f, s => match f s with
    | none => none
    | some (.inl s') => iter n f s'
    | some (.inr r) => some r
def chk {α : Type} (c : Prop) [Decidable c] (k : Option α) : Option α := if c then k else none
theorem chk_some {α : Type} {c : Prop} [Decidable c] {k : Option α} {r : α} (h : chk c k = some r) : c ∧ k = some r := by
  unfold chk at h
  split at h
  · exact ⟨by assumption, h⟩
  · cases h
theorem chk_pos {α : Type} {c : Prop} [Decidable c] {k : Option α} (h : c) : chk c k = k := if_pos h
def inb (i : Int32) (n : Nat) : Prop := 0 ≤ i.toInt ∧ i.toInt < n
theorem inb_vp {i : Int32} {n : Nat} (h : inb i n) : vp_in i n := vp_in_iff.mpr h
theorem bind_some {α β : Type} {x : Option α} {f : α → Option β} {r : β} (h : x.bind f = some r) : ∃ y, x = some y ∧ f y = some r := by
  cases x with
  | none => cases h
  | some y => exact ⟨y, rfl, h⟩
theorem ite_some {α : Type} {c : Prop} [Decidable c] {x y : Option α} {r : α} (h : (if c then x else y) = some r) : (c ∧ x = some r) ∨ (¬ c ∧ y = some r) := by
  split at h
  · exact Or.inl ⟨by assumption, h⟩
  · exact Or.inr ⟨by assumption, h⟩
end
end
