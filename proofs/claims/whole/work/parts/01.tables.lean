-- ===== PART A: goes FIRST, ahead of the names: the tables' words, and 'selects' of the private methods out of them =====
/-- a private method of a class that the tables say can be made, by its rows of tables_1 -/
def lw_okq (q : MethodName × Nat) : Prop := (q.1.cls ≠ "java/lang/invoke/MethodHandle" ∧ q.1.cls ≠ "java/lang/invoke/VarHandle") ∧ Cond.instantiable q.1.cls q.2 ∈ tables_1 ∧ Cond.privateMethod q.1 ∈ tables_1 ∧ Cond.instanceMethod q.1 ∈ tables_1
theorem lw_p0 : lw_okq (⟨"LitReach", "isThing", "(I)Z"⟩, 9) := ⟨⟨by decide +kernel, by decide +kernel⟩, List.mem_of_getElem? (i := 6) (by decide +kernel), List.mem_of_getElem? (i := 57) (by decide +kernel), List.mem_of_getElem? (i := 58) (by decide +kernel)⟩
theorem lw_p1 : lw_okq (⟨"LitReach", "sortOf", "(I)I"⟩, 9) := ⟨⟨by decide +kernel, by decide +kernel⟩, List.mem_of_getElem? (i := 6) (by decide +kernel), List.mem_of_getElem? (i := 61) (by decide +kernel), List.mem_of_getElem? (i := 62) (by decide +kernel)⟩
theorem lw_p2 : lw_okq (⟨"LitReach", "isWithin", "(II)Z"⟩, 9) := ⟨⟨by decide +kernel, by decide +kernel⟩, List.mem_of_getElem? (i := 6) (by decide +kernel), List.mem_of_getElem? (i := 65) (by decide +kernel), List.mem_of_getElem? (i := 66) (by decide +kernel)⟩
theorem lw_p3 : lw_okq (⟨"LitReach", "holderOf", "(I)I"⟩, 9) := ⟨⟨by decide +kernel, by decide +kernel⟩, List.mem_of_getElem? (i := 6) (by decide +kernel), List.mem_of_getElem? (i := 69) (by decide +kernel), List.mem_of_getElem? (i := 70) (by decide +kernel)⟩
theorem lw_p4 : lw_okq (⟨"LitReach", "isFull", "(I)Z"⟩, 9) := ⟨⟨by decide +kernel, by decide +kernel⟩, List.mem_of_getElem? (i := 6) (by decide +kernel), List.mem_of_getElem? (i := 73) (by decide +kernel), List.mem_of_getElem? (i := 74) (by decide +kernel)⟩
theorem lw_p5 : lw_okq (⟨"LitReach", "countHeldBy", "(I)I"⟩, 9) := ⟨⟨by decide +kernel, by decide +kernel⟩, List.mem_of_getElem? (i := 6) (by decide +kernel), List.mem_of_getElem? (i := 77) (by decide +kernel), List.mem_of_getElem? (i := 78) (by decide +kernel)⟩
theorem lw_p6 : lw_okq (⟨"LitReach", "isDoor", "(I)Z"⟩, 9) := ⟨⟨by decide +kernel, by decide +kernel⟩, List.mem_of_getElem? (i := 6) (by decide +kernel), List.mem_of_getElem? (i := 93) (by decide +kernel), List.mem_of_getElem? (i := 94) (by decide +kernel)⟩
theorem lw_p7 : lw_okq (⟨"LitReach", "isPerson", "(I)Z"⟩, 9) := ⟨⟨by decide +kernel, by decide +kernel⟩, List.mem_of_getElem? (i := 6) (by decide +kernel), List.mem_of_getElem? (i := 101) (by decide +kernel), List.mem_of_getElem? (i := 102) (by decide +kernel)⟩
theorem lw_p8 : lw_okq (⟨"LitReach", "firstBarrier", "(II)I"⟩, 9) := ⟨⟨by decide +kernel, by decide +kernel⟩, List.mem_of_getElem? (i := 6) (by decide +kernel), List.mem_of_getElem? (i := 105) (by decide +kernel), List.mem_of_getElem? (i := 106) (by decide +kernel)⟩
theorem lw_p9 : lw_okq (⟨"LitReach", "turningPoint", "(II)I"⟩, 9) := ⟨⟨by decide +kernel, by decide +kernel⟩, List.mem_of_getElem? (i := 6) (by decide +kernel), List.mem_of_getElem? (i := 109) (by decide +kernel), List.mem_of_getElem? (i := 110) (by decide +kernel)⟩
theorem lw_p10 : lw_okq (⟨"LitReach", "firstBarrierOut", "(II)I"⟩, 9) := ⟨⟨by decide +kernel, by decide +kernel⟩, List.mem_of_getElem? (i := 6) (by decide +kernel), List.mem_of_getElem? (i := 113) (by decide +kernel), List.mem_of_getElem? (i := 114) (by decide +kernel)⟩
theorem lw_p11 : lw_okq (⟨"LitReach", "isShutBox", "(I)Z"⟩, 9) := ⟨⟨by decide +kernel, by decide +kernel⟩, List.mem_of_getElem? (i := 6) (by decide +kernel), List.mem_of_getElem? (i := 117) (by decide +kernel), List.mem_of_getElem? (i := 118) (by decide +kernel)⟩
theorem lw_p12 : lw_okq (⟨"LitReach", "markOf", "(II)I"⟩, 9) := ⟨⟨by decide +kernel, by decide +kernel⟩, List.mem_of_getElem? (i := 6) (by decide +kernel), List.mem_of_getElem? (i := 121) (by decide +kernel), List.mem_of_getElem? (i := 122) (by decide +kernel)⟩
theorem lw_p13 : lw_okq (⟨"LitReach", "firstBarrierIn", "(II)I"⟩, 9) := ⟨⟨by decide +kernel, by decide +kernel⟩, List.mem_of_getElem? (i := 6) (by decide +kernel), List.mem_of_getElem? (i := 125) (by decide +kernel), List.mem_of_getElem? (i := 126) (by decide +kernel)⟩
theorem lw_p14 : lw_okq (⟨"LitReach", "hasInHands", "(II)Z"⟩, 9) := ⟨⟨by decide +kernel, by decide +kernel⟩, List.mem_of_getElem? (i := 6) (by decide +kernel), List.mem_of_getElem? (i := 133) (by decide +kernel), List.mem_of_getElem? (i := 134) (by decide +kernel)⟩
theorem lw_p15 : lw_okq (⟨"LitReach", "mayBeGivenTo", "(I)Z"⟩, 9) := ⟨⟨by decide +kernel, by decide +kernel⟩, List.mem_of_getElem? (i := 6) (by decide +kernel), List.mem_of_getElem? (i := 137) (by decide +kernel), List.mem_of_getElem? (i := 138) (by decide +kernel)⟩
def lw_privs_1 : List (MethodName × Nat) := [(⟨"LitReach", "isThing", "(I)Z"⟩, 9), (⟨"LitReach", "sortOf", "(I)I"⟩, 9), (⟨"LitReach", "isWithin", "(II)Z"⟩, 9), (⟨"LitReach", "holderOf", "(I)I"⟩, 9), (⟨"LitReach", "isFull", "(I)Z"⟩, 9), (⟨"LitReach", "countHeldBy", "(I)I"⟩, 9), (⟨"LitReach", "isDoor", "(I)Z"⟩, 9), (⟨"LitReach", "isPerson", "(I)Z"⟩, 9), (⟨"LitReach", "firstBarrier", "(II)I"⟩, 9), (⟨"LitReach", "turningPoint", "(II)I"⟩, 9), (⟨"LitReach", "firstBarrierOut", "(II)I"⟩, 9), (⟨"LitReach", "isShutBox", "(I)Z"⟩, 9), (⟨"LitReach", "markOf", "(II)I"⟩, 9), (⟨"LitReach", "firstBarrierIn", "(II)I"⟩, 9), (⟨"LitReach", "hasInHands", "(II)Z"⟩, 9), (⟨"LitReach", "mayBeGivenTo", "(I)Z"⟩, 9)]
theorem lw_r1 : ∀ q ∈ lw_privs_1, lw_okq q := List.forall_mem_cons.mpr ⟨lw_p0, List.forall_mem_cons.mpr ⟨lw_p1, List.forall_mem_cons.mpr ⟨lw_p2, List.forall_mem_cons.mpr ⟨lw_p3, List.forall_mem_cons.mpr ⟨lw_p4, List.forall_mem_cons.mpr ⟨lw_p5, List.forall_mem_cons.mpr ⟨lw_p6, List.forall_mem_cons.mpr ⟨lw_p7, List.forall_mem_cons.mpr ⟨lw_p8, List.forall_mem_cons.mpr ⟨lw_p9, List.forall_mem_cons.mpr ⟨lw_p10, List.forall_mem_cons.mpr ⟨lw_p11, List.forall_mem_cons.mpr ⟨lw_p12, List.forall_mem_cons.mpr ⟨lw_p13, List.forall_mem_cons.mpr ⟨lw_p14, List.forall_mem_cons.mpr ⟨lw_p15, fun _ h => absurd h List.not_mem_nil⟩⟩⟩⟩⟩⟩⟩⟩⟩⟩⟩⟩⟩⟩⟩⟩
theorem lw_p16 : lw_okq (⟨"LitReach", "spaceOf", "(I)I"⟩, 9) := ⟨⟨by decide +kernel, by decide +kernel⟩, List.mem_of_getElem? (i := 6) (by decide +kernel), List.mem_of_getElem? (i := 157) (by decide +kernel), List.mem_of_getElem? (i := 158) (by decide +kernel)⟩
theorem lw_p17 : lw_okq (⟨"LitReach", "isSpace", "(I)Z"⟩, 9) := ⟨⟨by decide +kernel, by decide +kernel⟩, List.mem_of_getElem? (i := 6) (by decide +kernel), List.mem_of_getElem? (i := 161) (by decide +kernel), List.mem_of_getElem? (i := 162) (by decide +kernel)⟩
theorem lw_p18 : lw_okq (⟨"LitReach", "countWithin", "(I)I"⟩, 9) := ⟨⟨by decide +kernel, by decide +kernel⟩, List.mem_of_getElem? (i := 6) (by decide +kernel), List.mem_of_getElem? (i := 165) (by decide +kernel), List.mem_of_getElem? (i := 166) (by decide +kernel)⟩
theorem lw_p19 : lw_okq (⟨"LitReach", "fillFromAllThings", "(I)V"⟩, 9) := ⟨⟨by decide +kernel, by decide +kernel⟩, List.mem_of_getElem? (i := 6) (by decide +kernel), List.mem_of_getElem? (i := 177) (by decide +kernel), List.mem_of_getElem? (i := 178) (by decide +kernel)⟩
theorem lw_p20 : lw_okq (⟨"LitReach", "spread", "(I)V"⟩, 9) := ⟨⟨by decide +kernel, by decide +kernel⟩, List.mem_of_getElem? (i := 6) (by decide +kernel), List.mem_of_getElem? (i := 187) (by decide +kernel), List.mem_of_getElem? (i := 188) (by decide +kernel)⟩
theorem lw_p21 : lw_okq (⟨"LitReach", "wallLoss", "(II)I"⟩, 9) := ⟨⟨by decide +kernel, by decide +kernel⟩, List.mem_of_getElem? (i := 6) (by decide +kernel), List.mem_of_getElem? (i := 191) (by decide +kernel), List.mem_of_getElem? (i := 192) (by decide +kernel)⟩
theorem lw_p22 : lw_okq (⟨"LitReach", "spreadOver", "(III)Z"⟩, 9) := ⟨⟨by decide +kernel, by decide +kernel⟩, List.mem_of_getElem? (i := 6) (by decide +kernel), List.mem_of_getElem? (i := 195) (by decide +kernel), List.mem_of_getElem? (i := 196) (by decide +kernel)⟩
theorem lw_p23 : lw_okq (⟨"LitReach", "doorLoss", "(II)I"⟩, 9) := ⟨⟨by decide +kernel, by decide +kernel⟩, List.mem_of_getElem? (i := 6) (by decide +kernel), List.mem_of_getElem? (i := 199) (by decide +kernel), List.mem_of_getElem? (i := 200) (by decide +kernel)⟩
theorem lw_p24 : lw_okq (⟨"LitReach", "fillFromOneSpace", "(II)V"⟩, 9) := ⟨⟨by decide +kernel, by decide +kernel⟩, List.mem_of_getElem? (i := 6) (by decide +kernel), List.mem_of_getElem? (i := 207) (by decide +kernel), List.mem_of_getElem? (i := 208) (by decide +kernel)⟩
theorem lw_p25 : lw_okq (⟨"LitReach", "lossAt", "(I)I"⟩, 9) := ⟨⟨by decide +kernel, by decide +kernel⟩, List.mem_of_getElem? (i := 6) (by decide +kernel), List.mem_of_getElem? (i := 211) (by decide +kernel), List.mem_of_getElem? (i := 212) (by decide +kernel)⟩
theorem lw_p26 : lw_okq (⟨"LitReach", "viewOf", "(I)I"⟩, 9) := ⟨⟨by decide +kernel, by decide +kernel⟩, List.mem_of_getElem? (i := 6) (by decide +kernel), List.mem_of_getElem? (i := 219) (by decide +kernel), List.mem_of_getElem? (i := 220) (by decide +kernel)⟩
theorem lw_p27 : lw_okq (⟨"LitReach", "widenedOverWalls", "(I)I"⟩, 9) := ⟨⟨by decide +kernel, by decide +kernel⟩, List.mem_of_getElem? (i := 6) (by decide +kernel), List.mem_of_getElem? (i := 223) (by decide +kernel), List.mem_of_getElem? (i := 224) (by decide +kernel)⟩
theorem lw_p28 : lw_okq (⟨"LitReach", "widenedOverOneDoor", "(I)I"⟩, 9) := ⟨⟨by decide +kernel, by decide +kernel⟩, List.mem_of_getElem? (i := 6) (by decide +kernel), List.mem_of_getElem? (i := 230) (by decide +kernel), List.mem_of_getElem? (i := 231) (by decide +kernel)⟩
theorem lw_p29 : lw_okq (⟨"LitReach", "isSeen", "(II)Z"⟩, 9) := ⟨⟨by decide +kernel, by decide +kernel⟩, List.mem_of_getElem? (i := 6) (by decide +kernel), List.mem_of_getElem? (i := 234) (by decide +kernel), List.mem_of_getElem? (i := 235) (by decide +kernel)⟩
theorem lw_p30 : lw_okq (⟨"LitReach", "partHeardOf", "(I)I"⟩, 9) := ⟨⟨by decide +kernel, by decide +kernel⟩, List.mem_of_getElem? (i := 6) (by decide +kernel), List.mem_of_getElem? (i := 250) (by decide +kernel), List.mem_of_getElem? (i := 251) (by decide +kernel)⟩
theorem lw_p31 : lw_okq (⟨"LitReachModel", "isThing", "(I)Z"⟩, 16) := ⟨⟨by decide +kernel, by decide +kernel⟩, List.mem_of_getElem? (i := 254) (by decide +kernel), List.mem_of_getElem? (i := 325) (by decide +kernel), List.mem_of_getElem? (i := 326) (by decide +kernel)⟩
def lw_privs_2 : List (MethodName × Nat) := [(⟨"LitReach", "spaceOf", "(I)I"⟩, 9), (⟨"LitReach", "isSpace", "(I)Z"⟩, 9), (⟨"LitReach", "countWithin", "(I)I"⟩, 9), (⟨"LitReach", "fillFromAllThings", "(I)V"⟩, 9), (⟨"LitReach", "spread", "(I)V"⟩, 9), (⟨"LitReach", "wallLoss", "(II)I"⟩, 9), (⟨"LitReach", "spreadOver", "(III)Z"⟩, 9), (⟨"LitReach", "doorLoss", "(II)I"⟩, 9), (⟨"LitReach", "fillFromOneSpace", "(II)V"⟩, 9), (⟨"LitReach", "lossAt", "(I)I"⟩, 9), (⟨"LitReach", "viewOf", "(I)I"⟩, 9), (⟨"LitReach", "widenedOverWalls", "(I)I"⟩, 9), (⟨"LitReach", "widenedOverOneDoor", "(I)I"⟩, 9), (⟨"LitReach", "isSeen", "(II)Z"⟩, 9), (⟨"LitReach", "partHeardOf", "(I)I"⟩, 9), (⟨"LitReachModel", "isThing", "(I)Z"⟩, 16)]
theorem lw_r2 : ∀ q ∈ lw_privs_2, lw_okq q := List.forall_mem_cons.mpr ⟨lw_p16, List.forall_mem_cons.mpr ⟨lw_p17, List.forall_mem_cons.mpr ⟨lw_p18, List.forall_mem_cons.mpr ⟨lw_p19, List.forall_mem_cons.mpr ⟨lw_p20, List.forall_mem_cons.mpr ⟨lw_p21, List.forall_mem_cons.mpr ⟨lw_p22, List.forall_mem_cons.mpr ⟨lw_p23, List.forall_mem_cons.mpr ⟨lw_p24, List.forall_mem_cons.mpr ⟨lw_p25, List.forall_mem_cons.mpr ⟨lw_p26, List.forall_mem_cons.mpr ⟨lw_p27, List.forall_mem_cons.mpr ⟨lw_p28, List.forall_mem_cons.mpr ⟨lw_p29, List.forall_mem_cons.mpr ⟨lw_p30, List.forall_mem_cons.mpr ⟨lw_p31, fun _ h => absurd h List.not_mem_nil⟩⟩⟩⟩⟩⟩⟩⟩⟩⟩⟩⟩⟩⟩⟩⟩
theorem lw_p32 : lw_okq (⟨"LitReachModel", "isWithin", "(II)Z"⟩, 16) := ⟨⟨by decide +kernel, by decide +kernel⟩, List.mem_of_getElem? (i := 254) (by decide +kernel), List.mem_of_getElem? (i := 329) (by decide +kernel), List.mem_of_getElem? (i := 330) (by decide +kernel)⟩
theorem lw_p33 : lw_okq (⟨"LitReachModel", "hasRoom", "(I)Z"⟩, 16) := ⟨⟨by decide +kernel, by decide +kernel⟩, List.mem_of_getElem? (i := 254) (by decide +kernel), List.mem_of_getElem? (i := 333) (by decide +kernel), List.mem_of_getElem? (i := 334) (by decide +kernel)⟩
theorem lw_p34 : lw_okq (⟨"LitReachModel", "heldBy", "(I)I"⟩, 16) := ⟨⟨by decide +kernel, by decide +kernel⟩, List.mem_of_getElem? (i := 254) (by decide +kernel), List.mem_of_getElem? (i := 337) (by decide +kernel), List.mem_of_getElem? (i := 338) (by decide +kernel)⟩
theorem lw_p35 : lw_okq (⟨"LitReachModel", "isOf", "(II)Z"⟩, 16) := ⟨⟨by decide +kernel, by decide +kernel⟩, List.mem_of_getElem? (i := 254) (by decide +kernel), List.mem_of_getElem? (i := 349) (by decide +kernel), List.mem_of_getElem? (i := 350) (by decide +kernel)⟩
theorem lw_p36 : lw_okq (⟨"LitReachModel", "isDoor", "(I)Z"⟩, 16) := ⟨⟨by decide +kernel, by decide +kernel⟩, List.mem_of_getElem? (i := 254) (by decide +kernel), List.mem_of_getElem? (i := 357) (by decide +kernel), List.mem_of_getElem? (i := 358) (by decide +kernel)⟩
theorem lw_p37 : lw_okq (⟨"LitReachModel", "findWay", "(II)Z"⟩, 16) := ⟨⟨by decide +kernel, by decide +kernel⟩, List.mem_of_getElem? (i := 254) (by decide +kernel), List.mem_of_getElem? (i := 365) (by decide +kernel), List.mem_of_getElem? (i := 366) (by decide +kernel)⟩
theorem lw_p38 : lw_okq (⟨"LitReachModel", "firstBarrier", "()I"⟩, 16) := ⟨⟨by decide +kernel, by decide +kernel⟩, List.mem_of_getElem? (i := 254) (by decide +kernel), List.mem_of_getElem? (i := 369) (by decide +kernel), List.mem_of_getElem? (i := 370) (by decide +kernel)⟩
theorem lw_p39 : lw_okq (⟨"LitReachModel", "isShut", "(I)Z"⟩, 16) := ⟨⟨by decide +kernel, by decide +kernel⟩, List.mem_of_getElem? (i := 254) (by decide +kernel), List.mem_of_getElem? (i := 373) (by decide +kernel), List.mem_of_getElem? (i := 374) (by decide +kernel)⟩
theorem lw_p40 : lw_okq (⟨"LitReachModel", "spaceOf", "(I)I"⟩, 16) := ⟨⟨by decide +kernel, by decide +kernel⟩, List.mem_of_getElem? (i := 254) (by decide +kernel), List.mem_of_getElem? (i := 397) (by decide +kernel), List.mem_of_getElem? (i := 398) (by decide +kernel)⟩
theorem lw_p41 : lw_okq (⟨"LitReachModel", "isSpace", "(I)Z"⟩, 16) := ⟨⟨by decide +kernel, by decide +kernel⟩, List.mem_of_getElem? (i := 254) (by decide +kernel), List.mem_of_getElem? (i := 401) (by decide +kernel), List.mem_of_getElem? (i := 402) (by decide +kernel)⟩
theorem lw_p42 : lw_okq (⟨"LitReachModel", "findLosses", "(IZ)V"⟩, 16) := ⟨⟨by decide +kernel, by decide +kernel⟩, List.mem_of_getElem? (i := 254) (by decide +kernel), List.mem_of_getElem? (i := 413) (by decide +kernel), List.mem_of_getElem? (i := 414) (by decide +kernel)⟩
theorem lw_p43 : lw_okq (⟨"LitReachModel", "joins", "(III)V"⟩, 16) := ⟨⟨by decide +kernel, by decide +kernel⟩, List.mem_of_getElem? (i := 254) (by decide +kernel), List.mem_of_getElem? (i := 420) (by decide +kernel), List.mem_of_getElem? (i := 421) (by decide +kernel)⟩
theorem lw_p44 : lw_okq (⟨"LitReachModel", "greatest", "(II)I"⟩, 16) := ⟨⟨by decide +kernel, by decide +kernel⟩, List.mem_of_getElem? (i := 254) (by decide +kernel), List.mem_of_getElem? (i := 424) (by decide +kernel), List.mem_of_getElem? (i := 425) (by decide +kernel)⟩
theorem lw_p45 : lw_okq (⟨"LitReachModel", "looks", "()V"⟩, 16) := ⟨⟨by decide +kernel, by decide +kernel⟩, List.mem_of_getElem? (i := 254) (by decide +kernel), List.mem_of_getElem? (i := 436) (by decide +kernel), List.mem_of_getElem? (i := 437) (by decide +kernel)⟩
theorem lw_p46 : lw_okq (⟨"LitReachModel", "isSeen", "(II)Z"⟩, 16) := ⟨⟨by decide +kernel, by decide +kernel⟩, List.mem_of_getElem? (i := 254) (by decide +kernel), List.mem_of_getElem? (i := 440) (by decide +kernel), List.mem_of_getElem? (i := 441) (by decide +kernel)⟩
theorem lw_p47 : lw_okq (⟨"LitReachModel", "passes", "(II)Z"⟩, 16) := ⟨⟨by decide +kernel, by decide +kernel⟩, List.mem_of_getElem? (i := 254) (by decide +kernel), List.mem_of_getElem? (i := 444) (by decide +kernel), List.mem_of_getElem? (i := 445) (by decide +kernel)⟩
def lw_privs_3 : List (MethodName × Nat) := [(⟨"LitReachModel", "isWithin", "(II)Z"⟩, 16), (⟨"LitReachModel", "hasRoom", "(I)Z"⟩, 16), (⟨"LitReachModel", "heldBy", "(I)I"⟩, 16), (⟨"LitReachModel", "isOf", "(II)Z"⟩, 16), (⟨"LitReachModel", "isDoor", "(I)Z"⟩, 16), (⟨"LitReachModel", "findWay", "(II)Z"⟩, 16), (⟨"LitReachModel", "firstBarrier", "()I"⟩, 16), (⟨"LitReachModel", "isShut", "(I)Z"⟩, 16), (⟨"LitReachModel", "spaceOf", "(I)I"⟩, 16), (⟨"LitReachModel", "isSpace", "(I)Z"⟩, 16), (⟨"LitReachModel", "findLosses", "(IZ)V"⟩, 16), (⟨"LitReachModel", "joins", "(III)V"⟩, 16), (⟨"LitReachModel", "greatest", "(II)I"⟩, 16), (⟨"LitReachModel", "looks", "()V"⟩, 16), (⟨"LitReachModel", "isSeen", "(II)Z"⟩, 16), (⟨"LitReachModel", "passes", "(II)Z"⟩, 16)]
theorem lw_r3 : ∀ q ∈ lw_privs_3, lw_okq q := List.forall_mem_cons.mpr ⟨lw_p32, List.forall_mem_cons.mpr ⟨lw_p33, List.forall_mem_cons.mpr ⟨lw_p34, List.forall_mem_cons.mpr ⟨lw_p35, List.forall_mem_cons.mpr ⟨lw_p36, List.forall_mem_cons.mpr ⟨lw_p37, List.forall_mem_cons.mpr ⟨lw_p38, List.forall_mem_cons.mpr ⟨lw_p39, List.forall_mem_cons.mpr ⟨lw_p40, List.forall_mem_cons.mpr ⟨lw_p41, List.forall_mem_cons.mpr ⟨lw_p42, List.forall_mem_cons.mpr ⟨lw_p43, List.forall_mem_cons.mpr ⟨lw_p44, List.forall_mem_cons.mpr ⟨lw_p45, List.forall_mem_cons.mpr ⟨lw_p46, List.forall_mem_cons.mpr ⟨lw_p47, fun _ h => absurd h List.not_mem_nil⟩⟩⟩⟩⟩⟩⟩⟩⟩⟩⟩⟩⟩⟩⟩⟩
theorem lw_p48 : lw_okq (⟨"LitReachModel", "isReached", "(II)Z"⟩, 16) := ⟨⟨by decide +kernel, by decide +kernel⟩, List.mem_of_getElem? (i := 254) (by decide +kernel), List.mem_of_getElem? (i := 456) (by decide +kernel), List.mem_of_getElem? (i := 457) (by decide +kernel)⟩
def lw_privs_4 : List (MethodName × Nat) := [(⟨"LitReachModel", "isReached", "(II)Z"⟩, 16)]
theorem lw_r4 : ∀ q ∈ lw_privs_4, lw_okq q := List.forall_mem_cons.mpr ⟨lw_p48, fun _ h => absurd h List.not_mem_nil⟩
def lw_privs : List (MethodName × Nat) := lw_privs_1 ++ (lw_privs_2 ++ (lw_privs_3 ++ (lw_privs_4)))
def lw_tbl : List Cond := k2_sels lw_privs ++ tables_1
theorem lw_privs_ok : ∀ q ∈ lw_privs, lw_okq q := by
  show ∀ q ∈ lw_privs_1 ++ (lw_privs_2 ++ (lw_privs_3 ++ (lw_privs_4))), lw_okq q
  exact List.forall_mem_append.mpr ⟨lw_r1, List.forall_mem_append.mpr ⟨lw_r2, List.forall_mem_append.mpr ⟨lw_r3, lw_r4⟩⟩⟩
-- ===== end of PART A
def R_law : String := "LitReachLaw"
def BW : List Cond := lw_tbl.filter goodWord
theorem BW_good : ∀ w ∈ BW, goodWord w = true := fun _ h => (List.mem_filter.mp h).2
theorem BW_sub : ∀ w ∈ BW, w ∈ lw_tbl := fun _ h => (List.mem_filter.mp h).1
def R_C : String := "LitReach"
def R_M : String := "LitReachModel"
def R_A : String := "java/util/Arrays"
def R_X : String := "java/lang/Math"
-- fields of LitReach: things sorts holders thingMarks doors doorFrom doorTo doorMarks levels
def F_C : u_T := fun k => match k with
  | 0 => ("LitReach", "things", "I", false)
  | 1 => ("LitReach", "sorts", "[I", true)
  | 2 => ("LitReach", "holders", "[I", true)
  | 3 => ("LitReach", "thingMarks", "[[I", true)
  | 4 => ("LitReach", "doors", "I", false)
  | 5 => ("LitReach", "doorFrom", "[I", true)
  | 6 => ("LitReach", "doorTo", "[I", true)
  | 7 => ("LitReach", "doorMarks", "[[I", true)
  | _ => ("LitReach", "levels", "[I", true)
def t_C : Nat → FieldType := fun k => match k with
  | 0 => .int
  | 1 => .array .int
  | 2 => .array .int
  | 3 => .array (.array .int)
  | 4 => .int
  | 5 => .array .int
  | 6 => .array .int
  | 7 => .array (.array .int)
  | _ => .array .int
theorem n_C : ∀ a, a < 9 → ∀ b, b < 9 → a ≠ b → (F_C a).2.1 ≠ (F_C b).2.1 := by decide +kernel
theorem t_C_ok : ∀ k, k < 9 → parseFieldDescriptor (F_C k).2.2.1 = some (t_C k) := by decide +kernel
theorem i_C : ∀ w ∈ u_ws R_C F_C 9, w ∈ BW := fun w h => List.mem_filter.mpr ⟨(by decide +kernel : ∀ w ∈ u_ws R_C F_C 9, w ∈ lw_tbl) w h, (by decide +kernel : ∀ w ∈ u_ws R_C F_C 9, goodWord w = true) w h⟩
-- fields of LitReachModel: n sorts holders states doors doorFrom doorTo doorOpen doorClear outs ins wayOut wayIn losses byBoxes bright
def F_M : u_T := fun k => match k with
  | 0 => ("LitReachModel", "n", "I", false)
  | 1 => ("LitReachModel", "sorts", "[I", true)
  | 2 => ("LitReachModel", "holders", "[I", true)
  | 3 => ("LitReachModel", "states", "[I", true)
  | 4 => ("LitReachModel", "doors", "I", false)
  | 5 => ("LitReachModel", "doorFrom", "[I", true)
  | 6 => ("LitReachModel", "doorTo", "[I", true)
  | 7 => ("LitReachModel", "doorOpen", "[I", true)
  | 8 => ("LitReachModel", "doorClear", "[I", true)
  | 9 => ("LitReachModel", "outs", "I", false)
  | 10 => ("LitReachModel", "ins", "I", false)
  | 11 => ("LitReachModel", "wayOut", "[I", true)
  | 12 => ("LitReachModel", "wayIn", "[I", true)
  | 13 => ("LitReachModel", "losses", "[I", true)
  | 14 => ("LitReachModel", "byBoxes", "[Z", true)
  | _ => ("LitReachModel", "bright", "[Z", true)
def t_M : Nat → FieldType := fun k => match k with
  | 0 => .int
  | 1 => .array .int
  | 2 => .array .int
  | 3 => .array .int
  | 4 => .int
  | 5 => .array .int
  | 6 => .array .int
  | 7 => .array .int
  | 8 => .array .int
  | 9 => .int
  | 10 => .int
  | 11 => .array .int
  | 12 => .array .int
  | 13 => .array .int
  | 14 => .array .boolean
  | _ => .array .boolean
theorem n_M : ∀ a, a < 16 → ∀ b, b < 16 → a ≠ b → (F_M a).2.1 ≠ (F_M b).2.1 := by decide +kernel
theorem t_M_ok : ∀ k, k < 16 → parseFieldDescriptor (F_M k).2.2.1 = some (t_M k) := by decide +kernel
theorem i_M : ∀ w ∈ u_ws R_M F_M 16, w ∈ BW := fun w h => List.mem_filter.mpr ⟨(by decide +kernel : ∀ w ∈ u_ws R_M F_M 16, w ∈ lw_tbl) w h, (by decide +kernel : ∀ w ∈ u_ws R_M F_M 16, goodWord w = true) w h⟩
abbrev classes : List vw_C := [(R_C, F_C, 9), (R_M, F_M, 16)]
abbrev b_C_init : ByteArray := prog_1_method_1_code
def y_C_init : MethodName := ⟨R_C, "<init>", "()V"⟩
abbrev b_C_thing : ByteArray := prog_1_method_2_code
def y_C_thing : MethodName := ⟨R_C, "thing", "(I)I"⟩
abbrev b_C_clear : ByteArray := prog_1_method_3_code
def y_C_clear : MethodName := ⟨R_C, "clear", "()I"⟩
abbrev b_C_put : ByteArray := prog_1_method_4_code
def y_C_put : MethodName := ⟨R_C, "put", "(II)I"⟩
abbrev b_C_isThing : ByteArray := prog_1_method_21_code
def y_C_isThing : MethodName := ⟨R_C, "isThing", "(I)Z"⟩
abbrev b_C_sortOf : ByteArray := prog_1_method_23_code
def y_C_sortOf : MethodName := ⟨R_C, "sortOf", "(I)I"⟩
abbrev b_C_isWithin : ByteArray := prog_1_method_34_code
def y_C_isWithin : MethodName := ⟨R_C, "isWithin", "(II)Z"⟩
abbrev b_C_holderOf : ByteArray := prog_1_method_24_code
def y_C_holderOf : MethodName := ⟨R_C, "holderOf", "(I)I"⟩
abbrev b_C_isFull : ByteArray := prog_1_method_31_code
def y_C_isFull : MethodName := ⟨R_C, "isFull", "(I)Z"⟩
abbrev b_C_countHeldBy : ByteArray := prog_1_method_32_code
def y_C_countHeldBy : MethodName := ⟨R_C, "countHeldBy", "(I)I"⟩
abbrev b_C_set : ByteArray := prog_1_method_5_code
def y_C_set : MethodName := ⟨R_C, "set", "(III)I"⟩
abbrev b_C_door : ByteArray := prog_1_method_6_code
def y_C_door : MethodName := ⟨R_C, "door", "(II)I"⟩
abbrev b_C_turn : ByteArray := prog_1_method_7_code
def y_C_turn : MethodName := ⟨R_C, "turn", "(III)I"⟩
abbrev b_C_isDoor : ByteArray := prog_1_method_22_code
def y_C_isDoor : MethodName := ⟨R_C, "isDoor", "(I)Z"⟩
abbrev b_C_take : ByteArray := prog_1_method_8_code
def y_C_take : MethodName := ⟨R_C, "take", "(II)I"⟩
abbrev b_C_isPerson : ByteArray := prog_1_method_26_code
def y_C_isPerson : MethodName := ⟨R_C, "isPerson", "(I)Z"⟩
abbrev b_C_firstBarrier : ByteArray := prog_1_method_36_code
def y_C_firstBarrier : MethodName := ⟨R_C, "firstBarrier", "(II)I"⟩
abbrev b_C_turningPoint : ByteArray := prog_1_method_37_code
def y_C_turningPoint : MethodName := ⟨R_C, "turningPoint", "(II)I"⟩
abbrev b_C_firstBarrierOut : ByteArray := prog_1_method_38_code
def y_C_firstBarrierOut : MethodName := ⟨R_C, "firstBarrierOut", "(II)I"⟩
abbrev b_C_isShutBox : ByteArray := prog_1_method_27_code
def y_C_isShutBox : MethodName := ⟨R_C, "isShutBox", "(I)Z"⟩
abbrev b_C_markOf : ByteArray := prog_1_method_25_code
def y_C_markOf : MethodName := ⟨R_C, "markOf", "(II)I"⟩
abbrev b_C_firstBarrierIn : ByteArray := prog_1_method_39_code
def y_C_firstBarrierIn : MethodName := ⟨R_C, "firstBarrierIn", "(II)I"⟩
abbrev b_C_give : ByteArray := prog_1_method_9_code
def y_C_give : MethodName := ⟨R_C, "give", "(III)I"⟩
abbrev b_C_hasInHands : ByteArray := prog_1_method_30_code
def y_C_hasInHands : MethodName := ⟨R_C, "hasInHands", "(II)Z"⟩
abbrev b_C_mayBeGivenTo : ByteArray := prog_1_method_29_code
def y_C_mayBeGivenTo : MethodName := ⟨R_C, "mayBeGivenTo", "(I)Z"⟩
abbrev b_C_drop : ByteArray := prog_1_method_10_code
def y_C_drop : MethodName := ⟨R_C, "drop", "(II)I"⟩
abbrev b_C_go : ByteArray := prog_1_method_11_code
def y_C_go : MethodName := ⟨R_C, "go", "(II)I"⟩
abbrev b_C_count : ByteArray := prog_1_method_12_code
def y_C_count : MethodName := ⟨R_C, "count", "(I)I"⟩
abbrev b_C_told : ByteArray := prog_1_method_13_code
def y_C_told : MethodName := ⟨R_C, "told", "(II)I"⟩
abbrev b_C_spaceOf : ByteArray := prog_1_method_35_code
def y_C_spaceOf : MethodName := ⟨R_C, "spaceOf", "(I)I"⟩
abbrev b_C_isSpace : ByteArray := prog_1_method_28_code
def y_C_isSpace : MethodName := ⟨R_C, "isSpace", "(I)Z"⟩
abbrev b_C_countWithin : ByteArray := prog_1_method_33_code
def y_C_countWithin : MethodName := ⟨R_C, "countWithin", "(I)I"⟩
abbrev b_C_held : ByteArray := prog_1_method_14_code
def y_C_held : MethodName := ⟨R_C, "held", "(II)I"⟩
abbrev b_C_space : ByteArray := prog_1_method_15_code
def y_C_space : MethodName := ⟨R_C, "space", "(II)I"⟩
abbrev b_C_fillFromAllThings : ByteArray := prog_1_method_42_code
def y_C_fillFromAllThings : MethodName := ⟨R_C, "fillFromAllThings", "(I)V"⟩
abbrev b_A_fill : ByteArray := prog_5_method_103_code
def y_A_fill : MethodName := ⟨R_A, "fill", "([II)V"⟩
abbrev b_X_max : ByteArray := prog_4_method_65_code
def y_X_max : MethodName := ⟨R_X, "max", "(II)I"⟩
abbrev b_C_spread : ByteArray := prog_1_method_45_code
def y_C_spread : MethodName := ⟨R_C, "spread", "(I)V"⟩
abbrev b_C_wallLoss : ByteArray := prog_1_method_40_code
def y_C_wallLoss : MethodName := ⟨R_C, "wallLoss", "(II)I"⟩
abbrev b_C_spreadOver : ByteArray := prog_1_method_46_code
def y_C_spreadOver : MethodName := ⟨R_C, "spreadOver", "(III)Z"⟩
abbrev b_C_doorLoss : ByteArray := prog_1_method_41_code
def y_C_doorLoss : MethodName := ⟨R_C, "doorLoss", "(II)I"⟩
abbrev b_C_loses : ByteArray := prog_1_method_16_code
def y_C_loses : MethodName := ⟨R_C, "loses", "(III)I"⟩
abbrev b_C_fillFromOneSpace : ByteArray := prog_1_method_43_code
def y_C_fillFromOneSpace : MethodName := ⟨R_C, "fillFromOneSpace", "(II)V"⟩
abbrev b_C_lossAt : ByteArray := prog_1_method_44_code
def y_C_lossAt : MethodName := ⟨R_C, "lossAt", "(I)I"⟩
abbrev b_C_sees : ByteArray := prog_1_method_17_code
def y_C_sees : MethodName := ⟨R_C, "sees", "(II)I"⟩
abbrev b_C_viewOf : ByteArray := prog_1_method_48_code
def y_C_viewOf : MethodName := ⟨R_C, "viewOf", "(I)I"⟩
abbrev b_C_widenedOverWalls : ByteArray := prog_1_method_49_code
def y_C_widenedOverWalls : MethodName := ⟨R_C, "widenedOverWalls", "(I)I"⟩
abbrev b_C_endsIfTouched : ByteArray := prog_1_method_51_code
def y_C_endsIfTouched : MethodName := ⟨R_C, "endsIfTouched", "(III)I"⟩
abbrev b_C_widenedOverOneDoor : ByteArray := prog_1_method_50_code
def y_C_widenedOverOneDoor : MethodName := ⟨R_C, "widenedOverOneDoor", "(I)I"⟩
abbrev b_C_isSeen : ByteArray := prog_1_method_52_code
def y_C_isSeen : MethodName := ⟨R_C, "isSeen", "(II)Z"⟩
abbrev b_C_barrier : ByteArray := prog_1_method_18_code
def y_C_barrier : MethodName := ⟨R_C, "barrier", "(II)I"⟩
abbrev b_C_scope : ByteArray := prog_1_method_19_code
def y_C_scope : MethodName := ⟨R_C, "scope", "(II)I"⟩
abbrev b_C_hears : ByteArray := prog_1_method_20_code
def y_C_hears : MethodName := ⟨R_C, "hears", "(I)I"⟩
abbrev b_C_partHeardOf : ByteArray := prog_1_method_47_code
def y_C_partHeardOf : MethodName := ⟨R_C, "partHeardOf", "(I)I"⟩
abbrev b_M_init : ByteArray := prog_3_method_1_code
def y_M_init : MethodName := ⟨R_M, "<init>", "()V"⟩
abbrev b_M_thing : ByteArray := prog_3_method_8_code
def y_M_thing : MethodName := ⟨R_M, "thing", "(I)I"⟩
abbrev b_M_in : ByteArray := prog_3_method_3_code
def y_M_in : MethodName := ⟨R_M, "in", "(III)Z"⟩
abbrev b_M_clear : ByteArray := prog_3_method_9_code
def y_M_clear : MethodName := ⟨R_M, "clear", "()I"⟩
abbrev b_M_put : ByteArray := prog_3_method_13_code
def y_M_put : MethodName := ⟨R_M, "put", "(II)I"⟩
abbrev b_M_isThing : ByteArray := prog_3_method_4_code
def y_M_isThing : MethodName := ⟨R_M, "isThing", "(I)Z"⟩
abbrev b_M_isWithin : ByteArray := prog_3_method_10_code
def y_M_isWithin : MethodName := ⟨R_M, "isWithin", "(II)Z"⟩
abbrev b_M_hasRoom : ByteArray := prog_3_method_12_code
def y_M_hasRoom : MethodName := ⟨R_M, "hasRoom", "(I)Z"⟩
abbrev b_M_heldBy : ByteArray := prog_3_method_11_code
def y_M_heldBy : MethodName := ⟨R_M, "heldBy", "(I)I"⟩
abbrev b_M_set : ByteArray := prog_3_method_14_code
def y_M_set : MethodName := ⟨R_M, "set", "(III)I"⟩
abbrev b_M_door : ByteArray := prog_3_method_15_code
def y_M_door : MethodName := ⟨R_M, "door", "(II)I"⟩
abbrev b_M_isOf : ByteArray := prog_3_method_5_code
def y_M_isOf : MethodName := ⟨R_M, "isOf", "(II)Z"⟩
abbrev b_M_turn : ByteArray := prog_3_method_16_code
def y_M_turn : MethodName := ⟨R_M, "turn", "(III)I"⟩
abbrev b_M_isDoor : ByteArray := prog_3_method_7_code
def y_M_isDoor : MethodName := ⟨R_M, "isDoor", "(I)Z"⟩
abbrev b_M_take : ByteArray := prog_3_method_21_code
def y_M_take : MethodName := ⟨R_M, "take", "(II)I"⟩
abbrev b_M_findWay : ByteArray := prog_3_method_17_code
def y_M_findWay : MethodName := ⟨R_M, "findWay", "(II)Z"⟩
abbrev b_M_firstBarrier : ByteArray := prog_3_method_19_code
def y_M_firstBarrier : MethodName := ⟨R_M, "firstBarrier", "()I"⟩
abbrev b_M_isShut : ByteArray := prog_3_method_18_code
def y_M_isShut : MethodName := ⟨R_M, "isShut", "(I)Z"⟩
abbrev b_M_give : ByteArray := prog_3_method_22_code
def y_M_give : MethodName := ⟨R_M, "give", "(III)I"⟩
abbrev b_M_drop : ByteArray := prog_3_method_23_code
def y_M_drop : MethodName := ⟨R_M, "drop", "(II)I"⟩
abbrev b_M_go : ByteArray := prog_3_method_24_code
def y_M_go : MethodName := ⟨R_M, "go", "(II)I"⟩
abbrev b_M_count : ByteArray := prog_3_method_30_code
def y_M_count : MethodName := ⟨R_M, "count", "(I)I"⟩
abbrev b_M_told : ByteArray := prog_3_method_31_code
def y_M_told : MethodName := ⟨R_M, "told", "(II)I"⟩
abbrev b_M_spaceOf : ByteArray := prog_3_method_25_code
def y_M_spaceOf : MethodName := ⟨R_M, "spaceOf", "(I)I"⟩
abbrev b_M_isSpace : ByteArray := prog_3_method_6_code
def y_M_isSpace : MethodName := ⟨R_M, "isSpace", "(I)Z"⟩
abbrev b_M_held : ByteArray := prog_3_method_32_code
def y_M_held : MethodName := ⟨R_M, "held", "(II)I"⟩
abbrev b_M_space : ByteArray := prog_3_method_33_code
def y_M_space : MethodName := ⟨R_M, "space", "(II)I"⟩
abbrev b_M_findLosses : ByteArray := prog_3_method_28_code
def y_M_findLosses : MethodName := ⟨R_M, "findLosses", "(IZ)V"⟩
abbrev b_M_lossOf : ByteArray := prog_3_method_27_code
def y_M_lossOf : MethodName := ⟨R_M, "lossOf", "(IZZZ)I"⟩
abbrev b_M_joins : ByteArray := prog_3_method_26_code
def y_M_joins : MethodName := ⟨R_M, "joins", "(III)V"⟩
abbrev b_M_greatest : ByteArray := prog_3_method_29_code
def y_M_greatest : MethodName := ⟨R_M, "greatest", "(II)I"⟩
abbrev b_M_loses : ByteArray := prog_3_method_34_code
def y_M_loses : MethodName := ⟨R_M, "loses", "(III)I"⟩
abbrev b_M_sees : ByteArray := prog_3_method_38_code
def y_M_sees : MethodName := ⟨R_M, "sees", "(II)I"⟩
abbrev b_M_looks : ByteArray := prog_3_method_35_code
def y_M_looks : MethodName := ⟨R_M, "looks", "()V"⟩
abbrev b_M_isSeen : ByteArray := prog_3_method_37_code
def y_M_isSeen : MethodName := ⟨R_M, "isSeen", "(II)Z"⟩
abbrev b_M_passes : ByteArray := prog_3_method_36_code
def y_M_passes : MethodName := ⟨R_M, "passes", "(II)Z"⟩
abbrev b_M_barrier : ByteArray := prog_3_method_39_code
def y_M_barrier : MethodName := ⟨R_M, "barrier", "(II)I"⟩
abbrev b_M_scope : ByteArray := prog_3_method_40_code
def y_M_scope : MethodName := ⟨R_M, "scope", "(II)I"⟩
abbrev b_M_isReached : ByteArray := prog_3_method_20_code
def y_M_isReached : MethodName := ⟨R_M, "isReached", "(II)Z"⟩
abbrev b_M_hears : ByteArray := prog_3_method_41_code
def y_M_hears : MethodName := ⟨R_M, "hears", "(I)I"⟩
theorem q_ini_L : Cond.initialized R_law ∈ BW := List.mem_filter.mpr ⟨List.mem_of_getElem? (i := 49) rfl, rfl⟩
theorem q_ini_C : Cond.initialized R_C ∈ BW := List.mem_filter.mpr ⟨List.mem_of_getElem? (i := 50) rfl, rfl⟩
theorem q_ini_M : Cond.initialized R_M ∈ BW := List.mem_filter.mpr ⟨List.mem_of_getElem? (i := 51) rfl, rfl⟩
theorem q_ini_A : Cond.initialized R_A ∈ BW := List.mem_filter.mpr ⟨List.mem_of_getElem? (i := 52) rfl, rfl⟩
theorem q_ini_X : Cond.initialized R_X ∈ BW := List.mem_filter.mpr ⟨List.mem_of_getElem? (i := 53) rfl, rfl⟩
theorem q_cl_L_7 : Cond.classLink R_law 7 "LitReach" ∈ BW := List.mem_filter.mpr ⟨List.mem_of_getElem? (i := 54) rfl, rfl⟩
theorem q_inst_C : Cond.instantiable R_C 9 ∈ BW := List.mem_filter.mpr ⟨List.mem_of_getElem? (i := 55) rfl, rfl⟩
theorem q_ml_L_9 : Cond.methodLink R_law 9 y_C_init ∈ BW := List.mem_filter.mpr ⟨List.mem_of_getElem? (i := 56) rfl, rfl⟩
theorem q_im_C_init : Cond.instanceMethod y_C_init ∈ BW := List.mem_filter.mpr ⟨List.mem_of_getElem? (i := 57) rfl, rfl⟩
theorem q_code_C_init : Cond.code y_C_init b_C_init 1 none ∈ BW := List.mem_filter.mpr ⟨List.mem_of_getElem? (i := 58) rfl, rfl⟩
theorem q_ml_C_1 : Cond.methodLink R_C 1 objectInit ∈ BW := List.mem_filter.mpr ⟨List.mem_of_getElem? (i := 59) rfl, rfl⟩
theorem q_im_O : Cond.instanceMethod objectInit ∈ BW := List.mem_filter.mpr ⟨List.mem_of_getElem? (i := 60) rfl, rfl⟩
theorem q_code_O : Cond.code objectInit ⟨#[0xb1]⟩ 1 none ∈ BW := List.mem_filter.mpr ⟨List.mem_of_getElem? (i := 61) rfl, rfl⟩
theorem q_cl_C_20 : Cond.classLink R_C 20 "[[I" ∈ BW := List.mem_filter.mpr ⟨List.mem_of_getElem? (i := 62) rfl, rfl⟩
theorem q_ao_int : Cond.arrayOver (.array .int) ∈ lw_tbl := List.mem_of_getElem? (i := 63) rfl
theorem fl_C_7 : Cond.fieldLink R_C 7 "LitReach" "things" "I" ∈ BW := List.mem_filter.mpr ⟨List.mem_of_getElem? (i := 64) rfl, rfl⟩
theorem fl_C_13 : Cond.fieldLink R_C 13 "LitReach" "sorts" "[I" ∈ BW := List.mem_filter.mpr ⟨List.mem_of_getElem? (i := 65) rfl, rfl⟩
theorem fl_C_17 : Cond.fieldLink R_C 17 "LitReach" "holders" "[I" ∈ BW := List.mem_filter.mpr ⟨List.mem_of_getElem? (i := 66) rfl, rfl⟩
theorem fl_C_22 : Cond.fieldLink R_C 22 "LitReach" "thingMarks" "[[I" ∈ BW := List.mem_filter.mpr ⟨List.mem_of_getElem? (i := 67) rfl, rfl⟩
theorem fl_C_25 : Cond.fieldLink R_C 25 "LitReach" "doors" "I" ∈ BW := List.mem_filter.mpr ⟨List.mem_of_getElem? (i := 68) rfl, rfl⟩
theorem fl_C_28 : Cond.fieldLink R_C 28 "LitReach" "doorFrom" "[I" ∈ BW := List.mem_filter.mpr ⟨List.mem_of_getElem? (i := 69) rfl, rfl⟩
theorem fl_C_31 : Cond.fieldLink R_C 31 "LitReach" "doorTo" "[I" ∈ BW := List.mem_filter.mpr ⟨List.mem_of_getElem? (i := 70) rfl, rfl⟩
theorem fl_C_34 : Cond.fieldLink R_C 34 "LitReach" "doorMarks" "[[I" ∈ BW := List.mem_filter.mpr ⟨List.mem_of_getElem? (i := 71) rfl, rfl⟩
theorem fl_C_37 : Cond.fieldLink R_C 37 "LitReach" "levels" "[I" ∈ BW := List.mem_filter.mpr ⟨List.mem_of_getElem? (i := 72) rfl, rfl⟩
theorem q_ac_int : Cond.arrayClass .int ∈ BW := List.mem_filter.mpr ⟨List.mem_of_getElem? (i := 92) rfl, rfl⟩
theorem q_ml_L_13 : Cond.methodLink R_law 13 y_C_thing ∈ BW := List.mem_filter.mpr ⟨List.mem_of_getElem? (i := 93) rfl, rfl⟩
theorem q_im_C_thing : Cond.instanceMethod y_C_thing ∈ BW := List.mem_filter.mpr ⟨List.mem_of_getElem? (i := 94) rfl, rfl⟩
theorem q_sel_C_thing : Cond.selects R_C y_C_thing y_C_thing ∈ BW := List.mem_filter.mpr ⟨List.mem_of_getElem? (i := 95) rfl, rfl⟩
theorem q_code_C_thing : Cond.code y_C_thing b_C_thing 4 (some .int) ∈ BW := List.mem_filter.mpr ⟨List.mem_of_getElem? (i := 96) rfl, rfl⟩
theorem q_ml_L_18 : Cond.methodLink R_law 18 y_C_clear ∈ BW := List.mem_filter.mpr ⟨List.mem_of_getElem? (i := 97) rfl, rfl⟩
theorem q_im_C_clear : Cond.instanceMethod y_C_clear ∈ BW := List.mem_filter.mpr ⟨List.mem_of_getElem? (i := 98) rfl, rfl⟩
theorem q_sel_C_clear : Cond.selects R_C y_C_clear y_C_clear ∈ BW := List.mem_filter.mpr ⟨List.mem_of_getElem? (i := 99) rfl, rfl⟩
theorem q_code_C_clear : Cond.code y_C_clear b_C_clear 2 (some .int) ∈ BW := List.mem_filter.mpr ⟨List.mem_of_getElem? (i := 100) rfl, rfl⟩
theorem q_ml_L_23 : Cond.methodLink R_law 23 y_C_put ∈ BW := List.mem_filter.mpr ⟨List.mem_of_getElem? (i := 101) rfl, rfl⟩
theorem q_im_C_put : Cond.instanceMethod y_C_put ∈ BW := List.mem_filter.mpr ⟨List.mem_of_getElem? (i := 102) rfl, rfl⟩
theorem q_sel_C_put : Cond.selects R_C y_C_put y_C_put ∈ BW := List.mem_filter.mpr ⟨List.mem_of_getElem? (i := 103) rfl, rfl⟩
theorem q_code_C_put : Cond.code y_C_put b_C_put 4 (some .int) ∈ BW := List.mem_filter.mpr ⟨List.mem_of_getElem? (i := 104) rfl, rfl⟩
theorem q_ml_C_40 : Cond.methodLink R_C 40 y_C_isThing ∈ BW := List.mem_filter.mpr ⟨List.mem_of_getElem? (i := 105) rfl, rfl⟩
theorem q_im_C_isThing : Cond.instanceMethod y_C_isThing ∈ BW := List.mem_filter.mpr ⟨List.mem_of_getElem? (i := 107) rfl, rfl⟩
theorem q_code_C_isThing : Cond.code y_C_isThing b_C_isThing 2 (some .boolean) ∈ BW := List.mem_filter.mpr ⟨List.mem_of_getElem? (i := 108) rfl, rfl⟩
theorem q_ml_C_44 : Cond.methodLink R_C 44 y_C_sortOf ∈ BW := List.mem_filter.mpr ⟨List.mem_of_getElem? (i := 109) rfl, rfl⟩
theorem q_im_C_sortOf : Cond.instanceMethod y_C_sortOf ∈ BW := List.mem_filter.mpr ⟨List.mem_of_getElem? (i := 111) rfl, rfl⟩
theorem q_code_C_sortOf : Cond.code y_C_sortOf b_C_sortOf 2 (some .int) ∈ BW := List.mem_filter.mpr ⟨List.mem_of_getElem? (i := 112) rfl, rfl⟩
theorem q_ml_C_48 : Cond.methodLink R_C 48 y_C_isWithin ∈ BW := List.mem_filter.mpr ⟨List.mem_of_getElem? (i := 113) rfl, rfl⟩
theorem q_im_C_isWithin : Cond.instanceMethod y_C_isWithin ∈ BW := List.mem_filter.mpr ⟨List.mem_of_getElem? (i := 115) rfl, rfl⟩
theorem q_code_C_isWithin : Cond.code y_C_isWithin b_C_isWithin 5 (some .boolean) ∈ BW := List.mem_filter.mpr ⟨List.mem_of_getElem? (i := 116) rfl, rfl⟩
theorem q_ml_C_74 : Cond.methodLink R_C 74 y_C_holderOf ∈ BW := List.mem_filter.mpr ⟨List.mem_of_getElem? (i := 117) rfl, rfl⟩
theorem q_im_C_holderOf : Cond.instanceMethod y_C_holderOf ∈ BW := List.mem_filter.mpr ⟨List.mem_of_getElem? (i := 119) rfl, rfl⟩
theorem q_code_C_holderOf : Cond.code y_C_holderOf b_C_holderOf 2 (some .int) ∈ BW := List.mem_filter.mpr ⟨List.mem_of_getElem? (i := 120) rfl, rfl⟩
theorem q_ml_C_52 : Cond.methodLink R_C 52 y_C_isFull ∈ BW := List.mem_filter.mpr ⟨List.mem_of_getElem? (i := 121) rfl, rfl⟩
theorem q_im_C_isFull : Cond.instanceMethod y_C_isFull ∈ BW := List.mem_filter.mpr ⟨List.mem_of_getElem? (i := 123) rfl, rfl⟩
theorem q_code_C_isFull : Cond.code y_C_isFull b_C_isFull 2 (some .boolean) ∈ BW := List.mem_filter.mpr ⟨List.mem_of_getElem? (i := 124) rfl, rfl⟩
theorem q_ml_C_80 : Cond.methodLink R_C 80 y_C_countHeldBy ∈ BW := List.mem_filter.mpr ⟨List.mem_of_getElem? (i := 125) rfl, rfl⟩
theorem q_im_C_countHeldBy : Cond.instanceMethod y_C_countHeldBy ∈ BW := List.mem_filter.mpr ⟨List.mem_of_getElem? (i := 127) rfl, rfl⟩
theorem q_code_C_countHeldBy : Cond.code y_C_countHeldBy b_C_countHeldBy 4 (some .int) ∈ BW := List.mem_filter.mpr ⟨List.mem_of_getElem? (i := 128) rfl, rfl⟩
theorem q_ml_L_28 : Cond.methodLink R_law 28 y_C_set ∈ BW := List.mem_filter.mpr ⟨List.mem_of_getElem? (i := 129) rfl, rfl⟩
theorem q_im_C_set : Cond.instanceMethod y_C_set ∈ BW := List.mem_filter.mpr ⟨List.mem_of_getElem? (i := 130) rfl, rfl⟩
theorem q_sel_C_set : Cond.selects R_C y_C_set y_C_set ∈ BW := List.mem_filter.mpr ⟨List.mem_of_getElem? (i := 131) rfl, rfl⟩
theorem q_code_C_set : Cond.code y_C_set b_C_set 6 (some .int) ∈ BW := List.mem_filter.mpr ⟨List.mem_of_getElem? (i := 132) rfl, rfl⟩
theorem q_ml_L_33 : Cond.methodLink R_law 33 y_C_door ∈ BW := List.mem_filter.mpr ⟨List.mem_of_getElem? (i := 133) rfl, rfl⟩
theorem q_im_C_door : Cond.instanceMethod y_C_door ∈ BW := List.mem_filter.mpr ⟨List.mem_of_getElem? (i := 134) rfl, rfl⟩
theorem q_sel_C_door : Cond.selects R_C y_C_door y_C_door ∈ BW := List.mem_filter.mpr ⟨List.mem_of_getElem? (i := 135) rfl, rfl⟩
theorem q_code_C_door : Cond.code y_C_door b_C_door 5 (some .int) ∈ BW := List.mem_filter.mpr ⟨List.mem_of_getElem? (i := 136) rfl, rfl⟩
theorem q_ml_L_37 : Cond.methodLink R_law 37 y_C_turn ∈ BW := List.mem_filter.mpr ⟨List.mem_of_getElem? (i := 137) rfl, rfl⟩
theorem q_im_C_turn : Cond.instanceMethod y_C_turn ∈ BW := List.mem_filter.mpr ⟨List.mem_of_getElem? (i := 138) rfl, rfl⟩
theorem q_sel_C_turn : Cond.selects R_C y_C_turn y_C_turn ∈ BW := List.mem_filter.mpr ⟨List.mem_of_getElem? (i := 139) rfl, rfl⟩
theorem q_code_C_turn : Cond.code y_C_turn b_C_turn 5 (some .int) ∈ BW := List.mem_filter.mpr ⟨List.mem_of_getElem? (i := 140) rfl, rfl⟩
theorem q_ml_C_55 : Cond.methodLink R_C 55 y_C_isDoor ∈ BW := List.mem_filter.mpr ⟨List.mem_of_getElem? (i := 141) rfl, rfl⟩
theorem q_im_C_isDoor : Cond.instanceMethod y_C_isDoor ∈ BW := List.mem_filter.mpr ⟨List.mem_of_getElem? (i := 143) rfl, rfl⟩
theorem q_code_C_isDoor : Cond.code y_C_isDoor b_C_isDoor 2 (some .boolean) ∈ BW := List.mem_filter.mpr ⟨List.mem_of_getElem? (i := 144) rfl, rfl⟩
theorem q_ml_L_41 : Cond.methodLink R_law 41 y_C_take ∈ BW := List.mem_filter.mpr ⟨List.mem_of_getElem? (i := 145) rfl, rfl⟩
theorem q_im_C_take : Cond.instanceMethod y_C_take ∈ BW := List.mem_filter.mpr ⟨List.mem_of_getElem? (i := 146) rfl, rfl⟩
theorem q_sel_C_take : Cond.selects R_C y_C_take y_C_take ∈ BW := List.mem_filter.mpr ⟨List.mem_of_getElem? (i := 147) rfl, rfl⟩
theorem q_code_C_take : Cond.code y_C_take b_C_take 4 (some .int) ∈ BW := List.mem_filter.mpr ⟨List.mem_of_getElem? (i := 148) rfl, rfl⟩
theorem q_ml_C_58 : Cond.methodLink R_C 58 y_C_isPerson ∈ BW := List.mem_filter.mpr ⟨List.mem_of_getElem? (i := 149) rfl, rfl⟩
theorem q_im_C_isPerson : Cond.instanceMethod y_C_isPerson ∈ BW := List.mem_filter.mpr ⟨List.mem_of_getElem? (i := 151) rfl, rfl⟩
theorem q_code_C_isPerson : Cond.code y_C_isPerson b_C_isPerson 2 (some .boolean) ∈ BW := List.mem_filter.mpr ⟨List.mem_of_getElem? (i := 152) rfl, rfl⟩
theorem q_ml_C_61 : Cond.methodLink R_C 61 y_C_firstBarrier ∈ BW := List.mem_filter.mpr ⟨List.mem_of_getElem? (i := 153) rfl, rfl⟩
theorem q_im_C_firstBarrier : Cond.instanceMethod y_C_firstBarrier ∈ BW := List.mem_filter.mpr ⟨List.mem_of_getElem? (i := 155) rfl, rfl⟩
theorem q_code_C_firstBarrier : Cond.code y_C_firstBarrier b_C_firstBarrier 5 (some .int) ∈ BW := List.mem_filter.mpr ⟨List.mem_of_getElem? (i := 156) rfl, rfl⟩
theorem q_ml_C_112 : Cond.methodLink R_C 112 y_C_turningPoint ∈ BW := List.mem_filter.mpr ⟨List.mem_of_getElem? (i := 157) rfl, rfl⟩
theorem q_im_C_turningPoint : Cond.instanceMethod y_C_turningPoint ∈ BW := List.mem_filter.mpr ⟨List.mem_of_getElem? (i := 159) rfl, rfl⟩
theorem q_code_C_turningPoint : Cond.code y_C_turningPoint b_C_turningPoint 5 (some .int) ∈ BW := List.mem_filter.mpr ⟨List.mem_of_getElem? (i := 160) rfl, rfl⟩
theorem q_ml_C_115 : Cond.methodLink R_C 115 y_C_firstBarrierOut ∈ BW := List.mem_filter.mpr ⟨List.mem_of_getElem? (i := 161) rfl, rfl⟩
theorem q_im_C_firstBarrierOut : Cond.instanceMethod y_C_firstBarrierOut ∈ BW := List.mem_filter.mpr ⟨List.mem_of_getElem? (i := 163) rfl, rfl⟩
theorem q_code_C_firstBarrierOut : Cond.code y_C_firstBarrierOut b_C_firstBarrierOut 5 (some .int) ∈ BW := List.mem_filter.mpr ⟨List.mem_of_getElem? (i := 164) rfl, rfl⟩
theorem q_ml_C_71 : Cond.methodLink R_C 71 y_C_isShutBox ∈ BW := List.mem_filter.mpr ⟨List.mem_of_getElem? (i := 165) rfl, rfl⟩
theorem q_im_C_isShutBox : Cond.instanceMethod y_C_isShutBox ∈ BW := List.mem_filter.mpr ⟨List.mem_of_getElem? (i := 167) rfl, rfl⟩
theorem q_code_C_isShutBox : Cond.code y_C_isShutBox b_C_isShutBox 2 (some .boolean) ∈ BW := List.mem_filter.mpr ⟨List.mem_of_getElem? (i := 168) rfl, rfl⟩
theorem q_ml_C_86 : Cond.methodLink R_C 86 y_C_markOf ∈ BW := List.mem_filter.mpr ⟨List.mem_of_getElem? (i := 169) rfl, rfl⟩
theorem q_im_C_markOf : Cond.instanceMethod y_C_markOf ∈ BW := List.mem_filter.mpr ⟨List.mem_of_getElem? (i := 171) rfl, rfl⟩
theorem q_code_C_markOf : Cond.code y_C_markOf b_C_markOf 3 (some .int) ∈ BW := List.mem_filter.mpr ⟨List.mem_of_getElem? (i := 172) rfl, rfl⟩
theorem q_ml_C_118 : Cond.methodLink R_C 118 y_C_firstBarrierIn ∈ BW := List.mem_filter.mpr ⟨List.mem_of_getElem? (i := 173) rfl, rfl⟩
theorem q_im_C_firstBarrierIn : Cond.instanceMethod y_C_firstBarrierIn ∈ BW := List.mem_filter.mpr ⟨List.mem_of_getElem? (i := 175) rfl, rfl⟩
theorem q_code_C_firstBarrierIn : Cond.code y_C_firstBarrierIn b_C_firstBarrierIn 6 (some .int) ∈ BW := List.mem_filter.mpr ⟨List.mem_of_getElem? (i := 176) rfl, rfl⟩
theorem q_ml_L_45 : Cond.methodLink R_law 45 y_C_give ∈ BW := List.mem_filter.mpr ⟨List.mem_of_getElem? (i := 177) rfl, rfl⟩
theorem q_im_C_give : Cond.instanceMethod y_C_give ∈ BW := List.mem_filter.mpr ⟨List.mem_of_getElem? (i := 178) rfl, rfl⟩
theorem q_sel_C_give : Cond.selects R_C y_C_give y_C_give ∈ BW := List.mem_filter.mpr ⟨List.mem_of_getElem? (i := 179) rfl, rfl⟩
theorem q_code_C_give : Cond.code y_C_give b_C_give 5 (some .int) ∈ BW := List.mem_filter.mpr ⟨List.mem_of_getElem? (i := 180) rfl, rfl⟩
theorem q_ml_C_65 : Cond.methodLink R_C 65 y_C_hasInHands ∈ BW := List.mem_filter.mpr ⟨List.mem_of_getElem? (i := 181) rfl, rfl⟩
theorem q_im_C_hasInHands : Cond.instanceMethod y_C_hasInHands ∈ BW := List.mem_filter.mpr ⟨List.mem_of_getElem? (i := 183) rfl, rfl⟩
theorem q_code_C_hasInHands : Cond.code y_C_hasInHands b_C_hasInHands 3 (some .boolean) ∈ BW := List.mem_filter.mpr ⟨List.mem_of_getElem? (i := 184) rfl, rfl⟩
theorem q_ml_C_68 : Cond.methodLink R_C 68 y_C_mayBeGivenTo ∈ BW := List.mem_filter.mpr ⟨List.mem_of_getElem? (i := 185) rfl, rfl⟩
theorem q_im_C_mayBeGivenTo : Cond.instanceMethod y_C_mayBeGivenTo ∈ BW := List.mem_filter.mpr ⟨List.mem_of_getElem? (i := 187) rfl, rfl⟩
theorem q_code_C_mayBeGivenTo : Cond.code y_C_mayBeGivenTo b_C_mayBeGivenTo 3 (some .boolean) ∈ BW := List.mem_filter.mpr ⟨List.mem_of_getElem? (i := 188) rfl, rfl⟩
theorem q_ml_L_49 : Cond.methodLink R_law 49 y_C_drop ∈ BW := List.mem_filter.mpr ⟨List.mem_of_getElem? (i := 189) rfl, rfl⟩
theorem q_im_C_drop : Cond.instanceMethod y_C_drop ∈ BW := List.mem_filter.mpr ⟨List.mem_of_getElem? (i := 190) rfl, rfl⟩
theorem q_sel_C_drop : Cond.selects R_C y_C_drop y_C_drop ∈ BW := List.mem_filter.mpr ⟨List.mem_of_getElem? (i := 191) rfl, rfl⟩
theorem q_code_C_drop : Cond.code y_C_drop b_C_drop 4 (some .int) ∈ BW := List.mem_filter.mpr ⟨List.mem_of_getElem? (i := 192) rfl, rfl⟩
theorem q_ml_L_53 : Cond.methodLink R_law 53 y_C_go ∈ BW := List.mem_filter.mpr ⟨List.mem_of_getElem? (i := 193) rfl, rfl⟩
theorem q_im_C_go : Cond.instanceMethod y_C_go ∈ BW := List.mem_filter.mpr ⟨List.mem_of_getElem? (i := 194) rfl, rfl⟩
theorem q_sel_C_go : Cond.selects R_C y_C_go y_C_go ∈ BW := List.mem_filter.mpr ⟨List.mem_of_getElem? (i := 195) rfl, rfl⟩
theorem q_code_C_go : Cond.code y_C_go b_C_go 5 (some .int) ∈ BW := List.mem_filter.mpr ⟨List.mem_of_getElem? (i := 196) rfl, rfl⟩
theorem q_ml_L_57 : Cond.methodLink R_law 57 y_C_count ∈ BW := List.mem_filter.mpr ⟨List.mem_of_getElem? (i := 197) rfl, rfl⟩
theorem q_im_C_count : Cond.instanceMethod y_C_count ∈ BW := List.mem_filter.mpr ⟨List.mem_of_getElem? (i := 198) rfl, rfl⟩
theorem q_sel_C_count : Cond.selects R_C y_C_count y_C_count ∈ BW := List.mem_filter.mpr ⟨List.mem_of_getElem? (i := 199) rfl, rfl⟩
theorem q_code_C_count : Cond.code y_C_count b_C_count 2 (some .int) ∈ BW := List.mem_filter.mpr ⟨List.mem_of_getElem? (i := 200) rfl, rfl⟩
theorem q_ml_L_61 : Cond.methodLink R_law 61 y_C_told ∈ BW := List.mem_filter.mpr ⟨List.mem_of_getElem? (i := 201) rfl, rfl⟩
theorem q_im_C_told : Cond.instanceMethod y_C_told ∈ BW := List.mem_filter.mpr ⟨List.mem_of_getElem? (i := 202) rfl, rfl⟩
theorem q_sel_C_told : Cond.selects R_C y_C_told y_C_told ∈ BW := List.mem_filter.mpr ⟨List.mem_of_getElem? (i := 203) rfl, rfl⟩
theorem q_code_C_told : Cond.code y_C_told b_C_told 3 (some .int) ∈ BW := List.mem_filter.mpr ⟨List.mem_of_getElem? (i := 204) rfl, rfl⟩
theorem q_ml_C_77 : Cond.methodLink R_C 77 y_C_spaceOf ∈ BW := List.mem_filter.mpr ⟨List.mem_of_getElem? (i := 205) rfl, rfl⟩
theorem q_im_C_spaceOf : Cond.instanceMethod y_C_spaceOf ∈ BW := List.mem_filter.mpr ⟨List.mem_of_getElem? (i := 207) rfl, rfl⟩
theorem q_code_C_spaceOf : Cond.code y_C_spaceOf b_C_spaceOf 4 (some .int) ∈ BW := List.mem_filter.mpr ⟨List.mem_of_getElem? (i := 208) rfl, rfl⟩
theorem q_ml_C_89 : Cond.methodLink R_C 89 y_C_isSpace ∈ BW := List.mem_filter.mpr ⟨List.mem_of_getElem? (i := 209) rfl, rfl⟩
theorem q_im_C_isSpace : Cond.instanceMethod y_C_isSpace ∈ BW := List.mem_filter.mpr ⟨List.mem_of_getElem? (i := 211) rfl, rfl⟩
theorem q_code_C_isSpace : Cond.code y_C_isSpace b_C_isSpace 3 (some .boolean) ∈ BW := List.mem_filter.mpr ⟨List.mem_of_getElem? (i := 212) rfl, rfl⟩
theorem q_ml_C_83 : Cond.methodLink R_C 83 y_C_countWithin ∈ BW := List.mem_filter.mpr ⟨List.mem_of_getElem? (i := 213) rfl, rfl⟩
theorem q_im_C_countWithin : Cond.instanceMethod y_C_countWithin ∈ BW := List.mem_filter.mpr ⟨List.mem_of_getElem? (i := 215) rfl, rfl⟩
theorem q_code_C_countWithin : Cond.code y_C_countWithin b_C_countWithin 4 (some .int) ∈ BW := List.mem_filter.mpr ⟨List.mem_of_getElem? (i := 216) rfl, rfl⟩
theorem q_ml_L_65 : Cond.methodLink R_law 65 y_C_held ∈ BW := List.mem_filter.mpr ⟨List.mem_of_getElem? (i := 217) rfl, rfl⟩
theorem q_im_C_held : Cond.instanceMethod y_C_held ∈ BW := List.mem_filter.mpr ⟨List.mem_of_getElem? (i := 218) rfl, rfl⟩
theorem q_sel_C_held : Cond.selects R_C y_C_held y_C_held ∈ BW := List.mem_filter.mpr ⟨List.mem_of_getElem? (i := 219) rfl, rfl⟩
theorem q_code_C_held : Cond.code y_C_held b_C_held 5 (some .int) ∈ BW := List.mem_filter.mpr ⟨List.mem_of_getElem? (i := 220) rfl, rfl⟩
theorem q_ml_L_69 : Cond.methodLink R_law 69 y_C_space ∈ BW := List.mem_filter.mpr ⟨List.mem_of_getElem? (i := 221) rfl, rfl⟩
theorem q_im_C_space : Cond.instanceMethod y_C_space ∈ BW := List.mem_filter.mpr ⟨List.mem_of_getElem? (i := 222) rfl, rfl⟩
theorem q_sel_C_space : Cond.selects R_C y_C_space y_C_space ∈ BW := List.mem_filter.mpr ⟨List.mem_of_getElem? (i := 223) rfl, rfl⟩
theorem q_code_C_space : Cond.code y_C_space b_C_space 3 (some .int) ∈ BW := List.mem_filter.mpr ⟨List.mem_of_getElem? (i := 224) rfl, rfl⟩
theorem q_ml_C_92 : Cond.methodLink R_C 92 y_C_fillFromAllThings ∈ BW := List.mem_filter.mpr ⟨List.mem_of_getElem? (i := 225) rfl, rfl⟩
theorem q_im_C_fillFromAllThings : Cond.instanceMethod y_C_fillFromAllThings ∈ BW := List.mem_filter.mpr ⟨List.mem_of_getElem? (i := 227) rfl, rfl⟩
theorem q_code_C_fillFromAllThings : Cond.code y_C_fillFromAllThings b_C_fillFromAllThings 4 none ∈ BW := List.mem_filter.mpr ⟨List.mem_of_getElem? (i := 228) rfl, rfl⟩
theorem q_ml_C_121 : Cond.methodLink R_C 121 y_A_fill ∈ BW := List.mem_filter.mpr ⟨List.mem_of_getElem? (i := 229) rfl, rfl⟩
theorem q_st_A_fill : Cond.static y_A_fill ∈ BW := List.mem_filter.mpr ⟨List.mem_of_getElem? (i := 230) rfl, rfl⟩
theorem q_code_A_fill : Cond.code y_A_fill b_A_fill 4 none ∈ BW := List.mem_filter.mpr ⟨List.mem_of_getElem? (i := 231) rfl, rfl⟩
theorem q_ml_C_127 : Cond.methodLink R_C 127 y_X_max ∈ BW := List.mem_filter.mpr ⟨List.mem_of_getElem? (i := 232) rfl, rfl⟩
theorem q_st_X_max : Cond.static y_X_max ∈ BW := List.mem_filter.mpr ⟨List.mem_of_getElem? (i := 233) rfl, rfl⟩
theorem q_code_X_max : Cond.code y_X_max b_X_max 2 (some .int) ∈ BW := List.mem_filter.mpr ⟨List.mem_of_getElem? (i := 234) rfl, rfl⟩
theorem q_ml_C_132 : Cond.methodLink R_C 132 y_C_spread ∈ BW := List.mem_filter.mpr ⟨List.mem_of_getElem? (i := 235) rfl, rfl⟩
theorem q_im_C_spread : Cond.instanceMethod y_C_spread ∈ BW := List.mem_filter.mpr ⟨List.mem_of_getElem? (i := 237) rfl, rfl⟩
theorem q_code_C_spread : Cond.code y_C_spread b_C_spread 6 none ∈ BW := List.mem_filter.mpr ⟨List.mem_of_getElem? (i := 238) rfl, rfl⟩
theorem q_ml_C_135 : Cond.methodLink R_C 135 y_C_wallLoss ∈ BW := List.mem_filter.mpr ⟨List.mem_of_getElem? (i := 239) rfl, rfl⟩
theorem q_im_C_wallLoss : Cond.instanceMethod y_C_wallLoss ∈ BW := List.mem_filter.mpr ⟨List.mem_of_getElem? (i := 241) rfl, rfl⟩
theorem q_code_C_wallLoss : Cond.code y_C_wallLoss b_C_wallLoss 3 (some .int) ∈ BW := List.mem_filter.mpr ⟨List.mem_of_getElem? (i := 242) rfl, rfl⟩
theorem q_ml_C_138 : Cond.methodLink R_C 138 y_C_spreadOver ∈ BW := List.mem_filter.mpr ⟨List.mem_of_getElem? (i := 243) rfl, rfl⟩
theorem q_im_C_spreadOver : Cond.instanceMethod y_C_spreadOver ∈ BW := List.mem_filter.mpr ⟨List.mem_of_getElem? (i := 245) rfl, rfl⟩
theorem q_code_C_spreadOver : Cond.code y_C_spreadOver b_C_spreadOver 4 (some .boolean) ∈ BW := List.mem_filter.mpr ⟨List.mem_of_getElem? (i := 246) rfl, rfl⟩
theorem q_ml_C_142 : Cond.methodLink R_C 142 y_C_doorLoss ∈ BW := List.mem_filter.mpr ⟨List.mem_of_getElem? (i := 247) rfl, rfl⟩
theorem q_im_C_doorLoss : Cond.instanceMethod y_C_doorLoss ∈ BW := List.mem_filter.mpr ⟨List.mem_of_getElem? (i := 249) rfl, rfl⟩
theorem q_code_C_doorLoss : Cond.code y_C_doorLoss b_C_doorLoss 4 (some .int) ∈ BW := List.mem_filter.mpr ⟨List.mem_of_getElem? (i := 250) rfl, rfl⟩
theorem q_ml_L_73 : Cond.methodLink R_law 73 y_C_loses ∈ BW := List.mem_filter.mpr ⟨List.mem_of_getElem? (i := 251) rfl, rfl⟩
theorem q_im_C_loses : Cond.instanceMethod y_C_loses ∈ BW := List.mem_filter.mpr ⟨List.mem_of_getElem? (i := 252) rfl, rfl⟩
theorem q_sel_C_loses : Cond.selects R_C y_C_loses y_C_loses ∈ BW := List.mem_filter.mpr ⟨List.mem_of_getElem? (i := 253) rfl, rfl⟩
theorem q_code_C_loses : Cond.code y_C_loses b_C_loses 4 (some .int) ∈ BW := List.mem_filter.mpr ⟨List.mem_of_getElem? (i := 254) rfl, rfl⟩
theorem q_ml_C_96 : Cond.methodLink R_C 96 y_C_fillFromOneSpace ∈ BW := List.mem_filter.mpr ⟨List.mem_of_getElem? (i := 255) rfl, rfl⟩
theorem q_im_C_fillFromOneSpace : Cond.instanceMethod y_C_fillFromOneSpace ∈ BW := List.mem_filter.mpr ⟨List.mem_of_getElem? (i := 257) rfl, rfl⟩
theorem q_code_C_fillFromOneSpace : Cond.code y_C_fillFromOneSpace b_C_fillFromOneSpace 3 none ∈ BW := List.mem_filter.mpr ⟨List.mem_of_getElem? (i := 258) rfl, rfl⟩
theorem q_ml_C_100 : Cond.methodLink R_C 100 y_C_lossAt ∈ BW := List.mem_filter.mpr ⟨List.mem_of_getElem? (i := 259) rfl, rfl⟩
theorem q_im_C_lossAt : Cond.instanceMethod y_C_lossAt ∈ BW := List.mem_filter.mpr ⟨List.mem_of_getElem? (i := 261) rfl, rfl⟩
theorem q_code_C_lossAt : Cond.code y_C_lossAt b_C_lossAt 2 (some .int) ∈ BW := List.mem_filter.mpr ⟨List.mem_of_getElem? (i := 262) rfl, rfl⟩
theorem q_ml_L_77 : Cond.methodLink R_law 77 y_C_sees ∈ BW := List.mem_filter.mpr ⟨List.mem_of_getElem? (i := 263) rfl, rfl⟩
theorem q_im_C_sees : Cond.instanceMethod y_C_sees ∈ BW := List.mem_filter.mpr ⟨List.mem_of_getElem? (i := 264) rfl, rfl⟩
theorem q_sel_C_sees : Cond.selects R_C y_C_sees y_C_sees ∈ BW := List.mem_filter.mpr ⟨List.mem_of_getElem? (i := 265) rfl, rfl⟩
theorem q_code_C_sees : Cond.code y_C_sees b_C_sees 3 (some .int) ∈ BW := List.mem_filter.mpr ⟨List.mem_of_getElem? (i := 266) rfl, rfl⟩
theorem q_ml_C_103 : Cond.methodLink R_C 103 y_C_viewOf ∈ BW := List.mem_filter.mpr ⟨List.mem_of_getElem? (i := 267) rfl, rfl⟩
theorem q_im_C_viewOf : Cond.instanceMethod y_C_viewOf ∈ BW := List.mem_filter.mpr ⟨List.mem_of_getElem? (i := 269) rfl, rfl⟩
theorem q_code_C_viewOf : Cond.code y_C_viewOf b_C_viewOf 4 (some .int) ∈ BW := List.mem_filter.mpr ⟨List.mem_of_getElem? (i := 270) rfl, rfl⟩
theorem q_ml_C_145 : Cond.methodLink R_C 145 y_C_widenedOverWalls ∈ BW := List.mem_filter.mpr ⟨List.mem_of_getElem? (i := 271) rfl, rfl⟩
theorem q_im_C_widenedOverWalls : Cond.instanceMethod y_C_widenedOverWalls ∈ BW := List.mem_filter.mpr ⟨List.mem_of_getElem? (i := 273) rfl, rfl⟩
theorem q_code_C_widenedOverWalls : Cond.code y_C_widenedOverWalls b_C_widenedOverWalls 7 (some .int) ∈ BW := List.mem_filter.mpr ⟨List.mem_of_getElem? (i := 274) rfl, rfl⟩
theorem q_ml_C_151 : Cond.methodLink R_C 151 y_C_endsIfTouched ∈ BW := List.mem_filter.mpr ⟨List.mem_of_getElem? (i := 275) rfl, rfl⟩
theorem q_st_C_endsIfTouched : Cond.static y_C_endsIfTouched ∈ BW := List.mem_filter.mpr ⟨List.mem_of_getElem? (i := 276) rfl, rfl⟩
theorem q_code_C_endsIfTouched : Cond.code y_C_endsIfTouched b_C_endsIfTouched 4 (some .int) ∈ BW := List.mem_filter.mpr ⟨List.mem_of_getElem? (i := 277) rfl, rfl⟩
theorem q_ml_C_148 : Cond.methodLink R_C 148 y_C_widenedOverOneDoor ∈ BW := List.mem_filter.mpr ⟨List.mem_of_getElem? (i := 278) rfl, rfl⟩
theorem q_im_C_widenedOverOneDoor : Cond.instanceMethod y_C_widenedOverOneDoor ∈ BW := List.mem_filter.mpr ⟨List.mem_of_getElem? (i := 280) rfl, rfl⟩
theorem q_code_C_widenedOverOneDoor : Cond.code y_C_widenedOverOneDoor b_C_widenedOverOneDoor 4 (some .int) ∈ BW := List.mem_filter.mpr ⟨List.mem_of_getElem? (i := 281) rfl, rfl⟩
theorem q_ml_C_106 : Cond.methodLink R_C 106 y_C_isSeen ∈ BW := List.mem_filter.mpr ⟨List.mem_of_getElem? (i := 282) rfl, rfl⟩
theorem q_im_C_isSeen : Cond.instanceMethod y_C_isSeen ∈ BW := List.mem_filter.mpr ⟨List.mem_of_getElem? (i := 284) rfl, rfl⟩
theorem q_code_C_isSeen : Cond.code y_C_isSeen b_C_isSeen 4 (some .boolean) ∈ BW := List.mem_filter.mpr ⟨List.mem_of_getElem? (i := 285) rfl, rfl⟩
theorem q_ml_L_81 : Cond.methodLink R_law 81 y_C_barrier ∈ BW := List.mem_filter.mpr ⟨List.mem_of_getElem? (i := 286) rfl, rfl⟩
theorem q_im_C_barrier : Cond.instanceMethod y_C_barrier ∈ BW := List.mem_filter.mpr ⟨List.mem_of_getElem? (i := 287) rfl, rfl⟩
theorem q_sel_C_barrier : Cond.selects R_C y_C_barrier y_C_barrier ∈ BW := List.mem_filter.mpr ⟨List.mem_of_getElem? (i := 288) rfl, rfl⟩
theorem q_code_C_barrier : Cond.code y_C_barrier b_C_barrier 3 (some .int) ∈ BW := List.mem_filter.mpr ⟨List.mem_of_getElem? (i := 289) rfl, rfl⟩
theorem q_ml_L_85 : Cond.methodLink R_law 85 y_C_scope ∈ BW := List.mem_filter.mpr ⟨List.mem_of_getElem? (i := 290) rfl, rfl⟩
theorem q_im_C_scope : Cond.instanceMethod y_C_scope ∈ BW := List.mem_filter.mpr ⟨List.mem_of_getElem? (i := 291) rfl, rfl⟩
theorem q_sel_C_scope : Cond.selects R_C y_C_scope y_C_scope ∈ BW := List.mem_filter.mpr ⟨List.mem_of_getElem? (i := 292) rfl, rfl⟩
theorem q_code_C_scope : Cond.code y_C_scope b_C_scope 6 (some .int) ∈ BW := List.mem_filter.mpr ⟨List.mem_of_getElem? (i := 293) rfl, rfl⟩
theorem q_ml_L_89 : Cond.methodLink R_law 89 y_C_hears ∈ BW := List.mem_filter.mpr ⟨List.mem_of_getElem? (i := 294) rfl, rfl⟩
theorem q_im_C_hears : Cond.instanceMethod y_C_hears ∈ BW := List.mem_filter.mpr ⟨List.mem_of_getElem? (i := 295) rfl, rfl⟩
theorem q_sel_C_hears : Cond.selects R_C y_C_hears y_C_hears ∈ BW := List.mem_filter.mpr ⟨List.mem_of_getElem? (i := 296) rfl, rfl⟩
theorem q_code_C_hears : Cond.code y_C_hears b_C_hears 7 (some .int) ∈ BW := List.mem_filter.mpr ⟨List.mem_of_getElem? (i := 297) rfl, rfl⟩
theorem q_ml_C_109 : Cond.methodLink R_C 109 y_C_partHeardOf ∈ BW := List.mem_filter.mpr ⟨List.mem_of_getElem? (i := 298) rfl, rfl⟩
set_option maxRecDepth 100000 in
theorem q_im_C_partHeardOf : Cond.instanceMethod y_C_partHeardOf ∈ BW := List.mem_filter.mpr ⟨List.mem_of_getElem? (i := 300) rfl, rfl⟩
set_option maxRecDepth 100000 in
theorem q_code_C_partHeardOf : Cond.code y_C_partHeardOf b_C_partHeardOf 3 (some .int) ∈ BW := List.mem_filter.mpr ⟨List.mem_of_getElem? (i := 301) rfl, rfl⟩
set_option maxRecDepth 100000 in
theorem q_cl_L_10 : Cond.classLink R_law 10 "LitReachModel" ∈ BW := List.mem_filter.mpr ⟨List.mem_of_getElem? (i := 302) rfl, rfl⟩
set_option maxRecDepth 100000 in
theorem q_inst_M : Cond.instantiable R_M 16 ∈ BW := List.mem_filter.mpr ⟨List.mem_of_getElem? (i := 303) rfl, rfl⟩
set_option maxRecDepth 100000 in
theorem q_ml_L_12 : Cond.methodLink R_law 12 y_M_init ∈ BW := List.mem_filter.mpr ⟨List.mem_of_getElem? (i := 304) rfl, rfl⟩
set_option maxRecDepth 100000 in
theorem q_im_M_init : Cond.instanceMethod y_M_init ∈ BW := List.mem_filter.mpr ⟨List.mem_of_getElem? (i := 305) rfl, rfl⟩
set_option maxRecDepth 100000 in
theorem q_code_M_init : Cond.code y_M_init b_M_init 1 none ∈ BW := List.mem_filter.mpr ⟨List.mem_of_getElem? (i := 306) rfl, rfl⟩
set_option maxRecDepth 100000 in
theorem q_ml_M_1 : Cond.methodLink R_M 1 objectInit ∈ BW := List.mem_filter.mpr ⟨List.mem_of_getElem? (i := 307) rfl, rfl⟩
theorem fl_M_47 : Cond.fieldLink R_M 47 "LitReachModel" "n" "I" ∈ BW := List.mem_filter.mpr ⟨List.mem_of_getElem? (i := 308) rfl, rfl⟩
theorem fl_M_7 : Cond.fieldLink R_M 7 "LitReachModel" "sorts" "[I" ∈ BW := List.mem_filter.mpr ⟨List.mem_of_getElem? (i := 309) rfl, rfl⟩
theorem fl_M_13 : Cond.fieldLink R_M 13 "LitReachModel" "holders" "[I" ∈ BW := List.mem_filter.mpr ⟨List.mem_of_getElem? (i := 310) rfl, rfl⟩
theorem fl_M_16 : Cond.fieldLink R_M 16 "LitReachModel" "states" "[I" ∈ BW := List.mem_filter.mpr ⟨List.mem_of_getElem? (i := 311) rfl, rfl⟩
theorem fl_M_63 : Cond.fieldLink R_M 63 "LitReachModel" "doors" "I" ∈ BW := List.mem_filter.mpr ⟨List.mem_of_getElem? (i := 312) rfl, rfl⟩
theorem fl_M_19 : Cond.fieldLink R_M 19 "LitReachModel" "doorFrom" "[I" ∈ BW := List.mem_filter.mpr ⟨List.mem_of_getElem? (i := 313) rfl, rfl⟩
theorem fl_M_22 : Cond.fieldLink R_M 22 "LitReachModel" "doorTo" "[I" ∈ BW := List.mem_filter.mpr ⟨List.mem_of_getElem? (i := 314) rfl, rfl⟩
theorem fl_M_25 : Cond.fieldLink R_M 25 "LitReachModel" "doorOpen" "[I" ∈ BW := List.mem_filter.mpr ⟨List.mem_of_getElem? (i := 315) rfl, rfl⟩
theorem fl_M_28 : Cond.fieldLink R_M 28 "LitReachModel" "doorClear" "[I" ∈ BW := List.mem_filter.mpr ⟨List.mem_of_getElem? (i := 316) rfl, rfl⟩
theorem fl_M_79 : Cond.fieldLink R_M 79 "LitReachModel" "outs" "I" ∈ BW := List.mem_filter.mpr ⟨List.mem_of_getElem? (i := 317) rfl, rfl⟩
theorem fl_M_82 : Cond.fieldLink R_M 82 "LitReachModel" "ins" "I" ∈ BW := List.mem_filter.mpr ⟨List.mem_of_getElem? (i := 318) rfl, rfl⟩
theorem fl_M_31 : Cond.fieldLink R_M 31 "LitReachModel" "wayOut" "[I" ∈ BW := List.mem_filter.mpr ⟨List.mem_of_getElem? (i := 319) rfl, rfl⟩
theorem fl_M_34 : Cond.fieldLink R_M 34 "LitReachModel" "wayIn" "[I" ∈ BW := List.mem_filter.mpr ⟨List.mem_of_getElem? (i := 320) rfl, rfl⟩
theorem fl_M_37 : Cond.fieldLink R_M 37 "LitReachModel" "losses" "[I" ∈ BW := List.mem_filter.mpr ⟨List.mem_of_getElem? (i := 321) rfl, rfl⟩
theorem fl_M_40 : Cond.fieldLink R_M 40 "LitReachModel" "byBoxes" "[Z" ∈ BW := List.mem_filter.mpr ⟨List.mem_of_getElem? (i := 322) rfl, rfl⟩
theorem fl_M_44 : Cond.fieldLink R_M 44 "LitReachModel" "bright" "[Z" ∈ BW := List.mem_filter.mpr ⟨List.mem_of_getElem? (i := 323) rfl, rfl⟩
set_option maxRecDepth 100000 in
theorem q_ac_bool : Cond.arrayClass .boolean ∈ BW := List.mem_filter.mpr ⟨List.mem_of_getElem? (i := 357) rfl, rfl⟩
set_option maxRecDepth 100000 in
theorem q_ml_L_17 : Cond.methodLink R_law 17 y_M_thing ∈ BW := List.mem_filter.mpr ⟨List.mem_of_getElem? (i := 358) rfl, rfl⟩
set_option maxRecDepth 100000 in
theorem q_im_M_thing : Cond.instanceMethod y_M_thing ∈ BW := List.mem_filter.mpr ⟨List.mem_of_getElem? (i := 359) rfl, rfl⟩
set_option maxRecDepth 100000 in
theorem q_sel_M_thing : Cond.selects R_M y_M_thing y_M_thing ∈ BW := List.mem_filter.mpr ⟨List.mem_of_getElem? (i := 360) rfl, rfl⟩
set_option maxRecDepth 100000 in
theorem q_code_M_thing : Cond.code y_M_thing b_M_thing 3 (some .int) ∈ BW := List.mem_filter.mpr ⟨List.mem_of_getElem? (i := 361) rfl, rfl⟩
set_option maxRecDepth 100000 in
theorem q_ml_M_51 : Cond.methodLink R_M 51 y_M_in ∈ BW := List.mem_filter.mpr ⟨List.mem_of_getElem? (i := 362) rfl, rfl⟩
set_option maxRecDepth 100000 in
theorem q_st_M_in : Cond.static y_M_in ∈ BW := List.mem_filter.mpr ⟨List.mem_of_getElem? (i := 363) rfl, rfl⟩
set_option maxRecDepth 100000 in
theorem q_code_M_in : Cond.code y_M_in b_M_in 3 (some .boolean) ∈ BW := List.mem_filter.mpr ⟨List.mem_of_getElem? (i := 364) rfl, rfl⟩
set_option maxRecDepth 100000 in
theorem q_ml_L_22 : Cond.methodLink R_law 22 y_M_clear ∈ BW := List.mem_filter.mpr ⟨List.mem_of_getElem? (i := 365) rfl, rfl⟩
set_option maxRecDepth 100000 in
theorem q_im_M_clear : Cond.instanceMethod y_M_clear ∈ BW := List.mem_filter.mpr ⟨List.mem_of_getElem? (i := 366) rfl, rfl⟩
set_option maxRecDepth 100000 in
theorem q_sel_M_clear : Cond.selects R_M y_M_clear y_M_clear ∈ BW := List.mem_filter.mpr ⟨List.mem_of_getElem? (i := 367) rfl, rfl⟩
set_option maxRecDepth 100000 in
theorem q_code_M_clear : Cond.code y_M_clear b_M_clear 2 (some .int) ∈ BW := List.mem_filter.mpr ⟨List.mem_of_getElem? (i := 368) rfl, rfl⟩
set_option maxRecDepth 100000 in
theorem q_ml_L_27 : Cond.methodLink R_law 27 y_M_put ∈ BW := List.mem_filter.mpr ⟨List.mem_of_getElem? (i := 369) rfl, rfl⟩
set_option maxRecDepth 100000 in
theorem q_im_M_put : Cond.instanceMethod y_M_put ∈ BW := List.mem_filter.mpr ⟨List.mem_of_getElem? (i := 370) rfl, rfl⟩
set_option maxRecDepth 100000 in
theorem q_sel_M_put : Cond.selects R_M y_M_put y_M_put ∈ BW := List.mem_filter.mpr ⟨List.mem_of_getElem? (i := 371) rfl, rfl⟩
set_option maxRecDepth 100000 in
theorem q_code_M_put : Cond.code y_M_put b_M_put 4 (some .int) ∈ BW := List.mem_filter.mpr ⟨List.mem_of_getElem? (i := 372) rfl, rfl⟩
set_option maxRecDepth 100000 in
theorem q_ml_M_55 : Cond.methodLink R_M 55 y_M_isThing ∈ BW := List.mem_filter.mpr ⟨List.mem_of_getElem? (i := 373) rfl, rfl⟩
set_option maxRecDepth 100000 in
theorem q_im_M_isThing : Cond.instanceMethod y_M_isThing ∈ BW := List.mem_filter.mpr ⟨List.mem_of_getElem? (i := 375) rfl, rfl⟩
set_option maxRecDepth 100000 in
theorem q_code_M_isThing : Cond.code y_M_isThing b_M_isThing 2 (some .boolean) ∈ BW := List.mem_filter.mpr ⟨List.mem_of_getElem? (i := 376) rfl, rfl⟩
set_option maxRecDepth 100000 in
theorem q_ml_M_70 : Cond.methodLink R_M 70 y_M_isWithin ∈ BW := List.mem_filter.mpr ⟨List.mem_of_getElem? (i := 377) rfl, rfl⟩
set_option maxRecDepth 100000 in
theorem q_im_M_isWithin : Cond.instanceMethod y_M_isWithin ∈ BW := List.mem_filter.mpr ⟨List.mem_of_getElem? (i := 379) rfl, rfl⟩
set_option maxRecDepth 100000 in
theorem q_code_M_isWithin : Cond.code y_M_isWithin b_M_isWithin 4 (some .boolean) ∈ BW := List.mem_filter.mpr ⟨List.mem_of_getElem? (i := 380) rfl, rfl⟩
set_option maxRecDepth 100000 in
theorem q_ml_M_73 : Cond.methodLink R_M 73 y_M_hasRoom ∈ BW := List.mem_filter.mpr ⟨List.mem_of_getElem? (i := 381) rfl, rfl⟩
set_option maxRecDepth 100000 in
theorem q_im_M_hasRoom : Cond.instanceMethod y_M_hasRoom ∈ BW := List.mem_filter.mpr ⟨List.mem_of_getElem? (i := 383) rfl, rfl⟩
set_option maxRecDepth 100000 in
theorem q_code_M_hasRoom : Cond.code y_M_hasRoom b_M_hasRoom 2 (some .boolean) ∈ BW := List.mem_filter.mpr ⟨List.mem_of_getElem? (i := 384) rfl, rfl⟩
set_option maxRecDepth 100000 in
theorem q_ml_M_66 : Cond.methodLink R_M 66 y_M_heldBy ∈ BW := List.mem_filter.mpr ⟨List.mem_of_getElem? (i := 385) rfl, rfl⟩
set_option maxRecDepth 100000 in
theorem q_im_M_heldBy : Cond.instanceMethod y_M_heldBy ∈ BW := List.mem_filter.mpr ⟨List.mem_of_getElem? (i := 387) rfl, rfl⟩
set_option maxRecDepth 100000 in
theorem q_code_M_heldBy : Cond.code y_M_heldBy b_M_heldBy 4 (some .int) ∈ BW := List.mem_filter.mpr ⟨List.mem_of_getElem? (i := 388) rfl, rfl⟩
set_option maxRecDepth 100000 in
theorem q_ml_L_32 : Cond.methodLink R_law 32 y_M_set ∈ BW := List.mem_filter.mpr ⟨List.mem_of_getElem? (i := 389) rfl, rfl⟩
set_option maxRecDepth 100000 in
theorem q_im_M_set : Cond.instanceMethod y_M_set ∈ BW := List.mem_filter.mpr ⟨List.mem_of_getElem? (i := 390) rfl, rfl⟩
set_option maxRecDepth 100000 in
theorem q_sel_M_set : Cond.selects R_M y_M_set y_M_set ∈ BW := List.mem_filter.mpr ⟨List.mem_of_getElem? (i := 391) rfl, rfl⟩
set_option maxRecDepth 100000 in
theorem q_code_M_set : Cond.code y_M_set b_M_set 5 (some .int) ∈ BW := List.mem_filter.mpr ⟨List.mem_of_getElem? (i := 392) rfl, rfl⟩
set_option maxRecDepth 100000 in
theorem q_ml_L_36 : Cond.methodLink R_law 36 y_M_door ∈ BW := List.mem_filter.mpr ⟨List.mem_of_getElem? (i := 393) rfl, rfl⟩
set_option maxRecDepth 100000 in
theorem q_im_M_door : Cond.instanceMethod y_M_door ∈ BW := List.mem_filter.mpr ⟨List.mem_of_getElem? (i := 394) rfl, rfl⟩
set_option maxRecDepth 100000 in
theorem q_sel_M_door : Cond.selects R_M y_M_door y_M_door ∈ BW := List.mem_filter.mpr ⟨List.mem_of_getElem? (i := 395) rfl, rfl⟩
set_option maxRecDepth 100000 in
theorem q_code_M_door : Cond.code y_M_door b_M_door 3 (some .int) ∈ BW := List.mem_filter.mpr ⟨List.mem_of_getElem? (i := 396) rfl, rfl⟩
set_option maxRecDepth 100000 in
theorem q_ml_M_59 : Cond.methodLink R_M 59 y_M_isOf ∈ BW := List.mem_filter.mpr ⟨List.mem_of_getElem? (i := 397) rfl, rfl⟩
set_option maxRecDepth 100000 in
theorem q_im_M_isOf : Cond.instanceMethod y_M_isOf ∈ BW := List.mem_filter.mpr ⟨List.mem_of_getElem? (i := 399) rfl, rfl⟩
set_option maxRecDepth 100000 in
theorem q_code_M_isOf : Cond.code y_M_isOf b_M_isOf 3 (some .boolean) ∈ BW := List.mem_filter.mpr ⟨List.mem_of_getElem? (i := 400) rfl, rfl⟩
set_option maxRecDepth 100000 in
theorem q_ml_L_40 : Cond.methodLink R_law 40 y_M_turn ∈ BW := List.mem_filter.mpr ⟨List.mem_of_getElem? (i := 401) rfl, rfl⟩
set_option maxRecDepth 100000 in
theorem q_im_M_turn : Cond.instanceMethod y_M_turn ∈ BW := List.mem_filter.mpr ⟨List.mem_of_getElem? (i := 402) rfl, rfl⟩
set_option maxRecDepth 100000 in
theorem q_sel_M_turn : Cond.selects R_M y_M_turn y_M_turn ∈ BW := List.mem_filter.mpr ⟨List.mem_of_getElem? (i := 403) rfl, rfl⟩
set_option maxRecDepth 100000 in
theorem q_code_M_turn : Cond.code y_M_turn b_M_turn 5 (some .int) ∈ BW := List.mem_filter.mpr ⟨List.mem_of_getElem? (i := 404) rfl, rfl⟩
set_option maxRecDepth 100000 in
theorem q_ml_M_76 : Cond.methodLink R_M 76 y_M_isDoor ∈ BW := List.mem_filter.mpr ⟨List.mem_of_getElem? (i := 405) rfl, rfl⟩
set_option maxRecDepth 100000 in
theorem q_im_M_isDoor : Cond.instanceMethod y_M_isDoor ∈ BW := List.mem_filter.mpr ⟨List.mem_of_getElem? (i := 407) rfl, rfl⟩
set_option maxRecDepth 100000 in
theorem q_code_M_isDoor : Cond.code y_M_isDoor b_M_isDoor 2 (some .boolean) ∈ BW := List.mem_filter.mpr ⟨List.mem_of_getElem? (i := 408) rfl, rfl⟩
set_option maxRecDepth 100000 in
theorem q_ml_L_44 : Cond.methodLink R_law 44 y_M_take ∈ BW := List.mem_filter.mpr ⟨List.mem_of_getElem? (i := 409) rfl, rfl⟩
set_option maxRecDepth 100000 in
theorem q_im_M_take : Cond.instanceMethod y_M_take ∈ BW := List.mem_filter.mpr ⟨List.mem_of_getElem? (i := 410) rfl, rfl⟩
set_option maxRecDepth 100000 in
theorem q_sel_M_take : Cond.selects R_M y_M_take y_M_take ∈ BW := List.mem_filter.mpr ⟨List.mem_of_getElem? (i := 411) rfl, rfl⟩
set_option maxRecDepth 100000 in
theorem q_code_M_take : Cond.code y_M_take b_M_take 3 (some .int) ∈ BW := List.mem_filter.mpr ⟨List.mem_of_getElem? (i := 412) rfl, rfl⟩
set_option maxRecDepth 100000 in
theorem q_ml_M_88 : Cond.methodLink R_M 88 y_M_findWay ∈ BW := List.mem_filter.mpr ⟨List.mem_of_getElem? (i := 413) rfl, rfl⟩
set_option maxRecDepth 100000 in
theorem q_im_M_findWay : Cond.instanceMethod y_M_findWay ∈ BW := List.mem_filter.mpr ⟨List.mem_of_getElem? (i := 415) rfl, rfl⟩
set_option maxRecDepth 100000 in
theorem q_code_M_findWay : Cond.code y_M_findWay b_M_findWay 5 (some .boolean) ∈ BW := List.mem_filter.mpr ⟨List.mem_of_getElem? (i := 416) rfl, rfl⟩
set_option maxRecDepth 100000 in
theorem q_ml_M_91 : Cond.methodLink R_M 91 y_M_firstBarrier ∈ BW := List.mem_filter.mpr ⟨List.mem_of_getElem? (i := 417) rfl, rfl⟩
set_option maxRecDepth 100000 in
theorem q_im_M_firstBarrier : Cond.instanceMethod y_M_firstBarrier ∈ BW := List.mem_filter.mpr ⟨List.mem_of_getElem? (i := 419) rfl, rfl⟩
set_option maxRecDepth 100000 in
theorem q_code_M_firstBarrier : Cond.code y_M_firstBarrier b_M_firstBarrier 2 (some .int) ∈ BW := List.mem_filter.mpr ⟨List.mem_of_getElem? (i := 420) rfl, rfl⟩
set_option maxRecDepth 100000 in
theorem q_ml_M_85 : Cond.methodLink R_M 85 y_M_isShut ∈ BW := List.mem_filter.mpr ⟨List.mem_of_getElem? (i := 421) rfl, rfl⟩
set_option maxRecDepth 100000 in
theorem q_im_M_isShut : Cond.instanceMethod y_M_isShut ∈ BW := List.mem_filter.mpr ⟨List.mem_of_getElem? (i := 423) rfl, rfl⟩
set_option maxRecDepth 100000 in
theorem q_code_M_isShut : Cond.code y_M_isShut b_M_isShut 2 (some .boolean) ∈ BW := List.mem_filter.mpr ⟨List.mem_of_getElem? (i := 424) rfl, rfl⟩
set_option maxRecDepth 100000 in
theorem q_ml_L_48 : Cond.methodLink R_law 48 y_M_give ∈ BW := List.mem_filter.mpr ⟨List.mem_of_getElem? (i := 425) rfl, rfl⟩
set_option maxRecDepth 100000 in
theorem q_im_M_give : Cond.instanceMethod y_M_give ∈ BW := List.mem_filter.mpr ⟨List.mem_of_getElem? (i := 426) rfl, rfl⟩
set_option maxRecDepth 100000 in
theorem q_sel_M_give : Cond.selects R_M y_M_give y_M_give ∈ BW := List.mem_filter.mpr ⟨List.mem_of_getElem? (i := 427) rfl, rfl⟩
set_option maxRecDepth 100000 in
theorem q_code_M_give : Cond.code y_M_give b_M_give 5 (some .int) ∈ BW := List.mem_filter.mpr ⟨List.mem_of_getElem? (i := 428) rfl, rfl⟩
set_option maxRecDepth 100000 in
theorem q_ml_L_52 : Cond.methodLink R_law 52 y_M_drop ∈ BW := List.mem_filter.mpr ⟨List.mem_of_getElem? (i := 429) rfl, rfl⟩
set_option maxRecDepth 100000 in
theorem q_im_M_drop : Cond.instanceMethod y_M_drop ∈ BW := List.mem_filter.mpr ⟨List.mem_of_getElem? (i := 430) rfl, rfl⟩
set_option maxRecDepth 100000 in
theorem q_sel_M_drop : Cond.selects R_M y_M_drop y_M_drop ∈ BW := List.mem_filter.mpr ⟨List.mem_of_getElem? (i := 431) rfl, rfl⟩
set_option maxRecDepth 100000 in
theorem q_code_M_drop : Cond.code y_M_drop b_M_drop 3 (some .int) ∈ BW := List.mem_filter.mpr ⟨List.mem_of_getElem? (i := 432) rfl, rfl⟩
set_option maxRecDepth 100000 in
theorem q_ml_L_56 : Cond.methodLink R_law 56 y_M_go ∈ BW := List.mem_filter.mpr ⟨List.mem_of_getElem? (i := 433) rfl, rfl⟩
set_option maxRecDepth 100000 in
theorem q_im_M_go : Cond.instanceMethod y_M_go ∈ BW := List.mem_filter.mpr ⟨List.mem_of_getElem? (i := 434) rfl, rfl⟩
set_option maxRecDepth 100000 in
theorem q_sel_M_go : Cond.selects R_M y_M_go y_M_go ∈ BW := List.mem_filter.mpr ⟨List.mem_of_getElem? (i := 435) rfl, rfl⟩
set_option maxRecDepth 100000 in
theorem q_code_M_go : Cond.code y_M_go b_M_go 4 (some .int) ∈ BW := List.mem_filter.mpr ⟨List.mem_of_getElem? (i := 436) rfl, rfl⟩
set_option maxRecDepth 100000 in
theorem q_ml_L_60 : Cond.methodLink R_law 60 y_M_count ∈ BW := List.mem_filter.mpr ⟨List.mem_of_getElem? (i := 437) rfl, rfl⟩
set_option maxRecDepth 100000 in
theorem q_im_M_count : Cond.instanceMethod y_M_count ∈ BW := List.mem_filter.mpr ⟨List.mem_of_getElem? (i := 438) rfl, rfl⟩
set_option maxRecDepth 100000 in
theorem q_sel_M_count : Cond.selects R_M y_M_count y_M_count ∈ BW := List.mem_filter.mpr ⟨List.mem_of_getElem? (i := 439) rfl, rfl⟩
set_option maxRecDepth 100000 in
theorem q_code_M_count : Cond.code y_M_count b_M_count 2 (some .int) ∈ BW := List.mem_filter.mpr ⟨List.mem_of_getElem? (i := 440) rfl, rfl⟩
set_option maxRecDepth 100000 in
theorem q_ml_L_64 : Cond.methodLink R_law 64 y_M_told ∈ BW := List.mem_filter.mpr ⟨List.mem_of_getElem? (i := 441) rfl, rfl⟩
set_option maxRecDepth 100000 in
theorem q_im_M_told : Cond.instanceMethod y_M_told ∈ BW := List.mem_filter.mpr ⟨List.mem_of_getElem? (i := 442) rfl, rfl⟩
set_option maxRecDepth 100000 in
theorem q_sel_M_told : Cond.selects R_M y_M_told y_M_told ∈ BW := List.mem_filter.mpr ⟨List.mem_of_getElem? (i := 443) rfl, rfl⟩
set_option maxRecDepth 100000 in
theorem q_code_M_told : Cond.code y_M_told b_M_told 5 (some .int) ∈ BW := List.mem_filter.mpr ⟨List.mem_of_getElem? (i := 444) rfl, rfl⟩
set_option maxRecDepth 100000 in
theorem q_ml_M_98 : Cond.methodLink R_M 98 y_M_spaceOf ∈ BW := List.mem_filter.mpr ⟨List.mem_of_getElem? (i := 445) rfl, rfl⟩
set_option maxRecDepth 100000 in
theorem q_im_M_spaceOf : Cond.instanceMethod y_M_spaceOf ∈ BW := List.mem_filter.mpr ⟨List.mem_of_getElem? (i := 447) rfl, rfl⟩
set_option maxRecDepth 100000 in
theorem q_code_M_spaceOf : Cond.code y_M_spaceOf b_M_spaceOf 3 (some .int) ∈ BW := List.mem_filter.mpr ⟨List.mem_of_getElem? (i := 448) rfl, rfl⟩
set_option maxRecDepth 100000 in
theorem q_ml_M_95 : Cond.methodLink R_M 95 y_M_isSpace ∈ BW := List.mem_filter.mpr ⟨List.mem_of_getElem? (i := 449) rfl, rfl⟩
set_option maxRecDepth 100000 in
theorem q_im_M_isSpace : Cond.instanceMethod y_M_isSpace ∈ BW := List.mem_filter.mpr ⟨List.mem_of_getElem? (i := 451) rfl, rfl⟩
set_option maxRecDepth 100000 in
theorem q_code_M_isSpace : Cond.code y_M_isSpace b_M_isSpace 2 (some .boolean) ∈ BW := List.mem_filter.mpr ⟨List.mem_of_getElem? (i := 452) rfl, rfl⟩
set_option maxRecDepth 100000 in
theorem q_ml_L_68 : Cond.methodLink R_law 68 y_M_held ∈ BW := List.mem_filter.mpr ⟨List.mem_of_getElem? (i := 453) rfl, rfl⟩
set_option maxRecDepth 100000 in
theorem q_im_M_held : Cond.instanceMethod y_M_held ∈ BW := List.mem_filter.mpr ⟨List.mem_of_getElem? (i := 454) rfl, rfl⟩
set_option maxRecDepth 100000 in
theorem q_sel_M_held : Cond.selects R_M y_M_held y_M_held ∈ BW := List.mem_filter.mpr ⟨List.mem_of_getElem? (i := 455) rfl, rfl⟩
set_option maxRecDepth 100000 in
theorem q_code_M_held : Cond.code y_M_held b_M_held 5 (some .int) ∈ BW := List.mem_filter.mpr ⟨List.mem_of_getElem? (i := 456) rfl, rfl⟩
set_option maxRecDepth 100000 in
theorem q_ml_L_72 : Cond.methodLink R_law 72 y_M_space ∈ BW := List.mem_filter.mpr ⟨List.mem_of_getElem? (i := 457) rfl, rfl⟩
set_option maxRecDepth 100000 in
theorem q_im_M_space : Cond.instanceMethod y_M_space ∈ BW := List.mem_filter.mpr ⟨List.mem_of_getElem? (i := 458) rfl, rfl⟩
set_option maxRecDepth 100000 in
theorem q_sel_M_space : Cond.selects R_M y_M_space y_M_space ∈ BW := List.mem_filter.mpr ⟨List.mem_of_getElem? (i := 459) rfl, rfl⟩
set_option maxRecDepth 100000 in
theorem q_code_M_space : Cond.code y_M_space b_M_space 3 (some .int) ∈ BW := List.mem_filter.mpr ⟨List.mem_of_getElem? (i := 460) rfl, rfl⟩
set_option maxRecDepth 100000 in
theorem q_ml_M_109 : Cond.methodLink R_M 109 y_M_findLosses ∈ BW := List.mem_filter.mpr ⟨List.mem_of_getElem? (i := 461) rfl, rfl⟩
set_option maxRecDepth 100000 in
theorem q_im_M_findLosses : Cond.instanceMethod y_M_findLosses ∈ BW := List.mem_filter.mpr ⟨List.mem_of_getElem? (i := 463) rfl, rfl⟩
set_option maxRecDepth 100000 in
theorem q_code_M_findLosses : Cond.code y_M_findLosses b_M_findLosses 7 none ∈ BW := List.mem_filter.mpr ⟨List.mem_of_getElem? (i := 464) rfl, rfl⟩
set_option maxRecDepth 100000 in
theorem q_ml_M_101 : Cond.methodLink R_M 101 y_M_lossOf ∈ BW := List.mem_filter.mpr ⟨List.mem_of_getElem? (i := 465) rfl, rfl⟩
set_option maxRecDepth 100000 in
theorem q_st_M_lossOf : Cond.static y_M_lossOf ∈ BW := List.mem_filter.mpr ⟨List.mem_of_getElem? (i := 466) rfl, rfl⟩
set_option maxRecDepth 100000 in
theorem q_code_M_lossOf : Cond.code y_M_lossOf b_M_lossOf 4 (some .int) ∈ BW := List.mem_filter.mpr ⟨List.mem_of_getElem? (i := 467) rfl, rfl⟩
set_option maxRecDepth 100000 in
theorem q_ml_M_105 : Cond.methodLink R_M 105 y_M_joins ∈ BW := List.mem_filter.mpr ⟨List.mem_of_getElem? (i := 468) rfl, rfl⟩
set_option maxRecDepth 100000 in
theorem q_im_M_joins : Cond.instanceMethod y_M_joins ∈ BW := List.mem_filter.mpr ⟨List.mem_of_getElem? (i := 470) rfl, rfl⟩
set_option maxRecDepth 100000 in
theorem q_code_M_joins : Cond.code y_M_joins b_M_joins 4 none ∈ BW := List.mem_filter.mpr ⟨List.mem_of_getElem? (i := 471) rfl, rfl⟩
set_option maxRecDepth 100000 in
theorem q_ml_M_113 : Cond.methodLink R_M 113 y_M_greatest ∈ BW := List.mem_filter.mpr ⟨List.mem_of_getElem? (i := 472) rfl, rfl⟩
set_option maxRecDepth 100000 in
theorem q_im_M_greatest : Cond.instanceMethod y_M_greatest ∈ BW := List.mem_filter.mpr ⟨List.mem_of_getElem? (i := 474) rfl, rfl⟩
set_option maxRecDepth 100000 in
theorem q_code_M_greatest : Cond.code y_M_greatest b_M_greatest 7 (some .int) ∈ BW := List.mem_filter.mpr ⟨List.mem_of_getElem? (i := 475) rfl, rfl⟩
set_option maxRecDepth 100000 in
theorem q_ml_L_76 : Cond.methodLink R_law 76 y_M_loses ∈ BW := List.mem_filter.mpr ⟨List.mem_of_getElem? (i := 476) rfl, rfl⟩
set_option maxRecDepth 100000 in
theorem q_im_M_loses : Cond.instanceMethod y_M_loses ∈ BW := List.mem_filter.mpr ⟨List.mem_of_getElem? (i := 477) rfl, rfl⟩
set_option maxRecDepth 100000 in
theorem q_sel_M_loses : Cond.selects R_M y_M_loses y_M_loses ∈ BW := List.mem_filter.mpr ⟨List.mem_of_getElem? (i := 478) rfl, rfl⟩
set_option maxRecDepth 100000 in
theorem q_code_M_loses : Cond.code y_M_loses b_M_loses 4 (some .int) ∈ BW := List.mem_filter.mpr ⟨List.mem_of_getElem? (i := 479) rfl, rfl⟩
set_option maxRecDepth 100000 in
theorem q_ml_L_80 : Cond.methodLink R_law 80 y_M_sees ∈ BW := List.mem_filter.mpr ⟨List.mem_of_getElem? (i := 480) rfl, rfl⟩
set_option maxRecDepth 100000 in
theorem q_im_M_sees : Cond.instanceMethod y_M_sees ∈ BW := List.mem_filter.mpr ⟨List.mem_of_getElem? (i := 481) rfl, rfl⟩
set_option maxRecDepth 100000 in
theorem q_sel_M_sees : Cond.selects R_M y_M_sees y_M_sees ∈ BW := List.mem_filter.mpr ⟨List.mem_of_getElem? (i := 482) rfl, rfl⟩
set_option maxRecDepth 100000 in
theorem q_code_M_sees : Cond.code y_M_sees b_M_sees 3 (some .int) ∈ BW := List.mem_filter.mpr ⟨List.mem_of_getElem? (i := 483) rfl, rfl⟩
set_option maxRecDepth 100000 in
theorem q_ml_M_120 : Cond.methodLink R_M 120 y_M_looks ∈ BW := List.mem_filter.mpr ⟨List.mem_of_getElem? (i := 484) rfl, rfl⟩
set_option maxRecDepth 100000 in
theorem q_im_M_looks : Cond.instanceMethod y_M_looks ∈ BW := List.mem_filter.mpr ⟨List.mem_of_getElem? (i := 486) rfl, rfl⟩
set_option maxRecDepth 100000 in
theorem q_code_M_looks : Cond.code y_M_looks b_M_looks 2 none ∈ BW := List.mem_filter.mpr ⟨List.mem_of_getElem? (i := 487) rfl, rfl⟩
set_option maxRecDepth 100000 in
theorem q_ml_M_123 : Cond.methodLink R_M 123 y_M_isSeen ∈ BW := List.mem_filter.mpr ⟨List.mem_of_getElem? (i := 488) rfl, rfl⟩
set_option maxRecDepth 100000 in
theorem q_im_M_isSeen : Cond.instanceMethod y_M_isSeen ∈ BW := List.mem_filter.mpr ⟨List.mem_of_getElem? (i := 490) rfl, rfl⟩
set_option maxRecDepth 100000 in
theorem q_code_M_isSeen : Cond.code y_M_isSeen b_M_isSeen 5 (some .boolean) ∈ BW := List.mem_filter.mpr ⟨List.mem_of_getElem? (i := 491) rfl, rfl⟩
set_option maxRecDepth 100000 in
theorem q_ml_M_117 : Cond.methodLink R_M 117 y_M_passes ∈ BW := List.mem_filter.mpr ⟨List.mem_of_getElem? (i := 492) rfl, rfl⟩
set_option maxRecDepth 100000 in
theorem q_im_M_passes : Cond.instanceMethod y_M_passes ∈ BW := List.mem_filter.mpr ⟨List.mem_of_getElem? (i := 494) rfl, rfl⟩
set_option maxRecDepth 100000 in
theorem q_code_M_passes : Cond.code y_M_passes b_M_passes 8 (some .boolean) ∈ BW := List.mem_filter.mpr ⟨List.mem_of_getElem? (i := 495) rfl, rfl⟩
set_option maxRecDepth 100000 in
theorem q_ml_L_84 : Cond.methodLink R_law 84 y_M_barrier ∈ BW := List.mem_filter.mpr ⟨List.mem_of_getElem? (i := 496) rfl, rfl⟩
set_option maxRecDepth 100000 in
theorem q_im_M_barrier : Cond.instanceMethod y_M_barrier ∈ BW := List.mem_filter.mpr ⟨List.mem_of_getElem? (i := 497) rfl, rfl⟩
set_option maxRecDepth 100000 in
theorem q_sel_M_barrier : Cond.selects R_M y_M_barrier y_M_barrier ∈ BW := List.mem_filter.mpr ⟨List.mem_of_getElem? (i := 498) rfl, rfl⟩
set_option maxRecDepth 100000 in
theorem q_code_M_barrier : Cond.code y_M_barrier b_M_barrier 3 (some .int) ∈ BW := List.mem_filter.mpr ⟨List.mem_of_getElem? (i := 499) rfl, rfl⟩
set_option maxRecDepth 100000 in
theorem q_ml_L_88 : Cond.methodLink R_law 88 y_M_scope ∈ BW := List.mem_filter.mpr ⟨List.mem_of_getElem? (i := 500) rfl, rfl⟩
set_option maxRecDepth 100000 in
theorem q_im_M_scope : Cond.instanceMethod y_M_scope ∈ BW := List.mem_filter.mpr ⟨List.mem_of_getElem? (i := 501) rfl, rfl⟩
set_option maxRecDepth 100000 in
theorem q_sel_M_scope : Cond.selects R_M y_M_scope y_M_scope ∈ BW := List.mem_filter.mpr ⟨List.mem_of_getElem? (i := 502) rfl, rfl⟩
set_option maxRecDepth 100000 in
theorem q_code_M_scope : Cond.code y_M_scope b_M_scope 5 (some .int) ∈ BW := List.mem_filter.mpr ⟨List.mem_of_getElem? (i := 503) rfl, rfl⟩
set_option maxRecDepth 100000 in
theorem q_ml_M_126 : Cond.methodLink R_M 126 y_M_isReached ∈ BW := List.mem_filter.mpr ⟨List.mem_of_getElem? (i := 504) rfl, rfl⟩
set_option maxRecDepth 100000 in
theorem q_im_M_isReached : Cond.instanceMethod y_M_isReached ∈ BW := List.mem_filter.mpr ⟨List.mem_of_getElem? (i := 506) rfl, rfl⟩
set_option maxRecDepth 100000 in
theorem q_code_M_isReached : Cond.code y_M_isReached b_M_isReached 3 (some .boolean) ∈ BW := List.mem_filter.mpr ⟨List.mem_of_getElem? (i := 507) rfl, rfl⟩
set_option maxRecDepth 100000 in
theorem q_ml_L_92 : Cond.methodLink R_law 92 y_M_hears ∈ BW := List.mem_filter.mpr ⟨List.mem_of_getElem? (i := 508) rfl, rfl⟩
set_option maxRecDepth 100000 in
theorem q_im_M_hears : Cond.instanceMethod y_M_hears ∈ BW := List.mem_filter.mpr ⟨List.mem_of_getElem? (i := 509) rfl, rfl⟩
set_option maxRecDepth 100000 in
theorem q_sel_M_hears : Cond.selects R_M y_M_hears y_M_hears ∈ BW := List.mem_filter.mpr ⟨List.mem_of_getElem? (i := 510) rfl, rfl⟩
set_option maxRecDepth 100000 in
theorem q_code_M_hears : Cond.code y_M_hears b_M_hears 7 (some .int) ∈ BW := List.mem_filter.mpr ⟨List.mem_of_getElem? (i := 511) rfl, rfl⟩
theorem q_sel_C_isThing : Cond.selects R_C y_C_isThing y_C_isThing ∈ BW := List.mem_filter.mpr ⟨List.mem_of_getElem? (i := 0) rfl, rfl⟩
theorem q_sel_C_sortOf : Cond.selects R_C y_C_sortOf y_C_sortOf ∈ BW := List.mem_filter.mpr ⟨List.mem_of_getElem? (i := 1) rfl, rfl⟩
theorem q_sel_C_isWithin : Cond.selects R_C y_C_isWithin y_C_isWithin ∈ BW := List.mem_filter.mpr ⟨List.mem_of_getElem? (i := 2) rfl, rfl⟩
theorem q_sel_C_holderOf : Cond.selects R_C y_C_holderOf y_C_holderOf ∈ BW := List.mem_filter.mpr ⟨List.mem_of_getElem? (i := 3) rfl, rfl⟩
theorem q_sel_C_isFull : Cond.selects R_C y_C_isFull y_C_isFull ∈ BW := List.mem_filter.mpr ⟨List.mem_of_getElem? (i := 4) rfl, rfl⟩
theorem q_sel_C_countHeldBy : Cond.selects R_C y_C_countHeldBy y_C_countHeldBy ∈ BW := List.mem_filter.mpr ⟨List.mem_of_getElem? (i := 5) rfl, rfl⟩
theorem q_sel_C_isDoor : Cond.selects R_C y_C_isDoor y_C_isDoor ∈ BW := List.mem_filter.mpr ⟨List.mem_of_getElem? (i := 6) rfl, rfl⟩
theorem q_sel_C_isPerson : Cond.selects R_C y_C_isPerson y_C_isPerson ∈ BW := List.mem_filter.mpr ⟨List.mem_of_getElem? (i := 7) rfl, rfl⟩
theorem q_sel_C_firstBarrier : Cond.selects R_C y_C_firstBarrier y_C_firstBarrier ∈ BW := List.mem_filter.mpr ⟨List.mem_of_getElem? (i := 8) rfl, rfl⟩
theorem q_sel_C_turningPoint : Cond.selects R_C y_C_turningPoint y_C_turningPoint ∈ BW := List.mem_filter.mpr ⟨List.mem_of_getElem? (i := 9) rfl, rfl⟩
theorem q_sel_C_firstBarrierOut : Cond.selects R_C y_C_firstBarrierOut y_C_firstBarrierOut ∈ BW := List.mem_filter.mpr ⟨List.mem_of_getElem? (i := 10) rfl, rfl⟩
theorem q_sel_C_isShutBox : Cond.selects R_C y_C_isShutBox y_C_isShutBox ∈ BW := List.mem_filter.mpr ⟨List.mem_of_getElem? (i := 11) rfl, rfl⟩
theorem q_sel_C_markOf : Cond.selects R_C y_C_markOf y_C_markOf ∈ BW := List.mem_filter.mpr ⟨List.mem_of_getElem? (i := 12) rfl, rfl⟩
theorem q_sel_C_firstBarrierIn : Cond.selects R_C y_C_firstBarrierIn y_C_firstBarrierIn ∈ BW := List.mem_filter.mpr ⟨List.mem_of_getElem? (i := 13) rfl, rfl⟩
theorem q_sel_C_hasInHands : Cond.selects R_C y_C_hasInHands y_C_hasInHands ∈ BW := List.mem_filter.mpr ⟨List.mem_of_getElem? (i := 14) rfl, rfl⟩
theorem q_sel_C_mayBeGivenTo : Cond.selects R_C y_C_mayBeGivenTo y_C_mayBeGivenTo ∈ BW := List.mem_filter.mpr ⟨List.mem_of_getElem? (i := 15) rfl, rfl⟩
theorem q_sel_C_spaceOf : Cond.selects R_C y_C_spaceOf y_C_spaceOf ∈ BW := List.mem_filter.mpr ⟨List.mem_of_getElem? (i := 16) rfl, rfl⟩
theorem q_sel_C_isSpace : Cond.selects R_C y_C_isSpace y_C_isSpace ∈ BW := List.mem_filter.mpr ⟨List.mem_of_getElem? (i := 17) rfl, rfl⟩
theorem q_sel_C_countWithin : Cond.selects R_C y_C_countWithin y_C_countWithin ∈ BW := List.mem_filter.mpr ⟨List.mem_of_getElem? (i := 18) rfl, rfl⟩
theorem q_sel_C_fillFromAllThings : Cond.selects R_C y_C_fillFromAllThings y_C_fillFromAllThings ∈ BW := List.mem_filter.mpr ⟨List.mem_of_getElem? (i := 19) rfl, rfl⟩
theorem q_sel_C_spread : Cond.selects R_C y_C_spread y_C_spread ∈ BW := List.mem_filter.mpr ⟨List.mem_of_getElem? (i := 20) rfl, rfl⟩
theorem q_sel_C_wallLoss : Cond.selects R_C y_C_wallLoss y_C_wallLoss ∈ BW := List.mem_filter.mpr ⟨List.mem_of_getElem? (i := 21) rfl, rfl⟩
theorem q_sel_C_spreadOver : Cond.selects R_C y_C_spreadOver y_C_spreadOver ∈ BW := List.mem_filter.mpr ⟨List.mem_of_getElem? (i := 22) rfl, rfl⟩
theorem q_sel_C_doorLoss : Cond.selects R_C y_C_doorLoss y_C_doorLoss ∈ BW := List.mem_filter.mpr ⟨List.mem_of_getElem? (i := 23) rfl, rfl⟩
theorem q_sel_C_fillFromOneSpace : Cond.selects R_C y_C_fillFromOneSpace y_C_fillFromOneSpace ∈ BW := List.mem_filter.mpr ⟨List.mem_of_getElem? (i := 24) rfl, rfl⟩
theorem q_sel_C_lossAt : Cond.selects R_C y_C_lossAt y_C_lossAt ∈ BW := List.mem_filter.mpr ⟨List.mem_of_getElem? (i := 25) rfl, rfl⟩
theorem q_sel_C_viewOf : Cond.selects R_C y_C_viewOf y_C_viewOf ∈ BW := List.mem_filter.mpr ⟨List.mem_of_getElem? (i := 26) rfl, rfl⟩
theorem q_sel_C_widenedOverWalls : Cond.selects R_C y_C_widenedOverWalls y_C_widenedOverWalls ∈ BW := List.mem_filter.mpr ⟨List.mem_of_getElem? (i := 27) rfl, rfl⟩
theorem q_sel_C_widenedOverOneDoor : Cond.selects R_C y_C_widenedOverOneDoor y_C_widenedOverOneDoor ∈ BW := List.mem_filter.mpr ⟨List.mem_of_getElem? (i := 28) rfl, rfl⟩
theorem q_sel_C_isSeen : Cond.selects R_C y_C_isSeen y_C_isSeen ∈ BW := List.mem_filter.mpr ⟨List.mem_of_getElem? (i := 29) rfl, rfl⟩
theorem q_sel_C_partHeardOf : Cond.selects R_C y_C_partHeardOf y_C_partHeardOf ∈ BW := List.mem_filter.mpr ⟨List.mem_of_getElem? (i := 30) rfl, rfl⟩
theorem q_sel_M_isThing : Cond.selects R_M y_M_isThing y_M_isThing ∈ BW := List.mem_filter.mpr ⟨List.mem_of_getElem? (i := 31) rfl, rfl⟩
theorem q_sel_M_isWithin : Cond.selects R_M y_M_isWithin y_M_isWithin ∈ BW := List.mem_filter.mpr ⟨List.mem_of_getElem? (i := 32) rfl, rfl⟩
theorem q_sel_M_hasRoom : Cond.selects R_M y_M_hasRoom y_M_hasRoom ∈ BW := List.mem_filter.mpr ⟨List.mem_of_getElem? (i := 33) rfl, rfl⟩
theorem q_sel_M_heldBy : Cond.selects R_M y_M_heldBy y_M_heldBy ∈ BW := List.mem_filter.mpr ⟨List.mem_of_getElem? (i := 34) rfl, rfl⟩
theorem q_sel_M_isOf : Cond.selects R_M y_M_isOf y_M_isOf ∈ BW := List.mem_filter.mpr ⟨List.mem_of_getElem? (i := 35) rfl, rfl⟩
theorem q_sel_M_isDoor : Cond.selects R_M y_M_isDoor y_M_isDoor ∈ BW := List.mem_filter.mpr ⟨List.mem_of_getElem? (i := 36) rfl, rfl⟩
theorem q_sel_M_findWay : Cond.selects R_M y_M_findWay y_M_findWay ∈ BW := List.mem_filter.mpr ⟨List.mem_of_getElem? (i := 37) rfl, rfl⟩
theorem q_sel_M_firstBarrier : Cond.selects R_M y_M_firstBarrier y_M_firstBarrier ∈ BW := List.mem_filter.mpr ⟨List.mem_of_getElem? (i := 38) rfl, rfl⟩
theorem q_sel_M_isShut : Cond.selects R_M y_M_isShut y_M_isShut ∈ BW := List.mem_filter.mpr ⟨List.mem_of_getElem? (i := 39) rfl, rfl⟩
theorem q_sel_M_spaceOf : Cond.selects R_M y_M_spaceOf y_M_spaceOf ∈ BW := List.mem_filter.mpr ⟨List.mem_of_getElem? (i := 40) rfl, rfl⟩
theorem q_sel_M_isSpace : Cond.selects R_M y_M_isSpace y_M_isSpace ∈ BW := List.mem_filter.mpr ⟨List.mem_of_getElem? (i := 41) rfl, rfl⟩
theorem q_sel_M_findLosses : Cond.selects R_M y_M_findLosses y_M_findLosses ∈ BW := List.mem_filter.mpr ⟨List.mem_of_getElem? (i := 42) rfl, rfl⟩
theorem q_sel_M_joins : Cond.selects R_M y_M_joins y_M_joins ∈ BW := List.mem_filter.mpr ⟨List.mem_of_getElem? (i := 43) rfl, rfl⟩
theorem q_sel_M_greatest : Cond.selects R_M y_M_greatest y_M_greatest ∈ BW := List.mem_filter.mpr ⟨List.mem_of_getElem? (i := 44) rfl, rfl⟩
theorem q_sel_M_looks : Cond.selects R_M y_M_looks y_M_looks ∈ BW := List.mem_filter.mpr ⟨List.mem_of_getElem? (i := 45) rfl, rfl⟩
theorem q_sel_M_isSeen : Cond.selects R_M y_M_isSeen y_M_isSeen ∈ BW := List.mem_filter.mpr ⟨List.mem_of_getElem? (i := 46) rfl, rfl⟩
theorem q_sel_M_passes : Cond.selects R_M y_M_passes y_M_passes ∈ BW := List.mem_filter.mpr ⟨List.mem_of_getElem? (i := 47) rfl, rfl⟩
theorem q_sel_M_isReached : Cond.selects R_M y_M_isReached y_M_isReached ∈ BW := List.mem_filter.mpr ⟨List.mem_of_getElem? (i := 48) rfl, rfl⟩
