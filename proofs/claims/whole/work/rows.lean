section
-- ===== PART A: goes FIRST, ahead of the names: the tables' words, and 'selects' of the private methods out of them =====
/-- a private method of a class that the tables say can be made, by its rows of tables_1 -/
def lw_okq (q : MethodName × Nat) : Prop := (q.1.cls ≠ "java/lang/invoke/MethodHandle" ∧ q.1.cls ≠ "java/lang/invoke/VarHandle") ∧ Cond.instantiable q.1.cls q.2 ∈ tables_1 ∧ Cond.privateMethod q.1 ∈ tables_1 ∧ Cond.instanceMethod q.1 ∈ tables_1
theorem lw_p0 : lw_okq (⟨"LitReach", "isThing", "(I)Z"⟩, 9) := ⟨⟨by decide +kernel, by decide +kernel⟩, List.mem_of_getElem? (i := 6) (by decide +kernel), List.mem_of_getElem? (i := 57) (by decide +kernel), List.mem_of_getElem? (i := 58) (by decide +kernel)⟩
theorem lw_p1 : lw_okq (⟨"LitReach", "sortOf", "(I)I"⟩, 9) := ⟨⟨by decide +kernel, by decide +kernel⟩, List.mem_of_getElem? (i := 6) (by decide +kernel), List.mem_of_getElem? (i := 61) (by decide +kernel), List.mem_of_getElem? (i := 62) (by decide +kernel)⟩
theorem lw_p2 : lw_okq (⟨"LitReach", "isWithin", "(II)Z"⟩, 9) := ⟨⟨by decide +kernel, by decide +kernel⟩, List.mem_of_getElem? (i := 6) (by decide +kernel), List.mem_of_getElem? (i := 65) (by decide +kernel), List.mem_of_getElem? (i := 66) (by decide +kernel)⟩
theorem lw_p3 : lw_okq (⟨"LitReach", "holderOf", "(I)I"⟩, 9) := ⟨⟨by decide +kernel, by decide +kernel⟩, List.mem_of_getElem? (i := 6) (by decide +kernel), List.mem_of_getElem? (i := 69) (by decide +kernel), List.mem_of_getElem? (i := 70) (by decide +kernel)⟩
theorem lw_p4 : lw_okq (⟨"LitReach", "isFull", "(I)Z"⟩, 9) := ⟨⟨by decide +kernel, by decide +kernel⟩, List.mem_of_getElem? (i := 6) (by decide +kernel), List.mem_of_getElem? (i := 73) (by decide +kernel), List.mem_of_getElem? (i := 74) (by decide +kernel)⟩
theorem lw_p5 : lw_okq (⟨"LitReach", "countHeldBy", "(I)I"⟩, 9) := ⟨⟨by decide +kernel, by decide +kernel⟩, List.mem_of_getElem? (i := 6) (by decide +kernel), List.mem_of_getElem? (i := 77) (by decide +kernel), List.mem_of_getElem? (i := 78) (by decide +kernel)⟩
theorem lw_p6 : lw_okq (⟨"LitReach", "isDoor", "(I)Z"⟩, 9) := ⟨⟨by decide +kernel, by decide +kernel⟩, List.mem_of_getElem? (i := 6) (by decide +kernel), List.mem_of_getElem? (i := 93) (by decide +kernel), List.mem_of_getElem? (i := 94) (by decide +kernel)⟩
theorem lw_p7 : lw_okq (⟨"LitReach", "isPerson", "(I)Z"⟩, 9) := ⟨⟨by decide +kernel, by decide +kernel⟩, List.mem_of_getElem? (i := 6) (by decide +kernel), List.mem_of_getElem? (i := 101) (by decide +kernel), List.mem_of_getElem? (i := 102) (by decide +kernel)⟩
theorem lw_p8 : lw_okq (⟨"LitReach", "firstBarrier", "(II)I"⟩, 9) := ⟨⟨by decide +kernel, by decide +kernel⟩, List.mem_of_getElem? (i := 6) (by decide +kernel), List.mem_of_getElem? (i := 105) (by decide +kernel), List.mem_of_getElem? (i := 106) (by decide +kernel)⟩
theorem lw_p9 : lw_okq (⟨"LitReach", "turningPoint", "(II)I"⟩, 9) := ⟨⟨by decide +kernel, by decide +kernel⟩, List.mem_of_getElem? (i := 6) (by decide +kernel), List.mem_of_getElem? (i := 109) (by decide +kernel), List.mem_of_getElem? (i := 110) (by decide +kernel)⟩
theorem lw_p10 : lw_okq (⟨"LitReach", "firstBarrierOut", "(II)I"⟩, 9) := ⟨⟨by decide +kernel, by decide +kernel⟩, List.mem_of_getElem? (i := 6) (by decide +kernel), List.mem_of_getElem? (i := 113) (by decide +kernel), List.mem_of_getElem? (i := 114) (by decide +kernel)⟩
theorem lw_p11 : lw_okq (⟨"LitReach", "isShutBox", "(I)Z"⟩, 9) := ⟨⟨by decide +kernel, by decide +kernel⟩, List.mem_of_getElem? (i := 6) (by decide +kernel), List.mem_of_getElem? (i := 117) (by decide +kernel), List.mem_of_getElem? (i := 118) (by decide +kernel)⟩
theorem lw_p12 : lw_okq (⟨"LitReach", "markOf", "(II)I"⟩, 9) := ⟨⟨by decide +kernel, by decide +kernel⟩, List.mem_of_getElem? (i := 6) (by decide +kernel), List.mem_of_getElem? (i := 121) (by decide +kernel), List.mem_of_getElem? (i := 122) (by decide +kernel)⟩
theorem lw_p13 : lw_okq (⟨"LitReach", "firstBarrierIn", "(II)I"⟩, 9) := ⟨⟨by decide +kernel, by decide +kernel⟩, List.mem_of_getElem? (i := 6) (by decide +kernel), List.mem_of_getElem? (i := 125) (by decide +kernel), List.mem_of_getElem? (i := 126) (by decide +kernel)⟩
theorem lw_p14 : lw_okq (⟨"LitReach", "hasInHands", "(II)Z"⟩, 9) := ⟨⟨by decide +kernel, by decide +kernel⟩, List.mem_of_getElem? (i := 6) (by decide +kernel), List.mem_of_getElem? (i := 133) (by decide +kernel), List.mem_of_getElem? (i := 134) (by decide +kernel)⟩
theorem lw_p15 : lw_okq (⟨"LitReach", "mayBeGivenTo", "(I)Z"⟩, 9) := ⟨⟨by decide +kernel, by decide +kernel⟩, List.mem_of_getElem? (i := 6) (by decide +kernel), List.mem_of_getElem? (i := 137) (by decide +kernel), List.mem_of_getElem? (i := 138) (by decide +kernel)⟩
def lw_privs_1 : List (MethodName × Nat) := [(⟨"LitReach", "isThing", "(I)Z"⟩, 9), (⟨"LitReach", "sortOf", "(I)I"⟩, 9), (⟨"LitReach", "isWithin", "(II)Z"⟩, 9), (⟨"LitReach", "holderOf", "(I)I"⟩, 9), (⟨"LitReach", "isFull", "(I)Z"⟩, 9), (⟨"LitReach", "countHeldBy", "(I)I"⟩, 9), (⟨"LitReach", "isDoor", "(I)Z"⟩, 9), (⟨"LitReach", "isPerson", "(I)Z"⟩, 9), (⟨"LitReach", "firstBarrier", "(II)I"⟩, 9), (⟨"LitReach", "turningPoint", "(II)I"⟩, 9), (⟨"LitReach", "firstBarrierOut", "(II)I"⟩, 9), (⟨"LitReach", "isShutBox", "(I)Z"⟩, 9), (⟨"LitReach", "markOf", "(II)I"⟩, 9), (⟨"LitReach", "firstBarrierIn", "(II)I"⟩, 9), (⟨"LitReach", "hasInHands", "(II)Z"⟩, 9), (⟨"LitReach", "mayBeGivenTo", "(I)Z"⟩, 9)]
theorem lw_r1 : ∀ q ∈ lw_privs_1, lw_okq q := List.forall_mem_cons.mpr ⟨lw_p0, List.forall_mem_cons.mpr ⟨lw_p1, List.forall_mem_cons.mpr ⟨lw_p2, List.forall_mem_cons.mpr ⟨lw_p3, List.forall_mem_cons.mpr ⟨lw_p4, List.forall_mem_cons.mpr ⟨lw_p5, List.forall_mem_cons.mpr ⟨lw_p6, List.forall_mem_cons.mpr ⟨lw_p7, List.forall_mem_cons.mpr ⟨lw_p8, List.forall_mem_cons.mpr ⟨lw_p9, List.forall_mem_cons.mpr ⟨lw_p10, List.forall_mem_cons.mpr ⟨lw_p11, List.forall_mem_cons.mpr ⟨lw_p12, List.forall_mem_cons.mpr ⟨lw_p13, List.forall_mem_cons.mpr ⟨lw_p14, List.forall_mem_cons.mpr ⟨lw_p15, fun _ h => absurd h List.not_mem_nil⟩⟩⟩⟩⟩⟩⟩⟩⟩⟩⟩⟩⟩⟩⟩⟩
theorem lw_p16 : lw_okq (⟨"LitReach", "spaceOf", "(I)I"⟩, 9) := ⟨⟨by decide +kernel, by decide +kernel⟩, List.mem_of_getElem? (i := 6) (by decide +kernel), List.mem_of_getElem? (i := 157) (by decide +kernel), List.mem_of_getElem? (i := 158) (by decide +kernel)⟩
theorem lw_p17 : lw_okq (⟨"LitReach", "isSpace", "(I)Z"⟩, 9) := ⟨⟨by decide +kernel, by decide +kernel⟩, List.mem_of_getElem? (i := 6) (by decide +kernel), List.mem_of_getElem? (i := 161) (by decide +kernel), List.mem_of_getElem? (i := 162) (by decide +kernel)⟩
theorem lw_p18 : lw_okq (⟨"LitReach", "countWithin", "(I)I"⟩, 9) := ⟨⟨by decide +kernel, by decide +kernel⟩, List.mem_of_getElem? (i := 6) (by decide +kernel), List.mem_of_getElem? (i := 165) (by decide +kernel), List.mem_of_getElem? (i := 166) (by decide +kernel)⟩
theorem lw_p19 : lw_okq (⟨"LitReach", "fillFromAllThings", "(I)V"⟩, 9) := ⟨⟨by decide +kernel, by decide +kernel⟩, List.mem_of_getElem? (i := 6) (by decide +kernel), List.mem_of_getElem? (i := 177) (by decide +kernel), List.mem_of_getElem? (i := 178) (by decide +kernel)⟩
theorem lw_p20 : lw_okq (⟨"LitReach", "spread", "(I)V"⟩, 9) := ⟨⟨by decide +kernel, by decide +kernel⟩, List.mem_of_getElem? (i := 6) (by decide +kernel), List.mem_of_getElem? (i := 187) (by decide +kernel), List.mem_of_getElem? (i := 188) (by decide +kernel)⟩
theorem lw_p21 : lw_okq (⟨"LitReach", "wallLoss", "(II)I"⟩, 9) := ⟨⟨by decide +kernel, by decide +kernel⟩, List.mem_of_getElem? (i := 6) (by decide +kernel), List.mem_of_getElem? (i := 191) (by decide +kernel), List.mem_of_getElem? (i := 192) (by decide +kernel)⟩
theorem lw_p22 : lw_okq (⟨"LitReach", "spreadOver", "(III)Z"⟩, 9) := ⟨⟨by decide +kernel, by decide +kernel⟩, List.mem_of_getElem? (i := 6) (by decide +kernel), List.mem_of_getElem? (i := 195) (by decide +kernel), List.mem_of_getElem? (i := 196) (by decide +kernel)⟩
theorem lw_p23 : lw_okq (⟨"LitReach", "doorLoss", "(II)I"⟩, 9) := ⟨⟨by decide +kernel, by decide +kernel⟩, List.mem_of_getElem? (i := 6) (by decide +kernel), List.mem_of_getElem? (i := 199) (by decide +kernel), List.mem_of_getElem? (i := 200) (by decide +kernel)⟩
theorem lw_p24 : lw_okq (⟨"LitReach", "fillFromOneSpace", "(II)V"⟩, 9) := ⟨⟨by decide +kernel, by decide +kernel⟩, List.mem_of_getElem? (i := 6) (by decide +kernel), List.mem_of_getElem? (i := 207) (by decide +kernel), List.mem_of_getElem? (i := 208) (by decide +kernel)⟩
theorem lw_p25 : lw_okq (⟨"LitReach", "lossAt", "(I)I"⟩, 9) := ⟨⟨by decide +kernel, by decide +kernel⟩, List.mem_of_getElem? (i := 6) (by decide +kernel), List.mem_of_getElem? (i := 211) (by decide +kernel), List.mem_of_getElem? (i := 212) (by decide +kernel)⟩
theorem lw_p26 : lw_okq (⟨"LitReach", "viewOf", "(I)I"⟩, 9) := ⟨⟨by decide +kernel, by decide +kernel⟩, List.mem_of_getElem? (i := 6) (by decide +kernel), List.mem_of_getElem? (i := 219) (by decide +kernel), List.mem_of_getElem? (i := 220) (by decide +kernel)⟩
theorem lw_p27 : lw_okq (⟨"LitReach", "widenedOverWalls", "(I)I"⟩, 9) := ⟨⟨by decide +kernel, by decide +kernel⟩, List.mem_of_getElem? (i := 6) (by decide +kernel), List.mem_of_getElem? (i := 223) (by decide +kernel), List.mem_of_getElem? (i := 224) (by decide +kernel)⟩
theorem lw_p28 : lw_okq (⟨"LitReach", "widenedOverOneDoor", "(I)I"⟩, 9) := ⟨⟨by decide +kernel, by decide +kernel⟩, List.mem_of_getElem? (i := 6) (by decide +kernel), List.mem_of_getElem? (i := 230) (by decide +kernel), List.mem_of_getElem? (i := 231) (by decide +kernel)⟩
theorem lw_p29 : lw_okq (⟨"LitReach", "isSeen", "(II)Z"⟩, 9) := ⟨⟨by decide +kernel, by decide +kernel⟩, List.mem_of_getElem? (i := 6) (by decide +kernel), List.mem_of_getElem? (i := 234) (by decide +kernel), List.mem_of_getElem? (i := 235) (by decide +kernel)⟩
theorem lw_p30 : lw_okq (⟨"LitReach", "partHeardOf", "(I)I"⟩, 9) := ⟨⟨by decide +kernel, by decide +kernel⟩, List.mem_of_getElem? (i := 6) (by decide +kernel), List.mem_of_getElem? (i := 250) (by decide +kernel), List.mem_of_getElem? (i := 251) (by decide +kernel)⟩
theorem lw_p31 : lw_okq (⟨"LitReachModel", "isThing", "(I)Z"⟩, 16) := ⟨⟨by decide +kernel, by decide +kernel⟩, List.mem_of_getElem? (i := 254) (by decide +kernel), List.mem_of_getElem? (i := 325) (by decide +kernel), List.mem_of_getElem? (i := 326) (by decide +kernel)⟩
def lw_privs_2 : List (MethodName × Nat) := [(⟨"LitReach", "spaceOf", "(I)I"⟩, 9), (⟨"LitReach", "isSpace", "(I)Z"⟩, 9), (⟨"LitReach", "countWithin", "(I)I"⟩, 9), (⟨"LitReach", "fillFromAllThings", "(I)V"⟩, 9), (⟨"LitReach", "spread", "(I)V"⟩, 9), (⟨"LitReach", "wallLoss", "(II)I"⟩, 9), (⟨"LitReach", "spreadOver", "(III)Z"⟩, 9), (⟨"LitReach", "doorLoss", "(II)I"⟩, 9), (⟨"LitReach", "fillFromOneSpace", "(II)V"⟩, 9), (⟨"LitReach", "lossAt", "(I)I"⟩, 9), (⟨"LitReach", "viewOf", "(I)I"⟩, 9), (⟨"LitReach", "widenedOverWalls", "(I)I"⟩, 9), (⟨"LitReach", "widenedOverOneDoor", "(I)I"⟩, 9), (⟨"LitReach", "isSeen", "(II)Z"⟩, 9), (⟨"LitReach", "partHeardOf", "(I)I"⟩, 9), (⟨"LitReachModel", "isThing", "(I)Z"⟩, 16)]
theorem lw_r2 : ∀ q ∈ lw_privs_2, lw_okq q := List.forall_mem_cons.mpr ⟨lw_p16, List.forall_mem_cons.mpr ⟨lw_p17, List.forall_mem_cons.mpr ⟨lw_p18, List.forall_mem_cons.mpr ⟨lw_p19, List.forall_mem_cons.mpr ⟨lw_p20, List.forall_mem_cons.mpr ⟨lw_p21, List.forall_mem_cons.mpr ⟨lw_p22, List.forall_mem_cons.mpr ⟨lw_p23, List.forall_mem_cons.mpr ⟨lw_p24, List.forall_mem_cons.mpr ⟨lw_p25, List.forall_mem_cons.mpr ⟨lw_p26, List.forall_mem_cons.mpr ⟨lw_p27, List.forall_mem_cons.mpr ⟨lw_p28, List.forall_mem_cons.mpr ⟨lw_p29, List.forall_mem_cons.mpr ⟨lw_p30, List.forall_mem_cons.mpr ⟨lw_p31, fun _ h => absurd h List.not_mem_nil⟩⟩⟩⟩⟩⟩⟩⟩⟩⟩⟩⟩⟩⟩⟩⟩
theorem lw_p32 : lw_okq (⟨"LitReachModel", "isWithin", "(II)Z"⟩, 16) := ⟨⟨by decide +kernel, by decide +kernel⟩, List.mem_of_getElem? (i := 254) (by decide +kernel), List.mem_of_getElem? (i := 329) (by decide +kernel), List.mem_of_getElem? (i := 330) (by decide +kernel)⟩
theorem lw_p33 : lw_okq (⟨"LitReachModel", "hasRoom", "(I)Z"⟩, 16) := ⟨⟨by decide +kernel, by decide +kernel⟩, List.mem_of_getElem? (i := 254) (by decide +kernel), List.mem_of_getElem? (i := 333) (by decide +kernel), List.mem_of_getElem? (i := 334) (by decide +kernel)⟩
theorem lw_p34 : lw_okq (⟨"LitReachModel", "heldBy", "(I)I"⟩, 16) := ⟨⟨by decide +kernel, by decide +kernel⟩, List.mem_of_getElem? (i := 254) (by decide +kernel), List.mem_of_getElem? (i := 337) (by decide +kernel), List.mem_of_getElem? (i := 338) (by decide +kernel)⟩
theorem lw_p35 : lw_okq (⟨"LitReachModel", "isOf", "(II)Z"⟩, 16) := ⟨⟨by decide +kernel, by decide +kernel⟩, List.mem_of_getElem? (i := 254) (by decide +kernel), List.mem_of_getElem? (i := 349) (by decide +kernel), List.mem_of_getElem? (i := 350) (by decide +kernel)⟩
theorem lw_p36 : lw_okq (⟨"LitReachModel", "isDoor", "(I)Z"⟩, 16) := ⟨⟨by decide +kernel, by decide +kernel⟩, List.mem_of_getElem? (i := 254) (by decide +kernel), List.mem_of_getElem? (i := 357) (by decide +kernel), List.mem_of_getElem? (i := 358) (by decide +kernel)⟩
theorem lw_p37 : lw_okq (⟨"LitReachModel", "findWay", "(II)Z"⟩, 16) := ⟨⟨by decide +kernel, by decide +kernel⟩, List.mem_of_getElem? (i := 254) (by decide +kernel), List.mem_of_getElem? (i := 365) (by decide +kernel), List.mem_of_getElem? (i := 366) (by decide +kernel)⟩
theorem lw_p38 : lw_okq (⟨"LitReachModel", "firstBarrier", "()I"⟩, 16) := ⟨⟨by decide +kernel, by decide +kernel⟩, List.mem_of_getElem? (i := 254) (by decide +kernel), List.mem_of_getElem? (i := 369) (by decide +kernel), List.mem_of_getElem? (i := 370) (by decide +kernel)⟩
theorem lw_p39 : lw_okq (⟨"LitReachModel", "isShut", "(I)Z"⟩, 16) := ⟨⟨by decide +kernel, by decide +kernel⟩, List.mem_of_getElem? (i := 254) (by decide +kernel), List.mem_of_getElem? (i := 373) (by decide +kernel), List.mem_of_getElem? (i := 374) (by decide +kernel)⟩
theorem lw_p40 : lw_okq (⟨"LitReachModel", "spaceOf", "(I)I"⟩, 16) := ⟨⟨by decide +kernel, by decide +kernel⟩, List.mem_of_getElem? (i := 254) (by decide +kernel), List.mem_of_getElem? (i := 397) (by decide +kernel), List.mem_of_getElem? (i := 398) (by decide +kernel)⟩
theorem lw_p41 : lw_okq (⟨"LitReachModel", "isSpace", "(I)Z"⟩, 16) := ⟨⟨by decide +kernel, by decide +kernel⟩, List.mem_of_getElem? (i := 254) (by decide +kernel), List.mem_of_getElem? (i := 401) (by decide +kernel), List.mem_of_getElem? (i := 402) (by decide +kernel)⟩
theorem lw_p42 : lw_okq (⟨"LitReachModel", "findLosses", "(IZ)V"⟩, 16) := ⟨⟨by decide +kernel, by decide +kernel⟩, List.mem_of_getElem? (i := 254) (by decide +kernel), List.mem_of_getElem? (i := 413) (by decide +kernel), List.mem_of_getElem? (i := 414) (by decide +kernel)⟩
theorem lw_p43 : lw_okq (⟨"LitReachModel", "joins", "(III)V"⟩, 16) := ⟨⟨by decide +kernel, by decide +kernel⟩, List.mem_of_getElem? (i := 254) (by decide +kernel), List.mem_of_getElem? (i := 420) (by decide +kernel), List.mem_of_getElem? (i := 421) (by decide +kernel)⟩
theorem lw_p44 : lw_okq (⟨"LitReachModel", "greatest", "(II)I"⟩, 16) := ⟨⟨by decide +kernel, by decide +kernel⟩, List.mem_of_getElem? (i := 254) (by decide +kernel), List.mem_of_getElem? (i := 424) (by decide +kernel), List.mem_of_getElem? (i := 425) (by decide +kernel)⟩
theorem lw_p45 : lw_okq (⟨"LitReachModel", "looks", "()V"⟩, 16) := ⟨⟨by decide +kernel, by decide +kernel⟩, List.mem_of_getElem? (i := 254) (by decide +kernel), List.mem_of_getElem? (i := 436) (by decide +kernel), List.mem_of_getElem? (i := 437) (by decide +kernel)⟩
theorem lw_p46 : lw_okq (⟨"LitReachModel", "isSeen", "(II)Z"⟩, 16) := ⟨⟨by decide +kernel, by decide +kernel⟩, List.mem_of_getElem? (i := 254) (by decide +kernel), List.mem_of_getElem? (i := 440) (by decide +kernel), List.mem_of_getElem? (i := 441) (by decide +kernel)⟩
theorem lw_p47 : lw_okq (⟨"LitReachModel", "passes", "(II)Z"⟩, 16) := ⟨⟨by decide +kernel, by decide +kernel⟩, List.mem_of_getElem? (i := 254) (by decide +kernel), List.mem_of_getElem? (i := 444) (by decide +kernel), List.mem_of_getElem? (i := 445) (by decide +kernel)⟩
def lw_privs_3 : List (MethodName × Nat) := [(⟨"LitReachModel", "isWithin", "(II)Z"⟩, 16), (⟨"LitReachModel", "hasRoom", "(I)Z"⟩, 16), (⟨"LitReachModel", "heldBy", "(I)I"⟩, 16), (⟨"LitReachModel", "isOf", "(II)Z"⟩, 16), (⟨"LitReachModel", "isDoor", "(I)Z"⟩, 16), (⟨"LitReachModel", "findWay", "(II)Z"⟩, 16), (⟨"LitReachModel", "firstBarrier", "()I"⟩, 16), (⟨"LitReachModel", "isShut", "(I)Z"⟩, 16), (⟨"LitReachModel", "spaceOf", "(I)I"⟩, 16), (⟨"LitReachModel", "isSpace", "(I)Z"⟩, 16), (⟨"LitReachModel", "findLosses", "(IZ)V"⟩, 16), (⟨"LitReachModel", "joins", "(III)V"⟩, 16), (⟨"LitReachModel", "greatest", "(II)I"⟩, 16), (⟨"LitReachModel", "looks", "()V"⟩, 16), (⟨"LitReachModel", "isSeen", "(II)Z"⟩, 16), (⟨"LitReachModel", "passes", "(II)Z"⟩, 16)]
theorem lw_r3 : ∀ q ∈ lw_privs_3, lw_okq q := List.forall_mem_cons.mpr ⟨lw_p32, List.forall_mem_cons.mpr ⟨lw_p33, List.forall_mem_cons.mpr ⟨lw_p34, List.forall_mem_cons.mpr ⟨lw_p35, List.forall_mem_cons.mpr ⟨lw_p36, List.forall_mem_cons.mpr ⟨lw_p37, List.forall_mem_cons.mpr ⟨lw_p38, List.forall_mem_cons.mpr ⟨lw_p39, List.forall_mem_cons.mpr ⟨lw_p40, List.forall_mem_cons.mpr ⟨lw_p41, List.forall_mem_cons.mpr ⟨lw_p42, List.forall_mem_cons.mpr ⟨lw_p43, List.forall_mem_cons.mpr ⟨lw_p44, List.forall_mem_cons.mpr ⟨lw_p45, List.forall_mem_cons.mpr ⟨lw_p46, List.forall_mem_cons.mpr ⟨lw_p47, fun _ h => absurd h List.not_mem_nil⟩⟩⟩⟩⟩⟩⟩⟩⟩⟩⟩⟩⟩⟩⟩⟩
theorem lw_p48 : lw_okq (⟨"LitReachModel", "isReached", "(II)Z"⟩, 16) := ⟨⟨by decide +kernel, by decide +kernel⟩, List.mem_of_getElem? (i := 254) (by decide +kernel), List.mem_of_getElem? (i := 456) (by decide +kernel), List.mem_of_getElem? (i := 457) (by decide +kernel)⟩
def lw_privs_4 : List (MethodName × Nat) := [(⟨"LitReachModel", "isReached", "(II)Z"⟩, 16)]
theorem lw_r4 : ∀ q ∈ lw_privs_4, lw_okq q := List.forall_mem_cons.mpr ⟨lw_p48, fun _ h => absurd h List.not_mem_nil⟩
def lw_privs : List (MethodName × Nat) := lw_privs_1 ++ (lw_privs_2 ++ (lw_privs_3 ++ (lw_privs_4)))
def lw_tbl : List Cond := k2_sels lw_privs ++ tables_1
theorem lw_privs_ok : ∀ q ∈ lw_privs, lw_okq q := by
  show ∀ q ∈ lw_privs_1 ++ (lw_privs_2 ++ (lw_privs_3 ++ (lw_privs_4))), lw_okq q
  exact List.forall_mem_append.mpr ⟨lw_r1, List.forall_mem_append.mpr ⟨lw_r2, List.forall_mem_append.mpr ⟨lw_r3, lw_r4⟩⟩⟩
-- ===== end of PART A
def R_law : String := "LitReachLaw"
def BW : List Cond := lw_tbl.filter goodWord
theorem BW_good : ∀ w ∈ BW, goodWord w = true := fun _ h => (List.mem_filter.mp h).2
theorem BW_sub : ∀ w ∈ BW, w ∈ lw_tbl := fun _ h => (List.mem_filter.mp h).1
def R_C : String := "LitReach"
def R_M : String := "LitReachModel"
def R_A : String := "java/util/Arrays"
def R_X : String := "java/lang/Math"
-- fields of LitReach: things sorts holders thingMarks doors doorFrom doorTo doorMarks levels
def F_C : u_T := fun k => match k with
  | 0 => ("LitReach", "things", "I", false)
  | 1 => ("LitReach", "sorts", "[I", true)
  | 2 => ("LitReach", "holders", "[I", true)
  | 3 => ("LitReach", "thingMarks", "[[I", true)
  | 4 => ("LitReach", "doors", "I", false)
  | 5 => ("LitReach", "doorFrom", "[I", true)
  | 6 => ("LitReach", "doorTo", "[I", true)
  | 7 => ("LitReach", "doorMarks", "[[I", true)
  | _ => ("LitReach", "levels", "[I", true)
def t_C : Nat → FieldType := fun k => match k with
  | 0 => .int
  | 1 => .array .int
  | 2 => .array .int
  | 3 => .array (.array .int)
  | 4 => .int
  | 5 => .array .int
  | 6 => .array .int
  | 7 => .array (.array .int)
  | _ => .array .int
theorem n_C : ∀ a, a < 9 → ∀ b, b < 9 → a ≠ b → (F_C a).2.1 ≠ (F_C b).2.1 := by decide +kernel
theorem t_C_ok : ∀ k, k < 9 → parseFieldDescriptor (F_C k).2.2.1 = some (t_C k) := by decide +kernel
theorem i_C : ∀ w ∈ u_ws R_C F_C 9, w ∈ BW := fun w h => List.mem_filter.mpr ⟨(by decide +kernel : ∀ w ∈ u_ws R_C F_C 9, w ∈ lw_tbl) w h, (by decide +kernel : ∀ w ∈ u_ws R_C F_C 9, goodWord w = true) w h⟩
-- fields of LitReachModel: n sorts holders states doors doorFrom doorTo doorOpen doorClear outs ins wayOut wayIn losses byBoxes bright
def F_M : u_T := fun k => match k with
  | 0 => ("LitReachModel", "n", "I", false)
  | 1 => ("LitReachModel", "sorts", "[I", true)
  | 2 => ("LitReachModel", "holders", "[I", true)
  | 3 => ("LitReachModel", "states", "[I", true)
  | 4 => ("LitReachModel", "doors", "I", false)
  | 5 => ("LitReachModel", "doorFrom", "[I", true)
  | 6 => ("LitReachModel", "doorTo", "[I", true)
  | 7 => ("LitReachModel", "doorOpen", "[I", true)
  | 8 => ("LitReachModel", "doorClear", "[I", true)
  | 9 => ("LitReachModel", "outs", "I", false)
  | 10 => ("LitReachModel", "ins", "I", false)
  | 11 => ("LitReachModel", "wayOut", "[I", true)
  | 12 => ("LitReachModel", "wayIn", "[I", true)
  | 13 => ("LitReachModel", "losses", "[I", true)
  | 14 => ("LitReachModel", "byBoxes", "[Z", true)
  | _ => ("LitReachModel", "bright", "[Z", true)
def t_M : Nat → FieldType := fun k => match k with
  | 0 => .int
  | 1 => .array .int
  | 2 => .array .int
  | 3 => .array .int
  | 4 => .int
  | 5 => .array .int
  | 6 => .array .int
  | 7 => .array .int
  | 8 => .array .int
  | 9 => .int
  | 10 => .int
  | 11 => .array .int
  | 12 => .array .int
  | 13 => .array .int
  | 14 => .array .boolean
  | _ => .array .boolean
theorem n_M : ∀ a, a < 16 → ∀ b, b < 16 → a ≠ b → (F_M a).2.1 ≠ (F_M b).2.1 := by decide +kernel
theorem t_M_ok : ∀ k, k < 16 → parseFieldDescriptor (F_M k).2.2.1 = some (t_M k) := by decide +kernel
theorem i_M : ∀ w ∈ u_ws R_M F_M 16, w ∈ BW := fun w h => List.mem_filter.mpr ⟨(by decide +kernel : ∀ w ∈ u_ws R_M F_M 16, w ∈ lw_tbl) w h, (by decide +kernel : ∀ w ∈ u_ws R_M F_M 16, goodWord w = true) w h⟩
abbrev classes : List vw_C := [(R_C, F_C, 9), (R_M, F_M, 16)]
abbrev b_C_init : ByteArray := prog_1_method_1_code
def y_C_init : MethodName := ⟨R_C, "<init>", "()V"⟩
abbrev b_C_thing : ByteArray := prog_1_method_2_code
def y_C_thing : MethodName := ⟨R_C, "thing", "(I)I"⟩
abbrev b_C_clear : ByteArray := prog_1_method_3_code
def y_C_clear : MethodName := ⟨R_C, "clear", "()I"⟩
abbrev b_C_put : ByteArray := prog_1_method_4_code
def y_C_put : MethodName := ⟨R_C, "put", "(II)I"⟩
abbrev b_C_isThing : ByteArray := prog_1_method_21_code
def y_C_isThing : MethodName := ⟨R_C, "isThing", "(I)Z"⟩
abbrev b_C_sortOf : ByteArray := prog_1_method_23_code
def y_C_sortOf : MethodName := ⟨R_C, "sortOf", "(I)I"⟩
abbrev b_C_isWithin : ByteArray := prog_1_method_34_code
def y_C_isWithin : MethodName := ⟨R_C, "isWithin", "(II)Z"⟩
abbrev b_C_holderOf : ByteArray := prog_1_method_24_code
def y_C_holderOf : MethodName := ⟨R_C, "holderOf", "(I)I"⟩
abbrev b_C_isFull : ByteArray := prog_1_method_31_code
def y_C_isFull : MethodName := ⟨R_C, "isFull", "(I)Z"⟩
abbrev b_C_countHeldBy : ByteArray := prog_1_method_32_code
def y_C_countHeldBy : MethodName := ⟨R_C, "countHeldBy", "(I)I"⟩
abbrev b_C_set : ByteArray := prog_1_method_5_code
def y_C_set : MethodName := ⟨R_C, "set", "(III)I"⟩
abbrev b_C_door : ByteArray := prog_1_method_6_code
def y_C_door : MethodName := ⟨R_C, "door", "(II)I"⟩
abbrev b_C_turn : ByteArray := prog_1_method_7_code
def y_C_turn : MethodName := ⟨R_C, "turn", "(III)I"⟩
abbrev b_C_isDoor : ByteArray := prog_1_method_22_code
def y_C_isDoor : MethodName := ⟨R_C, "isDoor", "(I)Z"⟩
abbrev b_C_take : ByteArray := prog_1_method_8_code
def y_C_take : MethodName := ⟨R_C, "take", "(II)I"⟩
abbrev b_C_isPerson : ByteArray := prog_1_method_26_code
def y_C_isPerson : MethodName := ⟨R_C, "isPerson", "(I)Z"⟩
abbrev b_C_firstBarrier : ByteArray := prog_1_method_36_code
def y_C_firstBarrier : MethodName := ⟨R_C, "firstBarrier", "(II)I"⟩
abbrev b_C_turningPoint : ByteArray := prog_1_method_37_code
def y_C_turningPoint : MethodName := ⟨R_C, "turningPoint", "(II)I"⟩
abbrev b_C_firstBarrierOut : ByteArray := prog_1_method_38_code
def y_C_firstBarrierOut : MethodName := ⟨R_C, "firstBarrierOut", "(II)I"⟩
abbrev b_C_isShutBox : ByteArray := prog_1_method_27_code
def y_C_isShutBox : MethodName := ⟨R_C, "isShutBox", "(I)Z"⟩
abbrev b_C_markOf : ByteArray := prog_1_method_25_code
def y_C_markOf : MethodName := ⟨R_C, "markOf", "(II)I"⟩
abbrev b_C_firstBarrierIn : ByteArray := prog_1_method_39_code
def y_C_firstBarrierIn : MethodName := ⟨R_C, "firstBarrierIn", "(II)I"⟩
abbrev b_C_give : ByteArray := prog_1_method_9_code
def y_C_give : MethodName := ⟨R_C, "give", "(III)I"⟩
abbrev b_C_hasInHands : ByteArray := prog_1_method_30_code
def y_C_hasInHands : MethodName := ⟨R_C, "hasInHands", "(II)Z"⟩
abbrev b_C_mayBeGivenTo : ByteArray := prog_1_method_29_code
def y_C_mayBeGivenTo : MethodName := ⟨R_C, "mayBeGivenTo", "(I)Z"⟩
abbrev b_C_drop : ByteArray := prog_1_method_10_code
def y_C_drop : MethodName := ⟨R_C, "drop", "(II)I"⟩
abbrev b_C_go : ByteArray := prog_1_method_11_code
def y_C_go : MethodName := ⟨R_C, "go", "(II)I"⟩
abbrev b_C_count : ByteArray := prog_1_method_12_code
def y_C_count : MethodName := ⟨R_C, "count", "(I)I"⟩
abbrev b_C_told : ByteArray := prog_1_method_13_code
def y_C_told : MethodName := ⟨R_C, "told", "(II)I"⟩
abbrev b_C_spaceOf : ByteArray := prog_1_method_35_code
def y_C_spaceOf : MethodName := ⟨R_C, "spaceOf", "(I)I"⟩
abbrev b_C_isSpace : ByteArray := prog_1_method_28_code
def y_C_isSpace : MethodName := ⟨R_C, "isSpace", "(I)Z"⟩
abbrev b_C_countWithin : ByteArray := prog_1_method_33_code
def y_C_countWithin : MethodName := ⟨R_C, "countWithin", "(I)I"⟩
abbrev b_C_held : ByteArray := prog_1_method_14_code
def y_C_held : MethodName := ⟨R_C, "held", "(II)I"⟩
abbrev b_C_space : ByteArray := prog_1_method_15_code
def y_C_space : MethodName := ⟨R_C, "space", "(II)I"⟩
abbrev b_C_fillFromAllThings : ByteArray := prog_1_method_42_code
def y_C_fillFromAllThings : MethodName := ⟨R_C, "fillFromAllThings", "(I)V"⟩
abbrev b_A_fill : ByteArray := prog_5_method_103_code
def y_A_fill : MethodName := ⟨R_A, "fill", "([II)V"⟩
abbrev b_X_max : ByteArray := prog_4_method_65_code
def y_X_max : MethodName := ⟨R_X, "max", "(II)I"⟩
abbrev b_C_spread : ByteArray := prog_1_method_45_code
def y_C_spread : MethodName := ⟨R_C, "spread", "(I)V"⟩
abbrev b_C_wallLoss : ByteArray := prog_1_method_40_code
def y_C_wallLoss : MethodName := ⟨R_C, "wallLoss", "(II)I"⟩
abbrev b_C_spreadOver : ByteArray := prog_1_method_46_code
def y_C_spreadOver : MethodName := ⟨R_C, "spreadOver", "(III)Z"⟩
abbrev b_C_doorLoss : ByteArray := prog_1_method_41_code
def y_C_doorLoss : MethodName := ⟨R_C, "doorLoss", "(II)I"⟩
abbrev b_C_loses : ByteArray := prog_1_method_16_code
def y_C_loses : MethodName := ⟨R_C, "loses", "(III)I"⟩
abbrev b_C_fillFromOneSpace : ByteArray := prog_1_method_43_code
def y_C_fillFromOneSpace : MethodName := ⟨R_C, "fillFromOneSpace", "(II)V"⟩
abbrev b_C_lossAt : ByteArray := prog_1_method_44_code
def y_C_lossAt : MethodName := ⟨R_C, "lossAt", "(I)I"⟩
abbrev b_C_sees : ByteArray := prog_1_method_17_code
def y_C_sees : MethodName := ⟨R_C, "sees", "(II)I"⟩
abbrev b_C_viewOf : ByteArray := prog_1_method_48_code
def y_C_viewOf : MethodName := ⟨R_C, "viewOf", "(I)I"⟩
abbrev b_C_widenedOverWalls : ByteArray := prog_1_method_49_code
def y_C_widenedOverWalls : MethodName := ⟨R_C, "widenedOverWalls", "(I)I"⟩
abbrev b_C_endsIfTouched : ByteArray := prog_1_method_51_code
def y_C_endsIfTouched : MethodName := ⟨R_C, "endsIfTouched", "(III)I"⟩
abbrev b_C_widenedOverOneDoor : ByteArray := prog_1_method_50_code
def y_C_widenedOverOneDoor : MethodName := ⟨R_C, "widenedOverOneDoor", "(I)I"⟩
abbrev b_C_isSeen : ByteArray := prog_1_method_52_code
def y_C_isSeen : MethodName := ⟨R_C, "isSeen", "(II)Z"⟩
abbrev b_C_barrier : ByteArray := prog_1_method_18_code
def y_C_barrier : MethodName := ⟨R_C, "barrier", "(II)I"⟩
abbrev b_C_scope : ByteArray := prog_1_method_19_code
def y_C_scope : MethodName := ⟨R_C, "scope", "(II)I"⟩
abbrev b_C_hears : ByteArray := prog_1_method_20_code
def y_C_hears : MethodName := ⟨R_C, "hears", "(I)I"⟩
abbrev b_C_partHeardOf : ByteArray := prog_1_method_47_code
def y_C_partHeardOf : MethodName := ⟨R_C, "partHeardOf", "(I)I"⟩
abbrev b_M_init : ByteArray := prog_3_method_1_code
def y_M_init : MethodName := ⟨R_M, "<init>", "()V"⟩
abbrev b_M_thing : ByteArray := prog_3_method_8_code
def y_M_thing : MethodName := ⟨R_M, "thing", "(I)I"⟩
abbrev b_M_in : ByteArray := prog_3_method_3_code
def y_M_in : MethodName := ⟨R_M, "in", "(III)Z"⟩
abbrev b_M_clear : ByteArray := prog_3_method_9_code
def y_M_clear : MethodName := ⟨R_M, "clear", "()I"⟩
abbrev b_M_put : ByteArray := prog_3_method_13_code
def y_M_put : MethodName := ⟨R_M, "put", "(II)I"⟩
abbrev b_M_isThing : ByteArray := prog_3_method_4_code
def y_M_isThing : MethodName := ⟨R_M, "isThing", "(I)Z"⟩
abbrev b_M_isWithin : ByteArray := prog_3_method_10_code
def y_M_isWithin : MethodName := ⟨R_M, "isWithin", "(II)Z"⟩
abbrev b_M_hasRoom : ByteArray := prog_3_method_12_code
def y_M_hasRoom : MethodName := ⟨R_M, "hasRoom", "(I)Z"⟩
abbrev b_M_heldBy : ByteArray := prog_3_method_11_code
def y_M_heldBy : MethodName := ⟨R_M, "heldBy", "(I)I"⟩
abbrev b_M_set : ByteArray := prog_3_method_14_code
def y_M_set : MethodName := ⟨R_M, "set", "(III)I"⟩
abbrev b_M_door : ByteArray := prog_3_method_15_code
def y_M_door : MethodName := ⟨R_M, "door", "(II)I"⟩
abbrev b_M_isOf : ByteArray := prog_3_method_5_code
def y_M_isOf : MethodName := ⟨R_M, "isOf", "(II)Z"⟩
abbrev b_M_turn : ByteArray := prog_3_method_16_code
def y_M_turn : MethodName := ⟨R_M, "turn", "(III)I"⟩
abbrev b_M_isDoor : ByteArray := prog_3_method_7_code
def y_M_isDoor : MethodName := ⟨R_M, "isDoor", "(I)Z"⟩
abbrev b_M_take : ByteArray := prog_3_method_21_code
def y_M_take : MethodName := ⟨R_M, "take", "(II)I"⟩
abbrev b_M_findWay : ByteArray := prog_3_method_17_code
def y_M_findWay : MethodName := ⟨R_M, "findWay", "(II)Z"⟩
abbrev b_M_firstBarrier : ByteArray := prog_3_method_19_code
def y_M_firstBarrier : MethodName := ⟨R_M, "firstBarrier", "()I"⟩
abbrev b_M_isShut : ByteArray := prog_3_method_18_code
def y_M_isShut : MethodName := ⟨R_M, "isShut", "(I)Z"⟩
abbrev b_M_give : ByteArray := prog_3_method_22_code
def y_M_give : MethodName := ⟨R_M, "give", "(III)I"⟩
abbrev b_M_drop : ByteArray := prog_3_method_23_code
def y_M_drop : MethodName := ⟨R_M, "drop", "(II)I"⟩
abbrev b_M_go : ByteArray := prog_3_method_24_code
def y_M_go : MethodName := ⟨R_M, "go", "(II)I"⟩
abbrev b_M_count : ByteArray := prog_3_method_30_code
def y_M_count : MethodName := ⟨R_M, "count", "(I)I"⟩
abbrev b_M_told : ByteArray := prog_3_method_31_code
def y_M_told : MethodName := ⟨R_M, "told", "(II)I"⟩
abbrev b_M_spaceOf : ByteArray := prog_3_method_25_code
def y_M_spaceOf : MethodName := ⟨R_M, "spaceOf", "(I)I"⟩
abbrev b_M_isSpace : ByteArray := prog_3_method_6_code
def y_M_isSpace : MethodName := ⟨R_M, "isSpace", "(I)Z"⟩
abbrev b_M_held : ByteArray := prog_3_method_32_code
def y_M_held : MethodName := ⟨R_M, "held", "(II)I"⟩
abbrev b_M_space : ByteArray := prog_3_method_33_code
def y_M_space : MethodName := ⟨R_M, "space", "(II)I"⟩
abbrev b_M_findLosses : ByteArray := prog_3_method_28_code
def y_M_findLosses : MethodName := ⟨R_M, "findLosses", "(IZ)V"⟩
abbrev b_M_lossOf : ByteArray := prog_3_method_27_code
def y_M_lossOf : MethodName := ⟨R_M, "lossOf", "(IZZZ)I"⟩
abbrev b_M_joins : ByteArray := prog_3_method_26_code
def y_M_joins : MethodName := ⟨R_M, "joins", "(III)V"⟩
abbrev b_M_greatest : ByteArray := prog_3_method_29_code
def y_M_greatest : MethodName := ⟨R_M, "greatest", "(II)I"⟩
abbrev b_M_loses : ByteArray := prog_3_method_34_code
def y_M_loses : MethodName := ⟨R_M, "loses", "(III)I"⟩
abbrev b_M_sees : ByteArray := prog_3_method_38_code
def y_M_sees : MethodName := ⟨R_M, "sees", "(II)I"⟩
abbrev b_M_looks : ByteArray := prog_3_method_35_code
def y_M_looks : MethodName := ⟨R_M, "looks", "()V"⟩
abbrev b_M_isSeen : ByteArray := prog_3_method_37_code
def y_M_isSeen : MethodName := ⟨R_M, "isSeen", "(II)Z"⟩
abbrev b_M_passes : ByteArray := prog_3_method_36_code
def y_M_passes : MethodName := ⟨R_M, "passes", "(II)Z"⟩
abbrev b_M_barrier : ByteArray := prog_3_method_39_code
def y_M_barrier : MethodName := ⟨R_M, "barrier", "(II)I"⟩
abbrev b_M_scope : ByteArray := prog_3_method_40_code
def y_M_scope : MethodName := ⟨R_M, "scope", "(II)I"⟩
abbrev b_M_isReached : ByteArray := prog_3_method_20_code
def y_M_isReached : MethodName := ⟨R_M, "isReached", "(II)Z"⟩
abbrev b_M_hears : ByteArray := prog_3_method_41_code
def y_M_hears : MethodName := ⟨R_M, "hears", "(I)I"⟩
theorem q_ini_L : Cond.initialized R_law ∈ BW := List.mem_filter.mpr ⟨List.mem_of_getElem? (i := 49) rfl, rfl⟩
theorem q_ini_C : Cond.initialized R_C ∈ BW := List.mem_filter.mpr ⟨List.mem_of_getElem? (i := 50) rfl, rfl⟩
theorem q_ini_M : Cond.initialized R_M ∈ BW := List.mem_filter.mpr ⟨List.mem_of_getElem? (i := 51) rfl, rfl⟩
theorem q_ini_A : Cond.initialized R_A ∈ BW := List.mem_filter.mpr ⟨List.mem_of_getElem? (i := 52) rfl, rfl⟩
theorem q_ini_X : Cond.initialized R_X ∈ BW := List.mem_filter.mpr ⟨List.mem_of_getElem? (i := 53) rfl, rfl⟩
theorem q_cl_L_7 : Cond.classLink R_law 7 "LitReach" ∈ BW := List.mem_filter.mpr ⟨List.mem_of_getElem? (i := 54) rfl, rfl⟩
theorem q_inst_C : Cond.instantiable R_C 9 ∈ BW := List.mem_filter.mpr ⟨List.mem_of_getElem? (i := 55) rfl, rfl⟩
theorem q_ml_L_9 : Cond.methodLink R_law 9 y_C_init ∈ BW := List.mem_filter.mpr ⟨List.mem_of_getElem? (i := 56) rfl, rfl⟩
theorem q_im_C_init : Cond.instanceMethod y_C_init ∈ BW := List.mem_filter.mpr ⟨List.mem_of_getElem? (i := 57) rfl, rfl⟩
theorem q_code_C_init : Cond.code y_C_init b_C_init 1 none ∈ BW := List.mem_filter.mpr ⟨List.mem_of_getElem? (i := 58) rfl, rfl⟩
theorem q_ml_C_1 : Cond.methodLink R_C 1 objectInit ∈ BW := List.mem_filter.mpr ⟨List.mem_of_getElem? (i := 59) rfl, rfl⟩
theorem q_im_O : Cond.instanceMethod objectInit ∈ BW := List.mem_filter.mpr ⟨List.mem_of_getElem? (i := 60) rfl, rfl⟩
theorem q_code_O : Cond.code objectInit ⟨#[0xb1]⟩ 1 none ∈ BW := List.mem_filter.mpr ⟨List.mem_of_getElem? (i := 61) rfl, rfl⟩
theorem q_cl_C_20 : Cond.classLink R_C 20 "[[I" ∈ BW := List.mem_filter.mpr ⟨List.mem_of_getElem? (i := 62) rfl, rfl⟩
theorem q_ao_int : Cond.arrayOver (.array .int) ∈ lw_tbl := List.mem_of_getElem? (i := 63) rfl
theorem fl_C_7 : Cond.fieldLink R_C 7 "LitReach" "things" "I" ∈ BW := List.mem_filter.mpr ⟨List.mem_of_getElem? (i := 64) rfl, rfl⟩
theorem fl_C_13 : Cond.fieldLink R_C 13 "LitReach" "sorts" "[I" ∈ BW := List.mem_filter.mpr ⟨List.mem_of_getElem? (i := 65) rfl, rfl⟩
theorem fl_C_17 : Cond.fieldLink R_C 17 "LitReach" "holders" "[I" ∈ BW := List.mem_filter.mpr ⟨List.mem_of_getElem? (i := 66) rfl, rfl⟩
theorem fl_C_22 : Cond.fieldLink R_C 22 "LitReach" "thingMarks" "[[I" ∈ BW := List.mem_filter.mpr ⟨List.mem_of_getElem? (i := 67) rfl, rfl⟩
theorem fl_C_25 : Cond.fieldLink R_C 25 "LitReach" "doors" "I" ∈ BW := List.mem_filter.mpr ⟨List.mem_of_getElem? (i := 68) rfl, rfl⟩
theorem fl_C_28 : Cond.fieldLink R_C 28 "LitReach" "doorFrom" "[I" ∈ BW := List.mem_filter.mpr ⟨List.mem_of_getElem? (i := 69) rfl, rfl⟩
theorem fl_C_31 : Cond.fieldLink R_C 31 "LitReach" "doorTo" "[I" ∈ BW := List.mem_filter.mpr ⟨List.mem_of_getElem? (i := 70) rfl, rfl⟩
theorem fl_C_34 : Cond.fieldLink R_C 34 "LitReach" "doorMarks" "[[I" ∈ BW := List.mem_filter.mpr ⟨List.mem_of_getElem? (i := 71) rfl, rfl⟩
theorem fl_C_37 : Cond.fieldLink R_C 37 "LitReach" "levels" "[I" ∈ BW := List.mem_filter.mpr ⟨List.mem_of_getElem? (i := 72) rfl, rfl⟩
theorem q_ac_int : Cond.arrayClass .int ∈ BW := List.mem_filter.mpr ⟨List.mem_of_getElem? (i := 92) rfl, rfl⟩
theorem q_ml_L_13 : Cond.methodLink R_law 13 y_C_thing ∈ BW := List.mem_filter.mpr ⟨List.mem_of_getElem? (i := 93) rfl, rfl⟩
theorem q_im_C_thing : Cond.instanceMethod y_C_thing ∈ BW := List.mem_filter.mpr ⟨List.mem_of_getElem? (i := 94) rfl, rfl⟩
theorem q_sel_C_thing : Cond.selects R_C y_C_thing y_C_thing ∈ BW := List.mem_filter.mpr ⟨List.mem_of_getElem? (i := 95) rfl, rfl⟩
theorem q_code_C_thing : Cond.code y_C_thing b_C_thing 4 (some .int) ∈ BW := List.mem_filter.mpr ⟨List.mem_of_getElem? (i := 96) rfl, rfl⟩
theorem q_ml_L_18 : Cond.methodLink R_law 18 y_C_clear ∈ BW := List.mem_filter.mpr ⟨List.mem_of_getElem? (i := 97) rfl, rfl⟩
theorem q_im_C_clear : Cond.instanceMethod y_C_clear ∈ BW := List.mem_filter.mpr ⟨List.mem_of_getElem? (i := 98) rfl, rfl⟩
theorem q_sel_C_clear : Cond.selects R_C y_C_clear y_C_clear ∈ BW := List.mem_filter.mpr ⟨List.mem_of_getElem? (i := 99) rfl, rfl⟩
theorem q_code_C_clear : Cond.code y_C_clear b_C_clear 2 (some .int) ∈ BW := List.mem_filter.mpr ⟨List.mem_of_getElem? (i := 100) rfl, rfl⟩
theorem q_ml_L_23 : Cond.methodLink R_law 23 y_C_put ∈ BW := List.mem_filter.mpr ⟨List.mem_of_getElem? (i := 101) rfl, rfl⟩
theorem q_im_C_put : Cond.instanceMethod y_C_put ∈ BW := List.mem_filter.mpr ⟨List.mem_of_getElem? (i := 102) rfl, rfl⟩
theorem q_sel_C_put : Cond.selects R_C y_C_put y_C_put ∈ BW := List.mem_filter.mpr ⟨List.mem_of_getElem? (i := 103) rfl, rfl⟩
theorem q_code_C_put : Cond.code y_C_put b_C_put 4 (some .int) ∈ BW := List.mem_filter.mpr ⟨List.mem_of_getElem? (i := 104) rfl, rfl⟩
theorem q_ml_C_40 : Cond.methodLink R_C 40 y_C_isThing ∈ BW := List.mem_filter.mpr ⟨List.mem_of_getElem? (i := 105) rfl, rfl⟩
theorem q_im_C_isThing : Cond.instanceMethod y_C_isThing ∈ BW := List.mem_filter.mpr ⟨List.mem_of_getElem? (i := 107) rfl, rfl⟩
theorem q_code_C_isThing : Cond.code y_C_isThing b_C_isThing 2 (some .boolean) ∈ BW := List.mem_filter.mpr ⟨List.mem_of_getElem? (i := 108) rfl, rfl⟩
theorem q_ml_C_44 : Cond.methodLink R_C 44 y_C_sortOf ∈ BW := List.mem_filter.mpr ⟨List.mem_of_getElem? (i := 109) rfl, rfl⟩
theorem q_im_C_sortOf : Cond.instanceMethod y_C_sortOf ∈ BW := List.mem_filter.mpr ⟨List.mem_of_getElem? (i := 111) rfl, rfl⟩
theorem q_code_C_sortOf : Cond.code y_C_sortOf b_C_sortOf 2 (some .int) ∈ BW := List.mem_filter.mpr ⟨List.mem_of_getElem? (i := 112) rfl, rfl⟩
theorem q_ml_C_48 : Cond.methodLink R_C 48 y_C_isWithin ∈ BW := List.mem_filter.mpr ⟨List.mem_of_getElem? (i := 113) rfl, rfl⟩
theorem q_im_C_isWithin : Cond.instanceMethod y_C_isWithin ∈ BW := List.mem_filter.mpr ⟨List.mem_of_getElem? (i := 115) rfl, rfl⟩
theorem q_code_C_isWithin : Cond.code y_C_isWithin b_C_isWithin 5 (some .boolean) ∈ BW := List.mem_filter.mpr ⟨List.mem_of_getElem? (i := 116) rfl, rfl⟩
theorem q_ml_C_74 : Cond.methodLink R_C 74 y_C_holderOf ∈ BW := List.mem_filter.mpr ⟨List.mem_of_getElem? (i := 117) rfl, rfl⟩
theorem q_im_C_holderOf : Cond.instanceMethod y_C_holderOf ∈ BW := List.mem_filter.mpr ⟨List.mem_of_getElem? (i := 119) rfl, rfl⟩
theorem q_code_C_holderOf : Cond.code y_C_holderOf b_C_holderOf 2 (some .int) ∈ BW := List.mem_filter.mpr ⟨List.mem_of_getElem? (i := 120) rfl, rfl⟩
theorem q_ml_C_52 : Cond.methodLink R_C 52 y_C_isFull ∈ BW := List.mem_filter.mpr ⟨List.mem_of_getElem? (i := 121) rfl, rfl⟩
theorem q_im_C_isFull : Cond.instanceMethod y_C_isFull ∈ BW := List.mem_filter.mpr ⟨List.mem_of_getElem? (i := 123) rfl, rfl⟩
theorem q_code_C_isFull : Cond.code y_C_isFull b_C_isFull 2 (some .boolean) ∈ BW := List.mem_filter.mpr ⟨List.mem_of_getElem? (i := 124) rfl, rfl⟩
theorem q_ml_C_80 : Cond.methodLink R_C 80 y_C_countHeldBy ∈ BW := List.mem_filter.mpr ⟨List.mem_of_getElem? (i := 125) rfl, rfl⟩
theorem q_im_C_countHeldBy : Cond.instanceMethod y_C_countHeldBy ∈ BW := List.mem_filter.mpr ⟨List.mem_of_getElem? (i := 127) rfl, rfl⟩
theorem q_code_C_countHeldBy : Cond.code y_C_countHeldBy b_C_countHeldBy 4 (some .int) ∈ BW := List.mem_filter.mpr ⟨List.mem_of_getElem? (i := 128) rfl, rfl⟩
theorem q_ml_L_28 : Cond.methodLink R_law 28 y_C_set ∈ BW := List.mem_filter.mpr ⟨List.mem_of_getElem? (i := 129) rfl, rfl⟩
theorem q_im_C_set : Cond.instanceMethod y_C_set ∈ BW := List.mem_filter.mpr ⟨List.mem_of_getElem? (i := 130) rfl, rfl⟩
theorem q_sel_C_set : Cond.selects R_C y_C_set y_C_set ∈ BW := List.mem_filter.mpr ⟨List.mem_of_getElem? (i := 131) rfl, rfl⟩
theorem q_code_C_set : Cond.code y_C_set b_C_set 6 (some .int) ∈ BW := List.mem_filter.mpr ⟨List.mem_of_getElem? (i := 132) rfl, rfl⟩
theorem q_ml_L_33 : Cond.methodLink R_law 33 y_C_door ∈ BW := List.mem_filter.mpr ⟨List.mem_of_getElem? (i := 133) rfl, rfl⟩
theorem q_im_C_door : Cond.instanceMethod y_C_door ∈ BW := List.mem_filter.mpr ⟨List.mem_of_getElem? (i := 134) rfl, rfl⟩
theorem q_sel_C_door : Cond.selects R_C y_C_door y_C_door ∈ BW := List.mem_filter.mpr ⟨List.mem_of_getElem? (i := 135) rfl, rfl⟩
theorem q_code_C_door : Cond.code y_C_door b_C_door 5 (some .int) ∈ BW := List.mem_filter.mpr ⟨List.mem_of_getElem? (i := 136) rfl, rfl⟩
theorem q_ml_L_37 : Cond.methodLink R_law 37 y_C_turn ∈ BW := List.mem_filter.mpr ⟨List.mem_of_getElem? (i := 137) rfl, rfl⟩
theorem q_im_C_turn : Cond.instanceMethod y_C_turn ∈ BW := List.mem_filter.mpr ⟨List.mem_of_getElem? (i := 138) rfl, rfl⟩
theorem q_sel_C_turn : Cond.selects R_C y_C_turn y_C_turn ∈ BW := List.mem_filter.mpr ⟨List.mem_of_getElem? (i := 139) rfl, rfl⟩
theorem q_code_C_turn : Cond.code y_C_turn b_C_turn 5 (some .int) ∈ BW := List.mem_filter.mpr ⟨List.mem_of_getElem? (i := 140) rfl, rfl⟩
theorem q_ml_C_55 : Cond.methodLink R_C 55 y_C_isDoor ∈ BW := List.mem_filter.mpr ⟨List.mem_of_getElem? (i := 141) rfl, rfl⟩
theorem q_im_C_isDoor : Cond.instanceMethod y_C_isDoor ∈ BW := List.mem_filter.mpr ⟨List.mem_of_getElem? (i := 143) rfl, rfl⟩
theorem q_code_C_isDoor : Cond.code y_C_isDoor b_C_isDoor 2 (some .boolean) ∈ BW := List.mem_filter.mpr ⟨List.mem_of_getElem? (i := 144) rfl, rfl⟩
theorem q_ml_L_41 : Cond.methodLink R_law 41 y_C_take ∈ BW := List.mem_filter.mpr ⟨List.mem_of_getElem? (i := 145) rfl, rfl⟩
theorem q_im_C_take : Cond.instanceMethod y_C_take ∈ BW := List.mem_filter.mpr ⟨List.mem_of_getElem? (i := 146) rfl, rfl⟩
theorem q_sel_C_take : Cond.selects R_C y_C_take y_C_take ∈ BW := List.mem_filter.mpr ⟨List.mem_of_getElem? (i := 147) rfl, rfl⟩
theorem q_code_C_take : Cond.code y_C_take b_C_take 4 (some .int) ∈ BW := List.mem_filter.mpr ⟨List.mem_of_getElem? (i := 148) rfl, rfl⟩
theorem q_ml_C_58 : Cond.methodLink R_C 58 y_C_isPerson ∈ BW := List.mem_filter.mpr ⟨List.mem_of_getElem? (i := 149) rfl, rfl⟩
theorem q_im_C_isPerson : Cond.instanceMethod y_C_isPerson ∈ BW := List.mem_filter.mpr ⟨List.mem_of_getElem? (i := 151) rfl, rfl⟩
theorem q_code_C_isPerson : Cond.code y_C_isPerson b_C_isPerson 2 (some .boolean) ∈ BW := List.mem_filter.mpr ⟨List.mem_of_getElem? (i := 152) rfl, rfl⟩
theorem q_ml_C_61 : Cond.methodLink R_C 61 y_C_firstBarrier ∈ BW := List.mem_filter.mpr ⟨List.mem_of_getElem? (i := 153) rfl, rfl⟩
theorem q_im_C_firstBarrier : Cond.instanceMethod y_C_firstBarrier ∈ BW := List.mem_filter.mpr ⟨List.mem_of_getElem? (i := 155) rfl, rfl⟩
theorem q_code_C_firstBarrier : Cond.code y_C_firstBarrier b_C_firstBarrier 5 (some .int) ∈ BW := List.mem_filter.mpr ⟨List.mem_of_getElem? (i := 156) rfl, rfl⟩
theorem q_ml_C_112 : Cond.methodLink R_C 112 y_C_turningPoint ∈ BW := List.mem_filter.mpr ⟨List.mem_of_getElem? (i := 157) rfl, rfl⟩
theorem q_im_C_turningPoint : Cond.instanceMethod y_C_turningPoint ∈ BW := List.mem_filter.mpr ⟨List.mem_of_getElem? (i := 159) rfl, rfl⟩
theorem q_code_C_turningPoint : Cond.code y_C_turningPoint b_C_turningPoint 5 (some .int) ∈ BW := List.mem_filter.mpr ⟨List.mem_of_getElem? (i := 160) rfl, rfl⟩
theorem q_ml_C_115 : Cond.methodLink R_C 115 y_C_firstBarrierOut ∈ BW := List.mem_filter.mpr ⟨List.mem_of_getElem? (i := 161) rfl, rfl⟩
theorem q_im_C_firstBarrierOut : Cond.instanceMethod y_C_firstBarrierOut ∈ BW := List.mem_filter.mpr ⟨List.mem_of_getElem? (i := 163) rfl, rfl⟩
theorem q_code_C_firstBarrierOut : Cond.code y_C_firstBarrierOut b_C_firstBarrierOut 5 (some .int) ∈ BW := List.mem_filter.mpr ⟨List.mem_of_getElem? (i := 164) rfl, rfl⟩
theorem q_ml_C_71 : Cond.methodLink R_C 71 y_C_isShutBox ∈ BW := List.mem_filter.mpr ⟨List.mem_of_getElem? (i := 165) rfl, rfl⟩
theorem q_im_C_isShutBox : Cond.instanceMethod y_C_isShutBox ∈ BW := List.mem_filter.mpr ⟨List.mem_of_getElem? (i := 167) rfl, rfl⟩
theorem q_code_C_isShutBox : Cond.code y_C_isShutBox b_C_isShutBox 2 (some .boolean) ∈ BW := List.mem_filter.mpr ⟨List.mem_of_getElem? (i := 168) rfl, rfl⟩
theorem q_ml_C_86 : Cond.methodLink R_C 86 y_C_markOf ∈ BW := List.mem_filter.mpr ⟨List.mem_of_getElem? (i := 169) rfl, rfl⟩
theorem q_im_C_markOf : Cond.instanceMethod y_C_markOf ∈ BW := List.mem_filter.mpr ⟨List.mem_of_getElem? (i := 171) rfl, rfl⟩
theorem q_code_C_markOf : Cond.code y_C_markOf b_C_markOf 3 (some .int) ∈ BW := List.mem_filter.mpr ⟨List.mem_of_getElem? (i := 172) rfl, rfl⟩
theorem q_ml_C_118 : Cond.methodLink R_C 118 y_C_firstBarrierIn ∈ BW := List.mem_filter.mpr ⟨List.mem_of_getElem? (i := 173) rfl, rfl⟩
theorem q_im_C_firstBarrierIn : Cond.instanceMethod y_C_firstBarrierIn ∈ BW := List.mem_filter.mpr ⟨List.mem_of_getElem? (i := 175) rfl, rfl⟩
theorem q_code_C_firstBarrierIn : Cond.code y_C_firstBarrierIn b_C_firstBarrierIn 6 (some .int) ∈ BW := List.mem_filter.mpr ⟨List.mem_of_getElem? (i := 176) rfl, rfl⟩
theorem q_ml_L_45 : Cond.methodLink R_law 45 y_C_give ∈ BW := List.mem_filter.mpr ⟨List.mem_of_getElem? (i := 177) rfl, rfl⟩
theorem q_im_C_give : Cond.instanceMethod y_C_give ∈ BW := List.mem_filter.mpr ⟨List.mem_of_getElem? (i := 178) rfl, rfl⟩
theorem q_sel_C_give : Cond.selects R_C y_C_give y_C_give ∈ BW := List.mem_filter.mpr ⟨List.mem_of_getElem? (i := 179) rfl, rfl⟩
theorem q_code_C_give : Cond.code y_C_give b_C_give 5 (some .int) ∈ BW := List.mem_filter.mpr ⟨List.mem_of_getElem? (i := 180) rfl, rfl⟩
theorem q_ml_C_65 : Cond.methodLink R_C 65 y_C_hasInHands ∈ BW := List.mem_filter.mpr ⟨List.mem_of_getElem? (i := 181) rfl, rfl⟩
theorem q_im_C_hasInHands : Cond.instanceMethod y_C_hasInHands ∈ BW := List.mem_filter.mpr ⟨List.mem_of_getElem? (i := 183) rfl, rfl⟩
theorem q_code_C_hasInHands : Cond.code y_C_hasInHands b_C_hasInHands 3 (some .boolean) ∈ BW := List.mem_filter.mpr ⟨List.mem_of_getElem? (i := 184) rfl, rfl⟩
theorem q_ml_C_68 : Cond.methodLink R_C 68 y_C_mayBeGivenTo ∈ BW := List.mem_filter.mpr ⟨List.mem_of_getElem? (i := 185) rfl, rfl⟩
theorem q_im_C_mayBeGivenTo : Cond.instanceMethod y_C_mayBeGivenTo ∈ BW := List.mem_filter.mpr ⟨List.mem_of_getElem? (i := 187) rfl, rfl⟩
theorem q_code_C_mayBeGivenTo : Cond.code y_C_mayBeGivenTo b_C_mayBeGivenTo 3 (some .boolean) ∈ BW := List.mem_filter.mpr ⟨List.mem_of_getElem? (i := 188) rfl, rfl⟩
theorem q_ml_L_49 : Cond.methodLink R_law 49 y_C_drop ∈ BW := List.mem_filter.mpr ⟨List.mem_of_getElem? (i := 189) rfl, rfl⟩
theorem q_im_C_drop : Cond.instanceMethod y_C_drop ∈ BW := List.mem_filter.mpr ⟨List.mem_of_getElem? (i := 190) rfl, rfl⟩
theorem q_sel_C_drop : Cond.selects R_C y_C_drop y_C_drop ∈ BW := List.mem_filter.mpr ⟨List.mem_of_getElem? (i := 191) rfl, rfl⟩
theorem q_code_C_drop : Cond.code y_C_drop b_C_drop 4 (some .int) ∈ BW := List.mem_filter.mpr ⟨List.mem_of_getElem? (i := 192) rfl, rfl⟩
theorem q_ml_L_53 : Cond.methodLink R_law 53 y_C_go ∈ BW := List.mem_filter.mpr ⟨List.mem_of_getElem? (i := 193) rfl, rfl⟩
theorem q_im_C_go : Cond.instanceMethod y_C_go ∈ BW := List.mem_filter.mpr ⟨List.mem_of_getElem? (i := 194) rfl, rfl⟩
theorem q_sel_C_go : Cond.selects R_C y_C_go y_C_go ∈ BW := List.mem_filter.mpr ⟨List.mem_of_getElem? (i := 195) rfl, rfl⟩
theorem q_code_C_go : Cond.code y_C_go b_C_go 5 (some .int) ∈ BW := List.mem_filter.mpr ⟨List.mem_of_getElem? (i := 196) rfl, rfl⟩
theorem q_ml_L_57 : Cond.methodLink R_law 57 y_C_count ∈ BW := List.mem_filter.mpr ⟨List.mem_of_getElem? (i := 197) rfl, rfl⟩
theorem q_im_C_count : Cond.instanceMethod y_C_count ∈ BW := List.mem_filter.mpr ⟨List.mem_of_getElem? (i := 198) rfl, rfl⟩
theorem q_sel_C_count : Cond.selects R_C y_C_count y_C_count ∈ BW := List.mem_filter.mpr ⟨List.mem_of_getElem? (i := 199) rfl, rfl⟩
theorem q_code_C_count : Cond.code y_C_count b_C_count 2 (some .int) ∈ BW := List.mem_filter.mpr ⟨List.mem_of_getElem? (i := 200) rfl, rfl⟩
theorem q_ml_L_61 : Cond.methodLink R_law 61 y_C_told ∈ BW := List.mem_filter.mpr ⟨List.mem_of_getElem? (i := 201) rfl, rfl⟩
theorem q_im_C_told : Cond.instanceMethod y_C_told ∈ BW := List.mem_filter.mpr ⟨List.mem_of_getElem? (i := 202) rfl, rfl⟩
theorem q_sel_C_told : Cond.selects R_C y_C_told y_C_told ∈ BW := List.mem_filter.mpr ⟨List.mem_of_getElem? (i := 203) rfl, rfl⟩
theorem q_code_C_told : Cond.code y_C_told b_C_told 3 (some .int) ∈ BW := List.mem_filter.mpr ⟨List.mem_of_getElem? (i := 204) rfl, rfl⟩
theorem q_ml_C_77 : Cond.methodLink R_C 77 y_C_spaceOf ∈ BW := List.mem_filter.mpr ⟨List.mem_of_getElem? (i := 205) rfl, rfl⟩
theorem q_im_C_spaceOf : Cond.instanceMethod y_C_spaceOf ∈ BW := List.mem_filter.mpr ⟨List.mem_of_getElem? (i := 207) rfl, rfl⟩
theorem q_code_C_spaceOf : Cond.code y_C_spaceOf b_C_spaceOf 4 (some .int) ∈ BW := List.mem_filter.mpr ⟨List.mem_of_getElem? (i := 208) rfl, rfl⟩
theorem q_ml_C_89 : Cond.methodLink R_C 89 y_C_isSpace ∈ BW := List.mem_filter.mpr ⟨List.mem_of_getElem? (i := 209) rfl, rfl⟩
theorem q_im_C_isSpace : Cond.instanceMethod y_C_isSpace ∈ BW := List.mem_filter.mpr ⟨List.mem_of_getElem? (i := 211) rfl, rfl⟩
theorem q_code_C_isSpace : Cond.code y_C_isSpace b_C_isSpace 3 (some .boolean) ∈ BW := List.mem_filter.mpr ⟨List.mem_of_getElem? (i := 212) rfl, rfl⟩
theorem q_ml_C_83 : Cond.methodLink R_C 83 y_C_countWithin ∈ BW := List.mem_filter.mpr ⟨List.mem_of_getElem? (i := 213) rfl, rfl⟩
theorem q_im_C_countWithin : Cond.instanceMethod y_C_countWithin ∈ BW := List.mem_filter.mpr ⟨List.mem_of_getElem? (i := 215) rfl, rfl⟩
theorem q_code_C_countWithin : Cond.code y_C_countWithin b_C_countWithin 4 (some .int) ∈ BW := List.mem_filter.mpr ⟨List.mem_of_getElem? (i := 216) rfl, rfl⟩
theorem q_ml_L_65 : Cond.methodLink R_law 65 y_C_held ∈ BW := List.mem_filter.mpr ⟨List.mem_of_getElem? (i := 217) rfl, rfl⟩
theorem q_im_C_held : Cond.instanceMethod y_C_held ∈ BW := List.mem_filter.mpr ⟨List.mem_of_getElem? (i := 218) rfl, rfl⟩
theorem q_sel_C_held : Cond.selects R_C y_C_held y_C_held ∈ BW := List.mem_filter.mpr ⟨List.mem_of_getElem? (i := 219) rfl, rfl⟩
theorem q_code_C_held : Cond.code y_C_held b_C_held 5 (some .int) ∈ BW := List.mem_filter.mpr ⟨List.mem_of_getElem? (i := 220) rfl, rfl⟩
theorem q_ml_L_69 : Cond.methodLink R_law 69 y_C_space ∈ BW := List.mem_filter.mpr ⟨List.mem_of_getElem? (i := 221) rfl, rfl⟩
theorem q_im_C_space : Cond.instanceMethod y_C_space ∈ BW := List.mem_filter.mpr ⟨List.mem_of_getElem? (i := 222) rfl, rfl⟩
theorem q_sel_C_space : Cond.selects R_C y_C_space y_C_space ∈ BW := List.mem_filter.mpr ⟨List.mem_of_getElem? (i := 223) rfl, rfl⟩
theorem q_code_C_space : Cond.code y_C_space b_C_space 3 (some .int) ∈ BW := List.mem_filter.mpr ⟨List.mem_of_getElem? (i := 224) rfl, rfl⟩
theorem q_ml_C_92 : Cond.methodLink R_C 92 y_C_fillFromAllThings ∈ BW := List.mem_filter.mpr ⟨List.mem_of_getElem? (i := 225) rfl, rfl⟩
theorem q_im_C_fillFromAllThings : Cond.instanceMethod y_C_fillFromAllThings ∈ BW := List.mem_filter.mpr ⟨List.mem_of_getElem? (i := 227) rfl, rfl⟩
theorem q_code_C_fillFromAllThings : Cond.code y_C_fillFromAllThings b_C_fillFromAllThings 4 none ∈ BW := List.mem_filter.mpr ⟨List.mem_of_getElem? (i := 228) rfl, rfl⟩
theorem q_ml_C_121 : Cond.methodLink R_C 121 y_A_fill ∈ BW := List.mem_filter.mpr ⟨List.mem_of_getElem? (i := 229) rfl, rfl⟩
theorem q_st_A_fill : Cond.static y_A_fill ∈ BW := List.mem_filter.mpr ⟨List.mem_of_getElem? (i := 230) rfl, rfl⟩
theorem q_code_A_fill : Cond.code y_A_fill b_A_fill 4 none ∈ BW := List.mem_filter.mpr ⟨List.mem_of_getElem? (i := 231) rfl, rfl⟩
theorem q_ml_C_127 : Cond.methodLink R_C 127 y_X_max ∈ BW := List.mem_filter.mpr ⟨List.mem_of_getElem? (i := 232) rfl, rfl⟩
theorem q_st_X_max : Cond.static y_X_max ∈ BW := List.mem_filter.mpr ⟨List.mem_of_getElem? (i := 233) rfl, rfl⟩
theorem q_code_X_max : Cond.code y_X_max b_X_max 2 (some .int) ∈ BW := List.mem_filter.mpr ⟨List.mem_of_getElem? (i := 234) rfl, rfl⟩
theorem q_ml_C_132 : Cond.methodLink R_C 132 y_C_spread ∈ BW := List.mem_filter.mpr ⟨List.mem_of_getElem? (i := 235) rfl, rfl⟩
theorem q_im_C_spread : Cond.instanceMethod y_C_spread ∈ BW := List.mem_filter.mpr ⟨List.mem_of_getElem? (i := 237) rfl, rfl⟩
theorem q_code_C_spread : Cond.code y_C_spread b_C_spread 6 none ∈ BW := List.mem_filter.mpr ⟨List.mem_of_getElem? (i := 238) rfl, rfl⟩
theorem q_ml_C_135 : Cond.methodLink R_C 135 y_C_wallLoss ∈ BW := List.mem_filter.mpr ⟨List.mem_of_getElem? (i := 239) rfl, rfl⟩
theorem q_im_C_wallLoss : Cond.instanceMethod y_C_wallLoss ∈ BW := List.mem_filter.mpr ⟨List.mem_of_getElem? (i := 241) rfl, rfl⟩
theorem q_code_C_wallLoss : Cond.code y_C_wallLoss b_C_wallLoss 3 (some .int) ∈ BW := List.mem_filter.mpr ⟨List.mem_of_getElem? (i := 242) rfl, rfl⟩
theorem q_ml_C_138 : Cond.methodLink R_C 138 y_C_spreadOver ∈ BW := List.mem_filter.mpr ⟨List.mem_of_getElem? (i := 243) rfl, rfl⟩
theorem q_im_C_spreadOver : Cond.instanceMethod y_C_spreadOver ∈ BW := List.mem_filter.mpr ⟨List.mem_of_getElem? (i := 245) rfl, rfl⟩
theorem q_code_C_spreadOver : Cond.code y_C_spreadOver b_C_spreadOver 4 (some .boolean) ∈ BW := List.mem_filter.mpr ⟨List.mem_of_getElem? (i := 246) rfl, rfl⟩
theorem q_ml_C_142 : Cond.methodLink R_C 142 y_C_doorLoss ∈ BW := List.mem_filter.mpr ⟨List.mem_of_getElem? (i := 247) rfl, rfl⟩
theorem q_im_C_doorLoss : Cond.instanceMethod y_C_doorLoss ∈ BW := List.mem_filter.mpr ⟨List.mem_of_getElem? (i := 249) rfl, rfl⟩
theorem q_code_C_doorLoss : Cond.code y_C_doorLoss b_C_doorLoss 4 (some .int) ∈ BW := List.mem_filter.mpr ⟨List.mem_of_getElem? (i := 250) rfl, rfl⟩
theorem q_ml_L_73 : Cond.methodLink R_law 73 y_C_loses ∈ BW := List.mem_filter.mpr ⟨List.mem_of_getElem? (i := 251) rfl, rfl⟩
theorem q_im_C_loses : Cond.instanceMethod y_C_loses ∈ BW := List.mem_filter.mpr ⟨List.mem_of_getElem? (i := 252) rfl, rfl⟩
theorem q_sel_C_loses : Cond.selects R_C y_C_loses y_C_loses ∈ BW := List.mem_filter.mpr ⟨List.mem_of_getElem? (i := 253) rfl, rfl⟩
theorem q_code_C_loses : Cond.code y_C_loses b_C_loses 4 (some .int) ∈ BW := List.mem_filter.mpr ⟨List.mem_of_getElem? (i := 254) rfl, rfl⟩
theorem q_ml_C_96 : Cond.methodLink R_C 96 y_C_fillFromOneSpace ∈ BW := List.mem_filter.mpr ⟨List.mem_of_getElem? (i := 255) rfl, rfl⟩
theorem q_im_C_fillFromOneSpace : Cond.instanceMethod y_C_fillFromOneSpace ∈ BW := List.mem_filter.mpr ⟨List.mem_of_getElem? (i := 257) rfl, rfl⟩
theorem q_code_C_fillFromOneSpace : Cond.code y_C_fillFromOneSpace b_C_fillFromOneSpace 3 none ∈ BW := List.mem_filter.mpr ⟨List.mem_of_getElem? (i := 258) rfl, rfl⟩
theorem q_ml_C_100 : Cond.methodLink R_C 100 y_C_lossAt ∈ BW := List.mem_filter.mpr ⟨List.mem_of_getElem? (i := 259) rfl, rfl⟩
theorem q_im_C_lossAt : Cond.instanceMethod y_C_lossAt ∈ BW := List.mem_filter.mpr ⟨List.mem_of_getElem? (i := 261) rfl, rfl⟩
theorem q_code_C_lossAt : Cond.code y_C_lossAt b_C_lossAt 2 (some .int) ∈ BW := List.mem_filter.mpr ⟨List.mem_of_getElem? (i := 262) rfl, rfl⟩
theorem q_ml_L_77 : Cond.methodLink R_law 77 y_C_sees ∈ BW := List.mem_filter.mpr ⟨List.mem_of_getElem? (i := 263) rfl, rfl⟩
theorem q_im_C_sees : Cond.instanceMethod y_C_sees ∈ BW := List.mem_filter.mpr ⟨List.mem_of_getElem? (i := 264) rfl, rfl⟩
theorem q_sel_C_sees : Cond.selects R_C y_C_sees y_C_sees ∈ BW := List.mem_filter.mpr ⟨List.mem_of_getElem? (i := 265) rfl, rfl⟩
theorem q_code_C_sees : Cond.code y_C_sees b_C_sees 3 (some .int) ∈ BW := List.mem_filter.mpr ⟨List.mem_of_getElem? (i := 266) rfl, rfl⟩
theorem q_ml_C_103 : Cond.methodLink R_C 103 y_C_viewOf ∈ BW := List.mem_filter.mpr ⟨List.mem_of_getElem? (i := 267) rfl, rfl⟩
theorem q_im_C_viewOf : Cond.instanceMethod y_C_viewOf ∈ BW := List.mem_filter.mpr ⟨List.mem_of_getElem? (i := 269) rfl, rfl⟩
theorem q_code_C_viewOf : Cond.code y_C_viewOf b_C_viewOf 4 (some .int) ∈ BW := List.mem_filter.mpr ⟨List.mem_of_getElem? (i := 270) rfl, rfl⟩
theorem q_ml_C_145 : Cond.methodLink R_C 145 y_C_widenedOverWalls ∈ BW := List.mem_filter.mpr ⟨List.mem_of_getElem? (i := 271) rfl, rfl⟩
theorem q_im_C_widenedOverWalls : Cond.instanceMethod y_C_widenedOverWalls ∈ BW := List.mem_filter.mpr ⟨List.mem_of_getElem? (i := 273) rfl, rfl⟩
theorem q_code_C_widenedOverWalls : Cond.code y_C_widenedOverWalls b_C_widenedOverWalls 7 (some .int) ∈ BW := List.mem_filter.mpr ⟨List.mem_of_getElem? (i := 274) rfl, rfl⟩
theorem q_ml_C_151 : Cond.methodLink R_C 151 y_C_endsIfTouched ∈ BW := List.mem_filter.mpr ⟨List.mem_of_getElem? (i := 275) rfl, rfl⟩
theorem q_st_C_endsIfTouched : Cond.static y_C_endsIfTouched ∈ BW := List.mem_filter.mpr ⟨List.mem_of_getElem? (i := 276) rfl, rfl⟩
theorem q_code_C_endsIfTouched : Cond.code y_C_endsIfTouched b_C_endsIfTouched 4 (some .int) ∈ BW := List.mem_filter.mpr ⟨List.mem_of_getElem? (i := 277) rfl, rfl⟩
theorem q_ml_C_148 : Cond.methodLink R_C 148 y_C_widenedOverOneDoor ∈ BW := List.mem_filter.mpr ⟨List.mem_of_getElem? (i := 278) rfl, rfl⟩
theorem q_im_C_widenedOverOneDoor : Cond.instanceMethod y_C_widenedOverOneDoor ∈ BW := List.mem_filter.mpr ⟨List.mem_of_getElem? (i := 280) rfl, rfl⟩
theorem q_code_C_widenedOverOneDoor : Cond.code y_C_widenedOverOneDoor b_C_widenedOverOneDoor 4 (some .int) ∈ BW := List.mem_filter.mpr ⟨List.mem_of_getElem? (i := 281) rfl, rfl⟩
theorem q_ml_C_106 : Cond.methodLink R_C 106 y_C_isSeen ∈ BW := List.mem_filter.mpr ⟨List.mem_of_getElem? (i := 282) rfl, rfl⟩
theorem q_im_C_isSeen : Cond.instanceMethod y_C_isSeen ∈ BW := List.mem_filter.mpr ⟨List.mem_of_getElem? (i := 284) rfl, rfl⟩
theorem q_code_C_isSeen : Cond.code y_C_isSeen b_C_isSeen 4 (some .boolean) ∈ BW := List.mem_filter.mpr ⟨List.mem_of_getElem? (i := 285) rfl, rfl⟩
theorem q_ml_L_81 : Cond.methodLink R_law 81 y_C_barrier ∈ BW := List.mem_filter.mpr ⟨List.mem_of_getElem? (i := 286) rfl, rfl⟩
theorem q_im_C_barrier : Cond.instanceMethod y_C_barrier ∈ BW := List.mem_filter.mpr ⟨List.mem_of_getElem? (i := 287) rfl, rfl⟩
theorem q_sel_C_barrier : Cond.selects R_C y_C_barrier y_C_barrier ∈ BW := List.mem_filter.mpr ⟨List.mem_of_getElem? (i := 288) rfl, rfl⟩
theorem q_code_C_barrier : Cond.code y_C_barrier b_C_barrier 3 (some .int) ∈ BW := List.mem_filter.mpr ⟨List.mem_of_getElem? (i := 289) rfl, rfl⟩
theorem q_ml_L_85 : Cond.methodLink R_law 85 y_C_scope ∈ BW := List.mem_filter.mpr ⟨List.mem_of_getElem? (i := 290) rfl, rfl⟩
theorem q_im_C_scope : Cond.instanceMethod y_C_scope ∈ BW := List.mem_filter.mpr ⟨List.mem_of_getElem? (i := 291) rfl, rfl⟩
theorem q_sel_C_scope : Cond.selects R_C y_C_scope y_C_scope ∈ BW := List.mem_filter.mpr ⟨List.mem_of_getElem? (i := 292) rfl, rfl⟩
theorem q_code_C_scope : Cond.code y_C_scope b_C_scope 6 (some .int) ∈ BW := List.mem_filter.mpr ⟨List.mem_of_getElem? (i := 293) rfl, rfl⟩
theorem q_ml_L_89 : Cond.methodLink R_law 89 y_C_hears ∈ BW := List.mem_filter.mpr ⟨List.mem_of_getElem? (i := 294) rfl, rfl⟩
theorem q_im_C_hears : Cond.instanceMethod y_C_hears ∈ BW := List.mem_filter.mpr ⟨List.mem_of_getElem? (i := 295) rfl, rfl⟩
theorem q_sel_C_hears : Cond.selects R_C y_C_hears y_C_hears ∈ BW := List.mem_filter.mpr ⟨List.mem_of_getElem? (i := 296) rfl, rfl⟩
theorem q_code_C_hears : Cond.code y_C_hears b_C_hears 7 (some .int) ∈ BW := List.mem_filter.mpr ⟨List.mem_of_getElem? (i := 297) rfl, rfl⟩
theorem q_ml_C_109 : Cond.methodLink R_C 109 y_C_partHeardOf ∈ BW := List.mem_filter.mpr ⟨List.mem_of_getElem? (i := 298) rfl, rfl⟩
set_option maxRecDepth 100000 in
theorem q_im_C_partHeardOf : Cond.instanceMethod y_C_partHeardOf ∈ BW := List.mem_filter.mpr ⟨List.mem_of_getElem? (i := 300) rfl, rfl⟩
set_option maxRecDepth 100000 in
theorem q_code_C_partHeardOf : Cond.code y_C_partHeardOf b_C_partHeardOf 3 (some .int) ∈ BW := List.mem_filter.mpr ⟨List.mem_of_getElem? (i := 301) rfl, rfl⟩
set_option maxRecDepth 100000 in
theorem q_cl_L_10 : Cond.classLink R_law 10 "LitReachModel" ∈ BW := List.mem_filter.mpr ⟨List.mem_of_getElem? (i := 302) rfl, rfl⟩
set_option maxRecDepth 100000 in
theorem q_inst_M : Cond.instantiable R_M 16 ∈ BW := List.mem_filter.mpr ⟨List.mem_of_getElem? (i := 303) rfl, rfl⟩
set_option maxRecDepth 100000 in
theorem q_ml_L_12 : Cond.methodLink R_law 12 y_M_init ∈ BW := List.mem_filter.mpr ⟨List.mem_of_getElem? (i := 304) rfl, rfl⟩
set_option maxRecDepth 100000 in
theorem q_im_M_init : Cond.instanceMethod y_M_init ∈ BW := List.mem_filter.mpr ⟨List.mem_of_getElem? (i := 305) rfl, rfl⟩
set_option maxRecDepth 100000 in
theorem q_code_M_init : Cond.code y_M_init b_M_init 1 none ∈ BW := List.mem_filter.mpr ⟨List.mem_of_getElem? (i := 306) rfl, rfl⟩
set_option maxRecDepth 100000 in
theorem q_ml_M_1 : Cond.methodLink R_M 1 objectInit ∈ BW := List.mem_filter.mpr ⟨List.mem_of_getElem? (i := 307) rfl, rfl⟩
theorem fl_M_47 : Cond.fieldLink R_M 47 "LitReachModel" "n" "I" ∈ BW := List.mem_filter.mpr ⟨List.mem_of_getElem? (i := 308) rfl, rfl⟩
theorem fl_M_7 : Cond.fieldLink R_M 7 "LitReachModel" "sorts" "[I" ∈ BW := List.mem_filter.mpr ⟨List.mem_of_getElem? (i := 309) rfl, rfl⟩
theorem fl_M_13 : Cond.fieldLink R_M 13 "LitReachModel" "holders" "[I" ∈ BW := List.mem_filter.mpr ⟨List.mem_of_getElem? (i := 310) rfl, rfl⟩
theorem fl_M_16 : Cond.fieldLink R_M 16 "LitReachModel" "states" "[I" ∈ BW := List.mem_filter.mpr ⟨List.mem_of_getElem? (i := 311) rfl, rfl⟩
theorem fl_M_63 : Cond.fieldLink R_M 63 "LitReachModel" "doors" "I" ∈ BW := List.mem_filter.mpr ⟨List.mem_of_getElem? (i := 312) rfl, rfl⟩
theorem fl_M_19 : Cond.fieldLink R_M 19 "LitReachModel" "doorFrom" "[I" ∈ BW := List.mem_filter.mpr ⟨List.mem_of_getElem? (i := 313) rfl, rfl⟩
theorem fl_M_22 : Cond.fieldLink R_M 22 "LitReachModel" "doorTo" "[I" ∈ BW := List.mem_filter.mpr ⟨List.mem_of_getElem? (i := 314) rfl, rfl⟩
theorem fl_M_25 : Cond.fieldLink R_M 25 "LitReachModel" "doorOpen" "[I" ∈ BW := List.mem_filter.mpr ⟨List.mem_of_getElem? (i := 315) rfl, rfl⟩
theorem fl_M_28 : Cond.fieldLink R_M 28 "LitReachModel" "doorClear" "[I" ∈ BW := List.mem_filter.mpr ⟨List.mem_of_getElem? (i := 316) rfl, rfl⟩
theorem fl_M_79 : Cond.fieldLink R_M 79 "LitReachModel" "outs" "I" ∈ BW := List.mem_filter.mpr ⟨List.mem_of_getElem? (i := 317) rfl, rfl⟩
theorem fl_M_82 : Cond.fieldLink R_M 82 "LitReachModel" "ins" "I" ∈ BW := List.mem_filter.mpr ⟨List.mem_of_getElem? (i := 318) rfl, rfl⟩
theorem fl_M_31 : Cond.fieldLink R_M 31 "LitReachModel" "wayOut" "[I" ∈ BW := List.mem_filter.mpr ⟨List.mem_of_getElem? (i := 319) rfl, rfl⟩
theorem fl_M_34 : Cond.fieldLink R_M 34 "LitReachModel" "wayIn" "[I" ∈ BW := List.mem_filter.mpr ⟨List.mem_of_getElem? (i := 320) rfl, rfl⟩
theorem fl_M_37 : Cond.fieldLink R_M 37 "LitReachModel" "losses" "[I" ∈ BW := List.mem_filter.mpr ⟨List.mem_of_getElem? (i := 321) rfl, rfl⟩
theorem fl_M_40 : Cond.fieldLink R_M 40 "LitReachModel" "byBoxes" "[Z" ∈ BW := List.mem_filter.mpr ⟨List.mem_of_getElem? (i := 322) rfl, rfl⟩
theorem fl_M_44 : Cond.fieldLink R_M 44 "LitReachModel" "bright" "[Z" ∈ BW := List.mem_filter.mpr ⟨List.mem_of_getElem? (i := 323) rfl, rfl⟩
set_option maxRecDepth 100000 in
theorem q_ac_bool : Cond.arrayClass .boolean ∈ BW := List.mem_filter.mpr ⟨List.mem_of_getElem? (i := 357) rfl, rfl⟩
set_option maxRecDepth 100000 in
theorem q_ml_L_17 : Cond.methodLink R_law 17 y_M_thing ∈ BW := List.mem_filter.mpr ⟨List.mem_of_getElem? (i := 358) rfl, rfl⟩
set_option maxRecDepth 100000 in
theorem q_im_M_thing : Cond.instanceMethod y_M_thing ∈ BW := List.mem_filter.mpr ⟨List.mem_of_getElem? (i := 359) rfl, rfl⟩
set_option maxRecDepth 100000 in
theorem q_sel_M_thing : Cond.selects R_M y_M_thing y_M_thing ∈ BW := List.mem_filter.mpr ⟨List.mem_of_getElem? (i := 360) rfl, rfl⟩
set_option maxRecDepth 100000 in
theorem q_code_M_thing : Cond.code y_M_thing b_M_thing 3 (some .int) ∈ BW := List.mem_filter.mpr ⟨List.mem_of_getElem? (i := 361) rfl, rfl⟩
set_option maxRecDepth 100000 in
theorem q_ml_M_51 : Cond.methodLink R_M 51 y_M_in ∈ BW := List.mem_filter.mpr ⟨List.mem_of_getElem? (i := 362) rfl, rfl⟩
set_option maxRecDepth 100000 in
theorem q_st_M_in : Cond.static y_M_in ∈ BW := List.mem_filter.mpr ⟨List.mem_of_getElem? (i := 363) rfl, rfl⟩
set_option maxRecDepth 100000 in
theorem q_code_M_in : Cond.code y_M_in b_M_in 3 (some .boolean) ∈ BW := List.mem_filter.mpr ⟨List.mem_of_getElem? (i := 364) rfl, rfl⟩
set_option maxRecDepth 100000 in
theorem q_ml_L_22 : Cond.methodLink R_law 22 y_M_clear ∈ BW := List.mem_filter.mpr ⟨List.mem_of_getElem? (i := 365) rfl, rfl⟩
set_option maxRecDepth 100000 in
theorem q_im_M_clear : Cond.instanceMethod y_M_clear ∈ BW := List.mem_filter.mpr ⟨List.mem_of_getElem? (i := 366) rfl, rfl⟩
set_option maxRecDepth 100000 in
theorem q_sel_M_clear : Cond.selects R_M y_M_clear y_M_clear ∈ BW := List.mem_filter.mpr ⟨List.mem_of_getElem? (i := 367) rfl, rfl⟩
set_option maxRecDepth 100000 in
theorem q_code_M_clear : Cond.code y_M_clear b_M_clear 2 (some .int) ∈ BW := List.mem_filter.mpr ⟨List.mem_of_getElem? (i := 368) rfl, rfl⟩
set_option maxRecDepth 100000 in
theorem q_ml_L_27 : Cond.methodLink R_law 27 y_M_put ∈ BW := List.mem_filter.mpr ⟨List.mem_of_getElem? (i := 369) rfl, rfl⟩
set_option maxRecDepth 100000 in
theorem q_im_M_put : Cond.instanceMethod y_M_put ∈ BW := List.mem_filter.mpr ⟨List.mem_of_getElem? (i := 370) rfl, rfl⟩
set_option maxRecDepth 100000 in
theorem q_sel_M_put : Cond.selects R_M y_M_put y_M_put ∈ BW := List.mem_filter.mpr ⟨List.mem_of_getElem? (i := 371) rfl, rfl⟩
set_option maxRecDepth 100000 in
theorem q_code_M_put : Cond.code y_M_put b_M_put 4 (some .int) ∈ BW := List.mem_filter.mpr ⟨List.mem_of_getElem? (i := 372) rfl, rfl⟩
set_option maxRecDepth 100000 in
theorem q_ml_M_55 : Cond.methodLink R_M 55 y_M_isThing ∈ BW := List.mem_filter.mpr ⟨List.mem_of_getElem? (i := 373) rfl, rfl⟩
set_option maxRecDepth 100000 in
theorem q_im_M_isThing : Cond.instanceMethod y_M_isThing ∈ BW := List.mem_filter.mpr ⟨List.mem_of_getElem? (i := 375) rfl, rfl⟩
set_option maxRecDepth 100000 in
theorem q_code_M_isThing : Cond.code y_M_isThing b_M_isThing 2 (some .boolean) ∈ BW := List.mem_filter.mpr ⟨List.mem_of_getElem? (i := 376) rfl, rfl⟩
set_option maxRecDepth 100000 in
theorem q_ml_M_70 : Cond.methodLink R_M 70 y_M_isWithin ∈ BW := List.mem_filter.mpr ⟨List.mem_of_getElem? (i := 377) rfl, rfl⟩
set_option maxRecDepth 100000 in
theorem q_im_M_isWithin : Cond.instanceMethod y_M_isWithin ∈ BW := List.mem_filter.mpr ⟨List.mem_of_getElem? (i := 379) rfl, rfl⟩
set_option maxRecDepth 100000 in
theorem q_code_M_isWithin : Cond.code y_M_isWithin b_M_isWithin 4 (some .boolean) ∈ BW := List.mem_filter.mpr ⟨List.mem_of_getElem? (i := 380) rfl, rfl⟩
set_option maxRecDepth 100000 in
theorem q_ml_M_73 : Cond.methodLink R_M 73 y_M_hasRoom ∈ BW := List.mem_filter.mpr ⟨List.mem_of_getElem? (i := 381) rfl, rfl⟩
set_option maxRecDepth 100000 in
theorem q_im_M_hasRoom : Cond.instanceMethod y_M_hasRoom ∈ BW := List.mem_filter.mpr ⟨List.mem_of_getElem? (i := 383) rfl, rfl⟩
set_option maxRecDepth 100000 in
theorem q_code_M_hasRoom : Cond.code y_M_hasRoom b_M_hasRoom 2 (some .boolean) ∈ BW := List.mem_filter.mpr ⟨List.mem_of_getElem? (i := 384) rfl, rfl⟩
set_option maxRecDepth 100000 in
theorem q_ml_M_66 : Cond.methodLink R_M 66 y_M_heldBy ∈ BW := List.mem_filter.mpr ⟨List.mem_of_getElem? (i := 385) rfl, rfl⟩
set_option maxRecDepth 100000 in
theorem q_im_M_heldBy : Cond.instanceMethod y_M_heldBy ∈ BW := List.mem_filter.mpr ⟨List.mem_of_getElem? (i := 387) rfl, rfl⟩
set_option maxRecDepth 100000 in
theorem q_code_M_heldBy : Cond.code y_M_heldBy b_M_heldBy 4 (some .int) ∈ BW := List.mem_filter.mpr ⟨List.mem_of_getElem? (i := 388) rfl, rfl⟩
set_option maxRecDepth 100000 in
theorem q_ml_L_32 : Cond.methodLink R_law 32 y_M_set ∈ BW := List.mem_filter.mpr ⟨List.mem_of_getElem? (i := 389) rfl, rfl⟩
set_option maxRecDepth 100000 in
theorem q_im_M_set : Cond.instanceMethod y_M_set ∈ BW := List.mem_filter.mpr ⟨List.mem_of_getElem? (i := 390) rfl, rfl⟩
set_option maxRecDepth 100000 in
theorem q_sel_M_set : Cond.selects R_M y_M_set y_M_set ∈ BW := List.mem_filter.mpr ⟨List.mem_of_getElem? (i := 391) rfl, rfl⟩
set_option maxRecDepth 100000 in
theorem q_code_M_set : Cond.code y_M_set b_M_set 5 (some .int) ∈ BW := List.mem_filter.mpr ⟨List.mem_of_getElem? (i := 392) rfl, rfl⟩
set_option maxRecDepth 100000 in
theorem q_ml_L_36 : Cond.methodLink R_law 36 y_M_door ∈ BW := List.mem_filter.mpr ⟨List.mem_of_getElem? (i := 393) rfl, rfl⟩
set_option maxRecDepth 100000 in
theorem q_im_M_door : Cond.instanceMethod y_M_door ∈ BW := List.mem_filter.mpr ⟨List.mem_of_getElem? (i := 394) rfl, rfl⟩
set_option maxRecDepth 100000 in
theorem q_sel_M_door : Cond.selects R_M y_M_door y_M_door ∈ BW := List.mem_filter.mpr ⟨List.mem_of_getElem? (i := 395) rfl, rfl⟩
set_option maxRecDepth 100000 in
theorem q_code_M_door : Cond.code y_M_door b_M_door 3 (some .int) ∈ BW := List.mem_filter.mpr ⟨List.mem_of_getElem? (i := 396) rfl, rfl⟩
set_option maxRecDepth 100000 in
theorem q_ml_M_59 : Cond.methodLink R_M 59 y_M_isOf ∈ BW := List.mem_filter.mpr ⟨List.mem_of_getElem? (i := 397) rfl, rfl⟩
set_option maxRecDepth 100000 in
theorem q_im_M_isOf : Cond.instanceMethod y_M_isOf ∈ BW := List.mem_filter.mpr ⟨List.mem_of_getElem? (i := 399) rfl, rfl⟩
set_option maxRecDepth 100000 in
theorem q_code_M_isOf : Cond.code y_M_isOf b_M_isOf 3 (some .boolean) ∈ BW := List.mem_filter.mpr ⟨List.mem_of_getElem? (i := 400) rfl, rfl⟩
set_option maxRecDepth 100000 in
theorem q_ml_L_40 : Cond.methodLink R_law 40 y_M_turn ∈ BW := List.mem_filter.mpr ⟨List.mem_of_getElem? (i := 401) rfl, rfl⟩
set_option maxRecDepth 100000 in
theorem q_im_M_turn : Cond.instanceMethod y_M_turn ∈ BW := List.mem_filter.mpr ⟨List.mem_of_getElem? (i := 402) rfl, rfl⟩
set_option maxRecDepth 100000 in
theorem q_sel_M_turn : Cond.selects R_M y_M_turn y_M_turn ∈ BW := List.mem_filter.mpr ⟨List.mem_of_getElem? (i := 403) rfl, rfl⟩
set_option maxRecDepth 100000 in
theorem q_code_M_turn : Cond.code y_M_turn b_M_turn 5 (some .int) ∈ BW := List.mem_filter.mpr ⟨List.mem_of_getElem? (i := 404) rfl, rfl⟩
set_option maxRecDepth 100000 in
theorem q_ml_M_76 : Cond.methodLink R_M 76 y_M_isDoor ∈ BW := List.mem_filter.mpr ⟨List.mem_of_getElem? (i := 405) rfl, rfl⟩
set_option maxRecDepth 100000 in
theorem q_im_M_isDoor : Cond.instanceMethod y_M_isDoor ∈ BW := List.mem_filter.mpr ⟨List.mem_of_getElem? (i := 407) rfl, rfl⟩
set_option maxRecDepth 100000 in
theorem q_code_M_isDoor : Cond.code y_M_isDoor b_M_isDoor 2 (some .boolean) ∈ BW := List.mem_filter.mpr ⟨List.mem_of_getElem? (i := 408) rfl, rfl⟩
set_option maxRecDepth 100000 in
theorem q_ml_L_44 : Cond.methodLink R_law 44 y_M_take ∈ BW := List.mem_filter.mpr ⟨List.mem_of_getElem? (i := 409) rfl, rfl⟩
set_option maxRecDepth 100000 in
theorem q_im_M_take : Cond.instanceMethod y_M_take ∈ BW := List.mem_filter.mpr ⟨List.mem_of_getElem? (i := 410) rfl, rfl⟩
set_option maxRecDepth 100000 in
theorem q_sel_M_take : Cond.selects R_M y_M_take y_M_take ∈ BW := List.mem_filter.mpr ⟨List.mem_of_getElem? (i := 411) rfl, rfl⟩
set_option maxRecDepth 100000 in
theorem q_code_M_take : Cond.code y_M_take b_M_take 3 (some .int) ∈ BW := List.mem_filter.mpr ⟨List.mem_of_getElem? (i := 412) rfl, rfl⟩
set_option maxRecDepth 100000 in
theorem q_ml_M_88 : Cond.methodLink R_M 88 y_M_findWay ∈ BW := List.mem_filter.mpr ⟨List.mem_of_getElem? (i := 413) rfl, rfl⟩
set_option maxRecDepth 100000 in
theorem q_im_M_findWay : Cond.instanceMethod y_M_findWay ∈ BW := List.mem_filter.mpr ⟨List.mem_of_getElem? (i := 415) rfl, rfl⟩
set_option maxRecDepth 100000 in
theorem q_code_M_findWay : Cond.code y_M_findWay b_M_findWay 5 (some .boolean) ∈ BW := List.mem_filter.mpr ⟨List.mem_of_getElem? (i := 416) rfl, rfl⟩
set_option maxRecDepth 100000 in
theorem q_ml_M_91 : Cond.methodLink R_M 91 y_M_firstBarrier ∈ BW := List.mem_filter.mpr ⟨List.mem_of_getElem? (i := 417) rfl, rfl⟩
set_option maxRecDepth 100000 in
theorem q_im_M_firstBarrier : Cond.instanceMethod y_M_firstBarrier ∈ BW := List.mem_filter.mpr ⟨List.mem_of_getElem? (i := 419) rfl, rfl⟩
set_option maxRecDepth 100000 in
theorem q_code_M_firstBarrier : Cond.code y_M_firstBarrier b_M_firstBarrier 2 (some .int) ∈ BW := List.mem_filter.mpr ⟨List.mem_of_getElem? (i := 420) rfl, rfl⟩
set_option maxRecDepth 100000 in
theorem q_ml_M_85 : Cond.methodLink R_M 85 y_M_isShut ∈ BW := List.mem_filter.mpr ⟨List.mem_of_getElem? (i := 421) rfl, rfl⟩
set_option maxRecDepth 100000 in
theorem q_im_M_isShut : Cond.instanceMethod y_M_isShut ∈ BW := List.mem_filter.mpr ⟨List.mem_of_getElem? (i := 423) rfl, rfl⟩
set_option maxRecDepth 100000 in
theorem q_code_M_isShut : Cond.code y_M_isShut b_M_isShut 2 (some .boolean) ∈ BW := List.mem_filter.mpr ⟨List.mem_of_getElem? (i := 424) rfl, rfl⟩
set_option maxRecDepth 100000 in
theorem q_ml_L_48 : Cond.methodLink R_law 48 y_M_give ∈ BW := List.mem_filter.mpr ⟨List.mem_of_getElem? (i := 425) rfl, rfl⟩
set_option maxRecDepth 100000 in
theorem q_im_M_give : Cond.instanceMethod y_M_give ∈ BW := List.mem_filter.mpr ⟨List.mem_of_getElem? (i := 426) rfl, rfl⟩
set_option maxRecDepth 100000 in
theorem q_sel_M_give : Cond.selects R_M y_M_give y_M_give ∈ BW := List.mem_filter.mpr ⟨List.mem_of_getElem? (i := 427) rfl, rfl⟩
set_option maxRecDepth 100000 in
theorem q_code_M_give : Cond.code y_M_give b_M_give 5 (some .int) ∈ BW := List.mem_filter.mpr ⟨List.mem_of_getElem? (i := 428) rfl, rfl⟩
set_option maxRecDepth 100000 in
theorem q_ml_L_52 : Cond.methodLink R_law 52 y_M_drop ∈ BW := List.mem_filter.mpr ⟨List.mem_of_getElem? (i := 429) rfl, rfl⟩
set_option maxRecDepth 100000 in
theorem q_im_M_drop : Cond.instanceMethod y_M_drop ∈ BW := List.mem_filter.mpr ⟨List.mem_of_getElem? (i := 430) rfl, rfl⟩
set_option maxRecDepth 100000 in
theorem q_sel_M_drop : Cond.selects R_M y_M_drop y_M_drop ∈ BW := List.mem_filter.mpr ⟨List.mem_of_getElem? (i := 431) rfl, rfl⟩
set_option maxRecDepth 100000 in
theorem q_code_M_drop : Cond.code y_M_drop b_M_drop 3 (some .int) ∈ BW := List.mem_filter.mpr ⟨List.mem_of_getElem? (i := 432) rfl, rfl⟩
set_option maxRecDepth 100000 in
theorem q_ml_L_56 : Cond.methodLink R_law 56 y_M_go ∈ BW := List.mem_filter.mpr ⟨List.mem_of_getElem? (i := 433) rfl, rfl⟩
set_option maxRecDepth 100000 in
theorem q_im_M_go : Cond.instanceMethod y_M_go ∈ BW := List.mem_filter.mpr ⟨List.mem_of_getElem? (i := 434) rfl, rfl⟩
set_option maxRecDepth 100000 in
theorem q_sel_M_go : Cond.selects R_M y_M_go y_M_go ∈ BW := List.mem_filter.mpr ⟨List.mem_of_getElem? (i := 435) rfl, rfl⟩
set_option maxRecDepth 100000 in
theorem q_code_M_go : Cond.code y_M_go b_M_go 4 (some .int) ∈ BW := List.mem_filter.mpr ⟨List.mem_of_getElem? (i := 436) rfl, rfl⟩
set_option maxRecDepth 100000 in
theorem q_ml_L_60 : Cond.methodLink R_law 60 y_M_count ∈ BW := List.mem_filter.mpr ⟨List.mem_of_getElem? (i := 437) rfl, rfl⟩
set_option maxRecDepth 100000 in
theorem q_im_M_count : Cond.instanceMethod y_M_count ∈ BW := List.mem_filter.mpr ⟨List.mem_of_getElem? (i := 438) rfl, rfl⟩
set_option maxRecDepth 100000 in
theorem q_sel_M_count : Cond.selects R_M y_M_count y_M_count ∈ BW := List.mem_filter.mpr ⟨List.mem_of_getElem? (i := 439) rfl, rfl⟩
set_option maxRecDepth 100000 in
theorem q_code_M_count : Cond.code y_M_count b_M_count 2 (some .int) ∈ BW := List.mem_filter.mpr ⟨List.mem_of_getElem? (i := 440) rfl, rfl⟩
set_option maxRecDepth 100000 in
theorem q_ml_L_64 : Cond.methodLink R_law 64 y_M_told ∈ BW := List.mem_filter.mpr ⟨List.mem_of_getElem? (i := 441) rfl, rfl⟩
set_option maxRecDepth 100000 in
theorem q_im_M_told : Cond.instanceMethod y_M_told ∈ BW := List.mem_filter.mpr ⟨List.mem_of_getElem? (i := 442) rfl, rfl⟩
set_option maxRecDepth 100000 in
theorem q_sel_M_told : Cond.selects R_M y_M_told y_M_told ∈ BW := List.mem_filter.mpr ⟨List.mem_of_getElem? (i := 443) rfl, rfl⟩
set_option maxRecDepth 100000 in
theorem q_code_M_told : Cond.code y_M_told b_M_told 5 (some .int) ∈ BW := List.mem_filter.mpr ⟨List.mem_of_getElem? (i := 444) rfl, rfl⟩
set_option maxRecDepth 100000 in
theorem q_ml_M_98 : Cond.methodLink R_M 98 y_M_spaceOf ∈ BW := List.mem_filter.mpr ⟨List.mem_of_getElem? (i := 445) rfl, rfl⟩
set_option maxRecDepth 100000 in
theorem q_im_M_spaceOf : Cond.instanceMethod y_M_spaceOf ∈ BW := List.mem_filter.mpr ⟨List.mem_of_getElem? (i := 447) rfl, rfl⟩
set_option maxRecDepth 100000 in
theorem q_code_M_spaceOf : Cond.code y_M_spaceOf b_M_spaceOf 3 (some .int) ∈ BW := List.mem_filter.mpr ⟨List.mem_of_getElem? (i := 448) rfl, rfl⟩
set_option maxRecDepth 100000 in
theorem q_ml_M_95 : Cond.methodLink R_M 95 y_M_isSpace ∈ BW := List.mem_filter.mpr ⟨List.mem_of_getElem? (i := 449) rfl, rfl⟩
set_option maxRecDepth 100000 in
theorem q_im_M_isSpace : Cond.instanceMethod y_M_isSpace ∈ BW := List.mem_filter.mpr ⟨List.mem_of_getElem? (i := 451) rfl, rfl⟩
set_option maxRecDepth 100000 in
theorem q_code_M_isSpace : Cond.code y_M_isSpace b_M_isSpace 2 (some .boolean) ∈ BW := List.mem_filter.mpr ⟨List.mem_of_getElem? (i := 452) rfl, rfl⟩
set_option maxRecDepth 100000 in
theorem q_ml_L_68 : Cond.methodLink R_law 68 y_M_held ∈ BW := List.mem_filter.mpr ⟨List.mem_of_getElem? (i := 453) rfl, rfl⟩
set_option maxRecDepth 100000 in
theorem q_im_M_held : Cond.instanceMethod y_M_held ∈ BW := List.mem_filter.mpr ⟨List.mem_of_getElem? (i := 454) rfl, rfl⟩
set_option maxRecDepth 100000 in
theorem q_sel_M_held : Cond.selects R_M y_M_held y_M_held ∈ BW := List.mem_filter.mpr ⟨List.mem_of_getElem? (i := 455) rfl, rfl⟩
set_option maxRecDepth 100000 in
theorem q_code_M_held : Cond.code y_M_held b_M_held 5 (some .int) ∈ BW := List.mem_filter.mpr ⟨List.mem_of_getElem? (i := 456) rfl, rfl⟩
set_option maxRecDepth 100000 in
theorem q_ml_L_72 : Cond.methodLink R_law 72 y_M_space ∈ BW := List.mem_filter.mpr ⟨List.mem_of_getElem? (i := 457) rfl, rfl⟩
set_option maxRecDepth 100000 in
theorem q_im_M_space : Cond.instanceMethod y_M_space ∈ BW := List.mem_filter.mpr ⟨List.mem_of_getElem? (i := 458) rfl, rfl⟩
set_option maxRecDepth 100000 in
theorem q_sel_M_space : Cond.selects R_M y_M_space y_M_space ∈ BW := List.mem_filter.mpr ⟨List.mem_of_getElem? (i := 459) rfl, rfl⟩
set_option maxRecDepth 100000 in
theorem q_code_M_space : Cond.code y_M_space b_M_space 3 (some .int) ∈ BW := List.mem_filter.mpr ⟨List.mem_of_getElem? (i := 460) rfl, rfl⟩
set_option maxRecDepth 100000 in
theorem q_ml_M_109 : Cond.methodLink R_M 109 y_M_findLosses ∈ BW := List.mem_filter.mpr ⟨List.mem_of_getElem? (i := 461) rfl, rfl⟩
set_option maxRecDepth 100000 in
theorem q_im_M_findLosses : Cond.instanceMethod y_M_findLosses ∈ BW := List.mem_filter.mpr ⟨List.mem_of_getElem? (i := 463) rfl, rfl⟩
set_option maxRecDepth 100000 in
theorem q_code_M_findLosses : Cond.code y_M_findLosses b_M_findLosses 7 none ∈ BW := List.mem_filter.mpr ⟨List.mem_of_getElem? (i := 464) rfl, rfl⟩
set_option maxRecDepth 100000 in
theorem q_ml_M_101 : Cond.methodLink R_M 101 y_M_lossOf ∈ BW := List.mem_filter.mpr ⟨List.mem_of_getElem? (i := 465) rfl, rfl⟩
set_option maxRecDepth 100000 in
theorem q_st_M_lossOf : Cond.static y_M_lossOf ∈ BW := List.mem_filter.mpr ⟨List.mem_of_getElem? (i := 466) rfl, rfl⟩
set_option maxRecDepth 100000 in
theorem q_code_M_lossOf : Cond.code y_M_lossOf b_M_lossOf 4 (some .int) ∈ BW := List.mem_filter.mpr ⟨List.mem_of_getElem? (i := 467) rfl, rfl⟩
set_option maxRecDepth 100000 in
theorem q_ml_M_105 : Cond.methodLink R_M 105 y_M_joins ∈ BW := List.mem_filter.mpr ⟨List.mem_of_getElem? (i := 468) rfl, rfl⟩
set_option maxRecDepth 100000 in
theorem q_im_M_joins : Cond.instanceMethod y_M_joins ∈ BW := List.mem_filter.mpr ⟨List.mem_of_getElem? (i := 470) rfl, rfl⟩
set_option maxRecDepth 100000 in
theorem q_code_M_joins : Cond.code y_M_joins b_M_joins 4 none ∈ BW := List.mem_filter.mpr ⟨List.mem_of_getElem? (i := 471) rfl, rfl⟩
set_option maxRecDepth 100000 in
theorem q_ml_M_113 : Cond.methodLink R_M 113 y_M_greatest ∈ BW := List.mem_filter.mpr ⟨List.mem_of_getElem? (i := 472) rfl, rfl⟩
set_option maxRecDepth 100000 in
theorem q_im_M_greatest : Cond.instanceMethod y_M_greatest ∈ BW := List.mem_filter.mpr ⟨List.mem_of_getElem? (i := 474) rfl, rfl⟩
set_option maxRecDepth 100000 in
theorem q_code_M_greatest : Cond.code y_M_greatest b_M_greatest 7 (some .int) ∈ BW := List.mem_filter.mpr ⟨List.mem_of_getElem? (i := 475) rfl, rfl⟩
set_option maxRecDepth 100000 in
theorem q_ml_L_76 : Cond.methodLink R_law 76 y_M_loses ∈ BW := List.mem_filter.mpr ⟨List.mem_of_getElem? (i := 476) rfl, rfl⟩
set_option maxRecDepth 100000 in
theorem q_im_M_loses : Cond.instanceMethod y_M_loses ∈ BW := List.mem_filter.mpr ⟨List.mem_of_getElem? (i := 477) rfl, rfl⟩
set_option maxRecDepth 100000 in
theorem q_sel_M_loses : Cond.selects R_M y_M_loses y_M_loses ∈ BW := List.mem_filter.mpr ⟨List.mem_of_getElem? (i := 478) rfl, rfl⟩
set_option maxRecDepth 100000 in
theorem q_code_M_loses : Cond.code y_M_loses b_M_loses 4 (some .int) ∈ BW := List.mem_filter.mpr ⟨List.mem_of_getElem? (i := 479) rfl, rfl⟩
set_option maxRecDepth 100000 in
theorem q_ml_L_80 : Cond.methodLink R_law 80 y_M_sees ∈ BW := List.mem_filter.mpr ⟨List.mem_of_getElem? (i := 480) rfl, rfl⟩
set_option maxRecDepth 100000 in
theorem q_im_M_sees : Cond.instanceMethod y_M_sees ∈ BW := List.mem_filter.mpr ⟨List.mem_of_getElem? (i := 481) rfl, rfl⟩
set_option maxRecDepth 100000 in
theorem q_sel_M_sees : Cond.selects R_M y_M_sees y_M_sees ∈ BW := List.mem_filter.mpr ⟨List.mem_of_getElem? (i := 482) rfl, rfl⟩
set_option maxRecDepth 100000 in
theorem q_code_M_sees : Cond.code y_M_sees b_M_sees 3 (some .int) ∈ BW := List.mem_filter.mpr ⟨List.mem_of_getElem? (i := 483) rfl, rfl⟩
set_option maxRecDepth 100000 in
theorem q_ml_M_120 : Cond.methodLink R_M 120 y_M_looks ∈ BW := List.mem_filter.mpr ⟨List.mem_of_getElem? (i := 484) rfl, rfl⟩
set_option maxRecDepth 100000 in
theorem q_im_M_looks : Cond.instanceMethod y_M_looks ∈ BW := List.mem_filter.mpr ⟨List.mem_of_getElem? (i := 486) rfl, rfl⟩
set_option maxRecDepth 100000 in
theorem q_code_M_looks : Cond.code y_M_looks b_M_looks 2 none ∈ BW := List.mem_filter.mpr ⟨List.mem_of_getElem? (i := 487) rfl, rfl⟩
set_option maxRecDepth 100000 in
theorem q_ml_M_123 : Cond.methodLink R_M 123 y_M_isSeen ∈ BW := List.mem_filter.mpr ⟨List.mem_of_getElem? (i := 488) rfl, rfl⟩
set_option maxRecDepth 100000 in
theorem q_im_M_isSeen : Cond.instanceMethod y_M_isSeen ∈ BW := List.mem_filter.mpr ⟨List.mem_of_getElem? (i := 490) rfl, rfl⟩
set_option maxRecDepth 100000 in
theorem q_code_M_isSeen : Cond.code y_M_isSeen b_M_isSeen 5 (some .boolean) ∈ BW := List.mem_filter.mpr ⟨List.mem_of_getElem? (i := 491) rfl, rfl⟩
set_option maxRecDepth 100000 in
theorem q_ml_M_117 : Cond.methodLink R_M 117 y_M_passes ∈ BW := List.mem_filter.mpr ⟨List.mem_of_getElem? (i := 492) rfl, rfl⟩
set_option maxRecDepth 100000 in
theorem q_im_M_passes : Cond.instanceMethod y_M_passes ∈ BW := List.mem_filter.mpr ⟨List.mem_of_getElem? (i := 494) rfl, rfl⟩
set_option maxRecDepth 100000 in
theorem q_code_M_passes : Cond.code y_M_passes b_M_passes 8 (some .boolean) ∈ BW := List.mem_filter.mpr ⟨List.mem_of_getElem? (i := 495) rfl, rfl⟩
set_option maxRecDepth 100000 in
theorem q_ml_L_84 : Cond.methodLink R_law 84 y_M_barrier ∈ BW := List.mem_filter.mpr ⟨List.mem_of_getElem? (i := 496) rfl, rfl⟩
set_option maxRecDepth 100000 in
theorem q_im_M_barrier : Cond.instanceMethod y_M_barrier ∈ BW := List.mem_filter.mpr ⟨List.mem_of_getElem? (i := 497) rfl, rfl⟩
set_option maxRecDepth 100000 in
theorem q_sel_M_barrier : Cond.selects R_M y_M_barrier y_M_barrier ∈ BW := List.mem_filter.mpr ⟨List.mem_of_getElem? (i := 498) rfl, rfl⟩
set_option maxRecDepth 100000 in
theorem q_code_M_barrier : Cond.code y_M_barrier b_M_barrier 3 (some .int) ∈ BW := List.mem_filter.mpr ⟨List.mem_of_getElem? (i := 499) rfl, rfl⟩
set_option maxRecDepth 100000 in
theorem q_ml_L_88 : Cond.methodLink R_law 88 y_M_scope ∈ BW := List.mem_filter.mpr ⟨List.mem_of_getElem? (i := 500) rfl, rfl⟩
set_option maxRecDepth 100000 in
theorem q_im_M_scope : Cond.instanceMethod y_M_scope ∈ BW := List.mem_filter.mpr ⟨List.mem_of_getElem? (i := 501) rfl, rfl⟩
set_option maxRecDepth 100000 in
theorem q_sel_M_scope : Cond.selects R_M y_M_scope y_M_scope ∈ BW := List.mem_filter.mpr ⟨List.mem_of_getElem? (i := 502) rfl, rfl⟩
set_option maxRecDepth 100000 in
theorem q_code_M_scope : Cond.code y_M_scope b_M_scope 5 (some .int) ∈ BW := List.mem_filter.mpr ⟨List.mem_of_getElem? (i := 503) rfl, rfl⟩
set_option maxRecDepth 100000 in
theorem q_ml_M_126 : Cond.methodLink R_M 126 y_M_isReached ∈ BW := List.mem_filter.mpr ⟨List.mem_of_getElem? (i := 504) rfl, rfl⟩
set_option maxRecDepth 100000 in
theorem q_im_M_isReached : Cond.instanceMethod y_M_isReached ∈ BW := List.mem_filter.mpr ⟨List.mem_of_getElem? (i := 506) rfl, rfl⟩
set_option maxRecDepth 100000 in
theorem q_code_M_isReached : Cond.code y_M_isReached b_M_isReached 3 (some .boolean) ∈ BW := List.mem_filter.mpr ⟨List.mem_of_getElem? (i := 507) rfl, rfl⟩
set_option maxRecDepth 100000 in
theorem q_ml_L_92 : Cond.methodLink R_law 92 y_M_hears ∈ BW := List.mem_filter.mpr ⟨List.mem_of_getElem? (i := 508) rfl, rfl⟩
set_option maxRecDepth 100000 in
theorem q_im_M_hears : Cond.instanceMethod y_M_hears ∈ BW := List.mem_filter.mpr ⟨List.mem_of_getElem? (i := 509) rfl, rfl⟩
set_option maxRecDepth 100000 in
theorem q_sel_M_hears : Cond.selects R_M y_M_hears y_M_hears ∈ BW := List.mem_filter.mpr ⟨List.mem_of_getElem? (i := 510) rfl, rfl⟩
set_option maxRecDepth 100000 in
theorem q_code_M_hears : Cond.code y_M_hears b_M_hears 7 (some .int) ∈ BW := List.mem_filter.mpr ⟨List.mem_of_getElem? (i := 511) rfl, rfl⟩
theorem q_sel_C_isThing : Cond.selects R_C y_C_isThing y_C_isThing ∈ BW := List.mem_filter.mpr ⟨List.mem_of_getElem? (i := 0) rfl, rfl⟩
theorem q_sel_C_sortOf : Cond.selects R_C y_C_sortOf y_C_sortOf ∈ BW := List.mem_filter.mpr ⟨List.mem_of_getElem? (i := 1) rfl, rfl⟩
theorem q_sel_C_isWithin : Cond.selects R_C y_C_isWithin y_C_isWithin ∈ BW := List.mem_filter.mpr ⟨List.mem_of_getElem? (i := 2) rfl, rfl⟩
theorem q_sel_C_holderOf : Cond.selects R_C y_C_holderOf y_C_holderOf ∈ BW := List.mem_filter.mpr ⟨List.mem_of_getElem? (i := 3) rfl, rfl⟩
theorem q_sel_C_isFull : Cond.selects R_C y_C_isFull y_C_isFull ∈ BW := List.mem_filter.mpr ⟨List.mem_of_getElem? (i := 4) rfl, rfl⟩
theorem q_sel_C_countHeldBy : Cond.selects R_C y_C_countHeldBy y_C_countHeldBy ∈ BW := List.mem_filter.mpr ⟨List.mem_of_getElem? (i := 5) rfl, rfl⟩
theorem q_sel_C_isDoor : Cond.selects R_C y_C_isDoor y_C_isDoor ∈ BW := List.mem_filter.mpr ⟨List.mem_of_getElem? (i := 6) rfl, rfl⟩
theorem q_sel_C_isPerson : Cond.selects R_C y_C_isPerson y_C_isPerson ∈ BW := List.mem_filter.mpr ⟨List.mem_of_getElem? (i := 7) rfl, rfl⟩
theorem q_sel_C_firstBarrier : Cond.selects R_C y_C_firstBarrier y_C_firstBarrier ∈ BW := List.mem_filter.mpr ⟨List.mem_of_getElem? (i := 8) rfl, rfl⟩
theorem q_sel_C_turningPoint : Cond.selects R_C y_C_turningPoint y_C_turningPoint ∈ BW := List.mem_filter.mpr ⟨List.mem_of_getElem? (i := 9) rfl, rfl⟩
theorem q_sel_C_firstBarrierOut : Cond.selects R_C y_C_firstBarrierOut y_C_firstBarrierOut ∈ BW := List.mem_filter.mpr ⟨List.mem_of_getElem? (i := 10) rfl, rfl⟩
theorem q_sel_C_isShutBox : Cond.selects R_C y_C_isShutBox y_C_isShutBox ∈ BW := List.mem_filter.mpr ⟨List.mem_of_getElem? (i := 11) rfl, rfl⟩
theorem q_sel_C_markOf : Cond.selects R_C y_C_markOf y_C_markOf ∈ BW := List.mem_filter.mpr ⟨List.mem_of_getElem? (i := 12) rfl, rfl⟩
theorem q_sel_C_firstBarrierIn : Cond.selects R_C y_C_firstBarrierIn y_C_firstBarrierIn ∈ BW := List.mem_filter.mpr ⟨List.mem_of_getElem? (i := 13) rfl, rfl⟩
theorem q_sel_C_hasInHands : Cond.selects R_C y_C_hasInHands y_C_hasInHands ∈ BW := List.mem_filter.mpr ⟨List.mem_of_getElem? (i := 14) rfl, rfl⟩
theorem q_sel_C_mayBeGivenTo : Cond.selects R_C y_C_mayBeGivenTo y_C_mayBeGivenTo ∈ BW := List.mem_filter.mpr ⟨List.mem_of_getElem? (i := 15) rfl, rfl⟩
theorem q_sel_C_spaceOf : Cond.selects R_C y_C_spaceOf y_C_spaceOf ∈ BW := List.mem_filter.mpr ⟨List.mem_of_getElem? (i := 16) rfl, rfl⟩
theorem q_sel_C_isSpace : Cond.selects R_C y_C_isSpace y_C_isSpace ∈ BW := List.mem_filter.mpr ⟨List.mem_of_getElem? (i := 17) rfl, rfl⟩
theorem q_sel_C_countWithin : Cond.selects R_C y_C_countWithin y_C_countWithin ∈ BW := List.mem_filter.mpr ⟨List.mem_of_getElem? (i := 18) rfl, rfl⟩
theorem q_sel_C_fillFromAllThings : Cond.selects R_C y_C_fillFromAllThings y_C_fillFromAllThings ∈ BW := List.mem_filter.mpr ⟨List.mem_of_getElem? (i := 19) rfl, rfl⟩
theorem q_sel_C_spread : Cond.selects R_C y_C_spread y_C_spread ∈ BW := List.mem_filter.mpr ⟨List.mem_of_getElem? (i := 20) rfl, rfl⟩
theorem q_sel_C_wallLoss : Cond.selects R_C y_C_wallLoss y_C_wallLoss ∈ BW := List.mem_filter.mpr ⟨List.mem_of_getElem? (i := 21) rfl, rfl⟩
theorem q_sel_C_spreadOver : Cond.selects R_C y_C_spreadOver y_C_spreadOver ∈ BW := List.mem_filter.mpr ⟨List.mem_of_getElem? (i := 22) rfl, rfl⟩
theorem q_sel_C_doorLoss : Cond.selects R_C y_C_doorLoss y_C_doorLoss ∈ BW := List.mem_filter.mpr ⟨List.mem_of_getElem? (i := 23) rfl, rfl⟩
theorem q_sel_C_fillFromOneSpace : Cond.selects R_C y_C_fillFromOneSpace y_C_fillFromOneSpace ∈ BW := List.mem_filter.mpr ⟨List.mem_of_getElem? (i := 24) rfl, rfl⟩
theorem q_sel_C_lossAt : Cond.selects R_C y_C_lossAt y_C_lossAt ∈ BW := List.mem_filter.mpr ⟨List.mem_of_getElem? (i := 25) rfl, rfl⟩
theorem q_sel_C_viewOf : Cond.selects R_C y_C_viewOf y_C_viewOf ∈ BW := List.mem_filter.mpr ⟨List.mem_of_getElem? (i := 26) rfl, rfl⟩
theorem q_sel_C_widenedOverWalls : Cond.selects R_C y_C_widenedOverWalls y_C_widenedOverWalls ∈ BW := List.mem_filter.mpr ⟨List.mem_of_getElem? (i := 27) rfl, rfl⟩
theorem q_sel_C_widenedOverOneDoor : Cond.selects R_C y_C_widenedOverOneDoor y_C_widenedOverOneDoor ∈ BW := List.mem_filter.mpr ⟨List.mem_of_getElem? (i := 28) rfl, rfl⟩
theorem q_sel_C_isSeen : Cond.selects R_C y_C_isSeen y_C_isSeen ∈ BW := List.mem_filter.mpr ⟨List.mem_of_getElem? (i := 29) rfl, rfl⟩
theorem q_sel_C_partHeardOf : Cond.selects R_C y_C_partHeardOf y_C_partHeardOf ∈ BW := List.mem_filter.mpr ⟨List.mem_of_getElem? (i := 30) rfl, rfl⟩
theorem q_sel_M_isThing : Cond.selects R_M y_M_isThing y_M_isThing ∈ BW := List.mem_filter.mpr ⟨List.mem_of_getElem? (i := 31) rfl, rfl⟩
theorem q_sel_M_isWithin : Cond.selects R_M y_M_isWithin y_M_isWithin ∈ BW := List.mem_filter.mpr ⟨List.mem_of_getElem? (i := 32) rfl, rfl⟩
theorem q_sel_M_hasRoom : Cond.selects R_M y_M_hasRoom y_M_hasRoom ∈ BW := List.mem_filter.mpr ⟨List.mem_of_getElem? (i := 33) rfl, rfl⟩
theorem q_sel_M_heldBy : Cond.selects R_M y_M_heldBy y_M_heldBy ∈ BW := List.mem_filter.mpr ⟨List.mem_of_getElem? (i := 34) rfl, rfl⟩
theorem q_sel_M_isOf : Cond.selects R_M y_M_isOf y_M_isOf ∈ BW := List.mem_filter.mpr ⟨List.mem_of_getElem? (i := 35) rfl, rfl⟩
theorem q_sel_M_isDoor : Cond.selects R_M y_M_isDoor y_M_isDoor ∈ BW := List.mem_filter.mpr ⟨List.mem_of_getElem? (i := 36) rfl, rfl⟩
theorem q_sel_M_findWay : Cond.selects R_M y_M_findWay y_M_findWay ∈ BW := List.mem_filter.mpr ⟨List.mem_of_getElem? (i := 37) rfl, rfl⟩
theorem q_sel_M_firstBarrier : Cond.selects R_M y_M_firstBarrier y_M_firstBarrier ∈ BW := List.mem_filter.mpr ⟨List.mem_of_getElem? (i := 38) rfl, rfl⟩
theorem q_sel_M_isShut : Cond.selects R_M y_M_isShut y_M_isShut ∈ BW := List.mem_filter.mpr ⟨List.mem_of_getElem? (i := 39) rfl, rfl⟩
theorem q_sel_M_spaceOf : Cond.selects R_M y_M_spaceOf y_M_spaceOf ∈ BW := List.mem_filter.mpr ⟨List.mem_of_getElem? (i := 40) rfl, rfl⟩
theorem q_sel_M_isSpace : Cond.selects R_M y_M_isSpace y_M_isSpace ∈ BW := List.mem_filter.mpr ⟨List.mem_of_getElem? (i := 41) rfl, rfl⟩
theorem q_sel_M_findLosses : Cond.selects R_M y_M_findLosses y_M_findLosses ∈ BW := List.mem_filter.mpr ⟨List.mem_of_getElem? (i := 42) rfl, rfl⟩
theorem q_sel_M_joins : Cond.selects R_M y_M_joins y_M_joins ∈ BW := List.mem_filter.mpr ⟨List.mem_of_getElem? (i := 43) rfl, rfl⟩
theorem q_sel_M_greatest : Cond.selects R_M y_M_greatest y_M_greatest ∈ BW := List.mem_filter.mpr ⟨List.mem_of_getElem? (i := 44) rfl, rfl⟩
theorem q_sel_M_looks : Cond.selects R_M y_M_looks y_M_looks ∈ BW := List.mem_filter.mpr ⟨List.mem_of_getElem? (i := 45) rfl, rfl⟩
theorem q_sel_M_isSeen : Cond.selects R_M y_M_isSeen y_M_isSeen ∈ BW := List.mem_filter.mpr ⟨List.mem_of_getElem? (i := 46) rfl, rfl⟩
theorem q_sel_M_passes : Cond.selects R_M y_M_passes y_M_passes ∈ BW := List.mem_filter.mpr ⟨List.mem_of_getElem? (i := 47) rfl, rfl⟩
theorem q_sel_M_isReached : Cond.selects R_M y_M_isReached y_M_isReached ∈ BW := List.mem_filter.mpr ⟨List.mem_of_getElem? (i := 48) rfl, rfl⟩
end
section
theorem d_A_fill_0 : decode b_A_fill 0 = .ok (.iconst 0, 1) := by decide +kernel
theorem d_A_fill_1 : decode b_A_fill 1 = .ok (.istore_n 2, 1) := by decide +kernel
theorem d_A_fill_2 : decode b_A_fill 2 = .ok (.aload_n 0, 1) := by decide +kernel
theorem d_A_fill_3 : decode b_A_fill 3 = .ok (.arraylength, 1) := by decide +kernel
theorem d_A_fill_4 : decode b_A_fill 4 = .ok (.istore_n 3, 1) := by decide +kernel
theorem d_A_fill_5 : decode b_A_fill 5 = .ok (.iload_n 2, 1) := by decide +kernel
theorem d_A_fill_6 : decode b_A_fill 6 = .ok (.iload_n 3, 1) := by decide +kernel
theorem d_A_fill_7 : decode b_A_fill 7 = .ok (.if_icmp .ge 13, 3) := by decide +kernel
theorem d_A_fill_10 : decode b_A_fill 10 = .ok (.aload_n 0, 1) := by decide +kernel
theorem d_A_fill_11 : decode b_A_fill 11 = .ok (.iload_n 2, 1) := by decide +kernel
theorem d_A_fill_12 : decode b_A_fill 12 = .ok (.iload_n 1, 1) := by decide +kernel
theorem d_A_fill_13 : decode b_A_fill 13 = .ok (.iastore, 1) := by decide +kernel
theorem d_A_fill_14 : decode b_A_fill 14 = .ok (.iinc 2 1, 3) := by decide +kernel
theorem d_A_fill_17 : decode b_A_fill 17 = .ok (.goto (-12), 3) := by decide +kernel
theorem d_A_fill_20 : decode b_A_fill 20 = .ok (.return_, 1) := by decide +kernel
theorem d_C_init_0 : decode b_C_init 0 = .ok (.aload_n 0, 1) := by decide +kernel
theorem d_C_init_1 : decode b_C_init 1 = .ok (.invokespecial 1, 3) := by decide +kernel
theorem d_C_init_4 : decode b_C_init 4 = .ok (.aload_n 0, 1) := by decide +kernel
theorem d_C_init_5 : decode b_C_init 5 = .ok (.iconst 0, 1) := by decide +kernel
theorem d_C_init_6 : decode b_C_init 6 = .ok (.putfield 7, 3) := by decide +kernel
theorem d_C_init_9 : decode b_C_init 9 = .ok (.aload_n 0, 1) := by decide +kernel
theorem d_C_init_10 : decode b_C_init 10 = .ok (.bipush 30, 2) := by decide +kernel
theorem d_C_init_12 : decode b_C_init 12 = .ok (.newarray .int, 2) := by decide +kernel
theorem d_C_init_14 : decode b_C_init 14 = .ok (.putfield 13, 3) := by decide +kernel
theorem d_C_init_17 : decode b_C_init 17 = .ok (.aload_n 0, 1) := by decide +kernel
theorem d_C_init_18 : decode b_C_init 18 = .ok (.bipush 30, 2) := by decide +kernel
theorem d_C_init_20 : decode b_C_init 20 = .ok (.newarray .int, 2) := by decide +kernel
theorem d_C_init_22 : decode b_C_init 22 = .ok (.putfield 17, 3) := by decide +kernel
theorem d_C_init_25 : decode b_C_init 25 = .ok (.aload_n 0, 1) := by decide +kernel
theorem d_C_init_26 : decode b_C_init 26 = .ok (.iconst 4, 1) := by decide +kernel
theorem d_C_init_27 : decode b_C_init 27 = .ok (.bipush 30, 2) := by decide +kernel
theorem d_C_init_29 : decode b_C_init 29 = .ok (.multianewarray 20 2, 4) := by decide +kernel
theorem d_C_init_33 : decode b_C_init 33 = .ok (.putfield 22, 3) := by decide +kernel
theorem d_C_init_36 : decode b_C_init 36 = .ok (.aload_n 0, 1) := by decide +kernel
theorem d_C_init_37 : decode b_C_init 37 = .ok (.iconst 0, 1) := by decide +kernel
theorem d_C_init_38 : decode b_C_init 38 = .ok (.putfield 25, 3) := by decide +kernel
theorem d_C_init_41 : decode b_C_init 41 = .ok (.aload_n 0, 1) := by decide +kernel
theorem d_C_init_42 : decode b_C_init 42 = .ok (.bipush 10, 2) := by decide +kernel
theorem d_C_init_44 : decode b_C_init 44 = .ok (.newarray .int, 2) := by decide +kernel
theorem d_C_init_46 : decode b_C_init 46 = .ok (.putfield 28, 3) := by decide +kernel
theorem d_C_init_49 : decode b_C_init 49 = .ok (.aload_n 0, 1) := by decide +kernel
theorem d_C_init_50 : decode b_C_init 50 = .ok (.bipush 10, 2) := by decide +kernel
theorem d_C_init_52 : decode b_C_init 52 = .ok (.newarray .int, 2) := by decide +kernel
theorem d_C_init_54 : decode b_C_init 54 = .ok (.putfield 31, 3) := by decide +kernel
theorem d_C_init_57 : decode b_C_init 57 = .ok (.aload_n 0, 1) := by decide +kernel
theorem d_C_init_58 : decode b_C_init 58 = .ok (.iconst 2, 1) := by decide +kernel
theorem d_C_init_59 : decode b_C_init 59 = .ok (.bipush 10, 2) := by decide +kernel
theorem d_C_init_61 : decode b_C_init 61 = .ok (.multianewarray 20 2, 4) := by decide +kernel
theorem d_C_init_65 : decode b_C_init 65 = .ok (.putfield 34, 3) := by decide +kernel
theorem d_C_init_68 : decode b_C_init 68 = .ok (.aload_n 0, 1) := by decide +kernel
theorem d_C_init_69 : decode b_C_init 69 = .ok (.bipush 30, 2) := by decide +kernel
theorem d_C_init_71 : decode b_C_init 71 = .ok (.newarray .int, 2) := by decide +kernel
theorem d_C_init_73 : decode b_C_init 73 = .ok (.putfield 37, 3) := by decide +kernel
theorem d_C_init_76 : decode b_C_init 76 = .ok (.return_, 1) := by decide +kernel
theorem d_C_thing_0 : decode b_C_thing 0 = .ok (.iload_n 1, 1) := by decide +kernel
theorem d_C_thing_1 : decode b_C_thing 1 = .ok (.ifCond .lt 8, 3) := by decide +kernel
theorem d_C_thing_4 : decode b_C_thing 4 = .ok (.iload_n 1, 1) := by decide +kernel
theorem d_C_thing_5 : decode b_C_thing 5 = .ok (.iconst 4, 1) := by decide +kernel
theorem d_C_thing_6 : decode b_C_thing 6 = .ok (.if_icmp .le 6, 3) := by decide +kernel
theorem d_C_thing_9 : decode b_C_thing 9 = .ok (.bipush (-3), 2) := by decide +kernel
theorem d_C_thing_11 : decode b_C_thing 11 = .ok (.ireturn, 1) := by decide +kernel
theorem d_C_thing_12 : decode b_C_thing 12 = .ok (.aload_n 0, 1) := by decide +kernel
theorem d_C_thing_13 : decode b_C_thing 13 = .ok (.getfield 7, 3) := by decide +kernel
theorem d_C_thing_16 : decode b_C_thing 16 = .ok (.bipush 30, 2) := by decide +kernel
theorem d_C_thing_18 : decode b_C_thing 18 = .ok (.if_icmp .lt 6, 3) := by decide +kernel
theorem d_C_thing_21 : decode b_C_thing 21 = .ok (.bipush (-7), 2) := by decide +kernel
theorem d_C_thing_23 : decode b_C_thing 23 = .ok (.ireturn, 1) := by decide +kernel
theorem d_C_thing_24 : decode b_C_thing 24 = .ok (.aload_n 0, 1) := by decide +kernel
theorem d_C_thing_25 : decode b_C_thing 25 = .ok (.getfield 7, 3) := by decide +kernel
theorem d_C_thing_28 : decode b_C_thing 28 = .ok (.istore_n 2, 1) := by decide +kernel
theorem d_C_thing_29 : decode b_C_thing 29 = .ok (.aload_n 0, 1) := by decide +kernel
theorem d_C_thing_30 : decode b_C_thing 30 = .ok (.dup, 1) := by decide +kernel
theorem d_C_thing_31 : decode b_C_thing 31 = .ok (.getfield 7, 3) := by decide +kernel
theorem d_C_thing_34 : decode b_C_thing 34 = .ok (.iconst 1, 1) := by decide +kernel
theorem d_C_thing_35 : decode b_C_thing 35 = .ok (.iadd, 1) := by decide +kernel
theorem d_C_thing_36 : decode b_C_thing 36 = .ok (.putfield 7, 3) := by decide +kernel
theorem d_C_thing_39 : decode b_C_thing 39 = .ok (.aload_n 0, 1) := by decide +kernel
theorem d_C_thing_40 : decode b_C_thing 40 = .ok (.getfield 13, 3) := by decide +kernel
theorem d_C_thing_43 : decode b_C_thing 43 = .ok (.iload_n 2, 1) := by decide +kernel
theorem d_C_thing_44 : decode b_C_thing 44 = .ok (.iload_n 1, 1) := by decide +kernel
theorem d_C_thing_45 : decode b_C_thing 45 = .ok (.iastore, 1) := by decide +kernel
theorem d_C_thing_46 : decode b_C_thing 46 = .ok (.aload_n 0, 1) := by decide +kernel
theorem d_C_thing_47 : decode b_C_thing 47 = .ok (.getfield 17, 3) := by decide +kernel
theorem d_C_thing_50 : decode b_C_thing 50 = .ok (.iload_n 2, 1) := by decide +kernel
theorem d_C_thing_51 : decode b_C_thing 51 = .ok (.iconst (-1), 1) := by decide +kernel
theorem d_C_thing_52 : decode b_C_thing 52 = .ok (.iastore, 1) := by decide +kernel
theorem d_C_thing_53 : decode b_C_thing 53 = .ok (.iconst 0, 1) := by decide +kernel
theorem d_C_thing_54 : decode b_C_thing 54 = .ok (.istore_n 3, 1) := by decide +kernel
theorem d_C_thing_55 : decode b_C_thing 55 = .ok (.iload_n 3, 1) := by decide +kernel
theorem d_C_thing_56 : decode b_C_thing 56 = .ok (.iconst 4, 1) := by decide +kernel
theorem d_C_thing_57 : decode b_C_thing 57 = .ok (.if_icmp .ge 18, 3) := by decide +kernel
theorem d_C_thing_60 : decode b_C_thing 60 = .ok (.aload_n 0, 1) := by decide +kernel
theorem d_C_thing_61 : decode b_C_thing 61 = .ok (.getfield 22, 3) := by decide +kernel
theorem d_C_thing_64 : decode b_C_thing 64 = .ok (.iload_n 3, 1) := by decide +kernel
theorem d_C_thing_65 : decode b_C_thing 65 = .ok (.aaload, 1) := by decide +kernel
theorem d_C_thing_66 : decode b_C_thing 66 = .ok (.iload_n 2, 1) := by decide +kernel
theorem d_C_thing_67 : decode b_C_thing 67 = .ok (.iconst 0, 1) := by decide +kernel
theorem d_C_thing_68 : decode b_C_thing 68 = .ok (.iastore, 1) := by decide +kernel
theorem d_C_thing_69 : decode b_C_thing 69 = .ok (.iinc 3 1, 3) := by decide +kernel
theorem d_C_thing_72 : decode b_C_thing 72 = .ok (.goto (-17), 3) := by decide +kernel
theorem d_C_thing_75 : decode b_C_thing 75 = .ok (.iload_n 2, 1) := by decide +kernel
theorem d_C_thing_76 : decode b_C_thing 76 = .ok (.ireturn, 1) := by decide +kernel
theorem d_C_clear_0 : decode b_C_clear 0 = .ok (.aload_n 0, 1) := by decide +kernel
theorem d_C_clear_1 : decode b_C_clear 1 = .ok (.getfield 7, 3) := by decide +kernel
theorem d_C_clear_4 : decode b_C_clear 4 = .ok (.istore_n 1, 1) := by decide +kernel
theorem d_C_clear_5 : decode b_C_clear 5 = .ok (.aload_n 0, 1) := by decide +kernel
theorem d_C_clear_6 : decode b_C_clear 6 = .ok (.iconst 0, 1) := by decide +kernel
theorem d_C_clear_7 : decode b_C_clear 7 = .ok (.putfield 7, 3) := by decide +kernel
theorem d_C_clear_10 : decode b_C_clear 10 = .ok (.aload_n 0, 1) := by decide +kernel
theorem d_C_clear_11 : decode b_C_clear 11 = .ok (.iconst 0, 1) := by decide +kernel
theorem d_C_clear_12 : decode b_C_clear 12 = .ok (.putfield 25, 3) := by decide +kernel
theorem d_C_clear_15 : decode b_C_clear 15 = .ok (.iload_n 1, 1) := by decide +kernel
theorem d_C_clear_16 : decode b_C_clear 16 = .ok (.ireturn, 1) := by decide +kernel
theorem d_C_put_0 : decode b_C_put 0 = .ok (.aload_n 0, 1) := by decide +kernel
theorem d_C_put_1 : decode b_C_put 1 = .ok (.iload_n 1, 1) := by decide +kernel
theorem d_C_put_2 : decode b_C_put 2 = .ok (.invokevirtual 40, 3) := by decide +kernel
theorem d_C_put_5 : decode b_C_put 5 = .ok (.ifCond .eq 11, 3) := by decide +kernel
theorem d_C_put_8 : decode b_C_put 8 = .ok (.aload_n 0, 1) := by decide +kernel
theorem d_C_put_9 : decode b_C_put 9 = .ok (.iload_n 1, 1) := by decide +kernel
theorem d_C_put_10 : decode b_C_put 10 = .ok (.invokevirtual 44, 3) := by decide +kernel
theorem d_C_put_13 : decode b_C_put 13 = .ok (.ifCond .ne 6, 3) := by decide +kernel
theorem d_C_put_16 : decode b_C_put 16 = .ok (.bipush (-2), 2) := by decide +kernel
theorem d_C_put_18 : decode b_C_put 18 = .ok (.ireturn, 1) := by decide +kernel
theorem d_C_put_19 : decode b_C_put 19 = .ok (.aload_n 0, 1) := by decide +kernel
theorem d_C_put_20 : decode b_C_put 20 = .ok (.getfield 17, 3) := by decide +kernel
theorem d_C_put_23 : decode b_C_put 23 = .ok (.iload_n 1, 1) := by decide +kernel
theorem d_C_put_24 : decode b_C_put 24 = .ok (.iaload, 1) := by decide +kernel
theorem d_C_put_25 : decode b_C_put 25 = .ok (.istore_n 3, 1) := by decide +kernel
theorem d_C_put_26 : decode b_C_put 26 = .ok (.iload_n 2, 1) := by decide +kernel
theorem d_C_put_27 : decode b_C_put 27 = .ok (.iconst (-1), 1) := by decide +kernel
theorem d_C_put_28 : decode b_C_put 28 = .ok (.if_icmp .ne 12, 3) := by decide +kernel
theorem d_C_put_31 : decode b_C_put 31 = .ok (.aload_n 0, 1) := by decide +kernel
theorem d_C_put_32 : decode b_C_put 32 = .ok (.getfield 17, 3) := by decide +kernel
theorem d_C_put_35 : decode b_C_put 35 = .ok (.iload_n 1, 1) := by decide +kernel
theorem d_C_put_36 : decode b_C_put 36 = .ok (.iconst (-1), 1) := by decide +kernel
theorem d_C_put_37 : decode b_C_put 37 = .ok (.iastore, 1) := by decide +kernel
theorem d_C_put_38 : decode b_C_put 38 = .ok (.iload_n 3, 1) := by decide +kernel
theorem d_C_put_39 : decode b_C_put 39 = .ok (.ireturn, 1) := by decide +kernel
theorem d_C_put_40 : decode b_C_put 40 = .ok (.aload_n 0, 1) := by decide +kernel
theorem d_C_put_41 : decode b_C_put 41 = .ok (.iload_n 2, 1) := by decide +kernel
theorem d_C_put_42 : decode b_C_put 42 = .ok (.invokevirtual 40, 3) := by decide +kernel
theorem d_C_put_45 : decode b_C_put 45 = .ok (.ifCond .eq 12, 3) := by decide +kernel
theorem d_C_put_48 : decode b_C_put 48 = .ok (.aload_n 0, 1) := by decide +kernel
theorem d_C_put_49 : decode b_C_put 49 = .ok (.iload_n 2, 1) := by decide +kernel
theorem d_C_put_50 : decode b_C_put 50 = .ok (.invokevirtual 44, 3) := by decide +kernel
theorem d_C_put_53 : decode b_C_put 53 = .ok (.iconst 4, 1) := by decide +kernel
theorem d_C_put_54 : decode b_C_put 54 = .ok (.if_icmp .ne 6, 3) := by decide +kernel
theorem d_C_put_57 : decode b_C_put 57 = .ok (.bipush (-2), 2) := by decide +kernel
theorem d_C_put_59 : decode b_C_put 59 = .ok (.ireturn, 1) := by decide +kernel
theorem d_C_put_60 : decode b_C_put 60 = .ok (.iload_n 2, 1) := by decide +kernel
theorem d_C_put_61 : decode b_C_put 61 = .ok (.iload_n 1, 1) := by decide +kernel
theorem d_C_put_62 : decode b_C_put 62 = .ok (.if_icmp .eq 12, 3) := by decide +kernel
theorem d_C_put_65 : decode b_C_put 65 = .ok (.aload_n 0, 1) := by decide +kernel
theorem d_C_put_66 : decode b_C_put 66 = .ok (.iload_n 2, 1) := by decide +kernel
theorem d_C_put_67 : decode b_C_put 67 = .ok (.iload_n 1, 1) := by decide +kernel
theorem d_C_put_68 : decode b_C_put 68 = .ok (.invokevirtual 48, 3) := by decide +kernel
theorem d_C_put_71 : decode b_C_put 71 = .ok (.ifCond .eq 6, 3) := by decide +kernel
theorem d_C_put_74 : decode b_C_put 74 = .ok (.bipush (-4), 2) := by decide +kernel
theorem d_C_put_76 : decode b_C_put 76 = .ok (.ireturn, 1) := by decide +kernel
theorem d_C_put_77 : decode b_C_put 77 = .ok (.iload_n 2, 1) := by decide +kernel
theorem d_C_put_78 : decode b_C_put 78 = .ok (.iload_n 3, 1) := by decide +kernel
theorem d_C_put_79 : decode b_C_put 79 = .ok (.if_icmp .eq 14, 3) := by decide +kernel
theorem d_C_put_82 : decode b_C_put 82 = .ok (.aload_n 0, 1) := by decide +kernel
theorem d_C_put_83 : decode b_C_put 83 = .ok (.iload_n 2, 1) := by decide +kernel
theorem d_C_put_84 : decode b_C_put 84 = .ok (.invokevirtual 52, 3) := by decide +kernel
theorem d_C_put_87 : decode b_C_put 87 = .ok (.ifCond .eq 6, 3) := by decide +kernel
theorem d_C_put_90 : decode b_C_put 90 = .ok (.bipush (-7), 2) := by decide +kernel
theorem d_C_put_92 : decode b_C_put 92 = .ok (.ireturn, 1) := by decide +kernel
theorem d_C_put_93 : decode b_C_put 93 = .ok (.aload_n 0, 1) := by decide +kernel
theorem d_C_put_94 : decode b_C_put 94 = .ok (.getfield 17, 3) := by decide +kernel
theorem d_C_put_97 : decode b_C_put 97 = .ok (.iload_n 1, 1) := by decide +kernel
theorem d_C_put_98 : decode b_C_put 98 = .ok (.iload_n 2, 1) := by decide +kernel
theorem d_C_put_99 : decode b_C_put 99 = .ok (.iastore, 1) := by decide +kernel
theorem d_C_put_100 : decode b_C_put 100 = .ok (.iload_n 3, 1) := by decide +kernel
theorem d_C_put_101 : decode b_C_put 101 = .ok (.ireturn, 1) := by decide +kernel
theorem d_C_set_0 : decode b_C_set 0 = .ok (.aload_n 0, 1) := by decide +kernel
theorem d_C_set_1 : decode b_C_set 1 = .ok (.iload_n 1, 1) := by decide +kernel
theorem d_C_set_2 : decode b_C_set 2 = .ok (.invokevirtual 40, 3) := by decide +kernel
theorem d_C_set_5 : decode b_C_set 5 = .ok (.ifCond .ne 6, 3) := by decide +kernel
theorem d_C_set_8 : decode b_C_set 8 = .ok (.bipush (-2), 2) := by decide +kernel
theorem d_C_set_10 : decode b_C_set 10 = .ok (.ireturn, 1) := by decide +kernel
theorem d_C_set_11 : decode b_C_set 11 = .ok (.iload_n 2, 1) := by decide +kernel
theorem d_C_set_12 : decode b_C_set 12 = .ok (.ifCond .eq 8, 3) := by decide +kernel
theorem d_C_set_15 : decode b_C_set 15 = .ok (.iload_n 2, 1) := by decide +kernel
theorem d_C_set_16 : decode b_C_set 16 = .ok (.iconst 1, 1) := by decide +kernel
theorem d_C_set_17 : decode b_C_set 17 = .ok (.if_icmp .ne 7, 3) := by decide +kernel
theorem d_C_set_20 : decode b_C_set 20 = .ok (.iconst 1, 1) := by decide +kernel
theorem d_C_set_21 : decode b_C_set 21 = .ok (.goto 4, 3) := by decide +kernel
theorem d_C_set_24 : decode b_C_set 24 = .ok (.iconst 0, 1) := by decide +kernel
theorem d_C_set_25 : decode b_C_set 25 = .ok (.istore 4, 2) := by decide +kernel
theorem d_C_set_27 : decode b_C_set 27 = .ok (.iload 4, 2) := by decide +kernel
theorem d_C_set_29 : decode b_C_set 29 = .ok (.ifCond .eq 15, 3) := by decide +kernel
theorem d_C_set_32 : decode b_C_set 32 = .ok (.aload_n 0, 1) := by decide +kernel
theorem d_C_set_33 : decode b_C_set 33 = .ok (.iload_n 1, 1) := by decide +kernel
theorem d_C_set_34 : decode b_C_set 34 = .ok (.invokevirtual 44, 3) := by decide +kernel
theorem d_C_set_37 : decode b_C_set 37 = .ok (.iconst 1, 1) := by decide +kernel
theorem d_C_set_38 : decode b_C_set 38 = .ok (.if_icmp .eq 6, 3) := by decide +kernel
theorem d_C_set_41 : decode b_C_set 41 = .ok (.bipush (-2), 2) := by decide +kernel
theorem d_C_set_43 : decode b_C_set 43 = .ok (.ireturn, 1) := by decide +kernel
theorem d_C_set_44 : decode b_C_set 44 = .ok (.iload_n 2, 1) := by decide +kernel
theorem d_C_set_45 : decode b_C_set 45 = .ok (.ifCond .lt 27, 3) := by decide +kernel
theorem d_C_set_48 : decode b_C_set 48 = .ok (.iload_n 2, 1) := by decide +kernel
theorem d_C_set_49 : decode b_C_set 49 = .ok (.iconst 4, 1) := by decide +kernel
theorem d_C_set_50 : decode b_C_set 50 = .ok (.if_icmp .ge 22, 3) := by decide +kernel
theorem d_C_set_53 : decode b_C_set 53 = .ok (.iload_n 3, 1) := by decide +kernel
theorem d_C_set_54 : decode b_C_set 54 = .ok (.ifCond .lt 18, 3) := by decide +kernel
theorem d_C_set_57 : decode b_C_set 57 = .ok (.iload_n 3, 1) := by decide +kernel
theorem d_C_set_58 : decode b_C_set 58 = .ok (.iload 4, 2) := by decide +kernel
theorem d_C_set_60 : decode b_C_set 60 = .ok (.ifCond .eq 7, 3) := by decide +kernel
theorem d_C_set_63 : decode b_C_set 63 = .ok (.iconst 1, 1) := by decide +kernel
theorem d_C_set_64 : decode b_C_set 64 = .ok (.goto 5, 3) := by decide +kernel
theorem d_C_set_67 : decode b_C_set 67 = .ok (.bipush 9, 2) := by decide +kernel
theorem d_C_set_69 : decode b_C_set 69 = .ok (.if_icmp .le 6, 3) := by decide +kernel
theorem d_C_set_72 : decode b_C_set 72 = .ok (.bipush (-3), 2) := by decide +kernel
theorem d_C_set_74 : decode b_C_set 74 = .ok (.ireturn, 1) := by decide +kernel
theorem d_C_set_75 : decode b_C_set 75 = .ok (.aload_n 0, 1) := by decide +kernel
theorem d_C_set_76 : decode b_C_set 76 = .ok (.getfield 22, 3) := by decide +kernel
theorem d_C_set_79 : decode b_C_set 79 = .ok (.iload_n 2, 1) := by decide +kernel
theorem d_C_set_80 : decode b_C_set 80 = .ok (.aaload, 1) := by decide +kernel
theorem d_C_set_81 : decode b_C_set 81 = .ok (.iload_n 1, 1) := by decide +kernel
theorem d_C_set_82 : decode b_C_set 82 = .ok (.iaload, 1) := by decide +kernel
theorem d_C_set_83 : decode b_C_set 83 = .ok (.istore 5, 2) := by decide +kernel
theorem d_C_set_85 : decode b_C_set 85 = .ok (.aload_n 0, 1) := by decide +kernel
theorem d_C_set_86 : decode b_C_set 86 = .ok (.getfield 22, 3) := by decide +kernel
theorem d_C_set_89 : decode b_C_set 89 = .ok (.iload_n 2, 1) := by decide +kernel
theorem d_C_set_90 : decode b_C_set 90 = .ok (.aaload, 1) := by decide +kernel
theorem d_C_set_91 : decode b_C_set 91 = .ok (.iload_n 1, 1) := by decide +kernel
theorem d_C_set_92 : decode b_C_set 92 = .ok (.iload_n 3, 1) := by decide +kernel
theorem d_C_set_93 : decode b_C_set 93 = .ok (.iastore, 1) := by decide +kernel
theorem d_C_set_94 : decode b_C_set 94 = .ok (.iload 5, 2) := by decide +kernel
theorem d_C_set_96 : decode b_C_set 96 = .ok (.ireturn, 1) := by decide +kernel
theorem d_C_door_0 : decode b_C_door 0 = .ok (.aload_n 0, 1) := by decide +kernel
theorem d_C_door_1 : decode b_C_door 1 = .ok (.iload_n 1, 1) := by decide +kernel
theorem d_C_door_2 : decode b_C_door 2 = .ok (.invokevirtual 44, 3) := by decide +kernel
theorem d_C_door_5 : decode b_C_door 5 = .ok (.ifCond .ne 11, 3) := by decide +kernel
theorem d_C_door_8 : decode b_C_door 8 = .ok (.aload_n 0, 1) := by decide +kernel
theorem d_C_door_9 : decode b_C_door 9 = .ok (.iload_n 2, 1) := by decide +kernel
theorem d_C_door_10 : decode b_C_door 10 = .ok (.invokevirtual 44, 3) := by decide +kernel
theorem d_C_door_13 : decode b_C_door 13 = .ok (.ifCond .eq 6, 3) := by decide +kernel
theorem d_C_door_16 : decode b_C_door 16 = .ok (.bipush (-2), 2) := by decide +kernel
theorem d_C_door_18 : decode b_C_door 18 = .ok (.ireturn, 1) := by decide +kernel
theorem d_C_door_19 : decode b_C_door 19 = .ok (.iload_n 1, 1) := by decide +kernel
theorem d_C_door_20 : decode b_C_door 20 = .ok (.iload_n 2, 1) := by decide +kernel
theorem d_C_door_21 : decode b_C_door 21 = .ok (.if_icmp .ne 6, 3) := by decide +kernel
theorem d_C_door_24 : decode b_C_door 24 = .ok (.bipush (-3), 2) := by decide +kernel
theorem d_C_door_26 : decode b_C_door 26 = .ok (.ireturn, 1) := by decide +kernel
theorem d_C_door_27 : decode b_C_door 27 = .ok (.aload_n 0, 1) := by decide +kernel
theorem d_C_door_28 : decode b_C_door 28 = .ok (.getfield 25, 3) := by decide +kernel
theorem d_C_door_31 : decode b_C_door 31 = .ok (.bipush 10, 2) := by decide +kernel
theorem d_C_door_33 : decode b_C_door 33 = .ok (.if_icmp .lt 6, 3) := by decide +kernel
theorem d_C_door_36 : decode b_C_door 36 = .ok (.bipush (-7), 2) := by decide +kernel
theorem d_C_door_38 : decode b_C_door 38 = .ok (.ireturn, 1) := by decide +kernel
theorem d_C_door_39 : decode b_C_door 39 = .ok (.aload_n 0, 1) := by decide +kernel
theorem d_C_door_40 : decode b_C_door 40 = .ok (.getfield 25, 3) := by decide +kernel
theorem d_C_door_43 : decode b_C_door 43 = .ok (.istore_n 3, 1) := by decide +kernel
theorem d_C_door_44 : decode b_C_door 44 = .ok (.aload_n 0, 1) := by decide +kernel
theorem d_C_door_45 : decode b_C_door 45 = .ok (.dup, 1) := by decide +kernel
theorem d_C_door_46 : decode b_C_door 46 = .ok (.getfield 25, 3) := by decide +kernel
theorem d_C_door_49 : decode b_C_door 49 = .ok (.iconst 1, 1) := by decide +kernel
theorem d_C_door_50 : decode b_C_door 50 = .ok (.iadd, 1) := by decide +kernel
theorem d_C_door_51 : decode b_C_door 51 = .ok (.putfield 25, 3) := by decide +kernel
theorem d_C_door_54 : decode b_C_door 54 = .ok (.aload_n 0, 1) := by decide +kernel
theorem d_C_door_55 : decode b_C_door 55 = .ok (.getfield 28, 3) := by decide +kernel
theorem d_C_door_58 : decode b_C_door 58 = .ok (.iload_n 3, 1) := by decide +kernel
theorem d_C_door_59 : decode b_C_door 59 = .ok (.iload_n 1, 1) := by decide +kernel
theorem d_C_door_60 : decode b_C_door 60 = .ok (.iastore, 1) := by decide +kernel
theorem d_C_door_61 : decode b_C_door 61 = .ok (.aload_n 0, 1) := by decide +kernel
theorem d_C_door_62 : decode b_C_door 62 = .ok (.getfield 31, 3) := by decide +kernel
theorem d_C_door_65 : decode b_C_door 65 = .ok (.iload_n 3, 1) := by decide +kernel
theorem d_C_door_66 : decode b_C_door 66 = .ok (.iload_n 2, 1) := by decide +kernel
theorem d_C_door_67 : decode b_C_door 67 = .ok (.iastore, 1) := by decide +kernel
theorem d_C_door_68 : decode b_C_door 68 = .ok (.iconst 0, 1) := by decide +kernel
theorem d_C_door_69 : decode b_C_door 69 = .ok (.istore 4, 2) := by decide +kernel
theorem d_C_door_71 : decode b_C_door 71 = .ok (.iload 4, 2) := by decide +kernel
theorem d_C_door_73 : decode b_C_door 73 = .ok (.iconst 2, 1) := by decide +kernel
theorem d_C_door_74 : decode b_C_door 74 = .ok (.if_icmp .ge 19, 3) := by decide +kernel
theorem d_C_door_77 : decode b_C_door 77 = .ok (.aload_n 0, 1) := by decide +kernel
theorem d_C_door_78 : decode b_C_door 78 = .ok (.getfield 34, 3) := by decide +kernel
theorem d_C_door_81 : decode b_C_door 81 = .ok (.iload 4, 2) := by decide +kernel
theorem d_C_door_83 : decode b_C_door 83 = .ok (.aaload, 1) := by decide +kernel
theorem d_C_door_84 : decode b_C_door 84 = .ok (.iload_n 3, 1) := by decide +kernel
theorem d_C_door_85 : decode b_C_door 85 = .ok (.iconst 0, 1) := by decide +kernel
theorem d_C_door_86 : decode b_C_door 86 = .ok (.iastore, 1) := by decide +kernel
theorem d_C_door_87 : decode b_C_door 87 = .ok (.iinc 4 1, 3) := by decide +kernel
theorem d_C_door_90 : decode b_C_door 90 = .ok (.goto (-19), 3) := by decide +kernel
theorem d_C_door_93 : decode b_C_door 93 = .ok (.iload_n 3, 1) := by decide +kernel
theorem d_C_door_94 : decode b_C_door 94 = .ok (.ireturn, 1) := by decide +kernel
theorem d_C_turn_0 : decode b_C_turn 0 = .ok (.aload_n 0, 1) := by decide +kernel
theorem d_C_turn_1 : decode b_C_turn 1 = .ok (.iload_n 1, 1) := by decide +kernel
theorem d_C_turn_2 : decode b_C_turn 2 = .ok (.invokevirtual 55, 3) := by decide +kernel
theorem d_C_turn_5 : decode b_C_turn 5 = .ok (.ifCond .ne 6, 3) := by decide +kernel
theorem d_C_turn_8 : decode b_C_turn 8 = .ok (.bipush (-2), 2) := by decide +kernel
theorem d_C_turn_10 : decode b_C_turn 10 = .ok (.ireturn, 1) := by decide +kernel
theorem d_C_turn_11 : decode b_C_turn 11 = .ok (.iload_n 2, 1) := by decide +kernel
theorem d_C_turn_12 : decode b_C_turn 12 = .ok (.ifCond .lt 17, 3) := by decide +kernel
theorem d_C_turn_15 : decode b_C_turn 15 = .ok (.iload_n 2, 1) := by decide +kernel
theorem d_C_turn_16 : decode b_C_turn 16 = .ok (.iconst 2, 1) := by decide +kernel
theorem d_C_turn_17 : decode b_C_turn 17 = .ok (.if_icmp .ge 12, 3) := by decide +kernel
theorem d_C_turn_20 : decode b_C_turn 20 = .ok (.iload_n 3, 1) := by decide +kernel
theorem d_C_turn_21 : decode b_C_turn 21 = .ok (.ifCond .lt 8, 3) := by decide +kernel
theorem d_C_turn_24 : decode b_C_turn 24 = .ok (.iload_n 3, 1) := by decide +kernel
theorem d_C_turn_25 : decode b_C_turn 25 = .ok (.iconst 1, 1) := by decide +kernel
theorem d_C_turn_26 : decode b_C_turn 26 = .ok (.if_icmp .le 6, 3) := by decide +kernel
theorem d_C_turn_29 : decode b_C_turn 29 = .ok (.bipush (-3), 2) := by decide +kernel
theorem d_C_turn_31 : decode b_C_turn 31 = .ok (.ireturn, 1) := by decide +kernel
theorem d_C_turn_32 : decode b_C_turn 32 = .ok (.aload_n 0, 1) := by decide +kernel
theorem d_C_turn_33 : decode b_C_turn 33 = .ok (.getfield 34, 3) := by decide +kernel
theorem d_C_turn_36 : decode b_C_turn 36 = .ok (.iload_n 2, 1) := by decide +kernel
theorem d_C_turn_37 : decode b_C_turn 37 = .ok (.aaload, 1) := by decide +kernel
theorem d_C_turn_38 : decode b_C_turn 38 = .ok (.iload_n 1, 1) := by decide +kernel
theorem d_C_turn_39 : decode b_C_turn 39 = .ok (.iaload, 1) := by decide +kernel
theorem d_C_turn_40 : decode b_C_turn 40 = .ok (.istore 4, 2) := by decide +kernel
theorem d_C_turn_42 : decode b_C_turn 42 = .ok (.aload_n 0, 1) := by decide +kernel
theorem d_C_turn_43 : decode b_C_turn 43 = .ok (.getfield 34, 3) := by decide +kernel
theorem d_C_turn_46 : decode b_C_turn 46 = .ok (.iload_n 2, 1) := by decide +kernel
theorem d_C_turn_47 : decode b_C_turn 47 = .ok (.aaload, 1) := by decide +kernel
theorem d_C_turn_48 : decode b_C_turn 48 = .ok (.iload_n 1, 1) := by decide +kernel
theorem d_C_turn_49 : decode b_C_turn 49 = .ok (.iload_n 3, 1) := by decide +kernel
theorem d_C_turn_50 : decode b_C_turn 50 = .ok (.iastore, 1) := by decide +kernel
theorem d_C_turn_51 : decode b_C_turn 51 = .ok (.iload 4, 2) := by decide +kernel
theorem d_C_turn_53 : decode b_C_turn 53 = .ok (.ireturn, 1) := by decide +kernel
theorem d_C_take_0 : decode b_C_take 0 = .ok (.aload_n 0, 1) := by decide +kernel
theorem d_C_take_1 : decode b_C_take 1 = .ok (.iload_n 1, 1) := by decide +kernel
theorem d_C_take_2 : decode b_C_take 2 = .ok (.invokevirtual 58, 3) := by decide +kernel
theorem d_C_take_5 : decode b_C_take 5 = .ok (.ifCond .eq 27, 3) := by decide +kernel
theorem d_C_take_8 : decode b_C_take 8 = .ok (.aload_n 0, 1) := by decide +kernel
theorem d_C_take_9 : decode b_C_take 9 = .ok (.iload_n 2, 1) := by decide +kernel
theorem d_C_take_10 : decode b_C_take 10 = .ok (.invokevirtual 40, 3) := by decide +kernel
theorem d_C_take_13 : decode b_C_take 13 = .ok (.ifCond .eq 19, 3) := by decide +kernel
theorem d_C_take_16 : decode b_C_take 16 = .ok (.aload_n 0, 1) := by decide +kernel
theorem d_C_take_17 : decode b_C_take 17 = .ok (.iload_n 2, 1) := by decide +kernel
theorem d_C_take_18 : decode b_C_take 18 = .ok (.invokevirtual 44, 3) := by decide +kernel
theorem d_C_take_21 : decode b_C_take 21 = .ok (.ifCond .eq 11, 3) := by decide +kernel
theorem d_C_take_24 : decode b_C_take 24 = .ok (.aload_n 0, 1) := by decide +kernel
theorem d_C_take_25 : decode b_C_take 25 = .ok (.iload_n 2, 1) := by decide +kernel
theorem d_C_take_26 : decode b_C_take 26 = .ok (.invokevirtual 58, 3) := by decide +kernel
theorem d_C_take_29 : decode b_C_take 29 = .ok (.ifCond .eq 6, 3) := by decide +kernel
theorem d_C_take_32 : decode b_C_take 32 = .ok (.bipush (-2), 2) := by decide +kernel
theorem d_C_take_34 : decode b_C_take 34 = .ok (.ireturn, 1) := by decide +kernel
theorem d_C_take_35 : decode b_C_take 35 = .ok (.aload_n 0, 1) := by decide +kernel
theorem d_C_take_36 : decode b_C_take 36 = .ok (.iload_n 1, 1) := by decide +kernel
theorem d_C_take_37 : decode b_C_take 37 = .ok (.iload_n 2, 1) := by decide +kernel
theorem d_C_take_38 : decode b_C_take 38 = .ok (.invokevirtual 48, 3) := by decide +kernel
theorem d_C_take_41 : decode b_C_take 41 = .ok (.ifCond .eq 6, 3) := by decide +kernel
theorem d_C_take_44 : decode b_C_take 44 = .ok (.bipush (-4), 2) := by decide +kernel
theorem d_C_take_46 : decode b_C_take 46 = .ok (.ireturn, 1) := by decide +kernel
theorem d_C_take_47 : decode b_C_take 47 = .ok (.aload_n 0, 1) := by decide +kernel
theorem d_C_take_48 : decode b_C_take 48 = .ok (.iload_n 1, 1) := by decide +kernel
theorem d_C_take_49 : decode b_C_take 49 = .ok (.iload_n 2, 1) := by decide +kernel
theorem d_C_take_50 : decode b_C_take 50 = .ok (.invokevirtual 61, 3) := by decide +kernel
theorem d_C_take_53 : decode b_C_take 53 = .ok (.istore_n 3, 1) := by decide +kernel
theorem d_C_take_54 : decode b_C_take 54 = .ok (.iload_n 3, 1) := by decide +kernel
theorem d_C_take_55 : decode b_C_take 55 = .ok (.bipush (-5), 2) := by decide +kernel
theorem d_C_take_57 : decode b_C_take 57 = .ok (.if_icmp .ne 6, 3) := by decide +kernel
theorem d_C_take_60 : decode b_C_take 60 = .ok (.bipush (-5), 2) := by decide +kernel
theorem d_C_take_62 : decode b_C_take 62 = .ok (.ireturn, 1) := by decide +kernel
theorem d_C_take_63 : decode b_C_take 63 = .ok (.iload_n 3, 1) := by decide +kernel
theorem d_C_take_64 : decode b_C_take 64 = .ok (.iconst (-1), 1) := by decide +kernel
theorem d_C_take_65 : decode b_C_take 65 = .ok (.if_icmp .eq 6, 3) := by decide +kernel
theorem d_C_take_68 : decode b_C_take 68 = .ok (.bipush (-6), 2) := by decide +kernel
theorem d_C_take_70 : decode b_C_take 70 = .ok (.ireturn, 1) := by decide +kernel
theorem d_C_take_71 : decode b_C_take 71 = .ok (.aload_n 0, 1) := by decide +kernel
theorem d_C_take_72 : decode b_C_take 72 = .ok (.getfield 17, 3) := by decide +kernel
theorem d_C_take_75 : decode b_C_take 75 = .ok (.iload_n 2, 1) := by decide +kernel
theorem d_C_take_76 : decode b_C_take 76 = .ok (.iaload, 1) := by decide +kernel
theorem d_C_take_77 : decode b_C_take 77 = .ok (.iload_n 1, 1) := by decide +kernel
theorem d_C_take_78 : decode b_C_take 78 = .ok (.if_icmp .ne 5, 3) := by decide +kernel
theorem d_C_take_81 : decode b_C_take 81 = .ok (.iconst 0, 1) := by decide +kernel
theorem d_C_take_82 : decode b_C_take 82 = .ok (.ireturn, 1) := by decide +kernel
theorem d_C_take_83 : decode b_C_take 83 = .ok (.aload_n 0, 1) := by decide +kernel
theorem d_C_take_84 : decode b_C_take 84 = .ok (.iload_n 1, 1) := by decide +kernel
theorem d_C_take_85 : decode b_C_take 85 = .ok (.invokevirtual 52, 3) := by decide +kernel
theorem d_C_take_88 : decode b_C_take 88 = .ok (.ifCond .eq 6, 3) := by decide +kernel
theorem d_C_take_91 : decode b_C_take 91 = .ok (.bipush (-7), 2) := by decide +kernel
theorem d_C_take_93 : decode b_C_take 93 = .ok (.ireturn, 1) := by decide +kernel
theorem d_C_take_94 : decode b_C_take 94 = .ok (.aload_n 0, 1) := by decide +kernel
theorem d_C_take_95 : decode b_C_take 95 = .ok (.getfield 17, 3) := by decide +kernel
theorem d_C_take_98 : decode b_C_take 98 = .ok (.iload_n 2, 1) := by decide +kernel
theorem d_C_take_99 : decode b_C_take 99 = .ok (.iload_n 1, 1) := by decide +kernel
theorem d_C_take_100 : decode b_C_take 100 = .ok (.iastore, 1) := by decide +kernel
theorem d_C_take_101 : decode b_C_take 101 = .ok (.iconst 1, 1) := by decide +kernel
theorem d_C_take_102 : decode b_C_take 102 = .ok (.ireturn, 1) := by decide +kernel
theorem d_C_give_0 : decode b_C_give 0 = .ok (.aload_n 0, 1) := by decide +kernel
theorem d_C_give_1 : decode b_C_give 1 = .ok (.iload_n 1, 1) := by decide +kernel
theorem d_C_give_2 : decode b_C_give 2 = .ok (.iload_n 2, 1) := by decide +kernel
theorem d_C_give_3 : decode b_C_give 3 = .ok (.invokevirtual 65, 3) := by decide +kernel
theorem d_C_give_6 : decode b_C_give 6 = .ok (.ifCond .eq 16, 3) := by decide +kernel
theorem d_C_give_9 : decode b_C_give 9 = .ok (.iload_n 3, 1) := by decide +kernel
theorem d_C_give_10 : decode b_C_give 10 = .ok (.iload_n 1, 1) := by decide +kernel
theorem d_C_give_11 : decode b_C_give 11 = .ok (.if_icmp .eq 11, 3) := by decide +kernel
theorem d_C_give_14 : decode b_C_give 14 = .ok (.aload_n 0, 1) := by decide +kernel
theorem d_C_give_15 : decode b_C_give 15 = .ok (.iload_n 3, 1) := by decide +kernel
theorem d_C_give_16 : decode b_C_give 16 = .ok (.invokevirtual 68, 3) := by decide +kernel
theorem d_C_give_19 : decode b_C_give 19 = .ok (.ifCond .ne 6, 3) := by decide +kernel
theorem d_C_give_22 : decode b_C_give 22 = .ok (.bipush (-2), 2) := by decide +kernel
theorem d_C_give_24 : decode b_C_give 24 = .ok (.ireturn, 1) := by decide +kernel
theorem d_C_give_25 : decode b_C_give 25 = .ok (.iload_n 3, 1) := by decide +kernel
theorem d_C_give_26 : decode b_C_give 26 = .ok (.iload_n 2, 1) := by decide +kernel
theorem d_C_give_27 : decode b_C_give 27 = .ok (.if_icmp .eq 12, 3) := by decide +kernel
theorem d_C_give_30 : decode b_C_give 30 = .ok (.aload_n 0, 1) := by decide +kernel
theorem d_C_give_31 : decode b_C_give 31 = .ok (.iload_n 3, 1) := by decide +kernel
theorem d_C_give_32 : decode b_C_give 32 = .ok (.iload_n 2, 1) := by decide +kernel
theorem d_C_give_33 : decode b_C_give 33 = .ok (.invokevirtual 48, 3) := by decide +kernel
theorem d_C_give_36 : decode b_C_give 36 = .ok (.ifCond .eq 6, 3) := by decide +kernel
theorem d_C_give_39 : decode b_C_give 39 = .ok (.bipush (-4), 2) := by decide +kernel
theorem d_C_give_41 : decode b_C_give 41 = .ok (.ireturn, 1) := by decide +kernel
theorem d_C_give_42 : decode b_C_give 42 = .ok (.aload_n 0, 1) := by decide +kernel
theorem d_C_give_43 : decode b_C_give 43 = .ok (.iload_n 1, 1) := by decide +kernel
theorem d_C_give_44 : decode b_C_give 44 = .ok (.iload_n 3, 1) := by decide +kernel
theorem d_C_give_45 : decode b_C_give 45 = .ok (.invokevirtual 61, 3) := by decide +kernel
theorem d_C_give_48 : decode b_C_give 48 = .ok (.istore 4, 2) := by decide +kernel
theorem d_C_give_50 : decode b_C_give 50 = .ok (.iload 4, 2) := by decide +kernel
theorem d_C_give_52 : decode b_C_give 52 = .ok (.bipush (-5), 2) := by decide +kernel
theorem d_C_give_54 : decode b_C_give 54 = .ok (.if_icmp .ne 6, 3) := by decide +kernel
theorem d_C_give_57 : decode b_C_give 57 = .ok (.bipush (-5), 2) := by decide +kernel
theorem d_C_give_59 : decode b_C_give 59 = .ok (.ireturn, 1) := by decide +kernel
theorem d_C_give_60 : decode b_C_give 60 = .ok (.iload 4, 2) := by decide +kernel
theorem d_C_give_62 : decode b_C_give 62 = .ok (.iconst (-1), 1) := by decide +kernel
theorem d_C_give_63 : decode b_C_give 63 = .ok (.if_icmp .ne 11, 3) := by decide +kernel
theorem d_C_give_66 : decode b_C_give 66 = .ok (.aload_n 0, 1) := by decide +kernel
theorem d_C_give_67 : decode b_C_give 67 = .ok (.iload_n 3, 1) := by decide +kernel
theorem d_C_give_68 : decode b_C_give 68 = .ok (.invokevirtual 71, 3) := by decide +kernel
theorem d_C_give_71 : decode b_C_give 71 = .ok (.ifCond .eq 6, 3) := by decide +kernel
theorem d_C_give_74 : decode b_C_give 74 = .ok (.bipush (-6), 2) := by decide +kernel
theorem d_C_give_76 : decode b_C_give 76 = .ok (.ireturn, 1) := by decide +kernel
theorem d_C_give_77 : decode b_C_give 77 = .ok (.aload_n 0, 1) := by decide +kernel
theorem d_C_give_78 : decode b_C_give 78 = .ok (.iload_n 3, 1) := by decide +kernel
theorem d_C_give_79 : decode b_C_give 79 = .ok (.invokevirtual 52, 3) := by decide +kernel
theorem d_C_give_82 : decode b_C_give 82 = .ok (.ifCond .eq 6, 3) := by decide +kernel
theorem d_C_give_85 : decode b_C_give 85 = .ok (.bipush (-7), 2) := by decide +kernel
theorem d_C_give_87 : decode b_C_give 87 = .ok (.ireturn, 1) := by decide +kernel
theorem d_C_give_88 : decode b_C_give 88 = .ok (.aload_n 0, 1) := by decide +kernel
theorem d_C_give_89 : decode b_C_give 89 = .ok (.getfield 17, 3) := by decide +kernel
theorem d_C_give_92 : decode b_C_give 92 = .ok (.iload_n 2, 1) := by decide +kernel
theorem d_C_give_93 : decode b_C_give 93 = .ok (.iload_n 3, 1) := by decide +kernel
theorem d_C_give_94 : decode b_C_give 94 = .ok (.iastore, 1) := by decide +kernel
theorem d_C_give_95 : decode b_C_give 95 = .ok (.iconst 1, 1) := by decide +kernel
theorem d_C_give_96 : decode b_C_give 96 = .ok (.ireturn, 1) := by decide +kernel
theorem d_C_drop_0 : decode b_C_drop 0 = .ok (.aload_n 0, 1) := by decide +kernel
theorem d_C_drop_1 : decode b_C_drop 1 = .ok (.iload_n 1, 1) := by decide +kernel
theorem d_C_drop_2 : decode b_C_drop 2 = .ok (.iload_n 2, 1) := by decide +kernel
theorem d_C_drop_3 : decode b_C_drop 3 = .ok (.invokevirtual 65, 3) := by decide +kernel
theorem d_C_drop_6 : decode b_C_drop 6 = .ok (.ifCond .ne 6, 3) := by decide +kernel
theorem d_C_drop_9 : decode b_C_drop 9 = .ok (.bipush (-2), 2) := by decide +kernel
theorem d_C_drop_11 : decode b_C_drop 11 = .ok (.ireturn, 1) := by decide +kernel
theorem d_C_drop_12 : decode b_C_drop 12 = .ok (.aload_n 0, 1) := by decide +kernel
theorem d_C_drop_13 : decode b_C_drop 13 = .ok (.iload_n 1, 1) := by decide +kernel
theorem d_C_drop_14 : decode b_C_drop 14 = .ok (.invokevirtual 74, 3) := by decide +kernel
theorem d_C_drop_17 : decode b_C_drop 17 = .ok (.istore_n 3, 1) := by decide +kernel
theorem d_C_drop_18 : decode b_C_drop 18 = .ok (.iload_n 3, 1) := by decide +kernel
theorem d_C_drop_19 : decode b_C_drop 19 = .ok (.iconst (-1), 1) := by decide +kernel
theorem d_C_drop_20 : decode b_C_drop 20 = .ok (.if_icmp .ne 6, 3) := by decide +kernel
theorem d_C_drop_23 : decode b_C_drop 23 = .ok (.bipush (-5), 2) := by decide +kernel
theorem d_C_drop_25 : decode b_C_drop 25 = .ok (.ireturn, 1) := by decide +kernel
theorem d_C_drop_26 : decode b_C_drop 26 = .ok (.aload_n 0, 1) := by decide +kernel
theorem d_C_drop_27 : decode b_C_drop 27 = .ok (.iload_n 3, 1) := by decide +kernel
theorem d_C_drop_28 : decode b_C_drop 28 = .ok (.invokevirtual 52, 3) := by decide +kernel
theorem d_C_drop_31 : decode b_C_drop 31 = .ok (.ifCond .eq 6, 3) := by decide +kernel
theorem d_C_drop_34 : decode b_C_drop 34 = .ok (.bipush (-7), 2) := by decide +kernel
theorem d_C_drop_36 : decode b_C_drop 36 = .ok (.ireturn, 1) := by decide +kernel
theorem d_C_drop_37 : decode b_C_drop 37 = .ok (.aload_n 0, 1) := by decide +kernel
theorem d_C_drop_38 : decode b_C_drop 38 = .ok (.getfield 17, 3) := by decide +kernel
theorem d_C_drop_41 : decode b_C_drop 41 = .ok (.iload_n 2, 1) := by decide +kernel
theorem d_C_drop_42 : decode b_C_drop 42 = .ok (.iload_n 3, 1) := by decide +kernel
theorem d_C_drop_43 : decode b_C_drop 43 = .ok (.iastore, 1) := by decide +kernel
theorem d_C_drop_44 : decode b_C_drop 44 = .ok (.iconst 1, 1) := by decide +kernel
theorem d_C_drop_45 : decode b_C_drop 45 = .ok (.ireturn, 1) := by decide +kernel
theorem d_C_go_0 : decode b_C_go 0 = .ok (.aload_n 0, 1) := by decide +kernel
theorem d_C_go_1 : decode b_C_go 1 = .ok (.iload_n 1, 1) := by decide +kernel
theorem d_C_go_2 : decode b_C_go 2 = .ok (.invokevirtual 58, 3) := by decide +kernel
theorem d_C_go_5 : decode b_C_go 5 = .ok (.ifCond .eq 11, 3) := by decide +kernel
theorem d_C_go_8 : decode b_C_go 8 = .ok (.aload_n 0, 1) := by decide +kernel
theorem d_C_go_9 : decode b_C_go 9 = .ok (.iload_n 2, 1) := by decide +kernel
theorem d_C_go_10 : decode b_C_go 10 = .ok (.invokevirtual 55, 3) := by decide +kernel
theorem d_C_go_13 : decode b_C_go 13 = .ok (.ifCond .ne 6, 3) := by decide +kernel
theorem d_C_go_16 : decode b_C_go 16 = .ok (.bipush (-2), 2) := by decide +kernel
theorem d_C_go_18 : decode b_C_go 18 = .ok (.ireturn, 1) := by decide +kernel
theorem d_C_go_19 : decode b_C_go 19 = .ok (.aload_n 0, 1) := by decide +kernel
theorem d_C_go_20 : decode b_C_go 20 = .ok (.getfield 17, 3) := by decide +kernel
theorem d_C_go_23 : decode b_C_go 23 = .ok (.iload_n 1, 1) := by decide +kernel
theorem d_C_go_24 : decode b_C_go 24 = .ok (.iaload, 1) := by decide +kernel
theorem d_C_go_25 : decode b_C_go 25 = .ok (.istore_n 3, 1) := by decide +kernel
theorem d_C_go_26 : decode b_C_go 26 = .ok (.iload_n 3, 1) := by decide +kernel
theorem d_C_go_27 : decode b_C_go 27 = .ok (.aload_n 0, 1) := by decide +kernel
theorem d_C_go_28 : decode b_C_go 28 = .ok (.getfield 28, 3) := by decide +kernel
theorem d_C_go_31 : decode b_C_go 31 = .ok (.iload_n 2, 1) := by decide +kernel
theorem d_C_go_32 : decode b_C_go 32 = .ok (.iaload, 1) := by decide +kernel
theorem d_C_go_33 : decode b_C_go 33 = .ok (.if_icmp .eq 16, 3) := by decide +kernel
theorem d_C_go_36 : decode b_C_go 36 = .ok (.iload_n 3, 1) := by decide +kernel
theorem d_C_go_37 : decode b_C_go 37 = .ok (.aload_n 0, 1) := by decide +kernel
theorem d_C_go_38 : decode b_C_go 38 = .ok (.getfield 31, 3) := by decide +kernel
theorem d_C_go_41 : decode b_C_go 41 = .ok (.iload_n 2, 1) := by decide +kernel
theorem d_C_go_42 : decode b_C_go 42 = .ok (.iaload, 1) := by decide +kernel
theorem d_C_go_43 : decode b_C_go 43 = .ok (.if_icmp .eq 6, 3) := by decide +kernel
theorem d_C_go_46 : decode b_C_go 46 = .ok (.bipush (-5), 2) := by decide +kernel
theorem d_C_go_48 : decode b_C_go 48 = .ok (.ireturn, 1) := by decide +kernel
theorem d_C_go_49 : decode b_C_go 49 = .ok (.aload_n 0, 1) := by decide +kernel
theorem d_C_go_50 : decode b_C_go 50 = .ok (.getfield 34, 3) := by decide +kernel
theorem d_C_go_53 : decode b_C_go 53 = .ok (.iconst 0, 1) := by decide +kernel
theorem d_C_go_54 : decode b_C_go 54 = .ok (.aaload, 1) := by decide +kernel
theorem d_C_go_55 : decode b_C_go 55 = .ok (.iload_n 2, 1) := by decide +kernel
theorem d_C_go_56 : decode b_C_go 56 = .ok (.iaload, 1) := by decide +kernel
theorem d_C_go_57 : decode b_C_go 57 = .ok (.ifCond .ne 6, 3) := by decide +kernel
theorem d_C_go_60 : decode b_C_go 60 = .ok (.bipush (-6), 2) := by decide +kernel
theorem d_C_go_62 : decode b_C_go 62 = .ok (.ireturn, 1) := by decide +kernel
theorem d_C_go_63 : decode b_C_go 63 = .ok (.iload_n 3, 1) := by decide +kernel
theorem d_C_go_64 : decode b_C_go 64 = .ok (.aload_n 0, 1) := by decide +kernel
theorem d_C_go_65 : decode b_C_go 65 = .ok (.getfield 28, 3) := by decide +kernel
theorem d_C_go_68 : decode b_C_go 68 = .ok (.iload_n 2, 1) := by decide +kernel
theorem d_C_go_69 : decode b_C_go 69 = .ok (.iaload, 1) := by decide +kernel
theorem d_C_go_70 : decode b_C_go 70 = .ok (.if_icmp .ne 12, 3) := by decide +kernel
theorem d_C_go_73 : decode b_C_go 73 = .ok (.aload_n 0, 1) := by decide +kernel
theorem d_C_go_74 : decode b_C_go 74 = .ok (.getfield 31, 3) := by decide +kernel
theorem d_C_go_77 : decode b_C_go 77 = .ok (.iload_n 2, 1) := by decide +kernel
theorem d_C_go_78 : decode b_C_go 78 = .ok (.iaload, 1) := by decide +kernel
theorem d_C_go_79 : decode b_C_go 79 = .ok (.goto 9, 3) := by decide +kernel
theorem d_C_go_82 : decode b_C_go 82 = .ok (.aload_n 0, 1) := by decide +kernel
theorem d_C_go_83 : decode b_C_go 83 = .ok (.getfield 28, 3) := by decide +kernel
theorem d_C_go_86 : decode b_C_go 86 = .ok (.iload_n 2, 1) := by decide +kernel
theorem d_C_go_87 : decode b_C_go 87 = .ok (.iaload, 1) := by decide +kernel
theorem d_C_go_88 : decode b_C_go 88 = .ok (.istore 4, 2) := by decide +kernel
theorem d_C_go_90 : decode b_C_go 90 = .ok (.aload_n 0, 1) := by decide +kernel
theorem d_C_go_91 : decode b_C_go 91 = .ok (.getfield 17, 3) := by decide +kernel
theorem d_C_go_94 : decode b_C_go 94 = .ok (.iload_n 1, 1) := by decide +kernel
theorem d_C_go_95 : decode b_C_go 95 = .ok (.iload 4, 2) := by decide +kernel
theorem d_C_go_97 : decode b_C_go 97 = .ok (.iastore, 1) := by decide +kernel
theorem d_C_go_98 : decode b_C_go 98 = .ok (.iload 4, 2) := by decide +kernel
theorem d_C_go_100 : decode b_C_go 100 = .ok (.ireturn, 1) := by decide +kernel
theorem d_C_count_0 : decode b_C_count 0 = .ok (.iload_n 1, 1) := by decide +kernel
theorem d_C_count_1 : decode b_C_count 1 = .ok (.lookupswitch 37 #[(0, 27), (1, 32)], 27) := by decide +kernel
theorem d_C_count_28 : decode b_C_count 28 = .ok (.aload_n 0, 1) := by decide +kernel
theorem d_C_count_29 : decode b_C_count 29 = .ok (.getfield 7, 3) := by decide +kernel
theorem d_C_count_32 : decode b_C_count 32 = .ok (.ireturn, 1) := by decide +kernel
theorem d_C_count_33 : decode b_C_count 33 = .ok (.aload_n 0, 1) := by decide +kernel
theorem d_C_count_34 : decode b_C_count 34 = .ok (.getfield 25, 3) := by decide +kernel
theorem d_C_count_37 : decode b_C_count 37 = .ok (.ireturn, 1) := by decide +kernel
theorem d_C_count_38 : decode b_C_count 38 = .ok (.bipush (-3), 2) := by decide +kernel
theorem d_C_count_40 : decode b_C_count 40 = .ok (.ireturn, 1) := by decide +kernel
theorem d_C_told_0 : decode b_C_told 0 = .ok (.aload_n 0, 1) := by decide +kernel
theorem d_C_told_1 : decode b_C_told 1 = .ok (.iload_n 1, 1) := by decide +kernel
theorem d_C_told_2 : decode b_C_told 2 = .ok (.invokevirtual 40, 3) := by decide +kernel
theorem d_C_told_5 : decode b_C_told 5 = .ok (.ifCond .ne 6, 3) := by decide +kernel
theorem d_C_told_8 : decode b_C_told 8 = .ok (.bipush (-2), 2) := by decide +kernel
theorem d_C_told_10 : decode b_C_told 10 = .ok (.ireturn, 1) := by decide +kernel
theorem d_C_told_11 : decode b_C_told 11 = .ok (.iload_n 2, 1) := by decide +kernel
theorem d_C_told_12 : decode b_C_told 12 = .ok (.tableswitch 110 0 8 #[52, 58, 64, 70, 76, 82, 89, 96, 103], 52) := by decide +kernel
theorem d_C_told_64 : decode b_C_told 64 = .ok (.aload_n 0, 1) := by decide +kernel
theorem d_C_told_65 : decode b_C_told 65 = .ok (.iload_n 1, 1) := by decide +kernel
theorem d_C_told_66 : decode b_C_told 66 = .ok (.invokevirtual 44, 3) := by decide +kernel
theorem d_C_told_69 : decode b_C_told 69 = .ok (.ireturn, 1) := by decide +kernel
theorem d_C_told_70 : decode b_C_told 70 = .ok (.aload_n 0, 1) := by decide +kernel
theorem d_C_told_71 : decode b_C_told 71 = .ok (.iload_n 1, 1) := by decide +kernel
theorem d_C_told_72 : decode b_C_told 72 = .ok (.invokevirtual 74, 3) := by decide +kernel
theorem d_C_told_75 : decode b_C_told 75 = .ok (.ireturn, 1) := by decide +kernel
theorem d_C_told_76 : decode b_C_told 76 = .ok (.aload_n 0, 1) := by decide +kernel
theorem d_C_told_77 : decode b_C_told 77 = .ok (.iload_n 1, 1) := by decide +kernel
theorem d_C_told_78 : decode b_C_told 78 = .ok (.invokevirtual 77, 3) := by decide +kernel
theorem d_C_told_81 : decode b_C_told 81 = .ok (.ireturn, 1) := by decide +kernel
theorem d_C_told_82 : decode b_C_told 82 = .ok (.aload_n 0, 1) := by decide +kernel
theorem d_C_told_83 : decode b_C_told 83 = .ok (.iload_n 1, 1) := by decide +kernel
theorem d_C_told_84 : decode b_C_told 84 = .ok (.invokevirtual 80, 3) := by decide +kernel
theorem d_C_told_87 : decode b_C_told 87 = .ok (.ireturn, 1) := by decide +kernel
theorem d_C_told_88 : decode b_C_told 88 = .ok (.aload_n 0, 1) := by decide +kernel
theorem d_C_told_89 : decode b_C_told 89 = .ok (.iload_n 1, 1) := by decide +kernel
theorem d_C_told_90 : decode b_C_told 90 = .ok (.invokevirtual 83, 3) := by decide +kernel
theorem d_C_told_93 : decode b_C_told 93 = .ok (.ireturn, 1) := by decide +kernel
theorem d_C_told_94 : decode b_C_told 94 = .ok (.aload_n 0, 1) := by decide +kernel
theorem d_C_told_95 : decode b_C_told 95 = .ok (.iload_n 1, 1) := by decide +kernel
theorem d_C_told_96 : decode b_C_told 96 = .ok (.iconst 0, 1) := by decide +kernel
theorem d_C_told_97 : decode b_C_told 97 = .ok (.invokevirtual 86, 3) := by decide +kernel
theorem d_C_told_100 : decode b_C_told 100 = .ok (.ireturn, 1) := by decide +kernel
theorem d_C_told_101 : decode b_C_told 101 = .ok (.aload_n 0, 1) := by decide +kernel
theorem d_C_told_102 : decode b_C_told 102 = .ok (.iload_n 1, 1) := by decide +kernel
theorem d_C_told_103 : decode b_C_told 103 = .ok (.iconst 1, 1) := by decide +kernel
theorem d_C_told_104 : decode b_C_told 104 = .ok (.invokevirtual 86, 3) := by decide +kernel
theorem d_C_told_107 : decode b_C_told 107 = .ok (.ireturn, 1) := by decide +kernel
theorem d_C_told_108 : decode b_C_told 108 = .ok (.aload_n 0, 1) := by decide +kernel
theorem d_C_told_109 : decode b_C_told 109 = .ok (.iload_n 1, 1) := by decide +kernel
theorem d_C_told_110 : decode b_C_told 110 = .ok (.iconst 2, 1) := by decide +kernel
theorem d_C_told_111 : decode b_C_told 111 = .ok (.invokevirtual 86, 3) := by decide +kernel
theorem d_C_told_114 : decode b_C_told 114 = .ok (.ireturn, 1) := by decide +kernel
theorem d_C_told_115 : decode b_C_told 115 = .ok (.aload_n 0, 1) := by decide +kernel
theorem d_C_told_116 : decode b_C_told 116 = .ok (.iload_n 1, 1) := by decide +kernel
theorem d_C_told_117 : decode b_C_told 117 = .ok (.iconst 3, 1) := by decide +kernel
theorem d_C_told_118 : decode b_C_told 118 = .ok (.invokevirtual 86, 3) := by decide +kernel
theorem d_C_told_121 : decode b_C_told 121 = .ok (.ireturn, 1) := by decide +kernel
theorem d_C_told_122 : decode b_C_told 122 = .ok (.bipush (-3), 2) := by decide +kernel
theorem d_C_told_124 : decode b_C_told 124 = .ok (.ireturn, 1) := by decide +kernel
theorem d_C_held_0 : decode b_C_held 0 = .ok (.aload_n 0, 1) := by decide +kernel
theorem d_C_held_1 : decode b_C_held 1 = .ok (.iload_n 1, 1) := by decide +kernel
theorem d_C_held_2 : decode b_C_held 2 = .ok (.invokevirtual 40, 3) := by decide +kernel
theorem d_C_held_5 : decode b_C_held 5 = .ok (.ifCond .ne 6, 3) := by decide +kernel
theorem d_C_held_8 : decode b_C_held 8 = .ok (.bipush (-2), 2) := by decide +kernel
theorem d_C_held_10 : decode b_C_held 10 = .ok (.ireturn, 1) := by decide +kernel
theorem d_C_held_11 : decode b_C_held 11 = .ok (.iconst 0, 1) := by decide +kernel
theorem d_C_held_12 : decode b_C_held 12 = .ok (.istore_n 3, 1) := by decide +kernel
theorem d_C_held_13 : decode b_C_held 13 = .ok (.iconst 0, 1) := by decide +kernel
theorem d_C_held_14 : decode b_C_held 14 = .ok (.istore 4, 2) := by decide +kernel
theorem d_C_held_16 : decode b_C_held 16 = .ok (.iload 4, 2) := by decide +kernel
theorem d_C_held_18 : decode b_C_held 18 = .ok (.aload_n 0, 1) := by decide +kernel
theorem d_C_held_19 : decode b_C_held 19 = .ok (.getfield 7, 3) := by decide +kernel
theorem d_C_held_22 : decode b_C_held 22 = .ok (.if_icmp .ge 31, 3) := by decide +kernel
theorem d_C_held_25 : decode b_C_held 25 = .ok (.aload_n 0, 1) := by decide +kernel
theorem d_C_held_26 : decode b_C_held 26 = .ok (.getfield 17, 3) := by decide +kernel
theorem d_C_held_29 : decode b_C_held 29 = .ok (.iload 4, 2) := by decide +kernel
theorem d_C_held_31 : decode b_C_held 31 = .ok (.iaload, 1) := by decide +kernel
theorem d_C_held_32 : decode b_C_held 32 = .ok (.iload_n 1, 1) := by decide +kernel
theorem d_C_held_33 : decode b_C_held 33 = .ok (.if_icmp .ne 14, 3) := by decide +kernel
theorem d_C_held_36 : decode b_C_held 36 = .ok (.iload_n 3, 1) := by decide +kernel
theorem d_C_held_37 : decode b_C_held 37 = .ok (.iload_n 2, 1) := by decide +kernel
theorem d_C_held_38 : decode b_C_held 38 = .ok (.if_icmp .ne 6, 3) := by decide +kernel
theorem d_C_held_41 : decode b_C_held 41 = .ok (.iload 4, 2) := by decide +kernel
theorem d_C_held_43 : decode b_C_held 43 = .ok (.ireturn, 1) := by decide +kernel
theorem d_C_held_44 : decode b_C_held 44 = .ok (.iinc 3 1, 3) := by decide +kernel
theorem d_C_held_47 : decode b_C_held 47 = .ok (.iinc 4 1, 3) := by decide +kernel
theorem d_C_held_50 : decode b_C_held 50 = .ok (.goto (-34), 3) := by decide +kernel
theorem d_C_held_53 : decode b_C_held 53 = .ok (.iconst (-1), 1) := by decide +kernel
theorem d_C_held_54 : decode b_C_held 54 = .ok (.ireturn, 1) := by decide +kernel
theorem d_C_space_0 : decode b_C_space 0 = .ok (.aload_n 0, 1) := by decide +kernel
theorem d_C_space_1 : decode b_C_space 1 = .ok (.iload_n 1, 1) := by decide +kernel
theorem d_C_space_2 : decode b_C_space 2 = .ok (.invokevirtual 89, 3) := by decide +kernel
theorem d_C_space_5 : decode b_C_space 5 = .ok (.ifCond .ne 6, 3) := by decide +kernel
theorem d_C_space_8 : decode b_C_space 8 = .ok (.bipush (-2), 2) := by decide +kernel
theorem d_C_space_10 : decode b_C_space 10 = .ok (.ireturn, 1) := by decide +kernel
theorem d_C_space_11 : decode b_C_space 11 = .ok (.iload_n 2, 1) := by decide +kernel
theorem d_C_space_12 : decode b_C_space 12 = .ok (.ifCond .lt 8, 3) := by decide +kernel
theorem d_C_space_15 : decode b_C_space 15 = .ok (.iload_n 2, 1) := by decide +kernel
theorem d_C_space_16 : decode b_C_space 16 = .ok (.iconst 1, 1) := by decide +kernel
theorem d_C_space_17 : decode b_C_space 17 = .ok (.if_icmp .le 6, 3) := by decide +kernel
theorem d_C_space_20 : decode b_C_space 20 = .ok (.bipush (-3), 2) := by decide +kernel
theorem d_C_space_22 : decode b_C_space 22 = .ok (.ireturn, 1) := by decide +kernel
theorem d_C_space_23 : decode b_C_space 23 = .ok (.aload_n 0, 1) := by decide +kernel
theorem d_C_space_24 : decode b_C_space 24 = .ok (.iconst 2, 1) := by decide +kernel
theorem d_C_space_25 : decode b_C_space 25 = .ok (.iload_n 2, 1) := by decide +kernel
theorem d_C_space_26 : decode b_C_space 26 = .ok (.iadd, 1) := by decide +kernel
theorem d_C_space_27 : decode b_C_space 27 = .ok (.invokevirtual 92, 3) := by decide +kernel
theorem d_C_space_30 : decode b_C_space 30 = .ok (.aload_n 0, 1) := by decide +kernel
theorem d_C_space_31 : decode b_C_space 31 = .ok (.getfield 37, 3) := by decide +kernel
theorem d_C_space_34 : decode b_C_space 34 = .ok (.iload_n 1, 1) := by decide +kernel
theorem d_C_space_35 : decode b_C_space 35 = .ok (.iaload, 1) := by decide +kernel
theorem d_C_space_36 : decode b_C_space 36 = .ok (.ireturn, 1) := by decide +kernel
theorem d_C_loses_0 : decode b_C_loses 0 = .ok (.aload_n 0, 1) := by decide +kernel
theorem d_C_loses_1 : decode b_C_loses 1 = .ok (.iload_n 1, 1) := by decide +kernel
theorem d_C_loses_2 : decode b_C_loses 2 = .ok (.invokevirtual 89, 3) := by decide +kernel
theorem d_C_loses_5 : decode b_C_loses 5 = .ok (.ifCond .eq 11, 3) := by decide +kernel
theorem d_C_loses_8 : decode b_C_loses 8 = .ok (.aload_n 0, 1) := by decide +kernel
theorem d_C_loses_9 : decode b_C_loses 9 = .ok (.iload_n 2, 1) := by decide +kernel
theorem d_C_loses_10 : decode b_C_loses 10 = .ok (.invokevirtual 89, 3) := by decide +kernel
theorem d_C_loses_13 : decode b_C_loses 13 = .ok (.ifCond .ne 6, 3) := by decide +kernel
theorem d_C_loses_16 : decode b_C_loses 16 = .ok (.bipush (-2), 2) := by decide +kernel
theorem d_C_loses_18 : decode b_C_loses 18 = .ok (.ireturn, 1) := by decide +kernel
theorem d_C_loses_19 : decode b_C_loses 19 = .ok (.iload_n 3, 1) := by decide +kernel
theorem d_C_loses_20 : decode b_C_loses 20 = .ok (.ifCond .lt 8, 3) := by decide +kernel
theorem d_C_loses_23 : decode b_C_loses 23 = .ok (.iload_n 3, 1) := by decide +kernel
theorem d_C_loses_24 : decode b_C_loses 24 = .ok (.iconst 1, 1) := by decide +kernel
theorem d_C_loses_25 : decode b_C_loses 25 = .ok (.if_icmp .le 6, 3) := by decide +kernel
theorem d_C_loses_28 : decode b_C_loses 28 = .ok (.bipush (-3), 2) := by decide +kernel
theorem d_C_loses_30 : decode b_C_loses 30 = .ok (.ireturn, 1) := by decide +kernel
theorem d_C_loses_31 : decode b_C_loses 31 = .ok (.aload_n 0, 1) := by decide +kernel
theorem d_C_loses_32 : decode b_C_loses 32 = .ok (.iload_n 1, 1) := by decide +kernel
theorem d_C_loses_33 : decode b_C_loses 33 = .ok (.iconst 2, 1) := by decide +kernel
theorem d_C_loses_34 : decode b_C_loses 34 = .ok (.iload_n 3, 1) := by decide +kernel
theorem d_C_loses_35 : decode b_C_loses 35 = .ok (.iadd, 1) := by decide +kernel
theorem d_C_loses_36 : decode b_C_loses 36 = .ok (.invokevirtual 96, 3) := by decide +kernel
theorem d_C_loses_39 : decode b_C_loses 39 = .ok (.aload_n 0, 1) := by decide +kernel
theorem d_C_loses_40 : decode b_C_loses 40 = .ok (.iload_n 2, 1) := by decide +kernel
theorem d_C_loses_41 : decode b_C_loses 41 = .ok (.invokevirtual 100, 3) := by decide +kernel
theorem d_C_loses_44 : decode b_C_loses 44 = .ok (.ireturn, 1) := by decide +kernel
theorem d_C_sees_0 : decode b_C_sees 0 = .ok (.aload_n 0, 1) := by decide +kernel
theorem d_C_sees_1 : decode b_C_sees 1 = .ok (.iload_n 1, 1) := by decide +kernel
theorem d_C_sees_2 : decode b_C_sees 2 = .ok (.invokevirtual 58, 3) := by decide +kernel
theorem d_C_sees_5 : decode b_C_sees 5 = .ok (.ifCond .eq 11, 3) := by decide +kernel
theorem d_C_sees_8 : decode b_C_sees 8 = .ok (.aload_n 0, 1) := by decide +kernel
theorem d_C_sees_9 : decode b_C_sees 9 = .ok (.iload_n 2, 1) := by decide +kernel
theorem d_C_sees_10 : decode b_C_sees 10 = .ok (.invokevirtual 40, 3) := by decide +kernel
theorem d_C_sees_13 : decode b_C_sees 13 = .ok (.ifCond .ne 6, 3) := by decide +kernel
theorem d_C_sees_16 : decode b_C_sees 16 = .ok (.bipush (-2), 2) := by decide +kernel
theorem d_C_sees_18 : decode b_C_sees 18 = .ok (.ireturn, 1) := by decide +kernel
theorem d_C_sees_19 : decode b_C_sees 19 = .ok (.iload_n 1, 1) := by decide +kernel
theorem d_C_sees_20 : decode b_C_sees 20 = .ok (.iload_n 2, 1) := by decide +kernel
theorem d_C_sees_21 : decode b_C_sees 21 = .ok (.if_icmp .ne 5, 3) := by decide +kernel
theorem d_C_sees_24 : decode b_C_sees 24 = .ok (.iconst 0, 1) := by decide +kernel
theorem d_C_sees_25 : decode b_C_sees 25 = .ok (.ireturn, 1) := by decide +kernel
theorem d_C_sees_26 : decode b_C_sees 26 = .ok (.aload_n 0, 1) := by decide +kernel
theorem d_C_sees_27 : decode b_C_sees 27 = .ok (.iconst 2, 1) := by decide +kernel
theorem d_C_sees_28 : decode b_C_sees 28 = .ok (.invokevirtual 92, 3) := by decide +kernel
theorem d_C_sees_31 : decode b_C_sees 31 = .ok (.aload_n 0, 1) := by decide +kernel
theorem d_C_sees_32 : decode b_C_sees 32 = .ok (.iload_n 2, 1) := by decide +kernel
theorem d_C_sees_33 : decode b_C_sees 33 = .ok (.aload_n 0, 1) := by decide +kernel
theorem d_C_sees_34 : decode b_C_sees 34 = .ok (.iload_n 1, 1) := by decide +kernel
theorem d_C_sees_35 : decode b_C_sees 35 = .ok (.invokevirtual 103, 3) := by decide +kernel
theorem d_C_sees_38 : decode b_C_sees 38 = .ok (.invokevirtual 106, 3) := by decide +kernel
theorem d_C_sees_41 : decode b_C_sees 41 = .ok (.ifCond .eq 7, 3) := by decide +kernel
theorem d_C_sees_44 : decode b_C_sees 44 = .ok (.iconst 1, 1) := by decide +kernel
theorem d_C_sees_45 : decode b_C_sees 45 = .ok (.goto 4, 3) := by decide +kernel
theorem d_C_sees_48 : decode b_C_sees 48 = .ok (.iconst 0, 1) := by decide +kernel
theorem d_C_sees_49 : decode b_C_sees 49 = .ok (.ireturn, 1) := by decide +kernel
theorem d_C_barrier_0 : decode b_C_barrier 0 = .ok (.aload_n 0, 1) := by decide +kernel
theorem d_C_barrier_1 : decode b_C_barrier 1 = .ok (.iload_n 1, 1) := by decide +kernel
theorem d_C_barrier_2 : decode b_C_barrier 2 = .ok (.invokevirtual 58, 3) := by decide +kernel
theorem d_C_barrier_5 : decode b_C_barrier 5 = .ok (.ifCond .eq 11, 3) := by decide +kernel
theorem d_C_barrier_8 : decode b_C_barrier 8 = .ok (.aload_n 0, 1) := by decide +kernel
theorem d_C_barrier_9 : decode b_C_barrier 9 = .ok (.iload_n 2, 1) := by decide +kernel
theorem d_C_barrier_10 : decode b_C_barrier 10 = .ok (.invokevirtual 40, 3) := by decide +kernel
theorem d_C_barrier_13 : decode b_C_barrier 13 = .ok (.ifCond .ne 6, 3) := by decide +kernel
theorem d_C_barrier_16 : decode b_C_barrier 16 = .ok (.bipush (-2), 2) := by decide +kernel
theorem d_C_barrier_18 : decode b_C_barrier 18 = .ok (.ireturn, 1) := by decide +kernel
theorem d_C_barrier_19 : decode b_C_barrier 19 = .ok (.iload_n 1, 1) := by decide +kernel
theorem d_C_barrier_20 : decode b_C_barrier 20 = .ok (.iload_n 2, 1) := by decide +kernel
theorem d_C_barrier_21 : decode b_C_barrier 21 = .ok (.if_icmp .ne 7, 3) := by decide +kernel
theorem d_C_barrier_24 : decode b_C_barrier 24 = .ok (.iconst (-1), 1) := by decide +kernel
theorem d_C_barrier_25 : decode b_C_barrier 25 = .ok (.goto 9, 3) := by decide +kernel
theorem d_C_barrier_28 : decode b_C_barrier 28 = .ok (.aload_n 0, 1) := by decide +kernel
theorem d_C_barrier_29 : decode b_C_barrier 29 = .ok (.iload_n 1, 1) := by decide +kernel
theorem d_C_barrier_30 : decode b_C_barrier 30 = .ok (.iload_n 2, 1) := by decide +kernel
theorem d_C_barrier_31 : decode b_C_barrier 31 = .ok (.invokevirtual 61, 3) := by decide +kernel
theorem d_C_barrier_34 : decode b_C_barrier 34 = .ok (.ireturn, 1) := by decide +kernel
theorem d_C_scope_0 : decode b_C_scope 0 = .ok (.aload_n 0, 1) := by decide +kernel
theorem d_C_scope_1 : decode b_C_scope 1 = .ok (.iload_n 1, 1) := by decide +kernel
theorem d_C_scope_2 : decode b_C_scope 2 = .ok (.invokevirtual 58, 3) := by decide +kernel
theorem d_C_scope_5 : decode b_C_scope 5 = .ok (.ifCond .ne 6, 3) := by decide +kernel
theorem d_C_scope_8 : decode b_C_scope 8 = .ok (.bipush (-2), 2) := by decide +kernel
theorem d_C_scope_10 : decode b_C_scope 10 = .ok (.ireturn, 1) := by decide +kernel
theorem d_C_scope_11 : decode b_C_scope 11 = .ok (.aload_n 0, 1) := by decide +kernel
theorem d_C_scope_12 : decode b_C_scope 12 = .ok (.iconst 2, 1) := by decide +kernel
theorem d_C_scope_13 : decode b_C_scope 13 = .ok (.invokevirtual 92, 3) := by decide +kernel
theorem d_C_scope_16 : decode b_C_scope 16 = .ok (.aload_n 0, 1) := by decide +kernel
theorem d_C_scope_17 : decode b_C_scope 17 = .ok (.iload_n 1, 1) := by decide +kernel
theorem d_C_scope_18 : decode b_C_scope 18 = .ok (.invokevirtual 103, 3) := by decide +kernel
theorem d_C_scope_21 : decode b_C_scope 21 = .ok (.istore_n 3, 1) := by decide +kernel
theorem d_C_scope_22 : decode b_C_scope 22 = .ok (.iconst 0, 1) := by decide +kernel
theorem d_C_scope_23 : decode b_C_scope 23 = .ok (.istore 4, 2) := by decide +kernel
theorem d_C_scope_25 : decode b_C_scope 25 = .ok (.iconst 0, 1) := by decide +kernel
theorem d_C_scope_26 : decode b_C_scope 26 = .ok (.istore 5, 2) := by decide +kernel
theorem d_C_scope_28 : decode b_C_scope 28 = .ok (.iload 5, 2) := by decide +kernel
theorem d_C_scope_30 : decode b_C_scope 30 = .ok (.aload_n 0, 1) := by decide +kernel
theorem d_C_scope_31 : decode b_C_scope 31 = .ok (.getfield 7, 3) := by decide +kernel
theorem d_C_scope_34 : decode b_C_scope 34 = .ok (.if_icmp .ge 48, 3) := by decide +kernel
theorem d_C_scope_37 : decode b_C_scope 37 = .ok (.iload 5, 2) := by decide +kernel
theorem d_C_scope_39 : decode b_C_scope 39 = .ok (.iload_n 1, 1) := by decide +kernel
theorem d_C_scope_40 : decode b_C_scope 40 = .ok (.if_icmp .eq 36, 3) := by decide +kernel
theorem d_C_scope_43 : decode b_C_scope 43 = .ok (.aload_n 0, 1) := by decide +kernel
theorem d_C_scope_44 : decode b_C_scope 44 = .ok (.iload 5, 2) := by decide +kernel
theorem d_C_scope_46 : decode b_C_scope 46 = .ok (.iload_n 3, 1) := by decide +kernel
theorem d_C_scope_47 : decode b_C_scope 47 = .ok (.invokevirtual 106, 3) := by decide +kernel
theorem d_C_scope_50 : decode b_C_scope 50 = .ok (.ifCond .ne 14, 3) := by decide +kernel
theorem d_C_scope_53 : decode b_C_scope 53 = .ok (.aload_n 0, 1) := by decide +kernel
theorem d_C_scope_54 : decode b_C_scope 54 = .ok (.iload_n 1, 1) := by decide +kernel
theorem d_C_scope_55 : decode b_C_scope 55 = .ok (.iload 5, 2) := by decide +kernel
theorem d_C_scope_57 : decode b_C_scope 57 = .ok (.invokevirtual 61, 3) := by decide +kernel
theorem d_C_scope_60 : decode b_C_scope 60 = .ok (.iconst (-1), 1) := by decide +kernel
theorem d_C_scope_61 : decode b_C_scope 61 = .ok (.if_icmp .ne 15, 3) := by decide +kernel
theorem d_C_scope_64 : decode b_C_scope 64 = .ok (.iload 4, 2) := by decide +kernel
theorem d_C_scope_66 : decode b_C_scope 66 = .ok (.iload_n 2, 1) := by decide +kernel
theorem d_C_scope_67 : decode b_C_scope 67 = .ok (.if_icmp .ne 6, 3) := by decide +kernel
theorem d_C_scope_70 : decode b_C_scope 70 = .ok (.iload 5, 2) := by decide +kernel
theorem d_C_scope_72 : decode b_C_scope 72 = .ok (.ireturn, 1) := by decide +kernel
theorem d_C_scope_73 : decode b_C_scope 73 = .ok (.iinc 4 1, 3) := by decide +kernel
theorem d_C_scope_76 : decode b_C_scope 76 = .ok (.iinc 5 1, 3) := by decide +kernel
theorem d_C_scope_79 : decode b_C_scope 79 = .ok (.goto (-51), 3) := by decide +kernel
theorem d_C_scope_82 : decode b_C_scope 82 = .ok (.iconst (-1), 1) := by decide +kernel
theorem d_C_scope_83 : decode b_C_scope 83 = .ok (.ireturn, 1) := by decide +kernel
theorem d_C_hears_0 : decode b_C_hears 0 = .ok (.aload_n 0, 1) := by decide +kernel
theorem d_C_hears_1 : decode b_C_hears 1 = .ok (.iload_n 1, 1) := by decide +kernel
theorem d_C_hears_2 : decode b_C_hears 2 = .ok (.invokevirtual 58, 3) := by decide +kernel
theorem d_C_hears_5 : decode b_C_hears 5 = .ok (.ifCond .ne 6, 3) := by decide +kernel
theorem d_C_hears_8 : decode b_C_hears 8 = .ok (.bipush (-2), 2) := by decide +kernel
theorem d_C_hears_10 : decode b_C_hears 10 = .ok (.ireturn, 1) := by decide +kernel
theorem d_C_hears_11 : decode b_C_hears 11 = .ok (.aload_n 0, 1) := by decide +kernel
theorem d_C_hears_12 : decode b_C_hears 12 = .ok (.iload_n 1, 1) := by decide +kernel
theorem d_C_hears_13 : decode b_C_hears 13 = .ok (.invokevirtual 77, 3) := by decide +kernel
theorem d_C_hears_16 : decode b_C_hears 16 = .ok (.istore_n 2, 1) := by decide +kernel
theorem d_C_hears_17 : decode b_C_hears 17 = .ok (.iload_n 2, 1) := by decide +kernel
theorem d_C_hears_18 : decode b_C_hears 18 = .ok (.iconst (-1), 1) := by decide +kernel
theorem d_C_hears_19 : decode b_C_hears 19 = .ok (.if_icmp .ne 5, 3) := by decide +kernel
theorem d_C_hears_22 : decode b_C_hears 22 = .ok (.iconst (-1), 1) := by decide +kernel
theorem d_C_hears_23 : decode b_C_hears 23 = .ok (.ireturn, 1) := by decide +kernel
theorem d_C_hears_24 : decode b_C_hears 24 = .ok (.aload_n 0, 1) := by decide +kernel
theorem d_C_hears_25 : decode b_C_hears 25 = .ok (.iload_n 2, 1) := by decide +kernel
theorem d_C_hears_26 : decode b_C_hears 26 = .ok (.iconst 3, 1) := by decide +kernel
theorem d_C_hears_27 : decode b_C_hears 27 = .ok (.invokevirtual 96, 3) := by decide +kernel
theorem d_C_hears_30 : decode b_C_hears 30 = .ok (.iconst (-1), 1) := by decide +kernel
theorem d_C_hears_31 : decode b_C_hears 31 = .ok (.istore_n 3, 1) := by decide +kernel
theorem d_C_hears_32 : decode b_C_hears 32 = .ok (.iconst 0, 1) := by decide +kernel
theorem d_C_hears_33 : decode b_C_hears 33 = .ok (.istore 4, 2) := by decide +kernel
theorem d_C_hears_35 : decode b_C_hears 35 = .ok (.iconst 0, 1) := by decide +kernel
theorem d_C_hears_36 : decode b_C_hears 36 = .ok (.istore 5, 2) := by decide +kernel
theorem d_C_hears_38 : decode b_C_hears 38 = .ok (.iload 5, 2) := by decide +kernel
theorem d_C_hears_40 : decode b_C_hears 40 = .ok (.aload_n 0, 1) := by decide +kernel
theorem d_C_hears_41 : decode b_C_hears 41 = .ok (.getfield 7, 3) := by decide +kernel
theorem d_C_hears_44 : decode b_C_hears 44 = .ok (.if_icmp .ge 41, 3) := by decide +kernel
theorem d_C_hears_47 : decode b_C_hears 47 = .ok (.iload 5, 2) := by decide +kernel
theorem d_C_hears_49 : decode b_C_hears 49 = .ok (.iload_n 1, 1) := by decide +kernel
theorem d_C_hears_50 : decode b_C_hears 50 = .ok (.if_icmp .ne 7, 3) := by decide +kernel
theorem d_C_hears_53 : decode b_C_hears 53 = .ok (.iconst 0, 1) := by decide +kernel
theorem d_C_hears_54 : decode b_C_hears 54 = .ok (.goto 9, 3) := by decide +kernel
theorem d_C_hears_57 : decode b_C_hears 57 = .ok (.aload_n 0, 1) := by decide +kernel
theorem d_C_hears_58 : decode b_C_hears 58 = .ok (.iload 5, 2) := by decide +kernel
theorem d_C_hears_60 : decode b_C_hears 60 = .ok (.invokevirtual 109, 3) := by decide +kernel
theorem d_C_hears_63 : decode b_C_hears 63 = .ok (.istore 6, 2) := by decide +kernel
theorem d_C_hears_65 : decode b_C_hears 65 = .ok (.iload 6, 2) := by decide +kernel
theorem d_C_hears_67 : decode b_C_hears 67 = .ok (.iload 4, 2) := by decide +kernel
theorem d_C_hears_69 : decode b_C_hears 69 = .ok (.if_icmp .le 10, 3) := by decide +kernel
theorem d_C_hears_72 : decode b_C_hears 72 = .ok (.iload 6, 2) := by decide +kernel
theorem d_C_hears_74 : decode b_C_hears 74 = .ok (.istore 4, 2) := by decide +kernel
theorem d_C_hears_76 : decode b_C_hears 76 = .ok (.iload 5, 2) := by decide +kernel
theorem d_C_hears_78 : decode b_C_hears 78 = .ok (.istore_n 3, 1) := by decide +kernel
theorem d_C_hears_79 : decode b_C_hears 79 = .ok (.iinc 5 1, 3) := by decide +kernel
theorem d_C_hears_82 : decode b_C_hears 82 = .ok (.goto (-44), 3) := by decide +kernel
theorem d_C_hears_85 : decode b_C_hears 85 = .ok (.iload_n 3, 1) := by decide +kernel
theorem d_C_hears_86 : decode b_C_hears 86 = .ok (.ireturn, 1) := by decide +kernel
theorem d_C_isThing_0 : decode b_C_isThing 0 = .ok (.iload_n 1, 1) := by decide +kernel
theorem d_C_isThing_1 : decode b_C_isThing 1 = .ok (.ifCond .lt 15, 3) := by decide +kernel
theorem d_C_isThing_4 : decode b_C_isThing 4 = .ok (.iload_n 1, 1) := by decide +kernel
theorem d_C_isThing_5 : decode b_C_isThing 5 = .ok (.aload_n 0, 1) := by decide +kernel
theorem d_C_isThing_6 : decode b_C_isThing 6 = .ok (.getfield 7, 3) := by decide +kernel
theorem d_C_isThing_9 : decode b_C_isThing 9 = .ok (.if_icmp .ge 7, 3) := by decide +kernel
theorem d_C_isThing_12 : decode b_C_isThing 12 = .ok (.iconst 1, 1) := by decide +kernel
theorem d_C_isThing_13 : decode b_C_isThing 13 = .ok (.goto 4, 3) := by decide +kernel
theorem d_C_isThing_16 : decode b_C_isThing 16 = .ok (.iconst 0, 1) := by decide +kernel
theorem d_C_isThing_17 : decode b_C_isThing 17 = .ok (.ireturn, 1) := by decide +kernel
theorem d_C_isDoor_0 : decode b_C_isDoor 0 = .ok (.iload_n 1, 1) := by decide +kernel
theorem d_C_isDoor_1 : decode b_C_isDoor 1 = .ok (.ifCond .lt 15, 3) := by decide +kernel
theorem d_C_isDoor_4 : decode b_C_isDoor 4 = .ok (.iload_n 1, 1) := by decide +kernel
theorem d_C_isDoor_5 : decode b_C_isDoor 5 = .ok (.aload_n 0, 1) := by decide +kernel
theorem d_C_isDoor_6 : decode b_C_isDoor 6 = .ok (.getfield 25, 3) := by decide +kernel
theorem d_C_isDoor_9 : decode b_C_isDoor 9 = .ok (.if_icmp .ge 7, 3) := by decide +kernel
theorem d_C_isDoor_12 : decode b_C_isDoor 12 = .ok (.iconst 1, 1) := by decide +kernel
theorem d_C_isDoor_13 : decode b_C_isDoor 13 = .ok (.goto 4, 3) := by decide +kernel
theorem d_C_isDoor_16 : decode b_C_isDoor 16 = .ok (.iconst 0, 1) := by decide +kernel
theorem d_C_isDoor_17 : decode b_C_isDoor 17 = .ok (.ireturn, 1) := by decide +kernel
theorem d_C_sortOf_0 : decode b_C_sortOf 0 = .ok (.aload_n 0, 1) := by decide +kernel
theorem d_C_sortOf_1 : decode b_C_sortOf 1 = .ok (.iload_n 1, 1) := by decide +kernel
theorem d_C_sortOf_2 : decode b_C_sortOf 2 = .ok (.invokevirtual 40, 3) := by decide +kernel
theorem d_C_sortOf_5 : decode b_C_sortOf 5 = .ok (.ifCond .eq 12, 3) := by decide +kernel
theorem d_C_sortOf_8 : decode b_C_sortOf 8 = .ok (.aload_n 0, 1) := by decide +kernel
theorem d_C_sortOf_9 : decode b_C_sortOf 9 = .ok (.getfield 13, 3) := by decide +kernel
theorem d_C_sortOf_12 : decode b_C_sortOf 12 = .ok (.iload_n 1, 1) := by decide +kernel
theorem d_C_sortOf_13 : decode b_C_sortOf 13 = .ok (.iaload, 1) := by decide +kernel
theorem d_C_sortOf_14 : decode b_C_sortOf 14 = .ok (.goto 4, 3) := by decide +kernel
theorem d_C_sortOf_17 : decode b_C_sortOf 17 = .ok (.iconst (-1), 1) := by decide +kernel
theorem d_C_sortOf_18 : decode b_C_sortOf 18 = .ok (.ireturn, 1) := by decide +kernel
theorem d_C_holderOf_0 : decode b_C_holderOf 0 = .ok (.aload_n 0, 1) := by decide +kernel
theorem d_C_holderOf_1 : decode b_C_holderOf 1 = .ok (.iload_n 1, 1) := by decide +kernel
theorem d_C_holderOf_2 : decode b_C_holderOf 2 = .ok (.invokevirtual 40, 3) := by decide +kernel
theorem d_C_holderOf_5 : decode b_C_holderOf 5 = .ok (.ifCond .eq 12, 3) := by decide +kernel
theorem d_C_holderOf_8 : decode b_C_holderOf 8 = .ok (.aload_n 0, 1) := by decide +kernel
theorem d_C_holderOf_9 : decode b_C_holderOf 9 = .ok (.getfield 17, 3) := by decide +kernel
theorem d_C_holderOf_12 : decode b_C_holderOf 12 = .ok (.iload_n 1, 1) := by decide +kernel
theorem d_C_holderOf_13 : decode b_C_holderOf 13 = .ok (.iaload, 1) := by decide +kernel
theorem d_C_holderOf_14 : decode b_C_holderOf 14 = .ok (.goto 4, 3) := by decide +kernel
theorem d_C_holderOf_17 : decode b_C_holderOf 17 = .ok (.iconst (-1), 1) := by decide +kernel
theorem d_C_holderOf_18 : decode b_C_holderOf 18 = .ok (.ireturn, 1) := by decide +kernel
theorem d_C_markOf_0 : decode b_C_markOf 0 = .ok (.aload_n 0, 1) := by decide +kernel
theorem d_C_markOf_1 : decode b_C_markOf 1 = .ok (.iload_n 1, 1) := by decide +kernel
theorem d_C_markOf_2 : decode b_C_markOf 2 = .ok (.invokevirtual 40, 3) := by decide +kernel
theorem d_C_markOf_5 : decode b_C_markOf 5 = .ok (.ifCond .eq 23, 3) := by decide +kernel
theorem d_C_markOf_8 : decode b_C_markOf 8 = .ok (.iload_n 2, 1) := by decide +kernel
theorem d_C_markOf_9 : decode b_C_markOf 9 = .ok (.ifCond .lt 19, 3) := by decide +kernel
theorem d_C_markOf_12 : decode b_C_markOf 12 = .ok (.iload_n 2, 1) := by decide +kernel
theorem d_C_markOf_13 : decode b_C_markOf 13 = .ok (.iconst 4, 1) := by decide +kernel
theorem d_C_markOf_14 : decode b_C_markOf 14 = .ok (.if_icmp .ge 14, 3) := by decide +kernel
theorem d_C_markOf_17 : decode b_C_markOf 17 = .ok (.aload_n 0, 1) := by decide +kernel
theorem d_C_markOf_18 : decode b_C_markOf 18 = .ok (.getfield 22, 3) := by decide +kernel
theorem d_C_markOf_21 : decode b_C_markOf 21 = .ok (.iload_n 2, 1) := by decide +kernel
theorem d_C_markOf_22 : decode b_C_markOf 22 = .ok (.aaload, 1) := by decide +kernel
theorem d_C_markOf_23 : decode b_C_markOf 23 = .ok (.iload_n 1, 1) := by decide +kernel
theorem d_C_markOf_24 : decode b_C_markOf 24 = .ok (.iaload, 1) := by decide +kernel
theorem d_C_markOf_25 : decode b_C_markOf 25 = .ok (.goto 4, 3) := by decide +kernel
theorem d_C_markOf_28 : decode b_C_markOf 28 = .ok (.iconst 0, 1) := by decide +kernel
theorem d_C_markOf_29 : decode b_C_markOf 29 = .ok (.ireturn, 1) := by decide +kernel
theorem d_C_isPerson_0 : decode b_C_isPerson 0 = .ok (.aload_n 0, 1) := by decide +kernel
theorem d_C_isPerson_1 : decode b_C_isPerson 1 = .ok (.iload_n 1, 1) := by decide +kernel
theorem d_C_isPerson_2 : decode b_C_isPerson 2 = .ok (.invokevirtual 44, 3) := by decide +kernel
theorem d_C_isPerson_5 : decode b_C_isPerson 5 = .ok (.iconst 3, 1) := by decide +kernel
theorem d_C_isPerson_6 : decode b_C_isPerson 6 = .ok (.if_icmp .ne 7, 3) := by decide +kernel
theorem d_C_isPerson_9 : decode b_C_isPerson 9 = .ok (.iconst 1, 1) := by decide +kernel
theorem d_C_isPerson_10 : decode b_C_isPerson 10 = .ok (.goto 4, 3) := by decide +kernel
theorem d_C_isPerson_13 : decode b_C_isPerson 13 = .ok (.iconst 0, 1) := by decide +kernel
theorem d_C_isPerson_14 : decode b_C_isPerson 14 = .ok (.ireturn, 1) := by decide +kernel
theorem d_C_isShutBox_0 : decode b_C_isShutBox 0 = .ok (.aload_n 0, 1) := by decide +kernel
theorem d_C_isShutBox_1 : decode b_C_isShutBox 1 = .ok (.iload_n 1, 1) := by decide +kernel
theorem d_C_isShutBox_2 : decode b_C_isShutBox 2 = .ok (.invokevirtual 44, 3) := by decide +kernel
theorem d_C_isShutBox_5 : decode b_C_isShutBox 5 = .ok (.iconst 1, 1) := by decide +kernel
theorem d_C_isShutBox_6 : decode b_C_isShutBox 6 = .ok (.if_icmp .ne 16, 3) := by decide +kernel
theorem d_C_isShutBox_9 : decode b_C_isShutBox 9 = .ok (.aload_n 0, 1) := by decide +kernel
theorem d_C_isShutBox_10 : decode b_C_isShutBox 10 = .ok (.iload_n 1, 1) := by decide +kernel
theorem d_C_isShutBox_11 : decode b_C_isShutBox 11 = .ok (.iconst 0, 1) := by decide +kernel
theorem d_C_isShutBox_12 : decode b_C_isShutBox 12 = .ok (.invokevirtual 86, 3) := by decide +kernel
theorem d_C_isShutBox_15 : decode b_C_isShutBox 15 = .ok (.ifCond .ne 7, 3) := by decide +kernel
theorem d_C_isShutBox_18 : decode b_C_isShutBox 18 = .ok (.iconst 1, 1) := by decide +kernel
theorem d_C_isShutBox_19 : decode b_C_isShutBox 19 = .ok (.goto 4, 3) := by decide +kernel
theorem d_C_isShutBox_22 : decode b_C_isShutBox 22 = .ok (.iconst 0, 1) := by decide +kernel
theorem d_C_isShutBox_23 : decode b_C_isShutBox 23 = .ok (.ireturn, 1) := by decide +kernel
theorem d_C_isSpace_0 : decode b_C_isSpace 0 = .ok (.aload_n 0, 1) := by decide +kernel
theorem d_C_isSpace_1 : decode b_C_isSpace 1 = .ok (.iload_n 1, 1) := by decide +kernel
theorem d_C_isSpace_2 : decode b_C_isSpace 2 = .ok (.invokevirtual 44, 3) := by decide +kernel
theorem d_C_isSpace_5 : decode b_C_isSpace 5 = .ok (.istore_n 2, 1) := by decide +kernel
theorem d_C_isSpace_6 : decode b_C_isSpace 6 = .ok (.iload_n 2, 1) := by decide +kernel
theorem d_C_isSpace_7 : decode b_C_isSpace 7 = .ok (.ifCond .eq 8, 3) := by decide +kernel
theorem d_C_isSpace_10 : decode b_C_isSpace 10 = .ok (.iload_n 2, 1) := by decide +kernel
theorem d_C_isSpace_11 : decode b_C_isSpace 11 = .ok (.iconst 1, 1) := by decide +kernel
theorem d_C_isSpace_12 : decode b_C_isSpace 12 = .ok (.if_icmp .ne 7, 3) := by decide +kernel
theorem d_C_isSpace_15 : decode b_C_isSpace 15 = .ok (.iconst 1, 1) := by decide +kernel
theorem d_C_isSpace_16 : decode b_C_isSpace 16 = .ok (.goto 4, 3) := by decide +kernel
theorem d_C_isSpace_19 : decode b_C_isSpace 19 = .ok (.iconst 0, 1) := by decide +kernel
theorem d_C_isSpace_20 : decode b_C_isSpace 20 = .ok (.ireturn, 1) := by decide +kernel
theorem d_C_mayBeGivenTo_0 : decode b_C_mayBeGivenTo 0 = .ok (.aload_n 0, 1) := by decide +kernel
theorem d_C_mayBeGivenTo_1 : decode b_C_mayBeGivenTo 1 = .ok (.iload_n 1, 1) := by decide +kernel
theorem d_C_mayBeGivenTo_2 : decode b_C_mayBeGivenTo 2 = .ok (.invokevirtual 44, 3) := by decide +kernel
theorem d_C_mayBeGivenTo_5 : decode b_C_mayBeGivenTo 5 = .ok (.istore_n 2, 1) := by decide +kernel
theorem d_C_mayBeGivenTo_6 : decode b_C_mayBeGivenTo 6 = .ok (.iload_n 2, 1) := by decide +kernel
theorem d_C_mayBeGivenTo_7 : decode b_C_mayBeGivenTo 7 = .ok (.iconst 1, 1) := by decide +kernel
theorem d_C_mayBeGivenTo_8 : decode b_C_mayBeGivenTo 8 = .ok (.if_icmp .eq 13, 3) := by decide +kernel
theorem d_C_mayBeGivenTo_11 : decode b_C_mayBeGivenTo 11 = .ok (.iload_n 2, 1) := by decide +kernel
theorem d_C_mayBeGivenTo_12 : decode b_C_mayBeGivenTo 12 = .ok (.iconst 2, 1) := by decide +kernel
theorem d_C_mayBeGivenTo_13 : decode b_C_mayBeGivenTo 13 = .ok (.if_icmp .eq 8, 3) := by decide +kernel
theorem d_C_mayBeGivenTo_16 : decode b_C_mayBeGivenTo 16 = .ok (.iload_n 2, 1) := by decide +kernel
theorem d_C_mayBeGivenTo_17 : decode b_C_mayBeGivenTo 17 = .ok (.iconst 3, 1) := by decide +kernel
theorem d_C_mayBeGivenTo_18 : decode b_C_mayBeGivenTo 18 = .ok (.if_icmp .ne 7, 3) := by decide +kernel
theorem d_C_mayBeGivenTo_21 : decode b_C_mayBeGivenTo 21 = .ok (.iconst 1, 1) := by decide +kernel
theorem d_C_mayBeGivenTo_22 : decode b_C_mayBeGivenTo 22 = .ok (.goto 4, 3) := by decide +kernel
theorem d_C_mayBeGivenTo_25 : decode b_C_mayBeGivenTo 25 = .ok (.iconst 0, 1) := by decide +kernel
theorem d_C_mayBeGivenTo_26 : decode b_C_mayBeGivenTo 26 = .ok (.ireturn, 1) := by decide +kernel
theorem d_C_hasInHands_0 : decode b_C_hasInHands 0 = .ok (.aload_n 0, 1) := by decide +kernel
theorem d_C_hasInHands_1 : decode b_C_hasInHands 1 = .ok (.iload_n 1, 1) := by decide +kernel
theorem d_C_hasInHands_2 : decode b_C_hasInHands 2 = .ok (.invokevirtual 58, 3) := by decide +kernel
theorem d_C_hasInHands_5 : decode b_C_hasInHands 5 = .ok (.ifCond .eq 24, 3) := by decide +kernel
theorem d_C_hasInHands_8 : decode b_C_hasInHands 8 = .ok (.aload_n 0, 1) := by decide +kernel
theorem d_C_hasInHands_9 : decode b_C_hasInHands 9 = .ok (.iload_n 2, 1) := by decide +kernel
theorem d_C_hasInHands_10 : decode b_C_hasInHands 10 = .ok (.invokevirtual 40, 3) := by decide +kernel
theorem d_C_hasInHands_13 : decode b_C_hasInHands 13 = .ok (.ifCond .eq 16, 3) := by decide +kernel
theorem d_C_hasInHands_16 : decode b_C_hasInHands 16 = .ok (.aload_n 0, 1) := by decide +kernel
theorem d_C_hasInHands_17 : decode b_C_hasInHands 17 = .ok (.iload_n 2, 1) := by decide +kernel
theorem d_C_hasInHands_18 : decode b_C_hasInHands 18 = .ok (.invokevirtual 74, 3) := by decide +kernel
theorem d_C_hasInHands_21 : decode b_C_hasInHands 21 = .ok (.iload_n 1, 1) := by decide +kernel
theorem d_C_hasInHands_22 : decode b_C_hasInHands 22 = .ok (.if_icmp .ne 7, 3) := by decide +kernel
theorem d_C_hasInHands_25 : decode b_C_hasInHands 25 = .ok (.iconst 1, 1) := by decide +kernel
theorem d_C_hasInHands_26 : decode b_C_hasInHands 26 = .ok (.goto 4, 3) := by decide +kernel
theorem d_C_hasInHands_29 : decode b_C_hasInHands 29 = .ok (.iconst 0, 1) := by decide +kernel
theorem d_C_hasInHands_30 : decode b_C_hasInHands 30 = .ok (.ireturn, 1) := by decide +kernel
theorem d_C_isFull_0 : decode b_C_isFull 0 = .ok (.aload_n 0, 1) := by decide +kernel
theorem d_C_isFull_1 : decode b_C_isFull 1 = .ok (.iload_n 1, 1) := by decide +kernel
theorem d_C_isFull_2 : decode b_C_isFull 2 = .ok (.invokevirtual 44, 3) := by decide +kernel
theorem d_C_isFull_5 : decode b_C_isFull 5 = .ok (.ifCond .eq 17, 3) := by decide +kernel
theorem d_C_isFull_8 : decode b_C_isFull 8 = .ok (.aload_n 0, 1) := by decide +kernel
theorem d_C_isFull_9 : decode b_C_isFull 9 = .ok (.iload_n 1, 1) := by decide +kernel
theorem d_C_isFull_10 : decode b_C_isFull 10 = .ok (.invokevirtual 80, 3) := by decide +kernel
theorem d_C_isFull_13 : decode b_C_isFull 13 = .ok (.bipush 8, 2) := by decide +kernel
theorem d_C_isFull_15 : decode b_C_isFull 15 = .ok (.if_icmp .lt 7, 3) := by decide +kernel
theorem d_C_isFull_18 : decode b_C_isFull 18 = .ok (.iconst 1, 1) := by decide +kernel
theorem d_C_isFull_19 : decode b_C_isFull 19 = .ok (.goto 4, 3) := by decide +kernel
theorem d_C_isFull_22 : decode b_C_isFull 22 = .ok (.iconst 0, 1) := by decide +kernel
theorem d_C_isFull_23 : decode b_C_isFull 23 = .ok (.ireturn, 1) := by decide +kernel
theorem d_C_countHeldBy_0 : decode b_C_countHeldBy 0 = .ok (.iconst 0, 1) := by decide +kernel
theorem d_C_countHeldBy_1 : decode b_C_countHeldBy 1 = .ok (.istore_n 2, 1) := by decide +kernel
theorem d_C_countHeldBy_2 : decode b_C_countHeldBy 2 = .ok (.iconst 0, 1) := by decide +kernel
theorem d_C_countHeldBy_3 : decode b_C_countHeldBy 3 = .ok (.istore_n 3, 1) := by decide +kernel
theorem d_C_countHeldBy_4 : decode b_C_countHeldBy 4 = .ok (.iload_n 3, 1) := by decide +kernel
theorem d_C_countHeldBy_5 : decode b_C_countHeldBy 5 = .ok (.aload_n 0, 1) := by decide +kernel
theorem d_C_countHeldBy_6 : decode b_C_countHeldBy 6 = .ok (.getfield 7, 3) := by decide +kernel
theorem d_C_countHeldBy_9 : decode b_C_countHeldBy 9 = .ok (.if_icmp .ge 22, 3) := by decide +kernel
theorem d_C_countHeldBy_12 : decode b_C_countHeldBy 12 = .ok (.aload_n 0, 1) := by decide +kernel
theorem d_C_countHeldBy_13 : decode b_C_countHeldBy 13 = .ok (.getfield 17, 3) := by decide +kernel
theorem d_C_countHeldBy_16 : decode b_C_countHeldBy 16 = .ok (.iload_n 3, 1) := by decide +kernel
theorem d_C_countHeldBy_17 : decode b_C_countHeldBy 17 = .ok (.iaload, 1) := by decide +kernel
theorem d_C_countHeldBy_18 : decode b_C_countHeldBy 18 = .ok (.iload_n 1, 1) := by decide +kernel
theorem d_C_countHeldBy_19 : decode b_C_countHeldBy 19 = .ok (.if_icmp .ne 6, 3) := by decide +kernel
theorem d_C_countHeldBy_22 : decode b_C_countHeldBy 22 = .ok (.iinc 2 1, 3) := by decide +kernel
theorem d_C_countHeldBy_25 : decode b_C_countHeldBy 25 = .ok (.iinc 3 1, 3) := by decide +kernel
theorem d_C_countHeldBy_28 : decode b_C_countHeldBy 28 = .ok (.goto (-24), 3) := by decide +kernel
theorem d_C_countHeldBy_31 : decode b_C_countHeldBy 31 = .ok (.iload_n 2, 1) := by decide +kernel
theorem d_C_countHeldBy_32 : decode b_C_countHeldBy 32 = .ok (.ireturn, 1) := by decide +kernel
theorem d_C_countWithin_0 : decode b_C_countWithin 0 = .ok (.iconst 0, 1) := by decide +kernel
theorem d_C_countWithin_1 : decode b_C_countWithin 1 = .ok (.istore_n 2, 1) := by decide +kernel
theorem d_C_countWithin_2 : decode b_C_countWithin 2 = .ok (.iconst 0, 1) := by decide +kernel
theorem d_C_countWithin_3 : decode b_C_countWithin 3 = .ok (.istore_n 3, 1) := by decide +kernel
theorem d_C_countWithin_4 : decode b_C_countWithin 4 = .ok (.iload_n 3, 1) := by decide +kernel
theorem d_C_countWithin_5 : decode b_C_countWithin 5 = .ok (.aload_n 0, 1) := by decide +kernel
theorem d_C_countWithin_6 : decode b_C_countWithin 6 = .ok (.getfield 7, 3) := by decide +kernel
theorem d_C_countWithin_9 : decode b_C_countWithin 9 = .ok (.if_icmp .ge 21, 3) := by decide +kernel
theorem d_C_countWithin_12 : decode b_C_countWithin 12 = .ok (.aload_n 0, 1) := by decide +kernel
theorem d_C_countWithin_13 : decode b_C_countWithin 13 = .ok (.iload_n 3, 1) := by decide +kernel
theorem d_C_countWithin_14 : decode b_C_countWithin 14 = .ok (.iload_n 1, 1) := by decide +kernel
theorem d_C_countWithin_15 : decode b_C_countWithin 15 = .ok (.invokevirtual 48, 3) := by decide +kernel
theorem d_C_countWithin_18 : decode b_C_countWithin 18 = .ok (.ifCond .eq 6, 3) := by decide +kernel
theorem d_C_countWithin_21 : decode b_C_countWithin 21 = .ok (.iinc 2 1, 3) := by decide +kernel
theorem d_C_countWithin_24 : decode b_C_countWithin 24 = .ok (.iinc 3 1, 3) := by decide +kernel
theorem d_C_countWithin_27 : decode b_C_countWithin 27 = .ok (.goto (-23), 3) := by decide +kernel
theorem d_C_countWithin_30 : decode b_C_countWithin 30 = .ok (.iload_n 2, 1) := by decide +kernel
theorem d_C_countWithin_31 : decode b_C_countWithin 31 = .ok (.ireturn, 1) := by decide +kernel
theorem d_C_isWithin_0 : decode b_C_isWithin 0 = .ok (.aload_n 0, 1) := by decide +kernel
theorem d_C_isWithin_1 : decode b_C_isWithin 1 = .ok (.iload_n 1, 1) := by decide +kernel
theorem d_C_isWithin_2 : decode b_C_isWithin 2 = .ok (.invokevirtual 74, 3) := by decide +kernel
theorem d_C_isWithin_5 : decode b_C_isWithin 5 = .ok (.istore_n 3, 1) := by decide +kernel
theorem d_C_isWithin_6 : decode b_C_isWithin 6 = .ok (.iconst 0, 1) := by decide +kernel
theorem d_C_isWithin_7 : decode b_C_isWithin 7 = .ok (.istore 4, 2) := by decide +kernel
theorem d_C_isWithin_9 : decode b_C_isWithin 9 = .ok (.iload 4, 2) := by decide +kernel
theorem d_C_isWithin_11 : decode b_C_isWithin 11 = .ok (.bipush 30, 2) := by decide +kernel
theorem d_C_isWithin_13 : decode b_C_isWithin 13 = .ok (.if_icmp .ge 27, 3) := by decide +kernel
theorem d_C_isWithin_16 : decode b_C_isWithin 16 = .ok (.iload_n 3, 1) := by decide +kernel
theorem d_C_isWithin_17 : decode b_C_isWithin 17 = .ok (.iconst (-1), 1) := by decide +kernel
theorem d_C_isWithin_18 : decode b_C_isWithin 18 = .ok (.if_icmp .eq 22, 3) := by decide +kernel
theorem d_C_isWithin_21 : decode b_C_isWithin 21 = .ok (.iload_n 3, 1) := by decide +kernel
theorem d_C_isWithin_22 : decode b_C_isWithin 22 = .ok (.iload_n 2, 1) := by decide +kernel
theorem d_C_isWithin_23 : decode b_C_isWithin 23 = .ok (.if_icmp .ne 5, 3) := by decide +kernel
theorem d_C_isWithin_26 : decode b_C_isWithin 26 = .ok (.iconst 1, 1) := by decide +kernel
theorem d_C_isWithin_27 : decode b_C_isWithin 27 = .ok (.ireturn, 1) := by decide +kernel
theorem d_C_isWithin_28 : decode b_C_isWithin 28 = .ok (.aload_n 0, 1) := by decide +kernel
theorem d_C_isWithin_29 : decode b_C_isWithin 29 = .ok (.iload_n 3, 1) := by decide +kernel
theorem d_C_isWithin_30 : decode b_C_isWithin 30 = .ok (.invokevirtual 74, 3) := by decide +kernel
theorem d_C_isWithin_33 : decode b_C_isWithin 33 = .ok (.istore_n 3, 1) := by decide +kernel
theorem d_C_isWithin_34 : decode b_C_isWithin 34 = .ok (.iinc 4 1, 3) := by decide +kernel
theorem d_C_isWithin_37 : decode b_C_isWithin 37 = .ok (.goto (-28), 3) := by decide +kernel
theorem d_C_isWithin_40 : decode b_C_isWithin 40 = .ok (.iconst 0, 1) := by decide +kernel
theorem d_C_isWithin_41 : decode b_C_isWithin 41 = .ok (.ireturn, 1) := by decide +kernel
theorem d_C_spaceOf_0 : decode b_C_spaceOf 0 = .ok (.aload_n 0, 1) := by decide +kernel
theorem d_C_spaceOf_1 : decode b_C_spaceOf 1 = .ok (.iload_n 1, 1) := by decide +kernel
theorem d_C_spaceOf_2 : decode b_C_spaceOf 2 = .ok (.invokevirtual 44, 3) := by decide +kernel
theorem d_C_spaceOf_5 : decode b_C_spaceOf 5 = .ok (.ifCond .ne 5, 3) := by decide +kernel
theorem d_C_spaceOf_8 : decode b_C_spaceOf 8 = .ok (.iload_n 1, 1) := by decide +kernel
theorem d_C_spaceOf_9 : decode b_C_spaceOf 9 = .ok (.ireturn, 1) := by decide +kernel
theorem d_C_spaceOf_10 : decode b_C_spaceOf 10 = .ok (.aload_n 0, 1) := by decide +kernel
theorem d_C_spaceOf_11 : decode b_C_spaceOf 11 = .ok (.iload_n 1, 1) := by decide +kernel
theorem d_C_spaceOf_12 : decode b_C_spaceOf 12 = .ok (.invokevirtual 74, 3) := by decide +kernel
theorem d_C_spaceOf_15 : decode b_C_spaceOf 15 = .ok (.istore_n 2, 1) := by decide +kernel
theorem d_C_spaceOf_16 : decode b_C_spaceOf 16 = .ok (.iconst 0, 1) := by decide +kernel
theorem d_C_spaceOf_17 : decode b_C_spaceOf 17 = .ok (.istore_n 3, 1) := by decide +kernel
theorem d_C_spaceOf_18 : decode b_C_spaceOf 18 = .ok (.iload_n 3, 1) := by decide +kernel
theorem d_C_spaceOf_19 : decode b_C_spaceOf 19 = .ok (.bipush 30, 2) := by decide +kernel
theorem d_C_spaceOf_21 : decode b_C_spaceOf 21 = .ok (.if_icmp .ge 30, 3) := by decide +kernel
theorem d_C_spaceOf_24 : decode b_C_spaceOf 24 = .ok (.iload_n 2, 1) := by decide +kernel
theorem d_C_spaceOf_25 : decode b_C_spaceOf 25 = .ok (.iconst (-1), 1) := by decide +kernel
theorem d_C_spaceOf_26 : decode b_C_spaceOf 26 = .ok (.if_icmp .eq 25, 3) := by decide +kernel
theorem d_C_spaceOf_29 : decode b_C_spaceOf 29 = .ok (.aload_n 0, 1) := by decide +kernel
theorem d_C_spaceOf_30 : decode b_C_spaceOf 30 = .ok (.iload_n 2, 1) := by decide +kernel
theorem d_C_spaceOf_31 : decode b_C_spaceOf 31 = .ok (.invokevirtual 89, 3) := by decide +kernel
theorem d_C_spaceOf_34 : decode b_C_spaceOf 34 = .ok (.ifCond .eq 5, 3) := by decide +kernel
theorem d_C_spaceOf_37 : decode b_C_spaceOf 37 = .ok (.iload_n 2, 1) := by decide +kernel
theorem d_C_spaceOf_38 : decode b_C_spaceOf 38 = .ok (.ireturn, 1) := by decide +kernel
theorem d_C_spaceOf_39 : decode b_C_spaceOf 39 = .ok (.aload_n 0, 1) := by decide +kernel
theorem d_C_spaceOf_40 : decode b_C_spaceOf 40 = .ok (.iload_n 2, 1) := by decide +kernel
theorem d_C_spaceOf_41 : decode b_C_spaceOf 41 = .ok (.invokevirtual 74, 3) := by decide +kernel
theorem d_C_spaceOf_44 : decode b_C_spaceOf 44 = .ok (.istore_n 2, 1) := by decide +kernel
theorem d_C_spaceOf_45 : decode b_C_spaceOf 45 = .ok (.iinc 3 1, 3) := by decide +kernel
theorem d_C_spaceOf_48 : decode b_C_spaceOf 48 = .ok (.goto (-30), 3) := by decide +kernel
theorem d_C_spaceOf_51 : decode b_C_spaceOf 51 = .ok (.iconst (-1), 1) := by decide +kernel
theorem d_C_spaceOf_52 : decode b_C_spaceOf 52 = .ok (.ireturn, 1) := by decide +kernel
theorem d_C_firstBarrier_0 : decode b_C_firstBarrier 0 = .ok (.aload_n 0, 1) := by decide +kernel
theorem d_C_firstBarrier_1 : decode b_C_firstBarrier 1 = .ok (.iload_n 1, 1) := by decide +kernel
theorem d_C_firstBarrier_2 : decode b_C_firstBarrier 2 = .ok (.iload_n 2, 1) := by decide +kernel
theorem d_C_firstBarrier_3 : decode b_C_firstBarrier 3 = .ok (.invokevirtual 112, 3) := by decide +kernel
theorem d_C_firstBarrier_6 : decode b_C_firstBarrier 6 = .ok (.istore_n 3, 1) := by decide +kernel
theorem d_C_firstBarrier_7 : decode b_C_firstBarrier 7 = .ok (.iload_n 3, 1) := by decide +kernel
theorem d_C_firstBarrier_8 : decode b_C_firstBarrier 8 = .ok (.iconst (-1), 1) := by decide +kernel
theorem d_C_firstBarrier_9 : decode b_C_firstBarrier 9 = .ok (.if_icmp .ne 6, 3) := by decide +kernel
theorem d_C_firstBarrier_12 : decode b_C_firstBarrier 12 = .ok (.bipush (-5), 2) := by decide +kernel
theorem d_C_firstBarrier_14 : decode b_C_firstBarrier 14 = .ok (.ireturn, 1) := by decide +kernel
theorem d_C_firstBarrier_15 : decode b_C_firstBarrier 15 = .ok (.aload_n 0, 1) := by decide +kernel
theorem d_C_firstBarrier_16 : decode b_C_firstBarrier 16 = .ok (.iload_n 1, 1) := by decide +kernel
theorem d_C_firstBarrier_17 : decode b_C_firstBarrier 17 = .ok (.iload_n 3, 1) := by decide +kernel
theorem d_C_firstBarrier_18 : decode b_C_firstBarrier 18 = .ok (.invokevirtual 115, 3) := by decide +kernel
theorem d_C_firstBarrier_21 : decode b_C_firstBarrier 21 = .ok (.istore 4, 2) := by decide +kernel
theorem d_C_firstBarrier_23 : decode b_C_firstBarrier 23 = .ok (.iload 4, 2) := by decide +kernel
theorem d_C_firstBarrier_25 : decode b_C_firstBarrier 25 = .ok (.iconst (-1), 1) := by decide +kernel
theorem d_C_firstBarrier_26 : decode b_C_firstBarrier 26 = .ok (.if_icmp .eq 8, 3) := by decide +kernel
theorem d_C_firstBarrier_29 : decode b_C_firstBarrier 29 = .ok (.iload 4, 2) := by decide +kernel
theorem d_C_firstBarrier_31 : decode b_C_firstBarrier 31 = .ok (.goto 9, 3) := by decide +kernel
theorem d_C_firstBarrier_34 : decode b_C_firstBarrier 34 = .ok (.aload_n 0, 1) := by decide +kernel
theorem d_C_firstBarrier_35 : decode b_C_firstBarrier 35 = .ok (.iload_n 3, 1) := by decide +kernel
theorem d_C_firstBarrier_36 : decode b_C_firstBarrier 36 = .ok (.iload_n 2, 1) := by decide +kernel
theorem d_C_firstBarrier_37 : decode b_C_firstBarrier 37 = .ok (.invokevirtual 118, 3) := by decide +kernel
theorem d_C_firstBarrier_40 : decode b_C_firstBarrier 40 = .ok (.ireturn, 1) := by decide +kernel
theorem d_C_turningPoint_0 : decode b_C_turningPoint 0 = .ok (.iload_n 1, 1) := by decide +kernel
theorem d_C_turningPoint_1 : decode b_C_turningPoint 1 = .ok (.istore_n 3, 1) := by decide +kernel
theorem d_C_turningPoint_2 : decode b_C_turningPoint 2 = .ok (.iconst 0, 1) := by decide +kernel
theorem d_C_turningPoint_3 : decode b_C_turningPoint 3 = .ok (.istore 4, 2) := by decide +kernel
theorem d_C_turningPoint_5 : decode b_C_turningPoint 5 = .ok (.iload 4, 2) := by decide +kernel
theorem d_C_turningPoint_7 : decode b_C_turningPoint 7 = .ok (.bipush 30, 2) := by decide +kernel
theorem d_C_turningPoint_9 : decode b_C_turningPoint 9 = .ok (.if_icmp .ge 36, 3) := by decide +kernel
theorem d_C_turningPoint_12 : decode b_C_turningPoint 12 = .ok (.iload_n 3, 1) := by decide +kernel
theorem d_C_turningPoint_13 : decode b_C_turningPoint 13 = .ok (.iconst (-1), 1) := by decide +kernel
theorem d_C_turningPoint_14 : decode b_C_turningPoint 14 = .ok (.if_icmp .eq 31, 3) := by decide +kernel
theorem d_C_turningPoint_17 : decode b_C_turningPoint 17 = .ok (.iload_n 3, 1) := by decide +kernel
theorem d_C_turningPoint_18 : decode b_C_turningPoint 18 = .ok (.iload_n 2, 1) := by decide +kernel
theorem d_C_turningPoint_19 : decode b_C_turningPoint 19 = .ok (.if_icmp .eq 12, 3) := by decide +kernel
theorem d_C_turningPoint_22 : decode b_C_turningPoint 22 = .ok (.aload_n 0, 1) := by decide +kernel
theorem d_C_turningPoint_23 : decode b_C_turningPoint 23 = .ok (.iload_n 2, 1) := by decide +kernel
theorem d_C_turningPoint_24 : decode b_C_turningPoint 24 = .ok (.iload_n 3, 1) := by decide +kernel
theorem d_C_turningPoint_25 : decode b_C_turningPoint 25 = .ok (.invokevirtual 48, 3) := by decide +kernel
theorem d_C_turningPoint_28 : decode b_C_turningPoint 28 = .ok (.ifCond .eq 5, 3) := by decide +kernel
theorem d_C_turningPoint_31 : decode b_C_turningPoint 31 = .ok (.iload_n 3, 1) := by decide +kernel
theorem d_C_turningPoint_32 : decode b_C_turningPoint 32 = .ok (.ireturn, 1) := by decide +kernel
theorem d_C_turningPoint_33 : decode b_C_turningPoint 33 = .ok (.aload_n 0, 1) := by decide +kernel
theorem d_C_turningPoint_34 : decode b_C_turningPoint 34 = .ok (.iload_n 3, 1) := by decide +kernel
theorem d_C_turningPoint_35 : decode b_C_turningPoint 35 = .ok (.invokevirtual 74, 3) := by decide +kernel
theorem d_C_turningPoint_38 : decode b_C_turningPoint 38 = .ok (.istore_n 3, 1) := by decide +kernel
theorem d_C_turningPoint_39 : decode b_C_turningPoint 39 = .ok (.iinc 4 1, 3) := by decide +kernel
theorem d_C_turningPoint_42 : decode b_C_turningPoint 42 = .ok (.goto (-37), 3) := by decide +kernel
theorem d_C_turningPoint_45 : decode b_C_turningPoint 45 = .ok (.iconst (-1), 1) := by decide +kernel
theorem d_C_turningPoint_46 : decode b_C_turningPoint 46 = .ok (.ireturn, 1) := by decide +kernel
theorem d_C_firstBarrierOut_0 : decode b_C_firstBarrierOut 0 = .ok (.iload_n 1, 1) := by decide +kernel
theorem d_C_firstBarrierOut_1 : decode b_C_firstBarrierOut 1 = .ok (.istore_n 3, 1) := by decide +kernel
theorem d_C_firstBarrierOut_2 : decode b_C_firstBarrierOut 2 = .ok (.iconst 0, 1) := by decide +kernel
theorem d_C_firstBarrierOut_3 : decode b_C_firstBarrierOut 3 = .ok (.istore 4, 2) := by decide +kernel
theorem d_C_firstBarrierOut_5 : decode b_C_firstBarrierOut 5 = .ok (.iload 4, 2) := by decide +kernel
theorem d_C_firstBarrierOut_7 : decode b_C_firstBarrierOut 7 = .ok (.bipush 30, 2) := by decide +kernel
theorem d_C_firstBarrierOut_9 : decode b_C_firstBarrierOut 9 = .ok (.if_icmp .ge 35, 3) := by decide +kernel
theorem d_C_firstBarrierOut_12 : decode b_C_firstBarrierOut 12 = .ok (.iload_n 3, 1) := by decide +kernel
theorem d_C_firstBarrierOut_13 : decode b_C_firstBarrierOut 13 = .ok (.iload_n 2, 1) := by decide +kernel
theorem d_C_firstBarrierOut_14 : decode b_C_firstBarrierOut 14 = .ok (.if_icmp .eq 30, 3) := by decide +kernel
theorem d_C_firstBarrierOut_17 : decode b_C_firstBarrierOut 17 = .ok (.iload_n 3, 1) := by decide +kernel
theorem d_C_firstBarrierOut_18 : decode b_C_firstBarrierOut 18 = .ok (.iconst (-1), 1) := by decide +kernel
theorem d_C_firstBarrierOut_19 : decode b_C_firstBarrierOut 19 = .ok (.if_icmp .eq 25, 3) := by decide +kernel
theorem d_C_firstBarrierOut_22 : decode b_C_firstBarrierOut 22 = .ok (.aload_n 0, 1) := by decide +kernel
theorem d_C_firstBarrierOut_23 : decode b_C_firstBarrierOut 23 = .ok (.iload_n 3, 1) := by decide +kernel
theorem d_C_firstBarrierOut_24 : decode b_C_firstBarrierOut 24 = .ok (.invokevirtual 71, 3) := by decide +kernel
theorem d_C_firstBarrierOut_27 : decode b_C_firstBarrierOut 27 = .ok (.ifCond .eq 5, 3) := by decide +kernel
theorem d_C_firstBarrierOut_30 : decode b_C_firstBarrierOut 30 = .ok (.iload_n 3, 1) := by decide +kernel
theorem d_C_firstBarrierOut_31 : decode b_C_firstBarrierOut 31 = .ok (.ireturn, 1) := by decide +kernel
theorem d_C_firstBarrierOut_32 : decode b_C_firstBarrierOut 32 = .ok (.aload_n 0, 1) := by decide +kernel
theorem d_C_firstBarrierOut_33 : decode b_C_firstBarrierOut 33 = .ok (.iload_n 3, 1) := by decide +kernel
theorem d_C_firstBarrierOut_34 : decode b_C_firstBarrierOut 34 = .ok (.invokevirtual 74, 3) := by decide +kernel
theorem d_C_firstBarrierOut_37 : decode b_C_firstBarrierOut 37 = .ok (.istore_n 3, 1) := by decide +kernel
theorem d_C_firstBarrierOut_38 : decode b_C_firstBarrierOut 38 = .ok (.iinc 4 1, 3) := by decide +kernel
theorem d_C_firstBarrierOut_41 : decode b_C_firstBarrierOut 41 = .ok (.goto (-36), 3) := by decide +kernel
theorem d_C_firstBarrierOut_44 : decode b_C_firstBarrierOut 44 = .ok (.iconst (-1), 1) := by decide +kernel
theorem d_C_firstBarrierOut_45 : decode b_C_firstBarrierOut 45 = .ok (.ireturn, 1) := by decide +kernel
theorem d_C_firstBarrierIn_0 : decode b_C_firstBarrierIn 0 = .ok (.iload_n 1, 1) := by decide +kernel
theorem d_C_firstBarrierIn_1 : decode b_C_firstBarrierIn 1 = .ok (.iload_n 2, 1) := by decide +kernel
theorem d_C_firstBarrierIn_2 : decode b_C_firstBarrierIn 2 = .ok (.if_icmp .ne 5, 3) := by decide +kernel
theorem d_C_firstBarrierIn_5 : decode b_C_firstBarrierIn 5 = .ok (.iconst (-1), 1) := by decide +kernel
theorem d_C_firstBarrierIn_6 : decode b_C_firstBarrierIn 6 = .ok (.ireturn, 1) := by decide +kernel
theorem d_C_firstBarrierIn_7 : decode b_C_firstBarrierIn 7 = .ok (.iconst (-1), 1) := by decide +kernel
theorem d_C_firstBarrierIn_8 : decode b_C_firstBarrierIn 8 = .ok (.istore_n 3, 1) := by decide +kernel
theorem d_C_firstBarrierIn_9 : decode b_C_firstBarrierIn 9 = .ok (.aload_n 0, 1) := by decide +kernel
theorem d_C_firstBarrierIn_10 : decode b_C_firstBarrierIn 10 = .ok (.iload_n 2, 1) := by decide +kernel
theorem d_C_firstBarrierIn_11 : decode b_C_firstBarrierIn 11 = .ok (.invokevirtual 74, 3) := by decide +kernel
theorem d_C_firstBarrierIn_14 : decode b_C_firstBarrierIn 14 = .ok (.istore 4, 2) := by decide +kernel
theorem d_C_firstBarrierIn_16 : decode b_C_firstBarrierIn 16 = .ok (.iconst 0, 1) := by decide +kernel
theorem d_C_firstBarrierIn_17 : decode b_C_firstBarrierIn 17 = .ok (.istore 5, 2) := by decide +kernel
theorem d_C_firstBarrierIn_19 : decode b_C_firstBarrierIn 19 = .ok (.iload 5, 2) := by decide +kernel
theorem d_C_firstBarrierIn_21 : decode b_C_firstBarrierIn 21 = .ok (.bipush 30, 2) := by decide +kernel
theorem d_C_firstBarrierIn_23 : decode b_C_firstBarrierIn 23 = .ok (.if_icmp .ge 50, 3) := by decide +kernel
theorem d_C_firstBarrierIn_26 : decode b_C_firstBarrierIn 26 = .ok (.iload 4, 2) := by decide +kernel
theorem d_C_firstBarrierIn_28 : decode b_C_firstBarrierIn 28 = .ok (.iload_n 1, 1) := by decide +kernel
theorem d_C_firstBarrierIn_29 : decode b_C_firstBarrierIn 29 = .ok (.if_icmp .eq 44, 3) := by decide +kernel
theorem d_C_firstBarrierIn_32 : decode b_C_firstBarrierIn 32 = .ok (.iload 4, 2) := by decide +kernel
theorem d_C_firstBarrierIn_34 : decode b_C_firstBarrierIn 34 = .ok (.iconst (-1), 1) := by decide +kernel
theorem d_C_firstBarrierIn_35 : decode b_C_firstBarrierIn 35 = .ok (.if_icmp .eq 38, 3) := by decide +kernel
theorem d_C_firstBarrierIn_38 : decode b_C_firstBarrierIn 38 = .ok (.aload_n 0, 1) := by decide +kernel
theorem d_C_firstBarrierIn_39 : decode b_C_firstBarrierIn 39 = .ok (.iload 4, 2) := by decide +kernel
theorem d_C_firstBarrierIn_41 : decode b_C_firstBarrierIn 41 = .ok (.invokevirtual 71, 3) := by decide +kernel
theorem d_C_firstBarrierIn_44 : decode b_C_firstBarrierIn 44 = .ok (.ifCond .ne 12, 3) := by decide +kernel
theorem d_C_firstBarrierIn_47 : decode b_C_firstBarrierIn 47 = .ok (.aload_n 0, 1) := by decide +kernel
theorem d_C_firstBarrierIn_48 : decode b_C_firstBarrierIn 48 = .ok (.iload 4, 2) := by decide +kernel
theorem d_C_firstBarrierIn_50 : decode b_C_firstBarrierIn 50 = .ok (.invokevirtual 58, 3) := by decide +kernel
theorem d_C_firstBarrierIn_53 : decode b_C_firstBarrierIn 53 = .ok (.ifCond .eq 6, 3) := by decide +kernel
theorem d_C_firstBarrierIn_56 : decode b_C_firstBarrierIn 56 = .ok (.iload 4, 2) := by decide +kernel
theorem d_C_firstBarrierIn_58 : decode b_C_firstBarrierIn 58 = .ok (.istore_n 3, 1) := by decide +kernel
theorem d_C_firstBarrierIn_59 : decode b_C_firstBarrierIn 59 = .ok (.aload_n 0, 1) := by decide +kernel
theorem d_C_firstBarrierIn_60 : decode b_C_firstBarrierIn 60 = .ok (.iload 4, 2) := by decide +kernel
theorem d_C_firstBarrierIn_62 : decode b_C_firstBarrierIn 62 = .ok (.invokevirtual 74, 3) := by decide +kernel
theorem d_C_firstBarrierIn_65 : decode b_C_firstBarrierIn 65 = .ok (.istore 4, 2) := by decide +kernel
theorem d_C_firstBarrierIn_67 : decode b_C_firstBarrierIn 67 = .ok (.iinc 5 1, 3) := by decide +kernel
theorem d_C_firstBarrierIn_70 : decode b_C_firstBarrierIn 70 = .ok (.goto (-51), 3) := by decide +kernel
theorem d_C_firstBarrierIn_73 : decode b_C_firstBarrierIn 73 = .ok (.iload_n 3, 1) := by decide +kernel
theorem d_C_firstBarrierIn_74 : decode b_C_firstBarrierIn 74 = .ok (.ireturn, 1) := by decide +kernel
theorem d_C_wallLoss_0 : decode b_C_wallLoss 0 = .ok (.aload_n 0, 1) := by decide +kernel
theorem d_C_wallLoss_1 : decode b_C_wallLoss 1 = .ok (.iload_n 1, 1) := by decide +kernel
theorem d_C_wallLoss_2 : decode b_C_wallLoss 2 = .ok (.invokevirtual 44, 3) := by decide +kernel
theorem d_C_wallLoss_5 : decode b_C_wallLoss 5 = .ok (.iconst 1, 1) := by decide +kernel
theorem d_C_wallLoss_6 : decode b_C_wallLoss 6 = .ok (.if_icmp .eq 5, 3) := by decide +kernel
theorem d_C_wallLoss_9 : decode b_C_wallLoss 9 = .ok (.iconst (-1), 1) := by decide +kernel
theorem d_C_wallLoss_10 : decode b_C_wallLoss 10 = .ok (.ireturn, 1) := by decide +kernel
theorem d_C_wallLoss_11 : decode b_C_wallLoss 11 = .ok (.aload_n 0, 1) := by decide +kernel
theorem d_C_wallLoss_12 : decode b_C_wallLoss 12 = .ok (.iload_n 1, 1) := by decide +kernel
theorem d_C_wallLoss_13 : decode b_C_wallLoss 13 = .ok (.iconst 0, 1) := by decide +kernel
theorem d_C_wallLoss_14 : decode b_C_wallLoss 14 = .ok (.invokevirtual 86, 3) := by decide +kernel
theorem d_C_wallLoss_17 : decode b_C_wallLoss 17 = .ok (.iconst 1, 1) := by decide +kernel
theorem d_C_wallLoss_18 : decode b_C_wallLoss 18 = .ok (.if_icmp .ne 5, 3) := by decide +kernel
theorem d_C_wallLoss_21 : decode b_C_wallLoss 21 = .ok (.iconst 0, 1) := by decide +kernel
theorem d_C_wallLoss_22 : decode b_C_wallLoss 22 = .ok (.ireturn, 1) := by decide +kernel
theorem d_C_wallLoss_23 : decode b_C_wallLoss 23 = .ok (.iload_n 2, 1) := by decide +kernel
theorem d_C_wallLoss_24 : decode b_C_wallLoss 24 = .ok (.iconst 3, 1) := by decide +kernel
theorem d_C_wallLoss_25 : decode b_C_wallLoss 25 = .ok (.if_icmp .ne 5, 3) := by decide +kernel
theorem d_C_wallLoss_28 : decode b_C_wallLoss 28 = .ok (.iconst 2, 1) := by decide +kernel
theorem d_C_wallLoss_29 : decode b_C_wallLoss 29 = .ok (.ireturn, 1) := by decide +kernel
theorem d_C_wallLoss_30 : decode b_C_wallLoss 30 = .ok (.aload_n 0, 1) := by decide +kernel
theorem d_C_wallLoss_31 : decode b_C_wallLoss 31 = .ok (.iload_n 1, 1) := by decide +kernel
theorem d_C_wallLoss_32 : decode b_C_wallLoss 32 = .ok (.iconst 1, 1) := by decide +kernel
theorem d_C_wallLoss_33 : decode b_C_wallLoss 33 = .ok (.invokevirtual 86, 3) := by decide +kernel
theorem d_C_wallLoss_36 : decode b_C_wallLoss 36 = .ok (.iconst 1, 1) := by decide +kernel
theorem d_C_wallLoss_37 : decode b_C_wallLoss 37 = .ok (.if_icmp .ne 7, 3) := by decide +kernel
theorem d_C_wallLoss_40 : decode b_C_wallLoss 40 = .ok (.iconst 1, 1) := by decide +kernel
theorem d_C_wallLoss_41 : decode b_C_wallLoss 41 = .ok (.goto 4, 3) := by decide +kernel
theorem d_C_wallLoss_44 : decode b_C_wallLoss 44 = .ok (.iconst (-1), 1) := by decide +kernel
theorem d_C_wallLoss_45 : decode b_C_wallLoss 45 = .ok (.ireturn, 1) := by decide +kernel
theorem d_C_doorLoss_0 : decode b_C_doorLoss 0 = .ok (.aload_n 0, 1) := by decide +kernel
theorem d_C_doorLoss_1 : decode b_C_doorLoss 1 = .ok (.iload_n 1, 1) := by decide +kernel
theorem d_C_doorLoss_2 : decode b_C_doorLoss 2 = .ok (.invokevirtual 55, 3) := by decide +kernel
theorem d_C_doorLoss_5 : decode b_C_doorLoss 5 = .ok (.ifCond .ne 5, 3) := by decide +kernel
theorem d_C_doorLoss_8 : decode b_C_doorLoss 8 = .ok (.iconst (-1), 1) := by decide +kernel
theorem d_C_doorLoss_9 : decode b_C_doorLoss 9 = .ok (.ireturn, 1) := by decide +kernel
theorem d_C_doorLoss_10 : decode b_C_doorLoss 10 = .ok (.aload_n 0, 1) := by decide +kernel
theorem d_C_doorLoss_11 : decode b_C_doorLoss 11 = .ok (.getfield 34, 3) := by decide +kernel
theorem d_C_doorLoss_14 : decode b_C_doorLoss 14 = .ok (.iconst 0, 1) := by decide +kernel
theorem d_C_doorLoss_15 : decode b_C_doorLoss 15 = .ok (.aaload, 1) := by decide +kernel
theorem d_C_doorLoss_16 : decode b_C_doorLoss 16 = .ok (.iload_n 1, 1) := by decide +kernel
theorem d_C_doorLoss_17 : decode b_C_doorLoss 17 = .ok (.iaload, 1) := by decide +kernel
theorem d_C_doorLoss_18 : decode b_C_doorLoss 18 = .ok (.iconst 1, 1) := by decide +kernel
theorem d_C_doorLoss_19 : decode b_C_doorLoss 19 = .ok (.if_icmp .ne 7, 3) := by decide +kernel
theorem d_C_doorLoss_22 : decode b_C_doorLoss 22 = .ok (.iconst 1, 1) := by decide +kernel
theorem d_C_doorLoss_23 : decode b_C_doorLoss 23 = .ok (.goto 4, 3) := by decide +kernel
theorem d_C_doorLoss_26 : decode b_C_doorLoss 26 = .ok (.iconst 0, 1) := by decide +kernel
theorem d_C_doorLoss_27 : decode b_C_doorLoss 27 = .ok (.istore_n 3, 1) := by decide +kernel
theorem d_C_doorLoss_28 : decode b_C_doorLoss 28 = .ok (.iload_n 2, 1) := by decide +kernel
theorem d_C_doorLoss_29 : decode b_C_doorLoss 29 = .ok (.iconst 3, 1) := by decide +kernel
theorem d_C_doorLoss_30 : decode b_C_doorLoss 30 = .ok (.if_icmp .ne 13, 3) := by decide +kernel
theorem d_C_doorLoss_33 : decode b_C_doorLoss 33 = .ok (.iload_n 3, 1) := by decide +kernel
theorem d_C_doorLoss_34 : decode b_C_doorLoss 34 = .ok (.ifCond .eq 7, 3) := by decide +kernel
theorem d_C_doorLoss_37 : decode b_C_doorLoss 37 = .ok (.iconst 1, 1) := by decide +kernel
theorem d_C_doorLoss_38 : decode b_C_doorLoss 38 = .ok (.goto 4, 3) := by decide +kernel
theorem d_C_doorLoss_41 : decode b_C_doorLoss 41 = .ok (.iconst 3, 1) := by decide +kernel
theorem d_C_doorLoss_42 : decode b_C_doorLoss 42 = .ok (.ireturn, 1) := by decide +kernel
theorem d_C_doorLoss_43 : decode b_C_doorLoss 43 = .ok (.iload_n 3, 1) := by decide +kernel
theorem d_C_doorLoss_44 : decode b_C_doorLoss 44 = .ok (.ifCond .eq 5, 3) := by decide +kernel
theorem d_C_doorLoss_47 : decode b_C_doorLoss 47 = .ok (.iconst 2, 1) := by decide +kernel
theorem d_C_doorLoss_48 : decode b_C_doorLoss 48 = .ok (.ireturn, 1) := by decide +kernel
theorem d_C_doorLoss_49 : decode b_C_doorLoss 49 = .ok (.aload_n 0, 1) := by decide +kernel
theorem d_C_doorLoss_50 : decode b_C_doorLoss 50 = .ok (.getfield 34, 3) := by decide +kernel
theorem d_C_doorLoss_53 : decode b_C_doorLoss 53 = .ok (.iconst 1, 1) := by decide +kernel
theorem d_C_doorLoss_54 : decode b_C_doorLoss 54 = .ok (.aaload, 1) := by decide +kernel
theorem d_C_doorLoss_55 : decode b_C_doorLoss 55 = .ok (.iload_n 1, 1) := by decide +kernel
theorem d_C_doorLoss_56 : decode b_C_doorLoss 56 = .ok (.iaload, 1) := by decide +kernel
theorem d_C_doorLoss_57 : decode b_C_doorLoss 57 = .ok (.iconst 1, 1) := by decide +kernel
theorem d_C_doorLoss_58 : decode b_C_doorLoss 58 = .ok (.if_icmp .ne 7, 3) := by decide +kernel
theorem d_C_doorLoss_61 : decode b_C_doorLoss 61 = .ok (.iconst 3, 1) := by decide +kernel
theorem d_C_doorLoss_62 : decode b_C_doorLoss 62 = .ok (.goto 4, 3) := by decide +kernel
theorem d_C_doorLoss_65 : decode b_C_doorLoss 65 = .ok (.iconst (-1), 1) := by decide +kernel
theorem d_C_doorLoss_66 : decode b_C_doorLoss 66 = .ok (.ireturn, 1) := by decide +kernel
theorem d_C_fillFromAllThings_0 : decode b_C_fillFromAllThings 0 = .ok (.aload_n 0, 1) := by decide +kernel
theorem d_C_fillFromAllThings_1 : decode b_C_fillFromAllThings 1 = .ok (.getfield 37, 3) := by decide +kernel
theorem d_C_fillFromAllThings_4 : decode b_C_fillFromAllThings 4 = .ok (.iconst 0, 1) := by decide +kernel
theorem d_C_fillFromAllThings_5 : decode b_C_fillFromAllThings 5 = .ok (.invokestatic 121, 3) := by decide +kernel
theorem d_C_fillFromAllThings_8 : decode b_C_fillFromAllThings 8 = .ok (.iconst 0, 1) := by decide +kernel
theorem d_C_fillFromAllThings_9 : decode b_C_fillFromAllThings 9 = .ok (.istore_n 2, 1) := by decide +kernel
theorem d_C_fillFromAllThings_10 : decode b_C_fillFromAllThings 10 = .ok (.iload_n 2, 1) := by decide +kernel
theorem d_C_fillFromAllThings_11 : decode b_C_fillFromAllThings 11 = .ok (.aload_n 0, 1) := by decide +kernel
theorem d_C_fillFromAllThings_12 : decode b_C_fillFromAllThings 12 = .ok (.getfield 7, 3) := by decide +kernel
theorem d_C_fillFromAllThings_15 : decode b_C_fillFromAllThings 15 = .ok (.if_icmp .ge 41, 3) := by decide +kernel
theorem d_C_fillFromAllThings_18 : decode b_C_fillFromAllThings 18 = .ok (.aload_n 0, 1) := by decide +kernel
theorem d_C_fillFromAllThings_19 : decode b_C_fillFromAllThings 19 = .ok (.iload_n 2, 1) := by decide +kernel
theorem d_C_fillFromAllThings_20 : decode b_C_fillFromAllThings 20 = .ok (.invokevirtual 77, 3) := by decide +kernel
theorem d_C_fillFromAllThings_23 : decode b_C_fillFromAllThings 23 = .ok (.istore_n 3, 1) := by decide +kernel
theorem d_C_fillFromAllThings_24 : decode b_C_fillFromAllThings 24 = .ok (.iload_n 3, 1) := by decide +kernel
theorem d_C_fillFromAllThings_25 : decode b_C_fillFromAllThings 25 = .ok (.iconst (-1), 1) := by decide +kernel
theorem d_C_fillFromAllThings_26 : decode b_C_fillFromAllThings 26 = .ok (.if_icmp .eq 24, 3) := by decide +kernel
theorem d_C_fillFromAllThings_29 : decode b_C_fillFromAllThings 29 = .ok (.aload_n 0, 1) := by decide +kernel
theorem d_C_fillFromAllThings_30 : decode b_C_fillFromAllThings 30 = .ok (.getfield 37, 3) := by decide +kernel
theorem d_C_fillFromAllThings_33 : decode b_C_fillFromAllThings 33 = .ok (.iload_n 3, 1) := by decide +kernel
theorem d_C_fillFromAllThings_34 : decode b_C_fillFromAllThings 34 = .ok (.aload_n 0, 1) := by decide +kernel
theorem d_C_fillFromAllThings_35 : decode b_C_fillFromAllThings 35 = .ok (.getfield 37, 3) := by decide +kernel
theorem d_C_fillFromAllThings_38 : decode b_C_fillFromAllThings 38 = .ok (.iload_n 3, 1) := by decide +kernel
theorem d_C_fillFromAllThings_39 : decode b_C_fillFromAllThings 39 = .ok (.iaload, 1) := by decide +kernel
theorem d_C_fillFromAllThings_40 : decode b_C_fillFromAllThings 40 = .ok (.aload_n 0, 1) := by decide +kernel
theorem d_C_fillFromAllThings_41 : decode b_C_fillFromAllThings 41 = .ok (.iload_n 2, 1) := by decide +kernel
theorem d_C_fillFromAllThings_42 : decode b_C_fillFromAllThings 42 = .ok (.iload_n 1, 1) := by decide +kernel
theorem d_C_fillFromAllThings_43 : decode b_C_fillFromAllThings 43 = .ok (.invokevirtual 86, 3) := by decide +kernel
theorem d_C_fillFromAllThings_46 : decode b_C_fillFromAllThings 46 = .ok (.invokestatic 127, 3) := by decide +kernel
theorem d_C_fillFromAllThings_49 : decode b_C_fillFromAllThings 49 = .ok (.iastore, 1) := by decide +kernel
theorem d_C_fillFromAllThings_50 : decode b_C_fillFromAllThings 50 = .ok (.iinc 2 1, 3) := by decide +kernel
theorem d_C_fillFromAllThings_53 : decode b_C_fillFromAllThings 53 = .ok (.goto (-43), 3) := by decide +kernel
theorem d_C_fillFromAllThings_56 : decode b_C_fillFromAllThings 56 = .ok (.aload_n 0, 1) := by decide +kernel
theorem d_C_fillFromAllThings_57 : decode b_C_fillFromAllThings 57 = .ok (.iload_n 1, 1) := by decide +kernel
theorem d_C_fillFromAllThings_58 : decode b_C_fillFromAllThings 58 = .ok (.invokevirtual 132, 3) := by decide +kernel
theorem d_C_fillFromAllThings_61 : decode b_C_fillFromAllThings 61 = .ok (.return_, 1) := by decide +kernel
theorem d_C_fillFromOneSpace_0 : decode b_C_fillFromOneSpace 0 = .ok (.aload_n 0, 1) := by decide +kernel
theorem d_C_fillFromOneSpace_1 : decode b_C_fillFromOneSpace 1 = .ok (.getfield 37, 3) := by decide +kernel
theorem d_C_fillFromOneSpace_4 : decode b_C_fillFromOneSpace 4 = .ok (.iconst 0, 1) := by decide +kernel
theorem d_C_fillFromOneSpace_5 : decode b_C_fillFromOneSpace 5 = .ok (.invokestatic 121, 3) := by decide +kernel
theorem d_C_fillFromOneSpace_8 : decode b_C_fillFromOneSpace 8 = .ok (.aload_n 0, 1) := by decide +kernel
theorem d_C_fillFromOneSpace_9 : decode b_C_fillFromOneSpace 9 = .ok (.iload_n 1, 1) := by decide +kernel
theorem d_C_fillFromOneSpace_10 : decode b_C_fillFromOneSpace 10 = .ok (.invokevirtual 40, 3) := by decide +kernel
theorem d_C_fillFromOneSpace_13 : decode b_C_fillFromOneSpace 13 = .ok (.ifCond .eq 12, 3) := by decide +kernel
theorem d_C_fillFromOneSpace_16 : decode b_C_fillFromOneSpace 16 = .ok (.aload_n 0, 1) := by decide +kernel
theorem d_C_fillFromOneSpace_17 : decode b_C_fillFromOneSpace 17 = .ok (.getfield 37, 3) := by decide +kernel
theorem d_C_fillFromOneSpace_20 : decode b_C_fillFromOneSpace 20 = .ok (.iload_n 1, 1) := by decide +kernel
theorem d_C_fillFromOneSpace_21 : decode b_C_fillFromOneSpace 21 = .ok (.sipush 1000, 3) := by decide +kernel
theorem d_C_fillFromOneSpace_24 : decode b_C_fillFromOneSpace 24 = .ok (.iastore, 1) := by decide +kernel
theorem d_C_fillFromOneSpace_25 : decode b_C_fillFromOneSpace 25 = .ok (.aload_n 0, 1) := by decide +kernel
theorem d_C_fillFromOneSpace_26 : decode b_C_fillFromOneSpace 26 = .ok (.iload_n 2, 1) := by decide +kernel
theorem d_C_fillFromOneSpace_27 : decode b_C_fillFromOneSpace 27 = .ok (.invokevirtual 132, 3) := by decide +kernel
theorem d_C_fillFromOneSpace_30 : decode b_C_fillFromOneSpace 30 = .ok (.return_, 1) := by decide +kernel
theorem d_C_lossAt_0 : decode b_C_lossAt 0 = .ok (.aload_n 0, 1) := by decide +kernel
theorem d_C_lossAt_1 : decode b_C_lossAt 1 = .ok (.iload_n 1, 1) := by decide +kernel
theorem d_C_lossAt_2 : decode b_C_lossAt 2 = .ok (.invokevirtual 40, 3) := by decide +kernel
theorem d_C_lossAt_5 : decode b_C_lossAt 5 = .ok (.ifCond .eq 25, 3) := by decide +kernel
theorem d_C_lossAt_8 : decode b_C_lossAt 8 = .ok (.aload_n 0, 1) := by decide +kernel
theorem d_C_lossAt_9 : decode b_C_lossAt 9 = .ok (.getfield 37, 3) := by decide +kernel
theorem d_C_lossAt_12 : decode b_C_lossAt 12 = .ok (.iload_n 1, 1) := by decide +kernel
theorem d_C_lossAt_13 : decode b_C_lossAt 13 = .ok (.iaload, 1) := by decide +kernel
theorem d_C_lossAt_14 : decode b_C_lossAt 14 = .ok (.ifCond .le 16, 3) := by decide +kernel
theorem d_C_lossAt_17 : decode b_C_lossAt 17 = .ok (.sipush 1000, 3) := by decide +kernel
theorem d_C_lossAt_20 : decode b_C_lossAt 20 = .ok (.aload_n 0, 1) := by decide +kernel
theorem d_C_lossAt_21 : decode b_C_lossAt 21 = .ok (.getfield 37, 3) := by decide +kernel
theorem d_C_lossAt_24 : decode b_C_lossAt 24 = .ok (.iload_n 1, 1) := by decide +kernel
theorem d_C_lossAt_25 : decode b_C_lossAt 25 = .ok (.iaload, 1) := by decide +kernel
theorem d_C_lossAt_26 : decode b_C_lossAt 26 = .ok (.isub, 1) := by decide +kernel
theorem d_C_lossAt_27 : decode b_C_lossAt 27 = .ok (.goto 4, 3) := by decide +kernel
theorem d_C_lossAt_30 : decode b_C_lossAt 30 = .ok (.iconst (-1), 1) := by decide +kernel
theorem d_C_lossAt_31 : decode b_C_lossAt 31 = .ok (.ireturn, 1) := by decide +kernel
theorem d_C_spread_0 : decode b_C_spread 0 = .ok (.iconst 1, 1) := by decide +kernel
theorem d_C_spread_1 : decode b_C_spread 1 = .ok (.istore_n 2, 1) := by decide +kernel
theorem d_C_spread_2 : decode b_C_spread 2 = .ok (.iconst 0, 1) := by decide +kernel
theorem d_C_spread_3 : decode b_C_spread 3 = .ok (.istore_n 3, 1) := by decide +kernel
theorem d_C_spread_4 : decode b_C_spread 4 = .ok (.iload_n 3, 1) := by decide +kernel
theorem d_C_spread_5 : decode b_C_spread 5 = .ok (.bipush 30, 2) := by decide +kernel
theorem d_C_spread_7 : decode b_C_spread 7 = .ok (.if_icmp .ge 125, 3) := by decide +kernel
theorem d_C_spread_10 : decode b_C_spread 10 = .ok (.iload_n 2, 1) := by decide +kernel
theorem d_C_spread_11 : decode b_C_spread 11 = .ok (.ifCond .eq 121, 3) := by decide +kernel
theorem d_C_spread_14 : decode b_C_spread 14 = .ok (.iconst 0, 1) := by decide +kernel
theorem d_C_spread_15 : decode b_C_spread 15 = .ok (.istore_n 2, 1) := by decide +kernel
theorem d_C_spread_16 : decode b_C_spread 16 = .ok (.iconst 0, 1) := by decide +kernel
theorem d_C_spread_17 : decode b_C_spread 17 = .ok (.istore 4, 2) := by decide +kernel
theorem d_C_spread_19 : decode b_C_spread 19 = .ok (.iload 4, 2) := by decide +kernel
theorem d_C_spread_21 : decode b_C_spread 21 = .ok (.aload_n 0, 1) := by decide +kernel
theorem d_C_spread_22 : decode b_C_spread 22 = .ok (.getfield 7, 3) := by decide +kernel
theorem d_C_spread_25 : decode b_C_spread 25 = .ok (.if_icmp .ge 43, 3) := by decide +kernel
theorem d_C_spread_28 : decode b_C_spread 28 = .ok (.aload_n 0, 1) := by decide +kernel
theorem d_C_spread_29 : decode b_C_spread 29 = .ok (.iload 4, 2) := by decide +kernel
theorem d_C_spread_31 : decode b_C_spread 31 = .ok (.iload_n 1, 1) := by decide +kernel
theorem d_C_spread_32 : decode b_C_spread 32 = .ok (.invokevirtual 135, 3) := by decide +kernel
theorem d_C_spread_35 : decode b_C_spread 35 = .ok (.istore 5, 2) := by decide +kernel
theorem d_C_spread_37 : decode b_C_spread 37 = .ok (.iload 5, 2) := by decide +kernel
theorem d_C_spread_39 : decode b_C_spread 39 = .ok (.iconst (-1), 1) := by decide +kernel
theorem d_C_spread_40 : decode b_C_spread 40 = .ok (.if_icmp .eq 22, 3) := by decide +kernel
theorem d_C_spread_43 : decode b_C_spread 43 = .ok (.aload_n 0, 1) := by decide +kernel
theorem d_C_spread_44 : decode b_C_spread 44 = .ok (.iload 4, 2) := by decide +kernel
theorem d_C_spread_46 : decode b_C_spread 46 = .ok (.aload_n 0, 1) := by decide +kernel
theorem d_C_spread_47 : decode b_C_spread 47 = .ok (.iload 4, 2) := by decide +kernel
theorem d_C_spread_49 : decode b_C_spread 49 = .ok (.invokevirtual 77, 3) := by decide +kernel
theorem d_C_spread_52 : decode b_C_spread 52 = .ok (.iload 5, 2) := by decide +kernel
theorem d_C_spread_54 : decode b_C_spread 54 = .ok (.invokevirtual 138, 3) := by decide +kernel
theorem d_C_spread_57 : decode b_C_spread 57 = .ok (.ifCond .eq 5, 3) := by decide +kernel
theorem d_C_spread_60 : decode b_C_spread 60 = .ok (.iconst 1, 1) := by decide +kernel
theorem d_C_spread_61 : decode b_C_spread 61 = .ok (.istore_n 2, 1) := by decide +kernel
theorem d_C_spread_62 : decode b_C_spread 62 = .ok (.iinc 4 1, 3) := by decide +kernel
theorem d_C_spread_65 : decode b_C_spread 65 = .ok (.goto (-46), 3) := by decide +kernel
theorem d_C_spread_68 : decode b_C_spread 68 = .ok (.iconst 0, 1) := by decide +kernel
theorem d_C_spread_69 : decode b_C_spread 69 = .ok (.istore 4, 2) := by decide +kernel
theorem d_C_spread_71 : decode b_C_spread 71 = .ok (.iload 4, 2) := by decide +kernel
theorem d_C_spread_73 : decode b_C_spread 73 = .ok (.aload_n 0, 1) := by decide +kernel
theorem d_C_spread_74 : decode b_C_spread 74 = .ok (.getfield 25, 3) := by decide +kernel
theorem d_C_spread_77 : decode b_C_spread 77 = .ok (.if_icmp .ge 49, 3) := by decide +kernel
theorem d_C_spread_80 : decode b_C_spread 80 = .ok (.aload_n 0, 1) := by decide +kernel
theorem d_C_spread_81 : decode b_C_spread 81 = .ok (.iload 4, 2) := by decide +kernel
theorem d_C_spread_83 : decode b_C_spread 83 = .ok (.iload_n 1, 1) := by decide +kernel
theorem d_C_spread_84 : decode b_C_spread 84 = .ok (.invokevirtual 142, 3) := by decide +kernel
theorem d_C_spread_87 : decode b_C_spread 87 = .ok (.istore 5, 2) := by decide +kernel
theorem d_C_spread_89 : decode b_C_spread 89 = .ok (.iload 5, 2) := by decide +kernel
theorem d_C_spread_91 : decode b_C_spread 91 = .ok (.iconst (-1), 1) := by decide +kernel
theorem d_C_spread_92 : decode b_C_spread 92 = .ok (.if_icmp .eq 28, 3) := by decide +kernel
theorem d_C_spread_95 : decode b_C_spread 95 = .ok (.aload_n 0, 1) := by decide +kernel
theorem d_C_spread_96 : decode b_C_spread 96 = .ok (.aload_n 0, 1) := by decide +kernel
theorem d_C_spread_97 : decode b_C_spread 97 = .ok (.getfield 28, 3) := by decide +kernel
theorem d_C_spread_100 : decode b_C_spread 100 = .ok (.iload 4, 2) := by decide +kernel
theorem d_C_spread_102 : decode b_C_spread 102 = .ok (.iaload, 1) := by decide +kernel
theorem d_C_spread_103 : decode b_C_spread 103 = .ok (.aload_n 0, 1) := by decide +kernel
theorem d_C_spread_104 : decode b_C_spread 104 = .ok (.getfield 31, 3) := by decide +kernel
theorem d_C_spread_107 : decode b_C_spread 107 = .ok (.iload 4, 2) := by decide +kernel
theorem d_C_spread_109 : decode b_C_spread 109 = .ok (.iaload, 1) := by decide +kernel
theorem d_C_spread_110 : decode b_C_spread 110 = .ok (.iload 5, 2) := by decide +kernel
theorem d_C_spread_112 : decode b_C_spread 112 = .ok (.invokevirtual 138, 3) := by decide +kernel
theorem d_C_spread_115 : decode b_C_spread 115 = .ok (.ifCond .eq 5, 3) := by decide +kernel
theorem d_C_spread_118 : decode b_C_spread 118 = .ok (.iconst 1, 1) := by decide +kernel
theorem d_C_spread_119 : decode b_C_spread 119 = .ok (.istore_n 2, 1) := by decide +kernel
theorem d_C_spread_120 : decode b_C_spread 120 = .ok (.iinc 4 1, 3) := by decide +kernel
theorem d_C_spread_123 : decode b_C_spread 123 = .ok (.goto (-52), 3) := by decide +kernel
theorem d_C_spread_126 : decode b_C_spread 126 = .ok (.iinc 3 1, 3) := by decide +kernel
theorem d_C_spread_129 : decode b_C_spread 129 = .ok (.goto (-125), 3) := by decide +kernel
theorem d_C_spread_132 : decode b_C_spread 132 = .ok (.return_, 1) := by decide +kernel
theorem d_C_spreadOver_0 : decode b_C_spreadOver 0 = .ok (.aload_n 0, 1) := by decide +kernel
theorem d_C_spreadOver_1 : decode b_C_spreadOver 1 = .ok (.iload_n 1, 1) := by decide +kernel
theorem d_C_spreadOver_2 : decode b_C_spreadOver 2 = .ok (.invokevirtual 40, 3) := by decide +kernel
theorem d_C_spreadOver_5 : decode b_C_spreadOver 5 = .ok (.ifCond .eq 11, 3) := by decide +kernel
theorem d_C_spreadOver_8 : decode b_C_spreadOver 8 = .ok (.aload_n 0, 1) := by decide +kernel
theorem d_C_spreadOver_9 : decode b_C_spreadOver 9 = .ok (.iload_n 2, 1) := by decide +kernel
theorem d_C_spreadOver_10 : decode b_C_spreadOver 10 = .ok (.invokevirtual 40, 3) := by decide +kernel
theorem d_C_spreadOver_13 : decode b_C_spreadOver 13 = .ok (.ifCond .ne 5, 3) := by decide +kernel
theorem d_C_spreadOver_16 : decode b_C_spreadOver 16 = .ok (.iconst 0, 1) := by decide +kernel
theorem d_C_spreadOver_17 : decode b_C_spreadOver 17 = .ok (.ireturn, 1) := by decide +kernel
theorem d_C_spreadOver_18 : decode b_C_spreadOver 18 = .ok (.aload_n 0, 1) := by decide +kernel
theorem d_C_spreadOver_19 : decode b_C_spreadOver 19 = .ok (.getfield 37, 3) := by decide +kernel
theorem d_C_spreadOver_22 : decode b_C_spreadOver 22 = .ok (.iload_n 1, 1) := by decide +kernel
theorem d_C_spreadOver_23 : decode b_C_spreadOver 23 = .ok (.iaload, 1) := by decide +kernel
theorem d_C_spreadOver_24 : decode b_C_spreadOver 24 = .ok (.iload_n 3, 1) := by decide +kernel
theorem d_C_spreadOver_25 : decode b_C_spreadOver 25 = .ok (.isub, 1) := by decide +kernel
theorem d_C_spreadOver_26 : decode b_C_spreadOver 26 = .ok (.aload_n 0, 1) := by decide +kernel
theorem d_C_spreadOver_27 : decode b_C_spreadOver 27 = .ok (.getfield 37, 3) := by decide +kernel
theorem d_C_spreadOver_30 : decode b_C_spreadOver 30 = .ok (.iload_n 2, 1) := by decide +kernel
theorem d_C_spreadOver_31 : decode b_C_spreadOver 31 = .ok (.iaload, 1) := by decide +kernel
theorem d_C_spreadOver_32 : decode b_C_spreadOver 32 = .ok (.if_icmp .le 19, 3) := by decide +kernel
theorem d_C_spreadOver_35 : decode b_C_spreadOver 35 = .ok (.aload_n 0, 1) := by decide +kernel
theorem d_C_spreadOver_36 : decode b_C_spreadOver 36 = .ok (.getfield 37, 3) := by decide +kernel
theorem d_C_spreadOver_39 : decode b_C_spreadOver 39 = .ok (.iload_n 2, 1) := by decide +kernel
theorem d_C_spreadOver_40 : decode b_C_spreadOver 40 = .ok (.aload_n 0, 1) := by decide +kernel
theorem d_C_spreadOver_41 : decode b_C_spreadOver 41 = .ok (.getfield 37, 3) := by decide +kernel
theorem d_C_spreadOver_44 : decode b_C_spreadOver 44 = .ok (.iload_n 1, 1) := by decide +kernel
theorem d_C_spreadOver_45 : decode b_C_spreadOver 45 = .ok (.iaload, 1) := by decide +kernel
theorem d_C_spreadOver_46 : decode b_C_spreadOver 46 = .ok (.iload_n 3, 1) := by decide +kernel
theorem d_C_spreadOver_47 : decode b_C_spreadOver 47 = .ok (.isub, 1) := by decide +kernel
theorem d_C_spreadOver_48 : decode b_C_spreadOver 48 = .ok (.iastore, 1) := by decide +kernel
theorem d_C_spreadOver_49 : decode b_C_spreadOver 49 = .ok (.iconst 1, 1) := by decide +kernel
theorem d_C_spreadOver_50 : decode b_C_spreadOver 50 = .ok (.ireturn, 1) := by decide +kernel
theorem d_C_spreadOver_51 : decode b_C_spreadOver 51 = .ok (.aload_n 0, 1) := by decide +kernel
theorem d_C_spreadOver_52 : decode b_C_spreadOver 52 = .ok (.getfield 37, 3) := by decide +kernel
theorem d_C_spreadOver_55 : decode b_C_spreadOver 55 = .ok (.iload_n 2, 1) := by decide +kernel
theorem d_C_spreadOver_56 : decode b_C_spreadOver 56 = .ok (.iaload, 1) := by decide +kernel
theorem d_C_spreadOver_57 : decode b_C_spreadOver 57 = .ok (.iload_n 3, 1) := by decide +kernel
theorem d_C_spreadOver_58 : decode b_C_spreadOver 58 = .ok (.isub, 1) := by decide +kernel
theorem d_C_spreadOver_59 : decode b_C_spreadOver 59 = .ok (.aload_n 0, 1) := by decide +kernel
theorem d_C_spreadOver_60 : decode b_C_spreadOver 60 = .ok (.getfield 37, 3) := by decide +kernel
theorem d_C_spreadOver_63 : decode b_C_spreadOver 63 = .ok (.iload_n 1, 1) := by decide +kernel
theorem d_C_spreadOver_64 : decode b_C_spreadOver 64 = .ok (.iaload, 1) := by decide +kernel
theorem d_C_spreadOver_65 : decode b_C_spreadOver 65 = .ok (.if_icmp .le 19, 3) := by decide +kernel
theorem d_C_spreadOver_68 : decode b_C_spreadOver 68 = .ok (.aload_n 0, 1) := by decide +kernel
theorem d_C_spreadOver_69 : decode b_C_spreadOver 69 = .ok (.getfield 37, 3) := by decide +kernel
theorem d_C_spreadOver_72 : decode b_C_spreadOver 72 = .ok (.iload_n 1, 1) := by decide +kernel
theorem d_C_spreadOver_73 : decode b_C_spreadOver 73 = .ok (.aload_n 0, 1) := by decide +kernel
theorem d_C_spreadOver_74 : decode b_C_spreadOver 74 = .ok (.getfield 37, 3) := by decide +kernel
theorem d_C_spreadOver_77 : decode b_C_spreadOver 77 = .ok (.iload_n 2, 1) := by decide +kernel
theorem d_C_spreadOver_78 : decode b_C_spreadOver 78 = .ok (.iaload, 1) := by decide +kernel
theorem d_C_spreadOver_79 : decode b_C_spreadOver 79 = .ok (.iload_n 3, 1) := by decide +kernel
theorem d_C_spreadOver_80 : decode b_C_spreadOver 80 = .ok (.isub, 1) := by decide +kernel
theorem d_C_spreadOver_81 : decode b_C_spreadOver 81 = .ok (.iastore, 1) := by decide +kernel
theorem d_C_spreadOver_82 : decode b_C_spreadOver 82 = .ok (.iconst 1, 1) := by decide +kernel
theorem d_C_spreadOver_83 : decode b_C_spreadOver 83 = .ok (.ireturn, 1) := by decide +kernel
theorem d_C_spreadOver_84 : decode b_C_spreadOver 84 = .ok (.iconst 0, 1) := by decide +kernel
theorem d_C_spreadOver_85 : decode b_C_spreadOver 85 = .ok (.ireturn, 1) := by decide +kernel
theorem d_C_partHeardOf_0 : decode b_C_partHeardOf 0 = .ok (.aload_n 0, 1) := by decide +kernel
theorem d_C_partHeardOf_1 : decode b_C_partHeardOf 1 = .ok (.aload_n 0, 1) := by decide +kernel
theorem d_C_partHeardOf_2 : decode b_C_partHeardOf 2 = .ok (.iload_n 1, 1) := by decide +kernel
theorem d_C_partHeardOf_3 : decode b_C_partHeardOf 3 = .ok (.invokevirtual 77, 3) := by decide +kernel
theorem d_C_partHeardOf_6 : decode b_C_partHeardOf 6 = .ok (.invokevirtual 100, 3) := by decide +kernel
theorem d_C_partHeardOf_9 : decode b_C_partHeardOf 9 = .ok (.istore_n 2, 1) := by decide +kernel
theorem d_C_partHeardOf_10 : decode b_C_partHeardOf 10 = .ok (.iload_n 2, 1) := by decide +kernel
theorem d_C_partHeardOf_11 : decode b_C_partHeardOf 11 = .ok (.iconst (-1), 1) := by decide +kernel
theorem d_C_partHeardOf_12 : decode b_C_partHeardOf 12 = .ok (.if_icmp .ne 7, 3) := by decide +kernel
theorem d_C_partHeardOf_15 : decode b_C_partHeardOf 15 = .ok (.iconst 0, 1) := by decide +kernel
theorem d_C_partHeardOf_16 : decode b_C_partHeardOf 16 = .ok (.goto 11, 3) := by decide +kernel
theorem d_C_partHeardOf_19 : decode b_C_partHeardOf 19 = .ok (.aload_n 0, 1) := by decide +kernel
theorem d_C_partHeardOf_20 : decode b_C_partHeardOf 20 = .ok (.iload_n 1, 1) := by decide +kernel
theorem d_C_partHeardOf_21 : decode b_C_partHeardOf 21 = .ok (.iconst 3, 1) := by decide +kernel
theorem d_C_partHeardOf_22 : decode b_C_partHeardOf 22 = .ok (.invokevirtual 86, 3) := by decide +kernel
theorem d_C_partHeardOf_25 : decode b_C_partHeardOf 25 = .ok (.iload_n 2, 1) := by decide +kernel
theorem d_C_partHeardOf_26 : decode b_C_partHeardOf 26 = .ok (.isub, 1) := by decide +kernel
theorem d_C_partHeardOf_27 : decode b_C_partHeardOf 27 = .ok (.ireturn, 1) := by decide +kernel
theorem d_C_viewOf_0 : decode b_C_viewOf 0 = .ok (.aload_n 0, 1) := by decide +kernel
theorem d_C_viewOf_1 : decode b_C_viewOf 1 = .ok (.iload_n 1, 1) := by decide +kernel
theorem d_C_viewOf_2 : decode b_C_viewOf 2 = .ok (.invokevirtual 77, 3) := by decide +kernel
theorem d_C_viewOf_5 : decode b_C_viewOf 5 = .ok (.istore_n 2, 1) := by decide +kernel
theorem d_C_viewOf_6 : decode b_C_viewOf 6 = .ok (.iload_n 2, 1) := by decide +kernel
theorem d_C_viewOf_7 : decode b_C_viewOf 7 = .ok (.iconst (-1), 1) := by decide +kernel
theorem d_C_viewOf_8 : decode b_C_viewOf 8 = .ok (.if_icmp .ne 5, 3) := by decide +kernel
theorem d_C_viewOf_11 : decode b_C_viewOf 11 = .ok (.iconst 0, 1) := by decide +kernel
theorem d_C_viewOf_12 : decode b_C_viewOf 12 = .ok (.ireturn, 1) := by decide +kernel
theorem d_C_viewOf_13 : decode b_C_viewOf 13 = .ok (.aload_n 0, 1) := by decide +kernel
theorem d_C_viewOf_14 : decode b_C_viewOf 14 = .ok (.iconst 1, 1) := by decide +kernel
theorem d_C_viewOf_15 : decode b_C_viewOf 15 = .ok (.iload_n 2, 1) := by decide +kernel
theorem d_C_viewOf_16 : decode b_C_viewOf 16 = .ok (.ishl, 1) := by decide +kernel
theorem d_C_viewOf_17 : decode b_C_viewOf 17 = .ok (.invokevirtual 145, 3) := by decide +kernel
theorem d_C_viewOf_20 : decode b_C_viewOf 20 = .ok (.istore_n 3, 1) := by decide +kernel
theorem d_C_viewOf_21 : decode b_C_viewOf 21 = .ok (.aload_n 0, 1) := by decide +kernel
theorem d_C_viewOf_22 : decode b_C_viewOf 22 = .ok (.aload_n 0, 1) := by decide +kernel
theorem d_C_viewOf_23 : decode b_C_viewOf 23 = .ok (.iload_n 3, 1) := by decide +kernel
theorem d_C_viewOf_24 : decode b_C_viewOf 24 = .ok (.invokevirtual 148, 3) := by decide +kernel
theorem d_C_viewOf_27 : decode b_C_viewOf 27 = .ok (.invokevirtual 145, 3) := by decide +kernel
theorem d_C_viewOf_30 : decode b_C_viewOf 30 = .ok (.ireturn, 1) := by decide +kernel
theorem d_C_widenedOverWalls_0 : decode b_C_widenedOverWalls 0 = .ok (.iload_n 1, 1) := by decide +kernel
theorem d_C_widenedOverWalls_1 : decode b_C_widenedOverWalls 1 = .ok (.istore_n 2, 1) := by decide +kernel
theorem d_C_widenedOverWalls_2 : decode b_C_widenedOverWalls 2 = .ok (.iconst 1, 1) := by decide +kernel
theorem d_C_widenedOverWalls_3 : decode b_C_widenedOverWalls 3 = .ok (.istore_n 3, 1) := by decide +kernel
theorem d_C_widenedOverWalls_4 : decode b_C_widenedOverWalls 4 = .ok (.iconst 0, 1) := by decide +kernel
theorem d_C_widenedOverWalls_5 : decode b_C_widenedOverWalls 5 = .ok (.istore 4, 2) := by decide +kernel
theorem d_C_widenedOverWalls_7 : decode b_C_widenedOverWalls 7 = .ok (.iload 4, 2) := by decide +kernel
theorem d_C_widenedOverWalls_9 : decode b_C_widenedOverWalls 9 = .ok (.bipush 30, 2) := by decide +kernel
theorem d_C_widenedOverWalls_11 : decode b_C_widenedOverWalls 11 = .ok (.if_icmp .ge 72, 3) := by decide +kernel
theorem d_C_widenedOverWalls_14 : decode b_C_widenedOverWalls 14 = .ok (.iload_n 3, 1) := by decide +kernel
theorem d_C_widenedOverWalls_15 : decode b_C_widenedOverWalls 15 = .ok (.ifCond .eq 68, 3) := by decide +kernel
theorem d_C_widenedOverWalls_18 : decode b_C_widenedOverWalls 18 = .ok (.iload_n 2, 1) := by decide +kernel
theorem d_C_widenedOverWalls_19 : decode b_C_widenedOverWalls 19 = .ok (.istore 5, 2) := by decide +kernel
theorem d_C_widenedOverWalls_21 : decode b_C_widenedOverWalls 21 = .ok (.iconst 0, 1) := by decide +kernel
theorem d_C_widenedOverWalls_22 : decode b_C_widenedOverWalls 22 = .ok (.istore 6, 2) := by decide +kernel
theorem d_C_widenedOverWalls_24 : decode b_C_widenedOverWalls 24 = .ok (.iload 6, 2) := by decide +kernel
theorem d_C_widenedOverWalls_26 : decode b_C_widenedOverWalls 26 = .ok (.aload_n 0, 1) := by decide +kernel
theorem d_C_widenedOverWalls_27 : decode b_C_widenedOverWalls 27 = .ok (.getfield 7, 3) := by decide +kernel
theorem d_C_widenedOverWalls_30 : decode b_C_widenedOverWalls 30 = .ok (.if_icmp .ge 35, 3) := by decide +kernel
theorem d_C_widenedOverWalls_33 : decode b_C_widenedOverWalls 33 = .ok (.aload_n 0, 1) := by decide +kernel
theorem d_C_widenedOverWalls_34 : decode b_C_widenedOverWalls 34 = .ok (.iload 6, 2) := by decide +kernel
theorem d_C_widenedOverWalls_36 : decode b_C_widenedOverWalls 36 = .ok (.iconst 2, 1) := by decide +kernel
theorem d_C_widenedOverWalls_37 : decode b_C_widenedOverWalls 37 = .ok (.invokevirtual 135, 3) := by decide +kernel
theorem d_C_widenedOverWalls_40 : decode b_C_widenedOverWalls 40 = .ok (.iconst (-1), 1) := by decide +kernel
theorem d_C_widenedOverWalls_41 : decode b_C_widenedOverWalls 41 = .ok (.if_icmp .eq 18, 3) := by decide +kernel
theorem d_C_widenedOverWalls_44 : decode b_C_widenedOverWalls 44 = .ok (.iload_n 2, 1) := by decide +kernel
theorem d_C_widenedOverWalls_45 : decode b_C_widenedOverWalls 45 = .ok (.iload_n 2, 1) := by decide +kernel
theorem d_C_widenedOverWalls_46 : decode b_C_widenedOverWalls 46 = .ok (.iload 6, 2) := by decide +kernel
theorem d_C_widenedOverWalls_48 : decode b_C_widenedOverWalls 48 = .ok (.aload_n 0, 1) := by decide +kernel
theorem d_C_widenedOverWalls_49 : decode b_C_widenedOverWalls 49 = .ok (.iload 6, 2) := by decide +kernel
theorem d_C_widenedOverWalls_51 : decode b_C_widenedOverWalls 51 = .ok (.invokevirtual 77, 3) := by decide +kernel
theorem d_C_widenedOverWalls_54 : decode b_C_widenedOverWalls 54 = .ok (.invokestatic 151, 3) := by decide +kernel
theorem d_C_widenedOverWalls_57 : decode b_C_widenedOverWalls 57 = .ok (.ior, 1) := by decide +kernel
theorem d_C_widenedOverWalls_58 : decode b_C_widenedOverWalls 58 = .ok (.istore_n 2, 1) := by decide +kernel
theorem d_C_widenedOverWalls_59 : decode b_C_widenedOverWalls 59 = .ok (.iinc 6 1, 3) := by decide +kernel
theorem d_C_widenedOverWalls_62 : decode b_C_widenedOverWalls 62 = .ok (.goto (-38), 3) := by decide +kernel
theorem d_C_widenedOverWalls_65 : decode b_C_widenedOverWalls 65 = .ok (.iload_n 2, 1) := by decide +kernel
theorem d_C_widenedOverWalls_66 : decode b_C_widenedOverWalls 66 = .ok (.iload 5, 2) := by decide +kernel
theorem d_C_widenedOverWalls_68 : decode b_C_widenedOverWalls 68 = .ok (.if_icmp .eq 7, 3) := by decide +kernel
theorem d_C_widenedOverWalls_71 : decode b_C_widenedOverWalls 71 = .ok (.iconst 1, 1) := by decide +kernel
theorem d_C_widenedOverWalls_72 : decode b_C_widenedOverWalls 72 = .ok (.goto 4, 3) := by decide +kernel
theorem d_C_widenedOverWalls_75 : decode b_C_widenedOverWalls 75 = .ok (.iconst 0, 1) := by decide +kernel
theorem d_C_widenedOverWalls_76 : decode b_C_widenedOverWalls 76 = .ok (.istore_n 3, 1) := by decide +kernel
theorem d_C_widenedOverWalls_77 : decode b_C_widenedOverWalls 77 = .ok (.iinc 4 1, 3) := by decide +kernel
theorem d_C_widenedOverWalls_80 : decode b_C_widenedOverWalls 80 = .ok (.goto (-73), 3) := by decide +kernel
theorem d_C_widenedOverWalls_83 : decode b_C_widenedOverWalls 83 = .ok (.iload_n 2, 1) := by decide +kernel
theorem d_C_widenedOverWalls_84 : decode b_C_widenedOverWalls 84 = .ok (.ireturn, 1) := by decide +kernel
theorem d_C_widenedOverOneDoor_0 : decode b_C_widenedOverOneDoor 0 = .ok (.iload_n 1, 1) := by decide +kernel
theorem d_C_widenedOverOneDoor_1 : decode b_C_widenedOverOneDoor 1 = .ok (.istore_n 2, 1) := by decide +kernel
theorem d_C_widenedOverOneDoor_2 : decode b_C_widenedOverOneDoor 2 = .ok (.iconst 0, 1) := by decide +kernel
theorem d_C_widenedOverOneDoor_3 : decode b_C_widenedOverOneDoor 3 = .ok (.istore_n 3, 1) := by decide +kernel
theorem d_C_widenedOverOneDoor_4 : decode b_C_widenedOverOneDoor 4 = .ok (.iload_n 3, 1) := by decide +kernel
theorem d_C_widenedOverOneDoor_5 : decode b_C_widenedOverOneDoor 5 = .ok (.aload_n 0, 1) := by decide +kernel
theorem d_C_widenedOverOneDoor_6 : decode b_C_widenedOverOneDoor 6 = .ok (.getfield 25, 3) := by decide +kernel
theorem d_C_widenedOverOneDoor_9 : decode b_C_widenedOverOneDoor 9 = .ok (.if_icmp .ge 38, 3) := by decide +kernel
theorem d_C_widenedOverOneDoor_12 : decode b_C_widenedOverOneDoor 12 = .ok (.aload_n 0, 1) := by decide +kernel
theorem d_C_widenedOverOneDoor_13 : decode b_C_widenedOverOneDoor 13 = .ok (.iload_n 3, 1) := by decide +kernel
theorem d_C_widenedOverOneDoor_14 : decode b_C_widenedOverOneDoor 14 = .ok (.iconst 2, 1) := by decide +kernel
theorem d_C_widenedOverOneDoor_15 : decode b_C_widenedOverOneDoor 15 = .ok (.invokevirtual 142, 3) := by decide +kernel
theorem d_C_widenedOverOneDoor_18 : decode b_C_widenedOverOneDoor 18 = .ok (.iconst (-1), 1) := by decide +kernel
theorem d_C_widenedOverOneDoor_19 : decode b_C_widenedOverOneDoor 19 = .ok (.if_icmp .eq 22, 3) := by decide +kernel
theorem d_C_widenedOverOneDoor_22 : decode b_C_widenedOverOneDoor 22 = .ok (.iload_n 2, 1) := by decide +kernel
theorem d_C_widenedOverOneDoor_23 : decode b_C_widenedOverOneDoor 23 = .ok (.iload_n 1, 1) := by decide +kernel
theorem d_C_widenedOverOneDoor_24 : decode b_C_widenedOverOneDoor 24 = .ok (.aload_n 0, 1) := by decide +kernel
theorem d_C_widenedOverOneDoor_25 : decode b_C_widenedOverOneDoor 25 = .ok (.getfield 28, 3) := by decide +kernel
theorem d_C_widenedOverOneDoor_28 : decode b_C_widenedOverOneDoor 28 = .ok (.iload_n 3, 1) := by decide +kernel
theorem d_C_widenedOverOneDoor_29 : decode b_C_widenedOverOneDoor 29 = .ok (.iaload, 1) := by decide +kernel
theorem d_C_widenedOverOneDoor_30 : decode b_C_widenedOverOneDoor 30 = .ok (.aload_n 0, 1) := by decide +kernel
theorem d_C_widenedOverOneDoor_31 : decode b_C_widenedOverOneDoor 31 = .ok (.getfield 31, 3) := by decide +kernel
theorem d_C_widenedOverOneDoor_34 : decode b_C_widenedOverOneDoor 34 = .ok (.iload_n 3, 1) := by decide +kernel
theorem d_C_widenedOverOneDoor_35 : decode b_C_widenedOverOneDoor 35 = .ok (.iaload, 1) := by decide +kernel
theorem d_C_widenedOverOneDoor_36 : decode b_C_widenedOverOneDoor 36 = .ok (.invokestatic 151, 3) := by decide +kernel
theorem d_C_widenedOverOneDoor_39 : decode b_C_widenedOverOneDoor 39 = .ok (.ior, 1) := by decide +kernel
theorem d_C_widenedOverOneDoor_40 : decode b_C_widenedOverOneDoor 40 = .ok (.istore_n 2, 1) := by decide +kernel
theorem d_C_widenedOverOneDoor_41 : decode b_C_widenedOverOneDoor 41 = .ok (.iinc 3 1, 3) := by decide +kernel
theorem d_C_widenedOverOneDoor_44 : decode b_C_widenedOverOneDoor 44 = .ok (.goto (-40), 3) := by decide +kernel
theorem d_C_widenedOverOneDoor_47 : decode b_C_widenedOverOneDoor 47 = .ok (.iload_n 2, 1) := by decide +kernel
theorem d_C_widenedOverOneDoor_48 : decode b_C_widenedOverOneDoor 48 = .ok (.ireturn, 1) := by decide +kernel
theorem d_C_endsIfTouched_0 : decode b_C_endsIfTouched 0 = .ok (.iload_n 1, 1) := by decide +kernel
theorem d_C_endsIfTouched_1 : decode b_C_endsIfTouched 1 = .ok (.ifCond .lt 7, 3) := by decide +kernel
theorem d_C_endsIfTouched_4 : decode b_C_endsIfTouched 4 = .ok (.iload_n 2, 1) := by decide +kernel
theorem d_C_endsIfTouched_5 : decode b_C_endsIfTouched 5 = .ok (.ifCond .ge 5, 3) := by decide +kernel
theorem d_C_endsIfTouched_8 : decode b_C_endsIfTouched 8 = .ok (.iconst 0, 1) := by decide +kernel
theorem d_C_endsIfTouched_9 : decode b_C_endsIfTouched 9 = .ok (.ireturn, 1) := by decide +kernel
theorem d_C_endsIfTouched_10 : decode b_C_endsIfTouched 10 = .ok (.iconst 1, 1) := by decide +kernel
theorem d_C_endsIfTouched_11 : decode b_C_endsIfTouched 11 = .ok (.iload_n 1, 1) := by decide +kernel
theorem d_C_endsIfTouched_12 : decode b_C_endsIfTouched 12 = .ok (.ishl, 1) := by decide +kernel
theorem d_C_endsIfTouched_13 : decode b_C_endsIfTouched 13 = .ok (.iconst 1, 1) := by decide +kernel
theorem d_C_endsIfTouched_14 : decode b_C_endsIfTouched 14 = .ok (.iload_n 2, 1) := by decide +kernel
theorem d_C_endsIfTouched_15 : decode b_C_endsIfTouched 15 = .ok (.ishl, 1) := by decide +kernel
theorem d_C_endsIfTouched_16 : decode b_C_endsIfTouched 16 = .ok (.ior, 1) := by decide +kernel
theorem d_C_endsIfTouched_17 : decode b_C_endsIfTouched 17 = .ok (.istore_n 3, 1) := by decide +kernel
theorem d_C_endsIfTouched_18 : decode b_C_endsIfTouched 18 = .ok (.iload_n 0, 1) := by decide +kernel
theorem d_C_endsIfTouched_19 : decode b_C_endsIfTouched 19 = .ok (.iload_n 3, 1) := by decide +kernel
theorem d_C_endsIfTouched_20 : decode b_C_endsIfTouched 20 = .ok (.iand, 1) := by decide +kernel
theorem d_C_endsIfTouched_21 : decode b_C_endsIfTouched 21 = .ok (.ifCond .eq 7, 3) := by decide +kernel
theorem d_C_endsIfTouched_24 : decode b_C_endsIfTouched 24 = .ok (.iload_n 3, 1) := by decide +kernel
theorem d_C_endsIfTouched_25 : decode b_C_endsIfTouched 25 = .ok (.goto 4, 3) := by decide +kernel
theorem d_C_endsIfTouched_28 : decode b_C_endsIfTouched 28 = .ok (.iconst 0, 1) := by decide +kernel
theorem d_C_endsIfTouched_29 : decode b_C_endsIfTouched 29 = .ok (.ireturn, 1) := by decide +kernel
theorem d_C_isSeen_0 : decode b_C_isSeen 0 = .ok (.aload_n 0, 1) := by decide +kernel
theorem d_C_isSeen_1 : decode b_C_isSeen 1 = .ok (.iload_n 1, 1) := by decide +kernel
theorem d_C_isSeen_2 : decode b_C_isSeen 2 = .ok (.invokevirtual 77, 3) := by decide +kernel
theorem d_C_isSeen_5 : decode b_C_isSeen 5 = .ok (.istore_n 3, 1) := by decide +kernel
theorem d_C_isSeen_6 : decode b_C_isSeen 6 = .ok (.iload_n 3, 1) := by decide +kernel
theorem d_C_isSeen_7 : decode b_C_isSeen 7 = .ok (.iconst (-1), 1) := by decide +kernel
theorem d_C_isSeen_8 : decode b_C_isSeen 8 = .ok (.if_icmp .eq 24, 3) := by decide +kernel
theorem d_C_isSeen_11 : decode b_C_isSeen 11 = .ok (.iload_n 2, 1) := by decide +kernel
theorem d_C_isSeen_12 : decode b_C_isSeen 12 = .ok (.iconst 1, 1) := by decide +kernel
theorem d_C_isSeen_13 : decode b_C_isSeen 13 = .ok (.iload_n 3, 1) := by decide +kernel
theorem d_C_isSeen_14 : decode b_C_isSeen 14 = .ok (.ishl, 1) := by decide +kernel
theorem d_C_isSeen_15 : decode b_C_isSeen 15 = .ok (.iand, 1) := by decide +kernel
theorem d_C_isSeen_16 : decode b_C_isSeen 16 = .ok (.ifCond .eq 16, 3) := by decide +kernel
theorem d_C_isSeen_19 : decode b_C_isSeen 19 = .ok (.aload_n 0, 1) := by decide +kernel
theorem d_C_isSeen_20 : decode b_C_isSeen 20 = .ok (.getfield 37, 3) := by decide +kernel
theorem d_C_isSeen_23 : decode b_C_isSeen 23 = .ok (.iload_n 3, 1) := by decide +kernel
theorem d_C_isSeen_24 : decode b_C_isSeen 24 = .ok (.iaload, 1) := by decide +kernel
theorem d_C_isSeen_25 : decode b_C_isSeen 25 = .ok (.ifCond .le 7, 3) := by decide +kernel
theorem d_C_isSeen_28 : decode b_C_isSeen 28 = .ok (.iconst 1, 1) := by decide +kernel
theorem d_C_isSeen_29 : decode b_C_isSeen 29 = .ok (.goto 4, 3) := by decide +kernel
theorem d_C_isSeen_32 : decode b_C_isSeen 32 = .ok (.iconst 0, 1) := by decide +kernel
theorem d_C_isSeen_33 : decode b_C_isSeen 33 = .ok (.ireturn, 1) := by decide +kernel
end
section
/-! The base: calls, starts and ends of methods over one list of words (BW), for any world. -/
theorem BW_in {y : MethodName} {bytes : ByteArray} {maxL : Nat} {ret : Option FieldType} (h : Cond.code y bytes maxL ret ∈ BW) : GoodIn BW (Cond.code y bytes maxL ret :: BW) := by
  intro w hw
  rcases List.mem_cons.mp hw with rfl | hw
  · exact ⟨h, good_of_word (BW_good _ h)⟩
  · exact ⟨hw, good_of_word (BW_good _ hw)⟩
def okB (own : String) (index : Nat) (y : MethodName) (bytes : ByteArray) (maxL : Nat) (ret : Option FieldType) (n : Nat) : Prop := Cond.methodLink own index y ∈ BW ∧ Cond.code y bytes maxL ret ∈ BW ∧ Cond.initialized y.cls ∈ BW ∧ (y.cls ≠ "java/lang/invoke/MethodHandle" ∧ y.cls ≠ "java/lang/invoke/VarHandle" ∧ (parseMethodDescriptor y.desc).map (fun d => d.parameters.length) = some n)
def okV (own C : String) (index : Nat) (y : MethodName) (bytes : ByteArray) (maxL : Nat) (ret : Option FieldType) (n : Nat) : Prop := okB own index y bytes maxL ret n ∧ Cond.instanceMethod y ∈ BW ∧ Cond.selects C y y ∈ BW
def okS (own : String) (index : Nat) (y : MethodName) (bytes : ByteArray) (maxL : Nat) (ret : Option FieldType) (n : Nat) : Prop := okB own index y bytes maxL ret n ∧ Cond.static y ∈ BW
def okR (rm R : Room) (maxL mc ms : Nat) : Prop := rm.cells = mc ∧ rm.slots = ms ∧ rm.frames + 1 ≤ R.frames ∧ 8 + (maxL + 11) + rm.locals ≤ R.locals
abbrev PcR (D : va_G) (w : va_W) (tys : List (ClassId × FieldType)) (av : List Value) : Array Value → State → Prop := va_Pc av (fun U => va_P D classes w U.heap ∧ va_K D classes tys U)
abbrev PcW (D : va_G) (Z : Nat → Prop) (w : va_W) (tys : List (ClassId × FieldType)) (av : List Value) : Array Value → State → Prop := va_Pc av (fun U => va_P D classes w U.heap ∧ va_K D classes tys U ∧ va_D Z w)
abbrev atW {T : Type} (D : va_G) (wf : T → va_W) (tys : List (ClassId × FieldType)) (u : T) (t : State) : Prop := va_P D classes (wf u) t.heap ∧ va_K D classes tys t
theorem vp_lt {i : Int32} {n : Nat} (h : vp_in i n) : i.toNatClampNeg < n := Nat.not_le.mp fun q => h (Or.inr q)
def sU (A : Nat → Nat → Int32) (k j : Nat) (v : Int32) : Nat → Nat → Int32 := va_up A k (upd (A k) j v)
section XB
variable {p : Program} {l : Launch} {e : Env} {R : Room} {s : State} {m : MethodId} {args : Array Value} {below : List Frame} {meth : Method} {c : Code} {H : Heap} {locs : List Loc} {cells slots : Nat} {Q : State → Prop}
variable {cc bytes : ByteArray} {pc nL maxL index n mc ms : Nat} {ls : Array Slot} {rest As av st : List Value} {own C : String} {y : MethodName} {ret : Option FieldType} {rm : Room} {D : va_G} {w : va_W} {tys : List (ClassId × FieldType)} {post : Int32 → Prop} {b : Nat}
theorem x_iadd1 (hx : p.tables.exec = Jvm.exec) (hb : c.code = cc) {k : Nat} (hdg : decode cc pc = .ok (.iadd, 1)) (kk : W p l e R s m args below meth c H locs cells slots Q (F0 m (pc + 1) ls (.int (nI (k + 1)) :: rest))) : W p l e R s m args below meth c H locs cells slots Q (F0 m pc ls (.int 1 :: .int (nI k) :: rest)) :=
  lv_iadd hx hb hdg (by rw [nI_1]; exact kk)
theorem xB (ht : ∀ w ∈ BW, w.before args s = true) (o : okB own index y bytes maxL ret n) (hR : okR rm R maxL mc ms) : CallB R s args own index y bytes maxL ret (Cond.code y bytes maxL ret :: BW) rm mc ms n :=
  callB_of n ht (BW_in o.2.1) rfl hR.1 hR.2.1 (ht _ o.2.2.1) (ht _ o.1) o.2.2.2 hR.2.2
theorem xW (ht : ∀ w ∈ BW, w.before args s = true) (o : okV own C index y bytes maxL ret n) (hR : okR rm R maxL mc ms) : CallW R s args own C index y bytes maxL ret (Cond.code y bytes maxL ret :: BW) rm mc ms n :=
  ⟨xB ht o.1 hR, ht _ o.2.1, ht _ o.2.2⟩
theorem blindR {av : List Value} : FrameBlind (PcR D w tys av) := fun a U g mk q => ⟨q.1, q.2.1, va_K.moved (u := U) (U := U.calling g mk a) (Vm.Alike.refl U.vm) q.2.2⟩
theorem blindW {Z : Nat → Prop} {av : List Value} : FrameBlind (PcW D Z w tys av) := fun a U g mk q => ⟨q.1, q.2.1, va_K.moved (u := U) (U := U.calling g mk a) (Vm.Alike.refl U.vm) q.2.2.1, q.2.2.2⟩
/-- a call of a method that only reads -/
theorem xro (Sx : CallFix p m c cc nL s args BW own) (hM : Met l y (Cond.code y bytes maxL ret :: BW) rm (PcR D w tys (.ref b :: As)) (vp_Si post) 0 0 (fun _ => False)) (o : okV own C index y bytes maxL ret n) (hR : okR rm R maxL 0 0)
    (hK : va_K D classes tys s) (hP : va_P D classes w H) {ci q0 : Nat} {T : u_T} {NF : Nat} {fs : List Value} (hc : classes[ci]? = some (C, T, NF)) (he : w[q0]? = some (b, .inr (ci, fs)))
    (hn : As.length = n) (hl : ls.size = nL) (hst : st = As.reverse ++ .ref b :: rest) (hrest : (rest.map fun v => v.category).sum ≤ 8) (hdg : decode cc pc = .ok (.invokevirtual index, 3)) (hf : cells + 0 ≤ R.cells ∧ slots + 0 ≤ R.slots)
    (kk : ∀ r : Int32, post r → W p l e R s m args below meth c H locs cells slots Q (F0 m (pc + 3) ls (.int r :: rest))) : W p l e R s m args below meth c H locs cells slots Q (F0 m pc ls st) :=
  vp_callSi (W.runV (As := As) (rest := rest) (b := b) Sx hM (xW Sx.2.2.2.2 o hR) ⟨blindR, va_recv hK hP hc he, fun U hU hW => ⟨rfl, by rw [hU]; exact hP, va_K.moved hW.alike hK⟩⟩ rfl hn hl hst (lv_room hrest) hdg hf) kk
/-- a call of a static method that takes and gives numbers -/
theorem xst (Sx : CallFix p m c cc nL s args BW own) (hM : Met l y (Cond.code y bytes maxL ret :: BW) rm (va_Pc As (fun _ => True)) (vp_Si post) 0 0 (fun _ => False)) (o : okS own index y bytes maxL ret n) (hR : okR rm R maxL 0 0)
    (hn : As.length = n) (hl : ls.size = nL) (hst : st = As.reverse ++ rest) (hrest : (rest.map fun v => v.category).sum ≤ 8) (hdg : decode cc pc = .ok (.invokestatic index, 3)) (hf : cells + 0 ≤ R.cells ∧ slots + 0 ≤ R.slots)
    (kk : ∀ r : Int32, post r → W p l e R s m args below meth c H locs cells slots Q (F0 m (pc + 3) ls (.int r :: rest))) : W p l e R s m args below meth c H locs cells slots Q (F0 m pc ls st) :=
  vp_callSi (W.runS (As := As) (rest := rest) Sx hM ⟨xB Sx.2.2.2.2 o.1 hR, Sx.2.2.2.2 _ o.2⟩ ⟨fun _ _ _ _ q => q, fun _ _ _ => ⟨rfl, trivial⟩⟩ rfl hn hl hst (lv_room hrest) hdg hf) kk
/-- a call of a method that writes in its own world, and answers a number -/
theorem xwi {T : Type} {wf : T → va_W} {po : Int32 → T → Prop} {Z A0 : Nat → Prop} {H0 : Heap} (Sx : CallFix p m c cc nL s args BW own) (hM : Met l y (Cond.code y bytes maxL ret :: BW) rm (PcW D Z w tys (.ref b :: As)) (va_Qi po (atW D wf tys) Z) 0 0 Z) (o : okV own C index y bytes maxL ret n) (hR : okR rm R maxL 0 0)
    (hK : va_K D classes tys s) (hP : va_P D classes w H) {ci q0 : Nat} {T' : u_T} {NF : Nat} {fs : List Value} (hc : classes[ci]? = some (C, T', NF)) (he : w[q0]? = some (b, .inr (ci, fs))) (hD : va_D Z w) (hS : va_S A0 H0 H locs) (hZ : ∀ q, Z q → A0 q)
    (hn : As.length = n) (hl : ls.size = nL) (hst : st = As.reverse ++ .ref b :: rest) (hrest : (rest.map fun v => v.category).sum ≤ 8) (hdg : decode cc pc = .ok (.invokevirtual index, 3)) (hf : cells + 0 ≤ R.cells ∧ slots + 0 ≤ R.slots)
    (kk : ∀ (r : Int32) (u : T) (H1 : Heap) (locs1 : List Loc), po r u → va_P D classes (wf u) H1 → va_S A0 H0 H1 locs1 → W p l e R s m args below meth c H1 locs1 cells slots Q (F0 m (pc + 3) ls (.int r :: rest))) : W p l e R s m args below meth c H locs cells slots Q (F0 m pc ls st) :=
  va_calli (va_runV (As := As) (rest := rest) (b := b) Sx hM (xW Sx.2.2.2.2 o hR) ⟨blindW, va_recv hK hP hc he, fun U hU hW => ⟨rfl, by rw [hU]; exact hP, va_K.moved hW.alike hK, hD⟩⟩ rfl hn hl hst (lv_room hrest) hdg hf) hS (fun q _ h => hZ q h) hZ
    (fun r u t H1 locs1 ht _ hp hB _ _ hS1 => kk r u H1 locs1 hp (by rw [← ht]; exact hB.1) hS1)
/-- the same, of a method without an answer -/
theorem xwv {T : Type} {wf : T → va_W} {po : T → Prop} {Z A0 : Nat → Prop} {H0 : Heap} (Sx : CallFix p m c cc nL s args BW own) (hM : Met l y (Cond.code y bytes maxL ret :: BW) rm (PcW D Z w tys (.ref b :: As)) (va_Qv po (atW D wf tys) Z) 0 0 Z) (o : okV own C index y bytes maxL ret n) (hR : okR rm R maxL 0 0)
    (hK : va_K D classes tys s) (hP : va_P D classes w H) {ci q0 : Nat} {T' : u_T} {NF : Nat} {fs : List Value} (hc : classes[ci]? = some (C, T', NF)) (he : w[q0]? = some (b, .inr (ci, fs))) (hD : va_D Z w) (hS : va_S A0 H0 H locs) (hZ : ∀ q, Z q → A0 q)
    (hn : As.length = n) (hl : ls.size = nL) (hst : st = As.reverse ++ .ref b :: rest) (hrest : (rest.map fun v => v.category).sum ≤ 8) (hdg : decode cc pc = .ok (.invokevirtual index, 3)) (hf : cells + 0 ≤ R.cells ∧ slots + 0 ≤ R.slots)
    (kk : ∀ (u : T) (H1 : Heap) (locs1 : List Loc), po u → va_P D classes (wf u) H1 → va_S A0 H0 H1 locs1 → W p l e R s m args below meth c H1 locs1 cells slots Q (F0 m (pc + 3) ls rest)) : W p l e R s m args below meth c H locs cells slots Q (F0 m pc ls st) :=
  va_callv (va_runV (As := As) (rest := rest) (b := b) Sx hM (xW Sx.2.2.2.2 o hR) ⟨blindW, va_recv hK hP hc he, fun U hU hW => ⟨rfl, by rw [hU]; exact hP, va_K.moved hW.alike hK, hD⟩⟩ rfl hn hl hst (lv_room hrest) hdg hf) hS (fun q _ h => hZ q h) hZ
    (fun u t H1 locs1 ht _ hp hB _ _ hS1 => kk u H1 locs1 hp (by rw [← ht]; exact hB.1) hS1)
theorem roStart {av : List Value} (hy : plainName y.cls = true) (ho : y.cls = own) (hle : (lg_sl av).length ≤ maxL)
    (body : ∀ (p : Program) (e : Env) (s : State) (m : MethodId) (below : List Frame) (meth : Method) (c : Code), CallFix p m c bytes maxL s av.toArray BW own → meth.sig.returnType = ret → meth.locks = false → va_P D classes w s.heap → va_K D classes tys s → ∀ ls : Array Slot, lv_has ls maxL (lv_args 0 av) →
      W p l e rm s m av.toArray below meth c s.heap [] 0 0 (MQ below (vp_Si post) av.toArray s 0 0 (fun _ => False)) (F0 m 0 ls [])) : Met l y (Cond.code y bytes maxL ret :: BW) rm (PcR D w tys av) (vp_Si post) 0 0 (fun _ => False) := by
  refine Met.ofW (cc := bytes) (maxL := maxL) (ret := ret) hy rfl ?_
  intro p e s m args below meth c s₁ B hml hv
  obtain ⟨rfl, hP, hK⟩ := hv
  have hts := atoms_spec (ws := Cond.code y bytes maxL ret :: BW) B.pre
  rw [lg_entry_eq]
  exact body p e s m below meth c ⟨B.exec, B.bytes, hml, by rw [← ho]; exact findClass_of_methodNamed B.named, fun w h => hts w (List.mem_cons_of_mem _ h)⟩ B.returns B.notSynchronized hP hK _ (lv_entry av hle)
theorem stStart {av : List Value} (hy : plainName y.cls = true) (ho : y.cls = own) (hle : (lg_sl av).length ≤ maxL)
    (body : ∀ (p : Program) (e : Env) (s : State) (m : MethodId) (below : List Frame) (meth : Method) (c : Code), CallFix p m c bytes maxL s av.toArray BW own → meth.sig.returnType = ret → meth.locks = false → ∀ ls : Array Slot, lv_has ls maxL (lv_args 0 av) →
      W p l e rm s m av.toArray below meth c s.heap [] 0 0 (MQ below (vp_Si post) av.toArray s 0 0 (fun _ => False)) (F0 m 0 ls [])) : Met l y (Cond.code y bytes maxL ret :: BW) rm (va_Pc av (fun _ => True)) (vp_Si post) 0 0 (fun _ => False) := by
  refine Met.ofW (cc := bytes) (maxL := maxL) (ret := ret) hy rfl ?_
  intro p e s m args below meth c s₁ B hml hv
  obtain ⟨rfl, -⟩ := hv
  have hts := atoms_spec (ws := Cond.code y bytes maxL ret :: BW) B.pre
  rw [lg_entry_eq]
  exact body p e s m below meth c ⟨B.exec, B.bytes, hml, by rw [← ho]; exact findClass_of_methodNamed B.named, fun w h => hts w (List.mem_cons_of_mem _ h)⟩ B.returns B.notSynchronized _ (lv_entry av hle)
theorem wStart {T : Type} {wf : T → va_W} {po : Int32 → T → Prop} {Z : Nat → Prop} {av : List Value} (hy : plainName y.cls = true) (ho : y.cls = own) (hle : (lg_sl av).length ≤ maxL)
    (body : ∀ (p : Program) (e : Env) (s : State) (m : MethodId) (below : List Frame) (meth : Method) (c : Code), CallFix p m c bytes maxL s av.toArray BW own → meth.sig.returnType = ret → meth.locks = false → va_P D classes w s.heap → va_K D classes tys s → va_D Z w → va_S Z s.heap s.heap [] → ∀ ls : Array Slot, lv_has ls maxL (lv_args 0 av) →
      W p l e rm s m av.toArray below meth c s.heap [] 0 0 (MQ below (va_Qi po (atW D wf tys) Z) av.toArray s 0 0 Z) (F0 m 0 ls [])) : Met l y (Cond.code y bytes maxL ret :: BW) rm (PcW D Z w tys av) (va_Qi po (atW D wf tys) Z) 0 0 Z := by
  refine Met.ofW (cc := bytes) (maxL := maxL) (ret := ret) hy rfl ?_
  intro p e s m args below meth c s₁ B hml hv
  obtain ⟨rfl, hP, hK, hD⟩ := hv
  have hts := atoms_spec (ws := Cond.code y bytes maxL ret :: BW) B.pre
  rw [lg_entry_eq]
  exact body p e s m below meth c ⟨B.exec, B.bytes, hml, by rw [← ho]; exact findClass_of_methodNamed B.named, fun w h => hts w (List.mem_cons_of_mem _ h)⟩ B.returns B.notSynchronized hP hK hD va_S.rf _ (lv_entry av hle)
theorem wStartV {T : Type} {wf : T → va_W} {po : T → Prop} {Z : Nat → Prop} {av : List Value} (hy : plainName y.cls = true) (ho : y.cls = own) (hle : (lg_sl av).length ≤ maxL)
    (body : ∀ (p : Program) (e : Env) (s : State) (m : MethodId) (below : List Frame) (meth : Method) (c : Code), CallFix p m c bytes maxL s av.toArray BW own → meth.sig.returnType = ret → meth.locks = false → va_P D classes w s.heap → va_K D classes tys s → va_D Z w → va_S Z s.heap s.heap [] → ∀ ls : Array Slot, lv_has ls maxL (lv_args 0 av) →
      W p l e rm s m av.toArray below meth c s.heap [] 0 0 (MQ below (va_Qv po (atW D wf tys) Z) av.toArray s 0 0 Z) (F0 m 0 ls [])) : Met l y (Cond.code y bytes maxL ret :: BW) rm (PcW D Z w tys av) (va_Qv po (atW D wf tys) Z) 0 0 Z := by
  refine Met.ofW (cc := bytes) (maxL := maxL) (ret := ret) hy rfl ?_
  intro p e s m args below meth c s₁ B hml hv
  obtain ⟨rfl, hP, hK, hD⟩ := hv
  have hts := atoms_spec (ws := Cond.code y bytes maxL ret :: BW) B.pre
  rw [lg_entry_eq]
  exact body p e s m below meth c ⟨B.exec, B.bytes, hml, by rw [← ho]; exact findClass_of_methodNamed B.named, fun w h => hts w (List.mem_cons_of_mem _ h)⟩ B.returns B.notSynchronized hP hK hD va_S.rf _ (lv_entry av hle)
theorem roRet {v : Int32} {ty : FieldType} (hx : p.tables.exec = Jvm.exec) (hb : c.code = cc) (hr : meth.sig.returnType = some ty) (hn : narrow ty (.int v) = .int v) (hlk : meth.locks = false) (hv : post v) (hdg : decode cc pc = .ok (.ireturn, 1)) : W p l e R s m args below meth c s.heap [] cells slots (MQ below (vp_Si post) args s cells slots (fun _ => False)) (F0 m pc ls [.int v]) :=
  W.zret hx hb hr hn (fun _ ht _ => ⟨v, rfl, hv, ht⟩) (fun _ h => by cases h) hdg hlk
theorem wRet {T : Type} {wf : T → va_W} {po : Int32 → T → Prop} {Z : Nat → Prop} {v : Int32} {u : T} {ty : FieldType} (hx : p.tables.exec = Jvm.exec) (hb : c.code = cc) (hr : meth.sig.returnType = some ty) (hn : narrow ty (.int v) = .int v) (hlk : meth.locks = false) (hv : po v u) (hP : va_P D classes (wf u) H) (hK : va_K D classes tys s) (hS : va_S Z s.heap H locs) (hdg : decode cc pc = .ok (.ireturn, 1)) : W p l e R s m args below meth c H locs cells slots (MQ below (va_Qi po (atW D wf tys) Z) args s cells slots Z) (F0 m pc ls [.int v]) :=
  W.zret hx hb hr hn (fun t ht hW => ⟨⟨v, u, rfl, hv, by rw [ht]; exact hP, va_K.moved hW.alike hK⟩, hS.F ht⟩) hS.2.2 hdg hlk
theorem wRetV {T : Type} {wf : T → va_W} {po : T → Prop} {Z : Nat → Prop} {u : T} (hx : p.tables.exec = Jvm.exec) (hb : c.code = cc) (hr : meth.sig.returnType = none) (hlk : meth.locks = false) (hv : po u) (hP : va_P D classes (wf u) H) (hK : va_K D classes tys s) (hS : va_S Z s.heap H locs) (hdg : decode cc pc = .ok (.return_, 1)) : W p l e R s m args below meth c H locs cells slots (MQ below (va_Qv po (atW D wf tys) Z) args s cells slots Z) (F0 m pc ls []) :=
  W.vret hx hb hr (fun t ht hW => ⟨⟨u, rfl, hv, by rw [ht]; exact hP, va_K.moved hW.alike hK⟩, hS.F ht⟩) hS.2.2 hdg hlk
end XB
theorem v_C_isThing : okV R_C R_C 40 y_C_isThing b_C_isThing 2 (some .boolean) 1 := ⟨⟨q_ml_C_40, q_code_C_isThing, q_ini_C, by decide +kernel⟩, q_im_C_isThing, q_sel_C_isThing⟩
theorem v_C_isDoor : okV R_C R_C 55 y_C_isDoor b_C_isDoor 2 (some .boolean) 1 := ⟨⟨q_ml_C_55, q_code_C_isDoor, q_ini_C, by decide +kernel⟩, q_im_C_isDoor, q_sel_C_isDoor⟩
theorem v_C_sortOf : okV R_C R_C 44 y_C_sortOf b_C_sortOf 2 (some .int) 1 := ⟨⟨q_ml_C_44, q_code_C_sortOf, q_ini_C, by decide +kernel⟩, q_im_C_sortOf, q_sel_C_sortOf⟩
theorem v_C_holderOf : okV R_C R_C 74 y_C_holderOf b_C_holderOf 2 (some .int) 1 := ⟨⟨q_ml_C_74, q_code_C_holderOf, q_ini_C, by decide +kernel⟩, q_im_C_holderOf, q_sel_C_holderOf⟩
theorem v_C_markOf : okV R_C R_C 86 y_C_markOf b_C_markOf 3 (some .int) 2 := ⟨⟨q_ml_C_86, q_code_C_markOf, q_ini_C, by decide +kernel⟩, q_im_C_markOf, q_sel_C_markOf⟩
theorem v_C_isPerson : okV R_C R_C 58 y_C_isPerson b_C_isPerson 2 (some .boolean) 1 := ⟨⟨q_ml_C_58, q_code_C_isPerson, q_ini_C, by decide +kernel⟩, q_im_C_isPerson, q_sel_C_isPerson⟩
theorem v_C_isShutBox : okV R_C R_C 71 y_C_isShutBox b_C_isShutBox 2 (some .boolean) 1 := ⟨⟨q_ml_C_71, q_code_C_isShutBox, q_ini_C, by decide +kernel⟩, q_im_C_isShutBox, q_sel_C_isShutBox⟩
theorem v_C_isSpace : okV R_C R_C 89 y_C_isSpace b_C_isSpace 3 (some .boolean) 1 := ⟨⟨q_ml_C_89, q_code_C_isSpace, q_ini_C, by decide +kernel⟩, q_im_C_isSpace, q_sel_C_isSpace⟩
theorem v_C_mayBeGivenTo : okV R_C R_C 68 y_C_mayBeGivenTo b_C_mayBeGivenTo 3 (some .boolean) 1 := ⟨⟨q_ml_C_68, q_code_C_mayBeGivenTo, q_ini_C, by decide +kernel⟩, q_im_C_mayBeGivenTo, q_sel_C_mayBeGivenTo⟩
theorem v_C_hasInHands : okV R_C R_C 65 y_C_hasInHands b_C_hasInHands 3 (some .boolean) 2 := ⟨⟨q_ml_C_65, q_code_C_hasInHands, q_ini_C, by decide +kernel⟩, q_im_C_hasInHands, q_sel_C_hasInHands⟩
theorem v_C_isFull : okV R_C R_C 52 y_C_isFull b_C_isFull 2 (some .boolean) 1 := ⟨⟨q_ml_C_52, q_code_C_isFull, q_ini_C, by decide +kernel⟩, q_im_C_isFull, q_sel_C_isFull⟩
theorem v_C_countHeldBy : okV R_C R_C 80 y_C_countHeldBy b_C_countHeldBy 4 (some .int) 1 := ⟨⟨q_ml_C_80, q_code_C_countHeldBy, q_ini_C, by decide +kernel⟩, q_im_C_countHeldBy, q_sel_C_countHeldBy⟩
theorem v_C_countWithin : okV R_C R_C 83 y_C_countWithin b_C_countWithin 4 (some .int) 1 := ⟨⟨q_ml_C_83, q_code_C_countWithin, q_ini_C, by decide +kernel⟩, q_im_C_countWithin, q_sel_C_countWithin⟩
theorem v_C_isWithin : okV R_C R_C 48 y_C_isWithin b_C_isWithin 5 (some .boolean) 2 := ⟨⟨q_ml_C_48, q_code_C_isWithin, q_ini_C, by decide +kernel⟩, q_im_C_isWithin, q_sel_C_isWithin⟩
theorem v_C_spaceOf : okV R_C R_C 77 y_C_spaceOf b_C_spaceOf 4 (some .int) 1 := ⟨⟨q_ml_C_77, q_code_C_spaceOf, q_ini_C, by decide +kernel⟩, q_im_C_spaceOf, q_sel_C_spaceOf⟩
theorem v_C_firstBarrier : okV R_C R_C 61 y_C_firstBarrier b_C_firstBarrier 5 (some .int) 2 := ⟨⟨q_ml_C_61, q_code_C_firstBarrier, q_ini_C, by decide +kernel⟩, q_im_C_firstBarrier, q_sel_C_firstBarrier⟩
theorem v_C_turningPoint : okV R_C R_C 112 y_C_turningPoint b_C_turningPoint 5 (some .int) 2 := ⟨⟨q_ml_C_112, q_code_C_turningPoint, q_ini_C, by decide +kernel⟩, q_im_C_turningPoint, q_sel_C_turningPoint⟩
theorem v_C_firstBarrierOut : okV R_C R_C 115 y_C_firstBarrierOut b_C_firstBarrierOut 5 (some .int) 2 := ⟨⟨q_ml_C_115, q_code_C_firstBarrierOut, q_ini_C, by decide +kernel⟩, q_im_C_firstBarrierOut, q_sel_C_firstBarrierOut⟩
theorem v_C_firstBarrierIn : okV R_C R_C 118 y_C_firstBarrierIn b_C_firstBarrierIn 6 (some .int) 2 := ⟨⟨q_ml_C_118, q_code_C_firstBarrierIn, q_ini_C, by decide +kernel⟩, q_im_C_firstBarrierIn, q_sel_C_firstBarrierIn⟩
theorem v_C_wallLoss : okV R_C R_C 135 y_C_wallLoss b_C_wallLoss 3 (some .int) 2 := ⟨⟨q_ml_C_135, q_code_C_wallLoss, q_ini_C, by decide +kernel⟩, q_im_C_wallLoss, q_sel_C_wallLoss⟩
theorem v_C_doorLoss : okV R_C R_C 142 y_C_doorLoss b_C_doorLoss 4 (some .int) 2 := ⟨⟨q_ml_C_142, q_code_C_doorLoss, q_ini_C, by decide +kernel⟩, q_im_C_doorLoss, q_sel_C_doorLoss⟩
theorem v_C_fillFromAllThings : okV R_C R_C 92 y_C_fillFromAllThings b_C_fillFromAllThings 4 none 1 := ⟨⟨q_ml_C_92, q_code_C_fillFromAllThings, q_ini_C, by decide +kernel⟩, q_im_C_fillFromAllThings, q_sel_C_fillFromAllThings⟩
theorem v_C_fillFromOneSpace : okV R_C R_C 96 y_C_fillFromOneSpace b_C_fillFromOneSpace 3 none 2 := ⟨⟨q_ml_C_96, q_code_C_fillFromOneSpace, q_ini_C, by decide +kernel⟩, q_im_C_fillFromOneSpace, q_sel_C_fillFromOneSpace⟩
theorem v_C_lossAt : okV R_C R_C 100 y_C_lossAt b_C_lossAt 2 (some .int) 1 := ⟨⟨q_ml_C_100, q_code_C_lossAt, q_ini_C, by decide +kernel⟩, q_im_C_lossAt, q_sel_C_lossAt⟩
theorem v_C_spread : okV R_C R_C 132 y_C_spread b_C_spread 6 none 1 := ⟨⟨q_ml_C_132, q_code_C_spread, q_ini_C, by decide +kernel⟩, q_im_C_spread, q_sel_C_spread⟩
theorem v_C_spreadOver : okV R_C R_C 138 y_C_spreadOver b_C_spreadOver 4 (some .boolean) 3 := ⟨⟨q_ml_C_138, q_code_C_spreadOver, q_ini_C, by decide +kernel⟩, q_im_C_spreadOver, q_sel_C_spreadOver⟩
theorem v_C_partHeardOf : okV R_C R_C 109 y_C_partHeardOf b_C_partHeardOf 3 (some .int) 1 := ⟨⟨q_ml_C_109, q_code_C_partHeardOf, q_ini_C, by decide +kernel⟩, q_im_C_partHeardOf, q_sel_C_partHeardOf⟩
theorem v_C_viewOf : okV R_C R_C 103 y_C_viewOf b_C_viewOf 4 (some .int) 1 := ⟨⟨q_ml_C_103, q_code_C_viewOf, q_ini_C, by decide +kernel⟩, q_im_C_viewOf, q_sel_C_viewOf⟩
theorem v_C_widenedOverWalls : okV R_C R_C 145 y_C_widenedOverWalls b_C_widenedOverWalls 7 (some .int) 1 := ⟨⟨q_ml_C_145, q_code_C_widenedOverWalls, q_ini_C, by decide +kernel⟩, q_im_C_widenedOverWalls, q_sel_C_widenedOverWalls⟩
theorem v_C_widenedOverOneDoor : okV R_C R_C 148 y_C_widenedOverOneDoor b_C_widenedOverOneDoor 4 (some .int) 1 := ⟨⟨q_ml_C_148, q_code_C_widenedOverOneDoor, q_ini_C, by decide +kernel⟩, q_im_C_widenedOverOneDoor, q_sel_C_widenedOverOneDoor⟩
theorem v_C_endsIfTouched : okS R_C 151 y_C_endsIfTouched b_C_endsIfTouched 4 (some .int) 3 := ⟨⟨q_ml_C_151, q_code_C_endsIfTouched, q_ini_C, by decide +kernel⟩, q_st_C_endsIfTouched⟩
theorem v_C_isSeen : okV R_C R_C 106 y_C_isSeen b_C_isSeen 4 (some .boolean) 2 := ⟨⟨q_ml_C_106, q_code_C_isSeen, q_ini_C, by decide +kernel⟩, q_im_C_isSeen, q_sel_C_isSeen⟩
theorem v_A_fill : okS R_C 121 y_A_fill b_A_fill 4 none 2 := ⟨⟨q_ml_C_121, q_code_A_fill, q_ini_A, by decide +kernel⟩, q_st_A_fill⟩
theorem k_mmax_link : Cond.methodLink R_C 127 Lib.Math.max.name ∈ BW := q_ml_C_127
theorem k_mmax_stat : Cond.static Lib.Math.max.name ∈ BW := q_st_X_max
theorem k_mmax_ini : Cond.initialized "java/lang/Math" ∈ BW := q_ini_X
theorem k_mmax_code : Cond.code Lib.Math.max.name Lib.Math.max.code 2 (some .int) ∈ BW := q_code_X_max
end
section
/-! The class's world: the object, its rows of numbers (A 0 sorts, A 1 holders, A 2 to A 5 marks of things, A 6 doorFrom, A 7 doorTo, A 8, A 9 marks of doors, A 10 levels). -/
abbrev tC (cI cII : ClassId) : List (ClassId × FieldType) := [(cI, .int), (cII, .array .int)]
def gO (a : Nat → Nat) (b k : Nat) : Nat → Option Nat := fun i => if i < k then some (a (b + i)) else none
def wC (a : Nat → Nat) (cI cII : ClassId) (n d : Int32) (A : Nat → Nat → Int32) : va_W :=
  [(a 0, .inr (0, [.int n, .ref (a 1), .ref (a 2), .ref (a 3), .int d, .ref (a 8), .ref (a 9), .ref (a 10), .ref (a 13)])),
   (a 1, .inl (cI, 30, .inl (A 0))), (a 2, .inl (cI, 30, .inl (A 1))),
   (a 3, .inl (cII, 4, .inr (.inr (.inr (.inr (gO a 4 4)))))), (a 4, .inl (cI, 30, .inl (A 2))), (a 5, .inl (cI, 30, .inl (A 3))), (a 6, .inl (cI, 30, .inl (A 4))), (a 7, .inl (cI, 30, .inl (A 5))),
   (a 8, .inl (cI, 10, .inl (A 6))), (a 9, .inl (cI, 10, .inl (A 7))),
   (a 10, .inl (cII, 2, .inr (.inr (.inr (.inr (gO a 11 2)))))), (a 11, .inl (cI, 10, .inl (A 8))), (a 12, .inl (cI, 10, .inl (A 9))),
   (a 13, .inl (cI, 30, .inl (A 10)))]
theorem wC_D {Z : Nat → Prop} {a : Nat → Nat} {cI cII cI' cII' : ClassId} {n d n' d' : Int32} {A A' : Nat → Nat → Int32} (h : va_D Z (wC a cI cII n d A)) : va_D Z (wC a cI' cII' n' d' A') := by
  have key : ∀ (k : Nat) (q : Nat × va_E), (wC a cI' cII' n' d' A')[k]? = some q → ∃ e, (wC a cI cII n d A)[k]? = some (q.1, e) := by
    intro k q hq
    match k, hq with
    | 0, hq => cases hq; exact ⟨_, rfl⟩
    | 1, hq => cases hq; exact ⟨_, rfl⟩
    | 2, hq => cases hq; exact ⟨_, rfl⟩
    | 3, hq => cases hq; exact ⟨_, rfl⟩
    | 4, hq => cases hq; exact ⟨_, rfl⟩
    | 5, hq => cases hq; exact ⟨_, rfl⟩
    | 6, hq => cases hq; exact ⟨_, rfl⟩
    | 7, hq => cases hq; exact ⟨_, rfl⟩
    | 8, hq => cases hq; exact ⟨_, rfl⟩
    | 9, hq => cases hq; exact ⟨_, rfl⟩
    | 10, hq => cases hq; exact ⟨_, rfl⟩
    | 11, hq => cases hq; exact ⟨_, rfl⟩
    | 12, hq => cases hq; exact ⟨_, rfl⟩
    | 13, hq => cases hq; exact ⟨_, rfl⟩
    | k + 14, hq => simp [wC] at hq
  refine ⟨fun i j p q hp hq e => ?_, fun k q hq => ?_⟩
  · obtain ⟨e1, h1⟩ := key i p hp
    obtain ⟨e2, h2⟩ := key j q hq
    exact h.1 i j _ _ h1 h2 e
  · obtain ⟨e1, h1⟩ := key k q hq
    exact h.2 k (q.1, e1) h1
theorem wC_row4 {a : Nat → Nat} {cI cII : ClassId} {n d : Int32} {A : Nat → Nat → Int32} {j : Nat} (h : j < 4) : (wC a cI cII n d A)[4 + j]? = some (a (4 + j), .inl (cI, 30, .inl (A (2 + j)))) := by
  rcases (show j = 0 ∨ j = 1 ∨ j = 2 ∨ j = 3 by omega) with rfl | rfl | rfl | rfl <;> rfl
theorem wC_row2 {a : Nat → Nat} {cI cII : ClassId} {n d : Int32} {A : Nat → Nat → Int32} {j : Nat} (h : j < 2) : (wC a cI cII n d A)[11 + j]? = some (a (11 + j), .inl (cI, 10, .inl (A (8 + j)))) := by
  rcases (show j = 0 ∨ j = 1 by omega) with rfl | rfl <;> rfl
theorem wC_set4 {a : Nat → Nat} {cI cII : ClassId} {n d : Int32} {A : Nat → Nat → Int32} {j i : Nat} {x : Int32} (h : j < 4) : (wC a cI cII n d A).set (4 + j) (a (4 + j), .inl (cI, 30, .inl (upd (A (2 + j)) i x))) = wC a cI cII n d (sU A (2 + j) i x) := by
  rcases (show j = 0 ∨ j = 1 ∨ j = 2 ∨ j = 3 by omega) with rfl | rfl | rfl | rfl <;> rfl
theorem wC_set2 {a : Nat → Nat} {cI cII : ClassId} {n d : Int32} {A : Nat → Nat → Int32} {j i : Nat} {x : Int32} (h : j < 2) : (wC a cI cII n d A).set (11 + j) (a (11 + j), .inl (cI, 10, .inl (upd (A (8 + j)) i x))) = wC a cI cII n d (sU A (8 + j) i x) := by
  rcases (show j = 0 ∨ j = 1 by omega) with rfl | rfl <;> rfl
section WCL
variable {p : Program} {l : Launch} {e : Env} {R : Room} {s : State} {m : MethodId} {args : Array Value} {below : List Frame} {meth : Method} {c : Code} {H : Heap} {locs : List Loc} {cells slots : Nat} {Q : State → Prop}
variable {cc : ByteArray} {pc : Nat} {ls : Array Slot} {rest : List Value} {D : va_G} {a : Nat → Nat} {cI cII : ClassId} {n d : Int32} {A : Nat → Nat → Int32}
theorem x_aldA {cl : List vw_C} {tys : List (ClassId × FieldType)} {ws : va_W} {b : Nat} (hx : p.tables.exec = Jvm.exec) (hb : c.code = cc) (hK : va_K D cl tys s) (hP : va_P D cl ws H) (q0 t0 : Nat) {cA : ClassId} {t : FieldType} {k : Nat} {f : Nat → Option Nat} (ha : ws[q0]? = some (b, .inl (cA, k, .inr (.inr (.inr (.inr f)))))) (ht : tys[t0]? = some (cA, .array t)) {i : Int32} (hin : vp_in i k) (hdg : decode cc pc = .ok (.aaload, 1))
    (kk : W p l e R s m args below meth c H locs cells slots Q (F0 m (pc + 1) ls (va_rf (f i.toNatClampNeg) :: rest))) : W p l e R s m args below meth c H locs cells slots Q (F0 m pc ls (.int i :: .ref b :: rest)) :=
  W.aald (v := va_rf (f i.toNatClampNeg)) (ty := .array t) hx hb (hP q0 _ ha) ((hK.2 t0 _ ht).1 k (fun j => va_rf (f j))) rfl (fun q => by cases q) (by show ¬ (i < 0 ∨ (arrV _ _ _).slots.size ≤ _); rw [arrV_size]; exact hin) (by show (arrV _ _ _).slots[_]? = _; rw [arrV_read _ _ (vp_lt hin)]) rfl rfl hdg kk
theorem x_ald4 (hx : p.tables.exec = Jvm.exec) (hb : c.code = cc) (hK : va_K D classes (tC cI cII) s) (hP : va_P D classes (wC a cI cII n d A) H) {i : Int32} (hin : vp_in i 4) (hdg : decode cc pc = .ok (.aaload, 1))
    (kk : W p l e R s m args below meth c H locs cells slots Q (F0 m (pc + 1) ls (.ref (a (4 + i.toNatClampNeg)) :: rest))) : W p l e R s m args below meth c H locs cells slots Q (F0 m pc ls (.int i :: .ref (a 3) :: rest)) := by
  refine x_aldA hx hb hK hP 3 1 rfl rfl hin hdg ?_
  have h : va_rf (gO a 4 4 i.toNatClampNeg) = .ref (a (4 + i.toNatClampNeg)) := by rw [gO, if_pos (vp_lt hin)]; rfl
  rw [h]; exact kk
theorem x_ald2 (hx : p.tables.exec = Jvm.exec) (hb : c.code = cc) (hK : va_K D classes (tC cI cII) s) (hP : va_P D classes (wC a cI cII n d A) H) {i : Int32} (hin : vp_in i 2) (hdg : decode cc pc = .ok (.aaload, 1))
    (kk : W p l e R s m args below meth c H locs cells slots Q (F0 m (pc + 1) ls (.ref (a (11 + i.toNatClampNeg)) :: rest))) : W p l e R s m args below meth c H locs cells slots Q (F0 m pc ls (.int i :: .ref (a 10) :: rest)) := by
  refine x_aldA hx hb hK hP 10 1 rfl rfl hin hdg ?_
  have h : va_rf (gO a 11 2 i.toNatClampNeg) = .ref (a (11 + i.toNatClampNeg)) := by rw [gO, if_pos (vp_lt hin)]; rfl
  rw [h]; exact kk
end WCL
/-! Arrays.fill of ints, and its call on the levels. -/
theorem va_P_set2 {D : va_G} {cl : List vw_C} {Z : Nat → Prop} {p : Nat} {ws : va_W} {a : Nat} {e0 e : va_E} {H H1 : Heap} (h : va_P D cl ws H) (hD : va_D Z ws) (hp : ws[p]? = some (a, e0)) (he : va_at D cl (a, e) H1) (oq : ∀ q : Nat, q < H.size → q ≠ a → H1[q]? = H[q]?) : va_P D cl (ws.set p (a, e)) H1 := by
  intro k q hk
  by_cases hkp : k = p
  · subst hkp
    rw [List.getElem?_set_self (List.getElem?_eq_some_iff.mp hp).1] at hk
    cases hk
    exact he
  · rw [List.getElem?_set_ne (Ne.symm hkp)] at hk
    have h1 := h k q hk
    exact h1.kept (oq q.1 h1.lt (fun e => hkp (hD.1 k p q _ hk hp e)))
def fl_g (v : Int32) (f : Nat → Int32) (i : Nat) : Nat → Int32 := fun j => if j < i then v else f j
theorem fl_g_S (v : Int32) (f : Nat → Int32) (i : Nat) : upd (fl_g v f i) i v = fl_g v f (i + 1) := by
  funext j
  by_cases h : j = i
  · subst h
    rw [pk_us, fl_g, if_pos (by omega)]
  · rw [pk_un h, fl_g, fl_g]
    by_cases h2 : j < i
    · rw [if_pos h2, if_pos (by omega)]
    · rw [if_neg h2, if_neg (by omega)]
theorem fl_g_0 (v : Int32) (f : Nat → Int32) : fl_g v f 0 = f := by
  funext j
  rw [fl_g, if_neg (by omega)]
set_option maxHeartbeats 4000000 in
set_option maxRecDepth 100000 in
theorem w_fill_5 (l : Launch) (D : va_G) (Z : Nat → Prop) (b n : Nat) (hn : n < 2 ^ 31) (cI : ClassId) (f : Nat → Int32) (v : Int32) {p : Program} {e : Env} {s : State} {m : MethodId} {below : List Frame} {meth : Method} {c : Code} (Sx : CallFix p m c b_A_fill 4 s ([.ref b, .int v] : List Value).toArray BW R_A) (hr : meth.sig.returnType = none) (hlk : meth.locks = false) (hD : va_D Z [(b, .inl (cI, n, .inl f))]) (hK : va_K D classes [(cI, .int)] s) : ∀ (k i : Nat), i + k = n → ∀ (H : Heap) (locs : List Loc) (ls : Array Slot), va_P D classes [(b, .inl (cI, n, .inl (fl_g v f i)))] H → va_S Z s.heap H locs → lv_has ls 4 [(0, .ref b), (1, .int v), (2, .int (nI i)), (3, .int (nI n))] → W p l e ({ frames := 0, cells := 0, slots := 0, locals := 0 } : Room) s m ([.ref b, .int v] : List Value).toArray below meth c H locs 0 0 (MQ below (va_Qv (fun u => u = fl_g v f n) (atW D (fun u => [(b, .inl (cI, n, .inl u))]) [(cI, .int)]) Z) ([.ref b, .int v] : List Value).toArray s 0 0 Z) (F0 m 5 ls []) := by
  obtain ⟨hx, hb, hml, hown, hts⟩ := id Sx
  intro k
  induction k with
  | zero =>
    intro i hi H locs ls hP hS hl
    obtain rfl : i = n := by omega
    refine lv_iload_n hx hb d_A_fill_5 rfl (lv_at hl 2 rfl) ?_
    refine lv_iload_n hx hb d_A_fill_6 rfl (lv_at hl 3 rfl) ?_
    refine lv_icmp_ge (tgt := 20) hx hb d_A_fill_7 (by decide) (fun c_7 => ?_) (fun c_7 => absurd (nI_le (Nat.le_refl _) hn) c_7)
    exact wRetV (u := fl_g v f i) hx hb hr hlk rfl hP hK hS d_A_fill_20
  | succ k ih =>
    intro i hi H locs ls hP hS hl
    refine lv_iload_n hx hb d_A_fill_5 rfl (lv_at hl 2 rfl) ?_
    refine lv_iload_n hx hb d_A_fill_6 rfl (lv_at hl 3 rfl) ?_
    refine lv_icmp_ge (tgt := 20) hx hb d_A_fill_7 (by decide) (fun c_7 => absurd c_7 (nI_ge (a := i) (b := n) (by omega) hn)) (fun c_7 => ?_)
    refine lv_aload_n hx hb d_A_fill_10 rfl (lv_at hl 0 rfl) ?_
    refine lv_iload_n hx hb d_A_fill_11 rfl (lv_at hl 2 rfl) ?_
    refine lv_iload_n hx hb d_A_fill_12 rfl (lv_at hl 1 rfl) ?_
    have hD1 : va_D Z [(b, .inl (cI, n, .inl (fl_g v f i)))] := hD.set (p := 0) (e := .inl (cI, n, .inl (fl_g v f i))) rfl
    refine va_iast (n := n) hx hb hK hP hD1 hS 0 0 rfl rfl (vp_in_nI (by omega) hn) d_A_fill_13 (fun H locs hP _ hS => ?_)
    rw [nI_clamp (by omega), fl_g_S] at hP
    have hP : va_P D classes [(b, .inl (cI, n, .inl (fl_g v f (i + 1))))] H := hP
    refine lv_iinc (v := nI (i + 1)) (lv' := [(2, .int (nI (i + 1))), (0, .ref b), (1, .int v), (3, .int (nI n))]) hx hb d_A_fill_14 hl (k := 2) rfl (nI_1 i) (by decide) rfl (fun ls hl => ?_)
    refine lv_goto (tgt := 5) hx hb d_A_fill_17 (by decide) ?_
    exact ih (i + 1) (by omega) H locs ls hP hS (lv_sub hl [1, 2, 0, 3] rfl)
set_option maxHeartbeats 4000000 in
set_option maxRecDepth 100000 in
theorem c_fill (l : Launch) (D : va_G) (Z : Nat → Prop) (b n : Nat) (hn : n < 2 ^ 31) (cI : ClassId) (f : Nat → Int32) (v : Int32) : Met l y_A_fill (Cond.code y_A_fill b_A_fill 4 none :: BW) ({ frames := 0, cells := 0, slots := 0, locals := 0 } : Room) (PcW D Z [(b, .inl (cI, n, .inl f))] [(cI, .int)] [.ref b, .int v]) (va_Qv (fun u => u = fl_g v f n) (atW D (fun u => [(b, .inl (cI, n, .inl u))]) [(cI, .int)]) Z) 0 0 Z := by
  refine wStartV (by decide) rfl (Nat.le_of_ble_eq_true rfl) (fun p e s m below meth c Sx hr hlk hP hK hD hS ls hl => ?_)
  obtain ⟨hx, hb, hml, hown, hts⟩ := id Sx
  have hl : lv_has ls 4 [(0, .ref b), (1, .int v)] := hl
  refine lv_iconst (v := (0 : Int32)) hx hb d_A_fill_0 (by decide) ?_
  refine lv_istore_n (lv' := [(2, .int (0 : Int32)), (0, .ref b), (1, .int v)]) hx hb d_A_fill_1 rfl hl (by decide) rfl (fun ls hl => ?_)
  refine lv_aload_n hx hb d_A_fill_2 rfl (lv_at hl 1 rfl) ?_
  refine va_alen (v := nI n) hx hb hK hP 0 0 rfl rfl rfl d_A_fill_3 ?_
  refine lv_istore_n (lv' := [(3, .int (nI n)), (2, .int (0 : Int32)), (0, .ref b), (1, .int v)]) hx hb d_A_fill_4 rfl hl (by decide) rfl (fun ls hl => ?_)
  exact w_fill_5 l D Z b n hn cI f v Sx hr hlk hD hK n 0 (by omega) _ _ ls (by rw [fl_g_0]; exact hP) hS (lv_sub hl [2, 3, 1, 0] rfl)
def fU (A : Nat → Nat → Int32) : Nat → Nat → Int32 := va_up A 10 (fl_g 0 (A 10) 30)
section XF
variable {p : Program} {l : Launch} {e : Env} {R : Room} {s : State} {m : MethodId} {args : Array Value} {below : List Frame} {meth : Method} {c : Code} {H H0 : Heap} {locs : List Loc} {cells slots : Nat} {Q : State → Prop}
variable {cc : ByteArray} {pc nL index : Nat} {ls : Array Slot} {rest : List Value} {D : va_G} {a : Nat → Nat} {cI cII : ClassId} {n d : Int32} {A : Nat → Nat → Int32} {Z : Nat → Prop}
theorem x_fill13 (Sx : CallFix p m c cc nL s args BW R_C) (o : okS R_C index y_A_fill b_A_fill 4 none 2) (hR : okR ({ frames := 0, cells := 0, slots := 0, locals := 0 } : Room) R 4 0 0) (hK : va_K D classes (tC cI cII) s) (hP : va_P D classes (wC a cI cII n d A) H) (hD : va_D Z (wC a cI cII n d A)) (hS : va_S Z H0 H locs) (hl : ls.size = nL) (hrest : (rest.map fun v => v.category).sum ≤ 8) (hdg : decode cc pc = .ok (.invokestatic index, 3)) (hf : cells + 0 ≤ R.cells ∧ slots + 0 ≤ R.slots)
    (kk : ∀ (H : Heap) (locs : List Loc), va_P D classes (wC a cI cII n d (fU A)) H → va_S Z H0 H locs → W p l e R s m args below meth c H locs cells slots Q (F0 m (pc + 3) ls rest)) : W p l e R s m args below meth c H locs cells slots Q (F0 m pc ls (.int 0 :: .ref (a 13) :: rest)) := by
  have hP13 := hP.sub (ws' := [(a 13, .inl (cI, 30, .inl (A 10)))]) [13] rfl
  have hK13 := hK.sub (tys' := [(cI, .int)]) [0] rfl
  have hD13 : va_D (fun q => q = a 13) [(a 13, (.inl (cI, 30, .inl (A 10)) : va_E))] := by
    have h := hD.sub (ws' := [(a 13, .inl (cI, 30, .inl (A 10)))]) [13] (by decide) rfl
    refine ⟨h.1, fun k q hk => ?_⟩
    match k, hk with
    | 0, hk => cases hk; rfl
    | k + 1, hk => simp at hk
  have hZ : ∀ q, q = a 13 → Z q := fun q h => by rw [h]; exact hD.2 13 _ rfl
  refine va_callv (va_runS (As := [.ref (a 13), .int 0]) (rest := rest) Sx (c_fill l D (fun q => q = a 13) (a 13) 30 (by decide) cI (A 10) 0) ⟨xB Sx.2.2.2.2 o.1 hR, Sx.2.2.2.2 _ o.2⟩ ⟨blindW, fun U hU hW => ⟨rfl, by rw [hU]; exact hP13, va_K.moved hW.alike hK13, hD13⟩⟩ rfl rfl hl rfl (lv_room hrest) hdg hf) hS (fun q _ h => hZ q h) hZ (fun u t H1 locs1 ht hvm hp hB hz hk hS1 => ?_)
  subst hp
  have h1 : va_at D classes (a 13, .inl (cI, 30, .inl (fl_g 0 (A 10) 30))) H1 := by
    have := hB.1 0 _ rfl
    rw [ht] at this
    exact this
  exact kk H1 locs1 (va_P_set2 (p := 13) hP hD rfl h1 (fun q hq hne => hk q hq hne)) hS1
end XF
end
section
def k_isThing (N K : Nat) (A : Nat → Nat → Int32) (x : Int32) : Int32 := (if x < (0 : Int32) then (0 : Int32) else (if (nI N) ≤ x then (0 : Int32) else (1 : Int32)))
set_option maxHeartbeats 4000000 in
set_option maxRecDepth 100000 in
theorem ck_isThing (l : Launch) (D : va_G) (a : Nat → Nat) (cI cII : ClassId) (N K : Nat) (A : Nat → Nat → Int32) (hN : N ≤ 30) (hKK : K ≤ 10) (x : Int32) : Met l y_C_isThing (Cond.code y_C_isThing b_C_isThing 2 (some .boolean) :: BW) ({ frames := 0, cells := 0, slots := 0, locals := 0 } : Room) (PcR D (wC a cI cII (nI N) (nI K) A) (tC cI cII) [.ref (a 0), .int x]) (vp_Si (fun r => r = k_isThing N K A x)) 0 0 (fun _ => False) := by
  refine roStart (by decide) rfl (Nat.le_of_ble_eq_true rfl) (fun p e s m below meth c Sx hr hlk hP hK ls hl => ?_)
  obtain ⟨hx, hb, hml, hown, hts⟩ := id Sx
  have hl : lv_has ls 2 [(0, .ref (a 0)), (1, .int x)] := hl
  refine lv_iload_n hx hb d_C_isThing_0 rfl (lv_at hl 1 rfl) ?_
  refine lv_if_lt (tgt := 16) hx hb d_C_isThing_1 (by decide) (fun c_1 => ?_) (fun c_1 => ?_)
  · refine lv_iconst (v := (0 : Int32)) hx hb d_C_isThing_16 (by decide) ?_
    exact roRet hx hb hr (by first | rfl | decide) hlk (show (0 : Int32) = k_isThing N K A x from by rw [k_isThing, if_pos c_1]) d_C_isThing_17
  · refine lv_iload_n hx hb d_C_isThing_4 rfl (lv_at hl 1 rfl) ?_
    refine lv_aload_n hx hb d_C_isThing_5 rfl (lv_at hl 0 rfl) ?_
    refine va_get (D := D) (ci := 0) (v := .int (nI N)) (C := R_C) (T := F_C) (N := 9) hx hb hts i_C hown hK hP 0 rfl rfl 0 (by decide) (hts _ fl_C_7) (fun _ h9 => h9) rfl d_C_isThing_6 ?_
    refine lv_icmp_ge (tgt := 16) hx hb d_C_isThing_9 (by decide) (fun c_9 => ?_) (fun c_9 => ?_)
    · refine lv_iconst (v := (0 : Int32)) hx hb d_C_isThing_16 (by decide) ?_
      exact roRet hx hb hr (by first | rfl | decide) hlk (show (0 : Int32) = k_isThing N K A x from by rw [k_isThing, if_neg c_1, if_pos c_9]) d_C_isThing_17
    · refine lv_iconst (v := (1 : Int32)) hx hb d_C_isThing_12 (by decide) ?_
      refine lv_goto (tgt := 17) hx hb d_C_isThing_13 (by decide) ?_
      exact roRet hx hb hr (by first | rfl | decide) hlk (show (1 : Int32) = k_isThing N K A x from by rw [k_isThing, if_neg c_1, if_neg c_9]) d_C_isThing_17

def k_isDoor (N K : Nat) (A : Nat → Nat → Int32) (x : Int32) : Int32 := (if x < (0 : Int32) then (0 : Int32) else (if (nI K) ≤ x then (0 : Int32) else (1 : Int32)))
set_option maxHeartbeats 4000000 in
set_option maxRecDepth 100000 in
theorem ck_isDoor (l : Launch) (D : va_G) (a : Nat → Nat) (cI cII : ClassId) (N K : Nat) (A : Nat → Nat → Int32) (hN : N ≤ 30) (hKK : K ≤ 10) (x : Int32) : Met l y_C_isDoor (Cond.code y_C_isDoor b_C_isDoor 2 (some .boolean) :: BW) ({ frames := 0, cells := 0, slots := 0, locals := 0 } : Room) (PcR D (wC a cI cII (nI N) (nI K) A) (tC cI cII) [.ref (a 0), .int x]) (vp_Si (fun r => r = k_isDoor N K A x)) 0 0 (fun _ => False) := by
  refine roStart (by decide) rfl (Nat.le_of_ble_eq_true rfl) (fun p e s m below meth c Sx hr hlk hP hK ls hl => ?_)
  obtain ⟨hx, hb, hml, hown, hts⟩ := id Sx
  have hl : lv_has ls 2 [(0, .ref (a 0)), (1, .int x)] := hl
  refine lv_iload_n hx hb d_C_isDoor_0 rfl (lv_at hl 1 rfl) ?_
  refine lv_if_lt (tgt := 16) hx hb d_C_isDoor_1 (by decide) (fun c_1 => ?_) (fun c_1 => ?_)
  · refine lv_iconst (v := (0 : Int32)) hx hb d_C_isDoor_16 (by decide) ?_
    exact roRet hx hb hr (by first | rfl | decide) hlk (show (0 : Int32) = k_isDoor N K A x from by rw [k_isDoor, if_pos c_1]) d_C_isDoor_17
  · refine lv_iload_n hx hb d_C_isDoor_4 rfl (lv_at hl 1 rfl) ?_
    refine lv_aload_n hx hb d_C_isDoor_5 rfl (lv_at hl 0 rfl) ?_
    refine va_get (D := D) (ci := 0) (v := .int (nI K)) (C := R_C) (T := F_C) (N := 9) hx hb hts i_C hown hK hP 0 rfl rfl 4 (by decide) (hts _ fl_C_25) (fun _ h9 => h9) rfl d_C_isDoor_6 ?_
    refine lv_icmp_ge (tgt := 16) hx hb d_C_isDoor_9 (by decide) (fun c_9 => ?_) (fun c_9 => ?_)
    · refine lv_iconst (v := (0 : Int32)) hx hb d_C_isDoor_16 (by decide) ?_
      exact roRet hx hb hr (by first | rfl | decide) hlk (show (0 : Int32) = k_isDoor N K A x from by rw [k_isDoor, if_neg c_1, if_pos c_9]) d_C_isDoor_17
    · refine lv_iconst (v := (1 : Int32)) hx hb d_C_isDoor_12 (by decide) ?_
      refine lv_goto (tgt := 17) hx hb d_C_isDoor_13 (by decide) ?_
      exact roRet hx hb hr (by first | rfl | decide) hlk (show (1 : Int32) = k_isDoor N K A x from by rw [k_isDoor, if_neg c_1, if_neg c_9]) d_C_isDoor_17
theorem isThing_j {N K : Nat} {A : Nat → Nat → Int32} {x : Int32} (hN : N ≤ 30) (h : ¬ k_isThing N K A x = (0 : Int32)) : ∃ j : Nat, j < N ∧ x = nI j := by
  rw [k_isThing] at h
  by_cases h1 : x < (0 : Int32)
  · rw [if_pos h1] at h; exact absurd rfl h
  · rw [if_neg h1] at h
    by_cases h2 : nI N ≤ x
    · rw [if_pos h2] at h; exact absurd rfl h
    · obtain ⟨j, hj, e, -⟩ := pk_mu h1 h2 (by omega)
      exact ⟨j, hj, e⟩
theorem in_isThing {N K : Nat} {A : Nat → Nat → Int32} {x : Int32} (hN : N ≤ 30) (h : ¬ k_isThing N K A x = (0 : Int32)) : vp_in x 30 := by
  obtain ⟨j, hj, rfl⟩ := isThing_j hN h
  exact vp_in_nI (by omega) (by omega)
theorem isDoor_j {N K : Nat} {A : Nat → Nat → Int32} {x : Int32} (hK : K ≤ 10) (h : ¬ k_isDoor N K A x = (0 : Int32)) : ∃ j : Nat, j < K ∧ x = nI j := by
  rw [k_isDoor] at h
  by_cases h1 : x < (0 : Int32)
  · rw [if_pos h1] at h; exact absurd rfl h
  · rw [if_neg h1] at h
    by_cases h2 : nI K ≤ x
    · rw [if_pos h2] at h; exact absurd rfl h
    · obtain ⟨j, hj, e, -⟩ := pk_mu h1 h2 (by omega)
      exact ⟨j, hj, e⟩
theorem in_isDoor {N K : Nat} {A : Nat → Nat → Int32} {x : Int32} (hK : K ≤ 10) (h : ¬ k_isDoor N K A x = (0 : Int32)) : vp_in x 10 := by
  obtain ⟨j, hj, rfl⟩ := isDoor_j hK h
  exact vp_in_nI (by omega) (by omega)
theorem in4 {x : Int32} (h1 : ¬ x < (0 : Int32)) (h2 : ¬ (4 : Int32) ≤ x) : vp_in x 4 := by
  obtain ⟨j, hj, e, -⟩ := pk_mu (L := 4) h1 h2 (by omega)
  rw [e]
  exact vp_in_nI hj (by omega)
theorem in2 {x : Int32} (h1 : ¬ x < (0 : Int32)) (h2 : ¬ (2 : Int32) ≤ x) : vp_in x 2 := by
  obtain ⟨j, hj, e, -⟩ := pk_mu (L := 2) h1 h2 (by omega)
  rw [e]
  exact vp_in_nI hj (by omega)

def k_sortOf (N K : Nat) (A : Nat → Nat → Int32) (x : Int32) : Int32 := (if (k_isThing N K A x) = (0 : Int32) then (-1 : Int32) else A 0 x.toNatClampNeg)
set_option maxHeartbeats 4000000 in
set_option maxRecDepth 100000 in
theorem ck_sortOf (l : Launch) (D : va_G) (a : Nat → Nat) (cI cII : ClassId) (N K : Nat) (A : Nat → Nat → Int32) (hN : N ≤ 30) (hKK : K ≤ 10) (x : Int32) : Met l y_C_sortOf (Cond.code y_C_sortOf b_C_sortOf 2 (some .int) :: BW) ({ frames := 1, cells := 0, slots := 0, locals := 21 } : Room) (PcR D (wC a cI cII (nI N) (nI K) A) (tC cI cII) [.ref (a 0), .int x]) (vp_Si (fun r => r = k_sortOf N K A x)) 0 0 (fun _ => False) := by
  refine roStart (by decide) rfl (Nat.le_of_ble_eq_true rfl) (fun p e s m below meth c Sx hr hlk hP hK ls hl => ?_)
  obtain ⟨hx, hb, hml, hown, hts⟩ := id Sx
  have hl : lv_has ls 2 [(0, .ref (a 0)), (1, .int x)] := hl
  refine lv_aload_n hx hb d_C_sortOf_0 rfl (lv_at hl 0 rfl) ?_
  refine lv_iload_n hx hb d_C_sortOf_1 rfl (lv_at hl 1 rfl) ?_
  refine xro (As := [.int x]) (rest := []) Sx (ck_isThing l D a cI cII N K A hN hKK x) v_C_isThing ⟨rfl, rfl, Nat.le_of_ble_eq_true rfl, Nat.le_of_ble_eq_true rfl⟩ hK hP (ci := 0) (q0 := 0) rfl rfl rfl hl.1 rfl (Nat.le_of_ble_eq_true rfl) d_C_sortOf_2 ⟨Nat.le_of_ble_eq_true rfl, Nat.le_of_ble_eq_true rfl⟩ (fun r hq => ?_)
  subst hq
  refine lv_if_eq (tgt := 17) hx hb d_C_sortOf_5 (by decide) (fun c_5 => ?_) (fun c_5 => ?_)
  · refine lv_iconst (v := (-1 : Int32)) hx hb d_C_sortOf_17 (by decide) ?_
    exact roRet hx hb hr rfl hlk (show (-1 : Int32) = k_sortOf N K A x from by rw [k_sortOf, if_pos c_5]) d_C_sortOf_18
  · refine lv_aload_n hx hb d_C_sortOf_8 rfl (lv_at hl 0 rfl) ?_
    refine va_get (D := D) (ci := 0) (v := .ref (a 1)) (C := R_C) (T := F_C) (N := 9) hx hb hts i_C hown hK hP 0 rfl rfl 1 (by decide) (hts _ fl_C_13) (fun _ h9 => h9) rfl d_C_sortOf_9 ?_
    refine lv_iload_n hx hb d_C_sortOf_12 rfl (lv_at hl 1 rfl) ?_
    refine va_iald (n := 30) hx hb hK hP 1 0 rfl rfl (in_isThing hN c_5) d_C_sortOf_13 ?_
    refine lv_goto (tgt := 18) hx hb d_C_sortOf_14 (by decide) ?_
    exact roRet hx hb hr rfl hlk (show A 0 x.toNatClampNeg = k_sortOf N K A x from by rw [k_sortOf, if_neg c_5]) d_C_sortOf_18
theorem sortOf_T {N K : Nat} {A : Nat → Nat → Int32} {x : Int32} (h : ¬ k_sortOf N K A x = (-1 : Int32)) : ¬ k_isThing N K A x = (0 : Int32) := fun e => h (by rw [k_sortOf, if_pos e])
theorem sortOf_k {N K : Nat} {A : Nat → Nat → Int32} {x : Int32} {v : Int32} (h : k_sortOf N K A x = v) (hv : ¬ v = (-1 : Int32)) : ¬ k_isThing N K A x = (0 : Int32) := sortOf_T (by rw [h]; exact hv)

def k_holderOf (N K : Nat) (A : Nat → Nat → Int32) (x : Int32) : Int32 := (if (k_isThing N K A x) = (0 : Int32) then (-1 : Int32) else A 1 x.toNatClampNeg)
set_option maxHeartbeats 4000000 in
set_option maxRecDepth 100000 in
theorem ck_holderOf (l : Launch) (D : va_G) (a : Nat → Nat) (cI cII : ClassId) (N K : Nat) (A : Nat → Nat → Int32) (hN : N ≤ 30) (hKK : K ≤ 10) (x : Int32) : Met l y_C_holderOf (Cond.code y_C_holderOf b_C_holderOf 2 (some .int) :: BW) ({ frames := 1, cells := 0, slots := 0, locals := 21 } : Room) (PcR D (wC a cI cII (nI N) (nI K) A) (tC cI cII) [.ref (a 0), .int x]) (vp_Si (fun r => r = k_holderOf N K A x)) 0 0 (fun _ => False) := by
  refine roStart (by decide) rfl (Nat.le_of_ble_eq_true rfl) (fun p e s m below meth c Sx hr hlk hP hK ls hl => ?_)
  obtain ⟨hx, hb, hml, hown, hts⟩ := id Sx
  have hl : lv_has ls 2 [(0, .ref (a 0)), (1, .int x)] := hl
  refine lv_aload_n hx hb d_C_holderOf_0 rfl (lv_at hl 0 rfl) ?_
  refine lv_iload_n hx hb d_C_holderOf_1 rfl (lv_at hl 1 rfl) ?_
  refine xro (As := [.int x]) (rest := []) Sx (ck_isThing l D a cI cII N K A hN hKK x) v_C_isThing ⟨rfl, rfl, Nat.le_of_ble_eq_true rfl, Nat.le_of_ble_eq_true rfl⟩ hK hP (ci := 0) (q0 := 0) rfl rfl rfl hl.1 rfl (Nat.le_of_ble_eq_true rfl) d_C_holderOf_2 ⟨Nat.le_of_ble_eq_true rfl, Nat.le_of_ble_eq_true rfl⟩ (fun r hq => ?_)
  subst hq
  refine lv_if_eq (tgt := 17) hx hb d_C_holderOf_5 (by decide) (fun c_5 => ?_) (fun c_5 => ?_)
  · refine lv_iconst (v := (-1 : Int32)) hx hb d_C_holderOf_17 (by decide) ?_
    exact roRet hx hb hr rfl hlk (show (-1 : Int32) = k_holderOf N K A x from by rw [k_holderOf, if_pos c_5]) d_C_holderOf_18
  · refine lv_aload_n hx hb d_C_holderOf_8 rfl (lv_at hl 0 rfl) ?_
    refine va_get (D := D) (ci := 0) (v := .ref (a 2)) (C := R_C) (T := F_C) (N := 9) hx hb hts i_C hown hK hP 0 rfl rfl 2 (by decide) (hts _ fl_C_17) (fun _ h9 => h9) rfl d_C_holderOf_9 ?_
    refine lv_iload_n hx hb d_C_holderOf_12 rfl (lv_at hl 1 rfl) ?_
    refine va_iald (n := 30) hx hb hK hP 2 0 rfl rfl (in_isThing hN c_5) d_C_holderOf_13 ?_
    refine lv_goto (tgt := 18) hx hb d_C_holderOf_14 (by decide) ?_
    exact roRet hx hb hr rfl hlk (show A 1 x.toNatClampNeg = k_holderOf N K A x from by rw [k_holderOf, if_neg c_5]) d_C_holderOf_18

def k_markOf (N K : Nat) (A : Nat → Nat → Int32) (x mk : Int32) : Int32 := (if (k_isThing N K A x) = (0 : Int32) then (0 : Int32) else (if mk < (0 : Int32) then (0 : Int32) else (if (4 : Int32) ≤ mk then (0 : Int32) else A (2 + mk.toNatClampNeg) x.toNatClampNeg)))
set_option maxHeartbeats 4000000 in
set_option maxRecDepth 100000 in
theorem ck_markOf (l : Launch) (D : va_G) (a : Nat → Nat) (cI cII : ClassId) (N K : Nat) (A : Nat → Nat → Int32) (hN : N ≤ 30) (hKK : K ≤ 10) (x mk : Int32) : Met l y_C_markOf (Cond.code y_C_markOf b_C_markOf 3 (some .int) :: BW) ({ frames := 1, cells := 0, slots := 0, locals := 21 } : Room) (PcR D (wC a cI cII (nI N) (nI K) A) (tC cI cII) [.ref (a 0), .int x, .int mk]) (vp_Si (fun r => r = k_markOf N K A x mk)) 0 0 (fun _ => False) := by
  refine roStart (by decide) rfl (Nat.le_of_ble_eq_true rfl) (fun p e s m below meth c Sx hr hlk hP hK ls hl => ?_)
  obtain ⟨hx, hb, hml, hown, hts⟩ := id Sx
  have hl : lv_has ls 3 [(0, .ref (a 0)), (1, .int x), (2, .int mk)] := hl
  refine lv_aload_n hx hb d_C_markOf_0 rfl (lv_at hl 0 rfl) ?_
  refine lv_iload_n hx hb d_C_markOf_1 rfl (lv_at hl 1 rfl) ?_
  refine xro (As := [.int x]) (rest := []) Sx (ck_isThing l D a cI cII N K A hN hKK x) v_C_isThing ⟨rfl, rfl, Nat.le_of_ble_eq_true rfl, Nat.le_of_ble_eq_true rfl⟩ hK hP (ci := 0) (q0 := 0) rfl rfl rfl hl.1 rfl (Nat.le_of_ble_eq_true rfl) d_C_markOf_2 ⟨Nat.le_of_ble_eq_true rfl, Nat.le_of_ble_eq_true rfl⟩ (fun r hq => ?_)
  subst hq
  refine lv_if_eq (tgt := 28) hx hb d_C_markOf_5 (by decide) (fun c_5 => ?_) (fun c_5 => ?_)
  · refine lv_iconst (v := (0 : Int32)) hx hb d_C_markOf_28 (by decide) ?_
    exact roRet hx hb hr rfl hlk (show (0 : Int32) = k_markOf N K A x mk from by rw [k_markOf, if_pos c_5]) d_C_markOf_29
  · refine lv_iload_n hx hb d_C_markOf_8 rfl (lv_at hl 2 rfl) ?_
    refine lv_if_lt (tgt := 28) hx hb d_C_markOf_9 (by decide) (fun c_9 => ?_) (fun c_9 => ?_)
    · refine lv_iconst (v := (0 : Int32)) hx hb d_C_markOf_28 (by decide) ?_
      exact roRet hx hb hr rfl hlk (show (0 : Int32) = k_markOf N K A x mk from by rw [k_markOf, if_neg c_5, if_pos c_9]) d_C_markOf_29
    · refine lv_iload_n hx hb d_C_markOf_12 rfl (lv_at hl 2 rfl) ?_
      refine lv_iconst (v := (4 : Int32)) hx hb d_C_markOf_13 (by decide) ?_
      refine lv_icmp_ge (tgt := 28) hx hb d_C_markOf_14 (by decide) (fun c_14 => ?_) (fun c_14 => ?_)
      · refine lv_iconst (v := (0 : Int32)) hx hb d_C_markOf_28 (by decide) ?_
        exact roRet hx hb hr rfl hlk (show (0 : Int32) = k_markOf N K A x mk from by rw [k_markOf, if_neg c_5, if_neg c_9, if_pos c_14]) d_C_markOf_29
      · refine lv_aload_n hx hb d_C_markOf_17 rfl (lv_at hl 0 rfl) ?_
        refine va_get (D := D) (ci := 0) (v := .ref (a 3)) (C := R_C) (T := F_C) (N := 9) hx hb hts i_C hown hK hP 0 rfl rfl 3 (by decide) (hts _ fl_C_22) (fun _ h9 => h9) rfl d_C_markOf_18 ?_
        refine lv_iload_n hx hb d_C_markOf_21 rfl (lv_at hl 2 rfl) ?_
        refine x_ald4 hx hb hK hP (in4 c_9 c_14) d_C_markOf_22 ?_
        refine lv_iload_n hx hb d_C_markOf_23 rfl (lv_at hl 1 rfl) ?_
        refine va_iald (n := 30) hx hb hK hP (4 + mk.toNatClampNeg) 0 (wC_row4 (vp_lt (in4 c_9 c_14))) rfl (in_isThing hN c_5) d_C_markOf_24 ?_
        refine lv_goto (tgt := 29) hx hb d_C_markOf_25 (by decide) ?_
        exact roRet hx hb hr rfl hlk (show A (2 + mk.toNatClampNeg) x.toNatClampNeg = k_markOf N K A x mk from by rw [k_markOf, if_neg c_5, if_neg c_9, if_neg c_14]) d_C_markOf_29

def k_isPerson (N K : Nat) (A : Nat → Nat → Int32) (x : Int32) : Int32 := (if (k_sortOf N K A x) = (3 : Int32) then (1 : Int32) else (0 : Int32))
set_option maxHeartbeats 4000000 in
set_option maxRecDepth 100000 in
theorem ck_isPerson (l : Launch) (D : va_G) (a : Nat → Nat) (cI cII : ClassId) (N K : Nat) (A : Nat → Nat → Int32) (hN : N ≤ 30) (hKK : K ≤ 10) (x : Int32) : Met l y_C_isPerson (Cond.code y_C_isPerson b_C_isPerson 2 (some .boolean) :: BW) ({ frames := 2, cells := 0, slots := 0, locals := 42 } : Room) (PcR D (wC a cI cII (nI N) (nI K) A) (tC cI cII) [.ref (a 0), .int x]) (vp_Si (fun r => r = k_isPerson N K A x)) 0 0 (fun _ => False) := by
  refine roStart (by decide) rfl (Nat.le_of_ble_eq_true rfl) (fun p e s m below meth c Sx hr hlk hP hK ls hl => ?_)
  obtain ⟨hx, hb, hml, hown, hts⟩ := id Sx
  have hl : lv_has ls 2 [(0, .ref (a 0)), (1, .int x)] := hl
  refine lv_aload_n hx hb d_C_isPerson_0 rfl (lv_at hl 0 rfl) ?_
  refine lv_iload_n hx hb d_C_isPerson_1 rfl (lv_at hl 1 rfl) ?_
  refine xro (As := [.int x]) (rest := []) Sx (ck_sortOf l D a cI cII N K A hN hKK x) v_C_sortOf ⟨rfl, rfl, Nat.le_of_ble_eq_true rfl, Nat.le_of_ble_eq_true rfl⟩ hK hP (ci := 0) (q0 := 0) rfl rfl rfl hl.1 rfl (Nat.le_of_ble_eq_true rfl) d_C_isPerson_2 ⟨Nat.le_of_ble_eq_true rfl, Nat.le_of_ble_eq_true rfl⟩ (fun r hq => ?_)
  subst hq
  refine lv_iconst (v := (3 : Int32)) hx hb d_C_isPerson_5 (by decide) ?_
  refine lv_icmp_ne (tgt := 13) hx hb d_C_isPerson_6 (by decide) (fun c_6 => ?_) (fun c_6 => ?_)
  · refine lv_iconst (v := (0 : Int32)) hx hb d_C_isPerson_13 (by decide) ?_
    exact roRet hx hb hr (by first | rfl | decide) hlk (show (0 : Int32) = k_isPerson N K A x from by rw [k_isPerson, if_neg c_6]) d_C_isPerson_14
  · refine lv_iconst (v := (1 : Int32)) hx hb d_C_isPerson_9 (by decide) ?_
    refine lv_goto (tgt := 14) hx hb d_C_isPerson_10 (by decide) ?_
    exact roRet hx hb hr (by first | rfl | decide) hlk (show (1 : Int32) = k_isPerson N K A x from by rw [k_isPerson, if_pos c_6]) d_C_isPerson_14
theorem isPerson_s {N K : Nat} {A : Nat → Nat → Int32} {x : Int32} (h : ¬ k_isPerson N K A x = (0 : Int32)) : k_sortOf N K A x = (3 : Int32) := by
  rw [k_isPerson] at h
  by_cases e : k_sortOf N K A x = (3 : Int32)
  · exact e
  · rw [if_neg e] at h; exact absurd rfl h
theorem in_isPerson {N K : Nat} {A : Nat → Nat → Int32} {x : Int32} (hN : N ≤ 30) (h : ¬ k_isPerson N K A x = (0 : Int32)) : vp_in x 30 := in_isThing hN (sortOf_k (isPerson_s h) (by decide))

def k_isShutBox (N K : Nat) (A : Nat → Nat → Int32) (x : Int32) : Int32 := (if (k_sortOf N K A x) = (1 : Int32) then (if (k_markOf N K A x (0 : Int32)) = (0 : Int32) then (1 : Int32) else (0 : Int32)) else (0 : Int32))
set_option maxHeartbeats 4000000 in
set_option maxRecDepth 100000 in
theorem ck_isShutBox (l : Launch) (D : va_G) (a : Nat → Nat) (cI cII : ClassId) (N K : Nat) (A : Nat → Nat → Int32) (hN : N ≤ 30) (hKK : K ≤ 10) (x : Int32) : Met l y_C_isShutBox (Cond.code y_C_isShutBox b_C_isShutBox 2 (some .boolean) :: BW) ({ frames := 2, cells := 0, slots := 0, locals := 43 } : Room) (PcR D (wC a cI cII (nI N) (nI K) A) (tC cI cII) [.ref (a 0), .int x]) (vp_Si (fun r => r = k_isShutBox N K A x)) 0 0 (fun _ => False) := by
  refine roStart (by decide) rfl (Nat.le_of_ble_eq_true rfl) (fun p e s m below meth c Sx hr hlk hP hK ls hl => ?_)
  obtain ⟨hx, hb, hml, hown, hts⟩ := id Sx
  have hl : lv_has ls 2 [(0, .ref (a 0)), (1, .int x)] := hl
  refine lv_aload_n hx hb d_C_isShutBox_0 rfl (lv_at hl 0 rfl) ?_
  refine lv_iload_n hx hb d_C_isShutBox_1 rfl (lv_at hl 1 rfl) ?_
  refine xro (As := [.int x]) (rest := []) Sx (ck_sortOf l D a cI cII N K A hN hKK x) v_C_sortOf ⟨rfl, rfl, Nat.le_of_ble_eq_true rfl, Nat.le_of_ble_eq_true rfl⟩ hK hP (ci := 0) (q0 := 0) rfl rfl rfl hl.1 rfl (Nat.le_of_ble_eq_true rfl) d_C_isShutBox_2 ⟨Nat.le_of_ble_eq_true rfl, Nat.le_of_ble_eq_true rfl⟩ (fun r hq => ?_)
  subst hq
  refine lv_iconst (v := (1 : Int32)) hx hb d_C_isShutBox_5 (by decide) ?_
  refine lv_icmp_ne (tgt := 22) hx hb d_C_isShutBox_6 (by decide) (fun c_6 => ?_) (fun c_6 => ?_)
  · refine lv_iconst (v := (0 : Int32)) hx hb d_C_isShutBox_22 (by decide) ?_
    exact roRet hx hb hr (by first | rfl | decide) hlk (show (0 : Int32) = k_isShutBox N K A x from by rw [k_isShutBox, if_neg c_6]) d_C_isShutBox_23
  · refine lv_aload_n hx hb d_C_isShutBox_9 rfl (lv_at hl 0 rfl) ?_
    refine lv_iload_n hx hb d_C_isShutBox_10 rfl (lv_at hl 1 rfl) ?_
    refine lv_iconst (v := (0 : Int32)) hx hb d_C_isShutBox_11 (by decide) ?_
    refine xro (As := [.int x, .int (0 : Int32)]) (rest := []) Sx (ck_markOf l D a cI cII N K A hN hKK x (0 : Int32)) v_C_markOf ⟨rfl, rfl, Nat.le_of_ble_eq_true rfl, Nat.le_of_ble_eq_true rfl⟩ hK hP (ci := 0) (q0 := 0) rfl rfl rfl hl.1 rfl (Nat.le_of_ble_eq_true rfl) d_C_isShutBox_12 ⟨Nat.le_of_ble_eq_true rfl, Nat.le_of_ble_eq_true rfl⟩ (fun r hq => ?_)
    subst hq
    refine lv_if_ne (tgt := 22) hx hb d_C_isShutBox_15 (by decide) (fun c_15 => ?_) (fun c_15 => ?_)
    · refine lv_iconst (v := (0 : Int32)) hx hb d_C_isShutBox_22 (by decide) ?_
      exact roRet hx hb hr (by first | rfl | decide) hlk (show (0 : Int32) = k_isShutBox N K A x from by rw [k_isShutBox, if_pos c_6, if_neg c_15]) d_C_isShutBox_23
    · refine lv_iconst (v := (1 : Int32)) hx hb d_C_isShutBox_18 (by decide) ?_
      refine lv_goto (tgt := 23) hx hb d_C_isShutBox_19 (by decide) ?_
      exact roRet hx hb hr (by first | rfl | decide) hlk (show (1 : Int32) = k_isShutBox N K A x from by rw [k_isShutBox, if_pos c_6, if_pos c_15]) d_C_isShutBox_23

def k_isSpace (N K : Nat) (A : Nat → Nat → Int32) (x : Int32) : Int32 := (if (k_sortOf N K A x) = (0 : Int32) then (1 : Int32) else (if (k_sortOf N K A x) = (1 : Int32) then (1 : Int32) else (0 : Int32)))
set_option maxHeartbeats 4000000 in
set_option maxRecDepth 100000 in
theorem ck_isSpace (l : Launch) (D : va_G) (a : Nat → Nat) (cI cII : ClassId) (N K : Nat) (A : Nat → Nat → Int32) (hN : N ≤ 30) (hKK : K ≤ 10) (x : Int32) : Met l y_C_isSpace (Cond.code y_C_isSpace b_C_isSpace 3 (some .boolean) :: BW) ({ frames := 2, cells := 0, slots := 0, locals := 42 } : Room) (PcR D (wC a cI cII (nI N) (nI K) A) (tC cI cII) [.ref (a 0), .int x]) (vp_Si (fun r => r = k_isSpace N K A x)) 0 0 (fun _ => False) := by
  refine roStart (by decide) rfl (Nat.le_of_ble_eq_true rfl) (fun p e s m below meth c Sx hr hlk hP hK ls hl => ?_)
  obtain ⟨hx, hb, hml, hown, hts⟩ := id Sx
  have hl : lv_has ls 3 [(0, .ref (a 0)), (1, .int x)] := hl
  refine lv_aload_n hx hb d_C_isSpace_0 rfl (lv_at hl 0 rfl) ?_
  refine lv_iload_n hx hb d_C_isSpace_1 rfl (lv_at hl 1 rfl) ?_
  refine xro (As := [.int x]) (rest := []) Sx (ck_sortOf l D a cI cII N K A hN hKK x) v_C_sortOf ⟨rfl, rfl, Nat.le_of_ble_eq_true rfl, Nat.le_of_ble_eq_true rfl⟩ hK hP (ci := 0) (q0 := 0) rfl rfl rfl hl.1 rfl (Nat.le_of_ble_eq_true rfl) d_C_isSpace_2 ⟨Nat.le_of_ble_eq_true rfl, Nat.le_of_ble_eq_true rfl⟩ (fun r hq => ?_)
  subst hq
  refine lv_istore_n (lv' := [(2, .int (k_sortOf N K A x)), (0, .ref (a 0)), (1, .int x)]) hx hb d_C_isSpace_5 rfl hl (by decide) rfl (fun ls hl => ?_)
  refine lv_iload_n hx hb d_C_isSpace_6 rfl (lv_at hl 0 rfl) ?_
  refine lv_if_eq (tgt := 15) hx hb d_C_isSpace_7 (by decide) (fun c_7 => ?_) (fun c_7 => ?_)
  · refine lv_iconst (v := (1 : Int32)) hx hb d_C_isSpace_15 (by decide) ?_
    refine lv_goto (tgt := 20) hx hb d_C_isSpace_16 (by decide) ?_
    exact roRet hx hb hr (by first | rfl | decide) hlk (show (1 : Int32) = k_isSpace N K A x from by rw [k_isSpace, if_pos c_7]) d_C_isSpace_20
  · refine lv_iload_n hx hb d_C_isSpace_10 rfl (lv_at hl 0 rfl) ?_
    refine lv_iconst (v := (1 : Int32)) hx hb d_C_isSpace_11 (by decide) ?_
    refine lv_icmp_ne (tgt := 19) hx hb d_C_isSpace_12 (by decide) (fun c_12 => ?_) (fun c_12 => ?_)
    · refine lv_iconst (v := (0 : Int32)) hx hb d_C_isSpace_19 (by decide) ?_
      exact roRet hx hb hr (by first | rfl | decide) hlk (show (0 : Int32) = k_isSpace N K A x from by rw [k_isSpace, if_neg c_7, if_neg c_12]) d_C_isSpace_20
    · refine lv_iconst (v := (1 : Int32)) hx hb d_C_isSpace_15 (by decide) ?_
      refine lv_goto (tgt := 20) hx hb d_C_isSpace_16 (by decide) ?_
      exact roRet hx hb hr (by first | rfl | decide) hlk (show (1 : Int32) = k_isSpace N K A x from by rw [k_isSpace, if_neg c_7, if_pos c_12]) d_C_isSpace_20
theorem isSpace_s {N K : Nat} {A : Nat → Nat → Int32} {x : Int32} (h : ¬ k_isSpace N K A x = (0 : Int32)) : k_sortOf N K A x = (0 : Int32) ∨ k_sortOf N K A x = (1 : Int32) := by
  rw [k_isSpace] at h
  by_cases e : k_sortOf N K A x = (0 : Int32)
  · exact Or.inl e
  · rw [if_neg e] at h
    by_cases e : k_sortOf N K A x = (1 : Int32)
    · exact Or.inr e
    · rw [if_neg e] at h; exact absurd rfl h
theorem isSpace_T {N K : Nat} {A : Nat → Nat → Int32} {x : Int32} (h : ¬ k_isSpace N K A x = (0 : Int32)) : ¬ k_isThing N K A x = (0 : Int32) := by
  rcases isSpace_s h with e | e
  · exact sortOf_k e (by decide)
  · exact sortOf_k e (by decide)
theorem in_isSpace {N K : Nat} {A : Nat → Nat → Int32} {x : Int32} (hN : N ≤ 30) (h : ¬ k_isSpace N K A x = (0 : Int32)) : vp_in x 30 := in_isThing hN (isSpace_T h)

def k_mayBeGivenTo (N K : Nat) (A : Nat → Nat → Int32) (x : Int32) : Int32 := (if (k_sortOf N K A x) = (1 : Int32) then (1 : Int32) else (if (k_sortOf N K A x) = (2 : Int32) then (1 : Int32) else (if (k_sortOf N K A x) = (3 : Int32) then (1 : Int32) else (0 : Int32))))
set_option maxHeartbeats 4000000 in
set_option maxRecDepth 100000 in
theorem ck_mayBeGivenTo (l : Launch) (D : va_G) (a : Nat → Nat) (cI cII : ClassId) (N K : Nat) (A : Nat → Nat → Int32) (hN : N ≤ 30) (hKK : K ≤ 10) (x : Int32) : Met l y_C_mayBeGivenTo (Cond.code y_C_mayBeGivenTo b_C_mayBeGivenTo 3 (some .boolean) :: BW) ({ frames := 2, cells := 0, slots := 0, locals := 42 } : Room) (PcR D (wC a cI cII (nI N) (nI K) A) (tC cI cII) [.ref (a 0), .int x]) (vp_Si (fun r => r = k_mayBeGivenTo N K A x)) 0 0 (fun _ => False) := by
  refine roStart (by decide) rfl (Nat.le_of_ble_eq_true rfl) (fun p e s m below meth c Sx hr hlk hP hK ls hl => ?_)
  obtain ⟨hx, hb, hml, hown, hts⟩ := id Sx
  have hl : lv_has ls 3 [(0, .ref (a 0)), (1, .int x)] := hl
  refine lv_aload_n hx hb d_C_mayBeGivenTo_0 rfl (lv_at hl 0 rfl) ?_
  refine lv_iload_n hx hb d_C_mayBeGivenTo_1 rfl (lv_at hl 1 rfl) ?_
  refine xro (As := [.int x]) (rest := []) Sx (ck_sortOf l D a cI cII N K A hN hKK x) v_C_sortOf ⟨rfl, rfl, Nat.le_of_ble_eq_true rfl, Nat.le_of_ble_eq_true rfl⟩ hK hP (ci := 0) (q0 := 0) rfl rfl rfl hl.1 rfl (Nat.le_of_ble_eq_true rfl) d_C_mayBeGivenTo_2 ⟨Nat.le_of_ble_eq_true rfl, Nat.le_of_ble_eq_true rfl⟩ (fun r hq => ?_)
  subst hq
  refine lv_istore_n (lv' := [(2, .int (k_sortOf N K A x)), (0, .ref (a 0)), (1, .int x)]) hx hb d_C_mayBeGivenTo_5 rfl hl (by decide) rfl (fun ls hl => ?_)
  refine lv_iload_n hx hb d_C_mayBeGivenTo_6 rfl (lv_at hl 0 rfl) ?_
  refine lv_iconst (v := (1 : Int32)) hx hb d_C_mayBeGivenTo_7 (by decide) ?_
  refine lv_icmp_eq (tgt := 21) hx hb d_C_mayBeGivenTo_8 (by decide) (fun c_8 => ?_) (fun c_8 => ?_)
  · refine lv_iconst (v := (1 : Int32)) hx hb d_C_mayBeGivenTo_21 (by decide) ?_
    refine lv_goto (tgt := 26) hx hb d_C_mayBeGivenTo_22 (by decide) ?_
    exact roRet hx hb hr (by first | rfl | decide) hlk (show (1 : Int32) = k_mayBeGivenTo N K A x from by rw [k_mayBeGivenTo, if_pos c_8]) d_C_mayBeGivenTo_26
  · refine lv_iload_n hx hb d_C_mayBeGivenTo_11 rfl (lv_at hl 0 rfl) ?_
    refine lv_iconst (v := (2 : Int32)) hx hb d_C_mayBeGivenTo_12 (by decide) ?_
    refine lv_icmp_eq (tgt := 21) hx hb d_C_mayBeGivenTo_13 (by decide) (fun c_13 => ?_) (fun c_13 => ?_)
    · refine lv_iconst (v := (1 : Int32)) hx hb d_C_mayBeGivenTo_21 (by decide) ?_
      refine lv_goto (tgt := 26) hx hb d_C_mayBeGivenTo_22 (by decide) ?_
      exact roRet hx hb hr (by first | rfl | decide) hlk (show (1 : Int32) = k_mayBeGivenTo N K A x from by rw [k_mayBeGivenTo, if_neg c_8, if_pos c_13]) d_C_mayBeGivenTo_26
    · refine lv_iload_n hx hb d_C_mayBeGivenTo_16 rfl (lv_at hl 0 rfl) ?_
      refine lv_iconst (v := (3 : Int32)) hx hb d_C_mayBeGivenTo_17 (by decide) ?_
      refine lv_icmp_ne (tgt := 25) hx hb d_C_mayBeGivenTo_18 (by decide) (fun c_18 => ?_) (fun c_18 => ?_)
      · refine lv_iconst (v := (0 : Int32)) hx hb d_C_mayBeGivenTo_25 (by decide) ?_
        exact roRet hx hb hr (by first | rfl | decide) hlk (show (0 : Int32) = k_mayBeGivenTo N K A x from by rw [k_mayBeGivenTo, if_neg c_8, if_neg c_13, if_neg c_18]) d_C_mayBeGivenTo_26
      · refine lv_iconst (v := (1 : Int32)) hx hb d_C_mayBeGivenTo_21 (by decide) ?_
        refine lv_goto (tgt := 26) hx hb d_C_mayBeGivenTo_22 (by decide) ?_
        exact roRet hx hb hr (by first | rfl | decide) hlk (show (1 : Int32) = k_mayBeGivenTo N K A x from by rw [k_mayBeGivenTo, if_neg c_8, if_neg c_13, if_pos c_18]) d_C_mayBeGivenTo_26

def k_hasInHands (N K : Nat) (A : Nat → Nat → Int32) (who x : Int32) : Int32 := (if (k_isPerson N K A who) = (0 : Int32) then (0 : Int32) else (if (k_isThing N K A x) = (0 : Int32) then (0 : Int32) else (if (k_holderOf N K A x) = who then (1 : Int32) else (0 : Int32))))
set_option maxHeartbeats 4000000 in
set_option maxRecDepth 100000 in
theorem ck_hasInHands (l : Launch) (D : va_G) (a : Nat → Nat) (cI cII : ClassId) (N K : Nat) (A : Nat → Nat → Int32) (hN : N ≤ 30) (hKK : K ≤ 10) (who x : Int32) : Met l y_C_hasInHands (Cond.code y_C_hasInHands b_C_hasInHands 3 (some .boolean) :: BW) ({ frames := 3, cells := 0, slots := 0, locals := 63 } : Room) (PcR D (wC a cI cII (nI N) (nI K) A) (tC cI cII) [.ref (a 0), .int who, .int x]) (vp_Si (fun r => r = k_hasInHands N K A who x)) 0 0 (fun _ => False) := by
  refine roStart (by decide) rfl (Nat.le_of_ble_eq_true rfl) (fun p e s m below meth c Sx hr hlk hP hK ls hl => ?_)
  obtain ⟨hx, hb, hml, hown, hts⟩ := id Sx
  have hl : lv_has ls 3 [(0, .ref (a 0)), (1, .int who), (2, .int x)] := hl
  refine lv_aload_n hx hb d_C_hasInHands_0 rfl (lv_at hl 0 rfl) ?_
  refine lv_iload_n hx hb d_C_hasInHands_1 rfl (lv_at hl 1 rfl) ?_
  refine xro (As := [.int who]) (rest := []) Sx (ck_isPerson l D a cI cII N K A hN hKK who) v_C_isPerson ⟨rfl, rfl, Nat.le_of_ble_eq_true rfl, Nat.le_of_ble_eq_true rfl⟩ hK hP (ci := 0) (q0 := 0) rfl rfl rfl hl.1 rfl (Nat.le_of_ble_eq_true rfl) d_C_hasInHands_2 ⟨Nat.le_of_ble_eq_true rfl, Nat.le_of_ble_eq_true rfl⟩ (fun r hq => ?_)
  subst hq
  refine lv_if_eq (tgt := 29) hx hb d_C_hasInHands_5 (by decide) (fun c_5 => ?_) (fun c_5 => ?_)
  · refine lv_iconst (v := (0 : Int32)) hx hb d_C_hasInHands_29 (by decide) ?_
    exact roRet hx hb hr (by first | rfl | decide) hlk (show (0 : Int32) = k_hasInHands N K A who x from by rw [k_hasInHands, if_pos c_5]) d_C_hasInHands_30
  · refine lv_aload_n hx hb d_C_hasInHands_8 rfl (lv_at hl 0 rfl) ?_
    refine lv_iload_n hx hb d_C_hasInHands_9 rfl (lv_at hl 2 rfl) ?_
    refine xro (As := [.int x]) (rest := []) Sx (ck_isThing l D a cI cII N K A hN hKK x) v_C_isThing ⟨rfl, rfl, Nat.le_of_ble_eq_true rfl, Nat.le_of_ble_eq_true rfl⟩ hK hP (ci := 0) (q0 := 0) rfl rfl rfl hl.1 rfl (Nat.le_of_ble_eq_true rfl) d_C_hasInHands_10 ⟨Nat.le_of_ble_eq_true rfl, Nat.le_of_ble_eq_true rfl⟩ (fun r hq => ?_)
    subst hq
    refine lv_if_eq (tgt := 29) hx hb d_C_hasInHands_13 (by decide) (fun c_13 => ?_) (fun c_13 => ?_)
    · refine lv_iconst (v := (0 : Int32)) hx hb d_C_hasInHands_29 (by decide) ?_
      exact roRet hx hb hr (by first | rfl | decide) hlk (show (0 : Int32) = k_hasInHands N K A who x from by rw [k_hasInHands, if_neg c_5, if_pos c_13]) d_C_hasInHands_30
    · refine lv_aload_n hx hb d_C_hasInHands_16 rfl (lv_at hl 0 rfl) ?_
      refine lv_iload_n hx hb d_C_hasInHands_17 rfl (lv_at hl 2 rfl) ?_
      refine xro (As := [.int x]) (rest := []) Sx (ck_holderOf l D a cI cII N K A hN hKK x) v_C_holderOf ⟨rfl, rfl, Nat.le_of_ble_eq_true rfl, Nat.le_of_ble_eq_true rfl⟩ hK hP (ci := 0) (q0 := 0) rfl rfl rfl hl.1 rfl (Nat.le_of_ble_eq_true rfl) d_C_hasInHands_18 ⟨Nat.le_of_ble_eq_true rfl, Nat.le_of_ble_eq_true rfl⟩ (fun r hq => ?_)
      subst hq
      refine lv_iload_n hx hb d_C_hasInHands_21 rfl (lv_at hl 1 rfl) ?_
      refine lv_icmp_ne (tgt := 29) hx hb d_C_hasInHands_22 (by decide) (fun c_22 => ?_) (fun c_22 => ?_)
      · refine lv_iconst (v := (0 : Int32)) hx hb d_C_hasInHands_29 (by decide) ?_
        exact roRet hx hb hr (by first | rfl | decide) hlk (show (0 : Int32) = k_hasInHands N K A who x from by rw [k_hasInHands, if_neg c_5, if_neg c_13, if_neg c_22]) d_C_hasInHands_30
      · refine lv_iconst (v := (1 : Int32)) hx hb d_C_hasInHands_25 (by decide) ?_
        refine lv_goto (tgt := 30) hx hb d_C_hasInHands_26 (by decide) ?_
        exact roRet hx hb hr (by first | rfl | decide) hlk (show (1 : Int32) = k_hasInHands N K A who x from by rw [k_hasInHands, if_neg c_5, if_neg c_13, if_pos c_22]) d_C_hasInHands_30
theorem hasInHands_s {N K : Nat} {A : Nat → Nat → Int32} {x : Int32} {who : Int32} (h : ¬ k_hasInHands N K A who x = (0 : Int32)) : ¬ k_isPerson N K A who = (0 : Int32) ∧ ¬ k_isThing N K A x = (0 : Int32) ∧ k_holderOf N K A x = who := by
  rw [k_hasInHands] at h
  by_cases e1 : k_isPerson N K A who = (0 : Int32)
  · rw [if_pos e1] at h; exact absurd rfl h
  · rw [if_neg e1] at h
    by_cases e2 : k_isThing N K A x = (0 : Int32)
    · rw [if_pos e2] at h; exact absurd rfl h
    · rw [if_neg e2] at h
      by_cases e3 : k_holderOf N K A x = who
      · exact ⟨e1, e2, e3⟩
      · rw [if_neg e3] at h; exact absurd rfl h
theorem in_hasInHands {N K : Nat} {A : Nat → Nat → Int32} {x : Int32} {who : Int32} (hN : N ≤ 30) (h : ¬ k_hasInHands N K A who x = (0 : Int32)) : vp_in x 30 := in_isThing hN (hasInHands_s h).2.1

def k_countHeldBy_4 (N K : Nat) (A : Nat → Nat → Int32) (x : Int32) : Nat → Nat → Int32 → Int32
  | 0, i, v2 => v2
  | k + 1, i, v2 => (if (A 1 (nI i).toNatClampNeg) = x then k_countHeldBy_4 N K A x k (i + 1) (v2 + 1) else k_countHeldBy_4 N K A x k (i + 1) v2)
theorem k_countHeldBy_4_0 (N K : Nat) (A : Nat → Nat → Int32) (x : Int32) (i : Nat) (v2 : Int32) : k_countHeldBy_4 N K A x 0 i v2 = v2 := rfl
theorem k_countHeldBy_4_S (N K : Nat) (A : Nat → Nat → Int32) (x : Int32) (k i : Nat) (v2 : Int32) : k_countHeldBy_4 N K A x (k + 1) i v2 = (if (A 1 (nI i).toNatClampNeg) = x then k_countHeldBy_4 N K A x k (i + 1) (v2 + 1) else k_countHeldBy_4 N K A x k (i + 1) v2) := rfl
set_option maxHeartbeats 4000000 in
set_option maxRecDepth 100000 in
theorem wk_countHeldBy_4 (l : Launch) (D : va_G) (a : Nat → Nat) (cI cII : ClassId) (N K : Nat) (A : Nat → Nat → Int32) (hN : N ≤ 30) (hKK : K ≤ 10) (x : Int32) {p : Program} {e : Env} {s : State} {m : MethodId} {below : List Frame} {meth : Method} {c : Code} (Sx : CallFix p m c b_C_countHeldBy 4 s ([.ref (a 0), .int x] : List Value).toArray BW R_C) (hr : meth.sig.returnType = (some .int)) (hlk : meth.locks = false) (hP : va_P D classes (wC a cI cII (nI N) (nI K) A) s.heap) (hK : va_K D classes (tC cI cII) s) : ∀ (k i : Nat), i + k = N → ∀ (v2 : Int32) (ls : Array Slot), lv_has ls 4 [(0, .ref (a 0)), (1, .int x), (2, .int v2), (3, .int (nI i))] → W p l e ({ frames := 0, cells := 0, slots := 0, locals := 0 } : Room) s m ([.ref (a 0), .int x] : List Value).toArray below meth c s.heap [] 0 0 (MQ below (vp_Si (fun r => r = k_countHeldBy_4 N K A x k i v2)) ([.ref (a 0), .int x] : List Value).toArray s 0 0 (fun _ => False)) (F0 m 4 ls []) := by
  obtain ⟨hx, hb, hml, hown, hts⟩ := id Sx
  intro k
  induction k with
  | zero =>
    intro i hi v2 ls hl
    refine lv_iload_n hx hb d_C_countHeldBy_4 rfl (lv_at hl 3 rfl) ?_
    refine lv_aload_n hx hb d_C_countHeldBy_5 rfl (lv_at hl 0 rfl) ?_
    refine va_get (D := D) (ci := 0) (v := .int (nI N)) (C := R_C) (T := F_C) (N := 9) hx hb hts i_C hown hK hP 0 rfl rfl 0 (by decide) (hts _ fl_C_7) (fun _ h9 => h9) rfl d_C_countHeldBy_6 ?_
    refine lv_icmp_ge (tgt := 31) hx hb d_C_countHeldBy_9 (by decide) (fun c_9 => ?_) (fun c_9 => absurd (nI_le (a := N) (b := i) (by omega) (by omega)) c_9)
    refine lv_iload_n hx hb d_C_countHeldBy_31 rfl (lv_at hl 2 rfl) ?_
    exact roRet hx hb hr rfl hlk (show v2 = k_countHeldBy_4 N K A x 0 i v2 from by rw [k_countHeldBy_4_0]) d_C_countHeldBy_32
  | succ k ih =>
    intro i hi v2 ls hl
    refine lv_iload_n hx hb d_C_countHeldBy_4 rfl (lv_at hl 3 rfl) ?_
    refine lv_aload_n hx hb d_C_countHeldBy_5 rfl (lv_at hl 0 rfl) ?_
    refine va_get (D := D) (ci := 0) (v := .int (nI N)) (C := R_C) (T := F_C) (N := 9) hx hb hts i_C hown hK hP 0 rfl rfl 0 (by decide) (hts _ fl_C_7) (fun _ h9 => h9) rfl d_C_countHeldBy_6 ?_
    refine lv_icmp_ge (tgt := 31) hx hb d_C_countHeldBy_9 (by decide) (fun c_9 => absurd c_9 (nI_ge (a := i) (b := N) (by omega) (by omega))) (fun c_9 => ?_)
    refine lv_aload_n hx hb d_C_countHeldBy_12 rfl (lv_at hl 0 rfl) ?_
    refine va_get (D := D) (ci := 0) (v := .ref (a 2)) (C := R_C) (T := F_C) (N := 9) hx hb hts i_C hown hK hP 0 rfl rfl 2 (by decide) (hts _ fl_C_17) (fun _ h9 => h9) rfl d_C_countHeldBy_13 ?_
    refine lv_iload_n hx hb d_C_countHeldBy_16 rfl (lv_at hl 3 rfl) ?_
    refine va_iald (n := 30) hx hb hK hP 2 0 rfl rfl (vp_in_nI (by omega) (by omega)) d_C_countHeldBy_17 ?_
    refine lv_iload_n hx hb d_C_countHeldBy_18 rfl (lv_at hl 1 rfl) ?_
    refine lv_icmp_ne (tgt := 25) hx hb d_C_countHeldBy_19 (by decide) (fun c_19 => ?_) (fun c_19 => ?_)
    · refine lv_iinc (v := nI (i + 1)) (lv' := [(3, .int (nI (i + 1))), (0, .ref (a 0)), (1, .int x), (2, .int v2)]) hx hb d_C_countHeldBy_25 hl (k := 3) rfl (nI_1 i) (by decide) rfl (fun ls hl => ?_)
      refine lv_goto (tgt := 4) hx hb d_C_countHeldBy_28 (by decide) ?_
      have e_b : k_countHeldBy_4 N K A x (k + 1) i v2 = k_countHeldBy_4 N K A x k (i + 1) v2 := by rw [k_countHeldBy_4_S, if_neg c_19]
      rw [e_b]
      exact ih (i + 1) (by omega) v2 ls (lv_sub hl [1, 2, 3, 0] rfl)
    · refine lv_iinc (v := v2 + 1) (lv' := [(2, .int (v2 + 1)), (0, .ref (a 0)), (1, .int x), (3, .int (nI i))]) hx hb d_C_countHeldBy_22 hl (k := 2) rfl (rfl) (by decide) rfl (fun ls hl => ?_)
      refine lv_iinc (v := nI (i + 1)) (lv' := [(3, .int (nI (i + 1))), (2, .int (v2 + 1)), (0, .ref (a 0)), (1, .int x)]) hx hb d_C_countHeldBy_25 hl (k := 3) rfl (nI_1 i) (by decide) rfl (fun ls hl => ?_)
      refine lv_goto (tgt := 4) hx hb d_C_countHeldBy_28 (by decide) ?_
      have e_b : k_countHeldBy_4 N K A x (k + 1) i v2 = k_countHeldBy_4 N K A x k (i + 1) (v2 + 1) := by rw [k_countHeldBy_4_S, if_pos c_19]
      rw [e_b]
      exact ih (i + 1) (by omega) (v2 + 1) ls (lv_sub hl [2, 3, 1, 0] rfl)
def k_countHeldBy (N K : Nat) (A : Nat → Nat → Int32) (x : Int32) : Int32 := k_countHeldBy_4 N K A x N 0 (0 : Int32)
set_option maxHeartbeats 4000000 in
set_option maxRecDepth 100000 in
theorem ck_countHeldBy (l : Launch) (D : va_G) (a : Nat → Nat) (cI cII : ClassId) (N K : Nat) (A : Nat → Nat → Int32) (hN : N ≤ 30) (hKK : K ≤ 10) (x : Int32) : Met l y_C_countHeldBy (Cond.code y_C_countHeldBy b_C_countHeldBy 4 (some .int) :: BW) ({ frames := 0, cells := 0, slots := 0, locals := 0 } : Room) (PcR D (wC a cI cII (nI N) (nI K) A) (tC cI cII) [.ref (a 0), .int x]) (vp_Si (fun r => r = k_countHeldBy N K A x)) 0 0 (fun _ => False) := by
  refine roStart (by decide) rfl (Nat.le_of_ble_eq_true rfl) (fun p e s m below meth c Sx hr hlk hP hK ls hl => ?_)
  obtain ⟨hx, hb, hml, hown, hts⟩ := id Sx
  have hl : lv_has ls 4 [(0, .ref (a 0)), (1, .int x)] := hl
  refine lv_iconst (v := (0 : Int32)) hx hb d_C_countHeldBy_0 (by decide) ?_
  refine lv_istore_n (lv' := [(2, .int (0 : Int32)), (0, .ref (a 0)), (1, .int x)]) hx hb d_C_countHeldBy_1 rfl hl (by decide) rfl (fun ls hl => ?_)
  refine lv_iconst (v := (0 : Int32)) hx hb d_C_countHeldBy_2 (by decide) ?_
  refine lv_istore_n (lv' := [(3, .int (0 : Int32)), (2, .int (0 : Int32)), (0, .ref (a 0)), (1, .int x)]) hx hb d_C_countHeldBy_3 rfl hl (by decide) rfl (fun ls hl => ?_)
  have e_4 : k_countHeldBy N K A x = k_countHeldBy_4 N K A x N 0 (0 : Int32) := by rw [k_countHeldBy]
  rw [e_4]
  exact wk_countHeldBy_4 l D a cI cII N K A hN hKK x Sx hr hlk hP hK N 0 (by omega) (0 : Int32) ls (lv_sub hl [2, 3, 1, 0] rfl)

def k_isFull (N K : Nat) (A : Nat → Nat → Int32) (x : Int32) : Int32 := (if (k_sortOf N K A x) = (0 : Int32) then (0 : Int32) else (if (k_countHeldBy N K A x) < (8 : Int32) then (0 : Int32) else (1 : Int32)))
set_option maxHeartbeats 4000000 in
set_option maxRecDepth 100000 in
theorem ck_isFull (l : Launch) (D : va_G) (a : Nat → Nat) (cI cII : ClassId) (N K : Nat) (A : Nat → Nat → Int32) (hN : N ≤ 30) (hKK : K ≤ 10) (x : Int32) : Met l y_C_isFull (Cond.code y_C_isFull b_C_isFull 2 (some .boolean) :: BW) ({ frames := 2, cells := 0, slots := 0, locals := 42 } : Room) (PcR D (wC a cI cII (nI N) (nI K) A) (tC cI cII) [.ref (a 0), .int x]) (vp_Si (fun r => r = k_isFull N K A x)) 0 0 (fun _ => False) := by
  refine roStart (by decide) rfl (Nat.le_of_ble_eq_true rfl) (fun p e s m below meth c Sx hr hlk hP hK ls hl => ?_)
  obtain ⟨hx, hb, hml, hown, hts⟩ := id Sx
  have hl : lv_has ls 2 [(0, .ref (a 0)), (1, .int x)] := hl
  refine lv_aload_n hx hb d_C_isFull_0 rfl (lv_at hl 0 rfl) ?_
  refine lv_iload_n hx hb d_C_isFull_1 rfl (lv_at hl 1 rfl) ?_
  refine xro (As := [.int x]) (rest := []) Sx (ck_sortOf l D a cI cII N K A hN hKK x) v_C_sortOf ⟨rfl, rfl, Nat.le_of_ble_eq_true rfl, Nat.le_of_ble_eq_true rfl⟩ hK hP (ci := 0) (q0 := 0) rfl rfl rfl hl.1 rfl (Nat.le_of_ble_eq_true rfl) d_C_isFull_2 ⟨Nat.le_of_ble_eq_true rfl, Nat.le_of_ble_eq_true rfl⟩ (fun r hq => ?_)
  subst hq
  refine lv_if_eq (tgt := 22) hx hb d_C_isFull_5 (by decide) (fun c_5 => ?_) (fun c_5 => ?_)
  · refine lv_iconst (v := (0 : Int32)) hx hb d_C_isFull_22 (by decide) ?_
    exact roRet hx hb hr (by first | rfl | decide) hlk (show (0 : Int32) = k_isFull N K A x from by rw [k_isFull, if_pos c_5]) d_C_isFull_23
  · refine lv_aload_n hx hb d_C_isFull_8 rfl (lv_at hl 0 rfl) ?_
    refine lv_iload_n hx hb d_C_isFull_9 rfl (lv_at hl 1 rfl) ?_
    refine xro (As := [.int x]) (rest := []) Sx (ck_countHeldBy l D a cI cII N K A hN hKK x) v_C_countHeldBy ⟨rfl, rfl, Nat.le_of_ble_eq_true rfl, Nat.le_of_ble_eq_true rfl⟩ hK hP (ci := 0) (q0 := 0) rfl rfl rfl hl.1 rfl (Nat.le_of_ble_eq_true rfl) d_C_isFull_10 ⟨Nat.le_of_ble_eq_true rfl, Nat.le_of_ble_eq_true rfl⟩ (fun r hq => ?_)
    subst hq
    refine lv_bipush (v := (8 : Int32)) hx hb d_C_isFull_13 (by decide) ?_
    refine lv_icmp_lt (tgt := 22) hx hb d_C_isFull_15 (by decide) (fun c_15 => ?_) (fun c_15 => ?_)
    · refine lv_iconst (v := (0 : Int32)) hx hb d_C_isFull_22 (by decide) ?_
      exact roRet hx hb hr (by first | rfl | decide) hlk (show (0 : Int32) = k_isFull N K A x from by rw [k_isFull, if_neg c_5, if_pos c_15]) d_C_isFull_23
    · refine lv_iconst (v := (1 : Int32)) hx hb d_C_isFull_18 (by decide) ?_
      refine lv_goto (tgt := 23) hx hb d_C_isFull_19 (by decide) ?_
      exact roRet hx hb hr (by first | rfl | decide) hlk (show (1 : Int32) = k_isFull N K A x from by rw [k_isFull, if_neg c_5, if_neg c_15]) d_C_isFull_23

def k_isWithin_9 (N K : Nat) (A : Nat → Nat → Int32) (outer : Int32) : Nat → Nat → Int32 → Int32
  | 0, i, v3 => (0 : Int32)
  | k + 1, i, v3 => (if v3 = (-1 : Int32) then (0 : Int32) else (if v3 = outer then (1 : Int32) else k_isWithin_9 N K A outer k (i + 1) (k_holderOf N K A v3)))
theorem k_isWithin_9_0 (N K : Nat) (A : Nat → Nat → Int32) (outer : Int32) (i : Nat) (v3 : Int32) : k_isWithin_9 N K A outer 0 i v3 = (0 : Int32) := rfl
theorem k_isWithin_9_S (N K : Nat) (A : Nat → Nat → Int32) (outer : Int32) (k i : Nat) (v3 : Int32) : k_isWithin_9 N K A outer (k + 1) i v3 = (if v3 = (-1 : Int32) then (0 : Int32) else (if v3 = outer then (1 : Int32) else k_isWithin_9 N K A outer k (i + 1) (k_holderOf N K A v3))) := rfl
set_option maxHeartbeats 4000000 in
set_option maxRecDepth 100000 in
theorem wk_isWithin_9 (l : Launch) (D : va_G) (a : Nat → Nat) (cI cII : ClassId) (N K : Nat) (A : Nat → Nat → Int32) (hN : N ≤ 30) (hKK : K ≤ 10) (x outer : Int32) {p : Program} {e : Env} {s : State} {m : MethodId} {below : List Frame} {meth : Method} {c : Code} (Sx : CallFix p m c b_C_isWithin 5 s ([.ref (a 0), .int x, .int outer] : List Value).toArray BW R_C) (hr : meth.sig.returnType = (some .boolean)) (hlk : meth.locks = false) (hP : va_P D classes (wC a cI cII (nI N) (nI K) A) s.heap) (hK : va_K D classes (tC cI cII) s) : ∀ (k i : Nat), i + k = 30 → ∀ (v3 : Int32) (ls : Array Slot), lv_has ls 5 [(0, .ref (a 0)), (1, .int x), (2, .int outer), (3, .int v3), (4, .int (nI i))] → W p l e ({ frames := 2, cells := 0, slots := 0, locals := 42 } : Room) s m ([.ref (a 0), .int x, .int outer] : List Value).toArray below meth c s.heap [] 0 0 (MQ below (vp_Si (fun r => r = k_isWithin_9 N K A outer k i v3)) ([.ref (a 0), .int x, .int outer] : List Value).toArray s 0 0 (fun _ => False)) (F0 m 9 ls []) := by
  obtain ⟨hx, hb, hml, hown, hts⟩ := id Sx
  intro k
  induction k with
  | zero =>
    intro i hi v3 ls hl
    refine lv_iload hx hb d_C_isWithin_9 (lv_at hl 4 rfl) ?_
    refine lv_bipush (v := (30 : Int32)) hx hb d_C_isWithin_11 (by decide) ?_
    refine lv_icmp_ge (tgt := 40) hx hb d_C_isWithin_13 (by decide) (fun c_13 => ?_) (fun c_13 => absurd (nI_le (a := 30) (b := i) (by omega) (by omega)) c_13)
    refine lv_iconst (v := (0 : Int32)) hx hb d_C_isWithin_40 (by decide) ?_
    exact roRet hx hb hr (by first | rfl | decide) hlk (show (0 : Int32) = k_isWithin_9 N K A outer 0 i v3 from by rw [k_isWithin_9_0]) d_C_isWithin_41
  | succ k ih =>
    intro i hi v3 ls hl
    refine lv_iload hx hb d_C_isWithin_9 (lv_at hl 4 rfl) ?_
    refine lv_bipush (v := (30 : Int32)) hx hb d_C_isWithin_11 (by decide) ?_
    refine lv_icmp_ge (tgt := 40) hx hb d_C_isWithin_13 (by decide) (fun c_13 => absurd c_13 (nI_ge (a := i) (b := 30) (by omega) (by omega))) (fun c_13 => ?_)
    refine lv_iload_n hx hb d_C_isWithin_16 rfl (lv_at hl 3 rfl) ?_
    refine lv_iconst (v := (-1 : Int32)) hx hb d_C_isWithin_17 (by decide) ?_
    refine lv_icmp_eq (tgt := 40) hx hb d_C_isWithin_18 (by decide) (fun c_18 => ?_) (fun c_18 => ?_)
    · refine lv_iconst (v := (0 : Int32)) hx hb d_C_isWithin_40 (by decide) ?_
      exact roRet hx hb hr (by first | rfl | decide) hlk (show (0 : Int32) = k_isWithin_9 N K A outer (k + 1) i v3 from by rw [k_isWithin_9_S, if_pos c_18]) d_C_isWithin_41
    · refine lv_iload_n hx hb d_C_isWithin_21 rfl (lv_at hl 3 rfl) ?_
      refine lv_iload_n hx hb d_C_isWithin_22 rfl (lv_at hl 2 rfl) ?_
      refine lv_icmp_ne (tgt := 28) hx hb d_C_isWithin_23 (by decide) (fun c_23 => ?_) (fun c_23 => ?_)
      · refine lv_aload_n hx hb d_C_isWithin_28 rfl (lv_at hl 0 rfl) ?_
        refine lv_iload_n hx hb d_C_isWithin_29 rfl (lv_at hl 3 rfl) ?_
        refine xro (As := [.int v3]) (rest := []) Sx (ck_holderOf l D a cI cII N K A hN hKK v3) v_C_holderOf ⟨rfl, rfl, Nat.le_of_ble_eq_true rfl, Nat.le_of_ble_eq_true rfl⟩ hK hP (ci := 0) (q0 := 0) rfl rfl rfl hl.1 rfl (Nat.le_of_ble_eq_true rfl) d_C_isWithin_30 ⟨Nat.le_of_ble_eq_true rfl, Nat.le_of_ble_eq_true rfl⟩ (fun r hq => ?_)
        subst hq
        refine lv_istore_n (lv' := [(3, .int (k_holderOf N K A v3)), (0, .ref (a 0)), (1, .int x), (2, .int outer), (4, .int (nI i))]) hx hb d_C_isWithin_33 rfl hl (by decide) rfl (fun ls hl => ?_)
        refine lv_iinc (v := nI (i + 1)) (lv' := [(4, .int (nI (i + 1))), (3, .int (k_holderOf N K A v3)), (0, .ref (a 0)), (1, .int x), (2, .int outer)]) hx hb d_C_isWithin_34 hl (k := 4) rfl (nI_1 i) (by decide) rfl (fun ls hl => ?_)
        refine lv_goto (tgt := 9) hx hb d_C_isWithin_37 (by decide) ?_
        have e_b : k_isWithin_9 N K A outer (k + 1) i v3 = k_isWithin_9 N K A outer k (i + 1) (k_holderOf N K A v3) := by rw [k_isWithin_9_S, if_neg c_18, if_neg c_23]
        rw [e_b]
        exact ih (i + 1) (by omega) (k_holderOf N K A v3) ls (lv_sub hl [2, 3, 4, 1, 0] rfl)
      · refine lv_iconst (v := (1 : Int32)) hx hb d_C_isWithin_26 (by decide) ?_
        exact roRet hx hb hr (by first | rfl | decide) hlk (show (1 : Int32) = k_isWithin_9 N K A outer (k + 1) i v3 from by rw [k_isWithin_9_S, if_neg c_18, if_pos c_23]) d_C_isWithin_27
def k_isWithin (N K : Nat) (A : Nat → Nat → Int32) (x outer : Int32) : Int32 := k_isWithin_9 N K A outer 30 0 (k_holderOf N K A x)
set_option maxHeartbeats 4000000 in
set_option maxRecDepth 100000 in
theorem ck_isWithin (l : Launch) (D : va_G) (a : Nat → Nat) (cI cII : ClassId) (N K : Nat) (A : Nat → Nat → Int32) (hN : N ≤ 30) (hKK : K ≤ 10) (x outer : Int32) : Met l y_C_isWithin (Cond.code y_C_isWithin b_C_isWithin 5 (some .boolean) :: BW) ({ frames := 2, cells := 0, slots := 0, locals := 42 } : Room) (PcR D (wC a cI cII (nI N) (nI K) A) (tC cI cII) [.ref (a 0), .int x, .int outer]) (vp_Si (fun r => r = k_isWithin N K A x outer)) 0 0 (fun _ => False) := by
  refine roStart (by decide) rfl (Nat.le_of_ble_eq_true rfl) (fun p e s m below meth c Sx hr hlk hP hK ls hl => ?_)
  obtain ⟨hx, hb, hml, hown, hts⟩ := id Sx
  have hl : lv_has ls 5 [(0, .ref (a 0)), (1, .int x), (2, .int outer)] := hl
  refine lv_aload_n hx hb d_C_isWithin_0 rfl (lv_at hl 0 rfl) ?_
  refine lv_iload_n hx hb d_C_isWithin_1 rfl (lv_at hl 1 rfl) ?_
  refine xro (As := [.int x]) (rest := []) Sx (ck_holderOf l D a cI cII N K A hN hKK x) v_C_holderOf ⟨rfl, rfl, Nat.le_of_ble_eq_true rfl, Nat.le_of_ble_eq_true rfl⟩ hK hP (ci := 0) (q0 := 0) rfl rfl rfl hl.1 rfl (Nat.le_of_ble_eq_true rfl) d_C_isWithin_2 ⟨Nat.le_of_ble_eq_true rfl, Nat.le_of_ble_eq_true rfl⟩ (fun r hq => ?_)
  subst hq
  refine lv_istore_n (lv' := [(3, .int (k_holderOf N K A x)), (0, .ref (a 0)), (1, .int x), (2, .int outer)]) hx hb d_C_isWithin_5 rfl hl (by decide) rfl (fun ls hl => ?_)
  refine lv_iconst (v := (0 : Int32)) hx hb d_C_isWithin_6 (by decide) ?_
  refine lv_istore (lv' := [(4, .int (0 : Int32)), (3, .int (k_holderOf N K A x)), (0, .ref (a 0)), (1, .int x), (2, .int outer)]) hx hb d_C_isWithin_7 hl (by decide) rfl (fun ls hl => ?_)
  have e_9 : k_isWithin N K A x outer = k_isWithin_9 N K A outer 30 0 (k_holderOf N K A x) := by rw [k_isWithin]
  rw [e_9]
  exact wk_isWithin_9 l D a cI cII N K A hN hKK x outer Sx hr hlk hP hK 30 0 (by omega) (k_holderOf N K A x) ls (lv_sub hl [2, 3, 4, 1, 0] rfl)

def k_countWithin_4 (N K : Nat) (A : Nat → Nat → Int32) (x : Int32) : Nat → Nat → Int32 → Int32
  | 0, i, v2 => v2
  | k + 1, i, v2 => (if (k_isWithin N K A (nI i) x) = (0 : Int32) then k_countWithin_4 N K A x k (i + 1) v2 else k_countWithin_4 N K A x k (i + 1) (v2 + 1))
theorem k_countWithin_4_0 (N K : Nat) (A : Nat → Nat → Int32) (x : Int32) (i : Nat) (v2 : Int32) : k_countWithin_4 N K A x 0 i v2 = v2 := rfl
theorem k_countWithin_4_S (N K : Nat) (A : Nat → Nat → Int32) (x : Int32) (k i : Nat) (v2 : Int32) : k_countWithin_4 N K A x (k + 1) i v2 = (if (k_isWithin N K A (nI i) x) = (0 : Int32) then k_countWithin_4 N K A x k (i + 1) v2 else k_countWithin_4 N K A x k (i + 1) (v2 + 1)) := rfl
set_option maxHeartbeats 4000000 in
set_option maxRecDepth 100000 in
theorem wk_countWithin_4 (l : Launch) (D : va_G) (a : Nat → Nat) (cI cII : ClassId) (N K : Nat) (A : Nat → Nat → Int32) (hN : N ≤ 30) (hKK : K ≤ 10) (x : Int32) {p : Program} {e : Env} {s : State} {m : MethodId} {below : List Frame} {meth : Method} {c : Code} (Sx : CallFix p m c b_C_countWithin 4 s ([.ref (a 0), .int x] : List Value).toArray BW R_C) (hr : meth.sig.returnType = (some .int)) (hlk : meth.locks = false) (hP : va_P D classes (wC a cI cII (nI N) (nI K) A) s.heap) (hK : va_K D classes (tC cI cII) s) : ∀ (k i : Nat), i + k = N → ∀ (v2 : Int32) (ls : Array Slot), lv_has ls 4 [(0, .ref (a 0)), (1, .int x), (2, .int v2), (3, .int (nI i))] → W p l e ({ frames := 3, cells := 0, slots := 0, locals := 66 } : Room) s m ([.ref (a 0), .int x] : List Value).toArray below meth c s.heap [] 0 0 (MQ below (vp_Si (fun r => r = k_countWithin_4 N K A x k i v2)) ([.ref (a 0), .int x] : List Value).toArray s 0 0 (fun _ => False)) (F0 m 4 ls []) := by
  obtain ⟨hx, hb, hml, hown, hts⟩ := id Sx
  intro k
  induction k with
  | zero =>
    intro i hi v2 ls hl
    refine lv_iload_n hx hb d_C_countWithin_4 rfl (lv_at hl 3 rfl) ?_
    refine lv_aload_n hx hb d_C_countWithin_5 rfl (lv_at hl 0 rfl) ?_
    refine va_get (D := D) (ci := 0) (v := .int (nI N)) (C := R_C) (T := F_C) (N := 9) hx hb hts i_C hown hK hP 0 rfl rfl 0 (by decide) (hts _ fl_C_7) (fun _ h9 => h9) rfl d_C_countWithin_6 ?_
    refine lv_icmp_ge (tgt := 30) hx hb d_C_countWithin_9 (by decide) (fun c_9 => ?_) (fun c_9 => absurd (nI_le (a := N) (b := i) (by omega) (by omega)) c_9)
    refine lv_iload_n hx hb d_C_countWithin_30 rfl (lv_at hl 2 rfl) ?_
    exact roRet hx hb hr rfl hlk (show v2 = k_countWithin_4 N K A x 0 i v2 from by rw [k_countWithin_4_0]) d_C_countWithin_31
  | succ k ih =>
    intro i hi v2 ls hl
    refine lv_iload_n hx hb d_C_countWithin_4 rfl (lv_at hl 3 rfl) ?_
    refine lv_aload_n hx hb d_C_countWithin_5 rfl (lv_at hl 0 rfl) ?_
    refine va_get (D := D) (ci := 0) (v := .int (nI N)) (C := R_C) (T := F_C) (N := 9) hx hb hts i_C hown hK hP 0 rfl rfl 0 (by decide) (hts _ fl_C_7) (fun _ h9 => h9) rfl d_C_countWithin_6 ?_
    refine lv_icmp_ge (tgt := 30) hx hb d_C_countWithin_9 (by decide) (fun c_9 => absurd c_9 (nI_ge (a := i) (b := N) (by omega) (by omega))) (fun c_9 => ?_)
    refine lv_aload_n hx hb d_C_countWithin_12 rfl (lv_at hl 0 rfl) ?_
    refine lv_iload_n hx hb d_C_countWithin_13 rfl (lv_at hl 3 rfl) ?_
    refine lv_iload_n hx hb d_C_countWithin_14 rfl (lv_at hl 1 rfl) ?_
    refine xro (As := [.int (nI i), .int x]) (rest := []) Sx (ck_isWithin l D a cI cII N K A hN hKK (nI i) x) v_C_isWithin ⟨rfl, rfl, Nat.le_of_ble_eq_true rfl, Nat.le_of_ble_eq_true rfl⟩ hK hP (ci := 0) (q0 := 0) rfl rfl rfl hl.1 rfl (Nat.le_of_ble_eq_true rfl) d_C_countWithin_15 ⟨Nat.le_of_ble_eq_true rfl, Nat.le_of_ble_eq_true rfl⟩ (fun r hq => ?_)
    subst hq
    refine lv_if_eq (tgt := 24) hx hb d_C_countWithin_18 (by decide) (fun c_18 => ?_) (fun c_18 => ?_)
    · refine lv_iinc (v := nI (i + 1)) (lv' := [(3, .int (nI (i + 1))), (0, .ref (a 0)), (1, .int x), (2, .int v2)]) hx hb d_C_countWithin_24 hl (k := 3) rfl (nI_1 i) (by decide) rfl (fun ls hl => ?_)
      refine lv_goto (tgt := 4) hx hb d_C_countWithin_27 (by decide) ?_
      have e_b : k_countWithin_4 N K A x (k + 1) i v2 = k_countWithin_4 N K A x k (i + 1) v2 := by rw [k_countWithin_4_S, if_pos c_18]
      rw [e_b]
      exact ih (i + 1) (by omega) v2 ls (lv_sub hl [1, 2, 3, 0] rfl)
    · refine lv_iinc (v := v2 + 1) (lv' := [(2, .int (v2 + 1)), (0, .ref (a 0)), (1, .int x), (3, .int (nI i))]) hx hb d_C_countWithin_21 hl (k := 2) rfl (rfl) (by decide) rfl (fun ls hl => ?_)
      refine lv_iinc (v := nI (i + 1)) (lv' := [(3, .int (nI (i + 1))), (2, .int (v2 + 1)), (0, .ref (a 0)), (1, .int x)]) hx hb d_C_countWithin_24 hl (k := 3) rfl (nI_1 i) (by decide) rfl (fun ls hl => ?_)
      refine lv_goto (tgt := 4) hx hb d_C_countWithin_27 (by decide) ?_
      have e_b : k_countWithin_4 N K A x (k + 1) i v2 = k_countWithin_4 N K A x k (i + 1) (v2 + 1) := by rw [k_countWithin_4_S, if_neg c_18]
      rw [e_b]
      exact ih (i + 1) (by omega) (v2 + 1) ls (lv_sub hl [2, 3, 1, 0] rfl)
def k_countWithin (N K : Nat) (A : Nat → Nat → Int32) (x : Int32) : Int32 := k_countWithin_4 N K A x N 0 (0 : Int32)
set_option maxHeartbeats 4000000 in
set_option maxRecDepth 100000 in
theorem ck_countWithin (l : Launch) (D : va_G) (a : Nat → Nat) (cI cII : ClassId) (N K : Nat) (A : Nat → Nat → Int32) (hN : N ≤ 30) (hKK : K ≤ 10) (x : Int32) : Met l y_C_countWithin (Cond.code y_C_countWithin b_C_countWithin 4 (some .int) :: BW) ({ frames := 3, cells := 0, slots := 0, locals := 66 } : Room) (PcR D (wC a cI cII (nI N) (nI K) A) (tC cI cII) [.ref (a 0), .int x]) (vp_Si (fun r => r = k_countWithin N K A x)) 0 0 (fun _ => False) := by
  refine roStart (by decide) rfl (Nat.le_of_ble_eq_true rfl) (fun p e s m below meth c Sx hr hlk hP hK ls hl => ?_)
  obtain ⟨hx, hb, hml, hown, hts⟩ := id Sx
  have hl : lv_has ls 4 [(0, .ref (a 0)), (1, .int x)] := hl
  refine lv_iconst (v := (0 : Int32)) hx hb d_C_countWithin_0 (by decide) ?_
  refine lv_istore_n (lv' := [(2, .int (0 : Int32)), (0, .ref (a 0)), (1, .int x)]) hx hb d_C_countWithin_1 rfl hl (by decide) rfl (fun ls hl => ?_)
  refine lv_iconst (v := (0 : Int32)) hx hb d_C_countWithin_2 (by decide) ?_
  refine lv_istore_n (lv' := [(3, .int (0 : Int32)), (2, .int (0 : Int32)), (0, .ref (a 0)), (1, .int x)]) hx hb d_C_countWithin_3 rfl hl (by decide) rfl (fun ls hl => ?_)
  have e_4 : k_countWithin N K A x = k_countWithin_4 N K A x N 0 (0 : Int32) := by rw [k_countWithin]
  rw [e_4]
  exact wk_countWithin_4 l D a cI cII N K A hN hKK x Sx hr hlk hP hK N 0 (by omega) (0 : Int32) ls (lv_sub hl [2, 3, 1, 0] rfl)

def k_spaceOf_18 (N K : Nat) (A : Nat → Nat → Int32) : Nat → Nat → Int32 → Int32
  | 0, i, v2 => (-1 : Int32)
  | k + 1, i, v2 => (if v2 = (-1 : Int32) then (-1 : Int32) else (if (k_isSpace N K A v2) = (0 : Int32) then k_spaceOf_18 N K A k (i + 1) (k_holderOf N K A v2) else v2))
theorem k_spaceOf_18_0 (N K : Nat) (A : Nat → Nat → Int32) (i : Nat) (v2 : Int32) : k_spaceOf_18 N K A 0 i v2 = (-1 : Int32) := rfl
theorem k_spaceOf_18_S (N K : Nat) (A : Nat → Nat → Int32) (k i : Nat) (v2 : Int32) : k_spaceOf_18 N K A (k + 1) i v2 = (if v2 = (-1 : Int32) then (-1 : Int32) else (if (k_isSpace N K A v2) = (0 : Int32) then k_spaceOf_18 N K A k (i + 1) (k_holderOf N K A v2) else v2)) := rfl
set_option maxHeartbeats 4000000 in
set_option maxRecDepth 100000 in
theorem wk_spaceOf_18 (l : Launch) (D : va_G) (a : Nat → Nat) (cI cII : ClassId) (N K : Nat) (A : Nat → Nat → Int32) (hN : N ≤ 30) (hKK : K ≤ 10) (x : Int32) {p : Program} {e : Env} {s : State} {m : MethodId} {below : List Frame} {meth : Method} {c : Code} (Sx : CallFix p m c b_C_spaceOf 4 s ([.ref (a 0), .int x] : List Value).toArray BW R_C) (hr : meth.sig.returnType = (some .int)) (hlk : meth.locks = false) (hP : va_P D classes (wC a cI cII (nI N) (nI K) A) s.heap) (hK : va_K D classes (tC cI cII) s) : ∀ (k i : Nat), i + k = 30 → ∀ (v2 : Int32) (ls : Array Slot), lv_has ls 4 [(0, .ref (a 0)), (1, .int x), (2, .int v2), (3, .int (nI i))] → W p l e ({ frames := 3, cells := 0, slots := 0, locals := 64 } : Room) s m ([.ref (a 0), .int x] : List Value).toArray below meth c s.heap [] 0 0 (MQ below (vp_Si (fun r => r = k_spaceOf_18 N K A k i v2)) ([.ref (a 0), .int x] : List Value).toArray s 0 0 (fun _ => False)) (F0 m 18 ls []) := by
  obtain ⟨hx, hb, hml, hown, hts⟩ := id Sx
  intro k
  induction k with
  | zero =>
    intro i hi v2 ls hl
    refine lv_iload_n hx hb d_C_spaceOf_18 rfl (lv_at hl 3 rfl) ?_
    refine lv_bipush (v := (30 : Int32)) hx hb d_C_spaceOf_19 (by decide) ?_
    refine lv_icmp_ge (tgt := 51) hx hb d_C_spaceOf_21 (by decide) (fun c_21 => ?_) (fun c_21 => absurd (nI_le (a := 30) (b := i) (by omega) (by omega)) c_21)
    refine lv_iconst (v := (-1 : Int32)) hx hb d_C_spaceOf_51 (by decide) ?_
    exact roRet hx hb hr rfl hlk (show (-1 : Int32) = k_spaceOf_18 N K A 0 i v2 from by rw [k_spaceOf_18_0]) d_C_spaceOf_52
  | succ k ih =>
    intro i hi v2 ls hl
    refine lv_iload_n hx hb d_C_spaceOf_18 rfl (lv_at hl 3 rfl) ?_
    refine lv_bipush (v := (30 : Int32)) hx hb d_C_spaceOf_19 (by decide) ?_
    refine lv_icmp_ge (tgt := 51) hx hb d_C_spaceOf_21 (by decide) (fun c_21 => absurd c_21 (nI_ge (a := i) (b := 30) (by omega) (by omega))) (fun c_21 => ?_)
    refine lv_iload_n hx hb d_C_spaceOf_24 rfl (lv_at hl 2 rfl) ?_
    refine lv_iconst (v := (-1 : Int32)) hx hb d_C_spaceOf_25 (by decide) ?_
    refine lv_icmp_eq (tgt := 51) hx hb d_C_spaceOf_26 (by decide) (fun c_26 => ?_) (fun c_26 => ?_)
    · refine lv_iconst (v := (-1 : Int32)) hx hb d_C_spaceOf_51 (by decide) ?_
      exact roRet hx hb hr rfl hlk (show (-1 : Int32) = k_spaceOf_18 N K A (k + 1) i v2 from by rw [k_spaceOf_18_S, if_pos c_26]) d_C_spaceOf_52
    · refine lv_aload_n hx hb d_C_spaceOf_29 rfl (lv_at hl 0 rfl) ?_
      refine lv_iload_n hx hb d_C_spaceOf_30 rfl (lv_at hl 2 rfl) ?_
      refine xro (As := [.int v2]) (rest := []) Sx (ck_isSpace l D a cI cII N K A hN hKK v2) v_C_isSpace ⟨rfl, rfl, Nat.le_of_ble_eq_true rfl, Nat.le_of_ble_eq_true rfl⟩ hK hP (ci := 0) (q0 := 0) rfl rfl rfl hl.1 rfl (Nat.le_of_ble_eq_true rfl) d_C_spaceOf_31 ⟨Nat.le_of_ble_eq_true rfl, Nat.le_of_ble_eq_true rfl⟩ (fun r hq => ?_)
      subst hq
      refine lv_if_eq (tgt := 39) hx hb d_C_spaceOf_34 (by decide) (fun c_34 => ?_) (fun c_34 => ?_)
      · refine lv_aload_n hx hb d_C_spaceOf_39 rfl (lv_at hl 0 rfl) ?_
        refine lv_iload_n hx hb d_C_spaceOf_40 rfl (lv_at hl 2 rfl) ?_
        refine xro (As := [.int v2]) (rest := []) Sx (ck_holderOf l D a cI cII N K A hN hKK v2) v_C_holderOf ⟨rfl, rfl, Nat.le_of_ble_eq_true rfl, Nat.le_of_ble_eq_true rfl⟩ hK hP (ci := 0) (q0 := 0) rfl rfl rfl hl.1 rfl (Nat.le_of_ble_eq_true rfl) d_C_spaceOf_41 ⟨Nat.le_of_ble_eq_true rfl, Nat.le_of_ble_eq_true rfl⟩ (fun r hq => ?_)
        subst hq
        refine lv_istore_n (lv' := [(2, .int (k_holderOf N K A v2)), (0, .ref (a 0)), (1, .int x), (3, .int (nI i))]) hx hb d_C_spaceOf_44 rfl hl (by decide) rfl (fun ls hl => ?_)
        refine lv_iinc (v := nI (i + 1)) (lv' := [(3, .int (nI (i + 1))), (2, .int (k_holderOf N K A v2)), (0, .ref (a 0)), (1, .int x)]) hx hb d_C_spaceOf_45 hl (k := 3) rfl (nI_1 i) (by decide) rfl (fun ls hl => ?_)
        refine lv_goto (tgt := 18) hx hb d_C_spaceOf_48 (by decide) ?_
        have e_b : k_spaceOf_18 N K A (k + 1) i v2 = k_spaceOf_18 N K A k (i + 1) (k_holderOf N K A v2) := by rw [k_spaceOf_18_S, if_neg c_26, if_pos c_34]
        rw [e_b]
        exact ih (i + 1) (by omega) (k_holderOf N K A v2) ls (lv_sub hl [2, 3, 1, 0] rfl)
      · refine lv_iload_n hx hb d_C_spaceOf_37 rfl (lv_at hl 2 rfl) ?_
        exact roRet hx hb hr rfl hlk (show v2 = k_spaceOf_18 N K A (k + 1) i v2 from by rw [k_spaceOf_18_S, if_neg c_26, if_neg c_34]) d_C_spaceOf_38
def k_spaceOf (N K : Nat) (A : Nat → Nat → Int32) (x : Int32) : Int32 := (if (k_sortOf N K A x) = (0 : Int32) then x else k_spaceOf_18 N K A 30 0 (k_holderOf N K A x))
set_option maxHeartbeats 4000000 in
set_option maxRecDepth 100000 in
theorem ck_spaceOf (l : Launch) (D : va_G) (a : Nat → Nat) (cI cII : ClassId) (N K : Nat) (A : Nat → Nat → Int32) (hN : N ≤ 30) (hKK : K ≤ 10) (x : Int32) : Met l y_C_spaceOf (Cond.code y_C_spaceOf b_C_spaceOf 4 (some .int) :: BW) ({ frames := 3, cells := 0, slots := 0, locals := 64 } : Room) (PcR D (wC a cI cII (nI N) (nI K) A) (tC cI cII) [.ref (a 0), .int x]) (vp_Si (fun r => r = k_spaceOf N K A x)) 0 0 (fun _ => False) := by
  refine roStart (by decide) rfl (Nat.le_of_ble_eq_true rfl) (fun p e s m below meth c Sx hr hlk hP hK ls hl => ?_)
  obtain ⟨hx, hb, hml, hown, hts⟩ := id Sx
  have hl : lv_has ls 4 [(0, .ref (a 0)), (1, .int x)] := hl
  refine lv_aload_n hx hb d_C_spaceOf_0 rfl (lv_at hl 0 rfl) ?_
  refine lv_iload_n hx hb d_C_spaceOf_1 rfl (lv_at hl 1 rfl) ?_
  refine xro (As := [.int x]) (rest := []) Sx (ck_sortOf l D a cI cII N K A hN hKK x) v_C_sortOf ⟨rfl, rfl, Nat.le_of_ble_eq_true rfl, Nat.le_of_ble_eq_true rfl⟩ hK hP (ci := 0) (q0 := 0) rfl rfl rfl hl.1 rfl (Nat.le_of_ble_eq_true rfl) d_C_spaceOf_2 ⟨Nat.le_of_ble_eq_true rfl, Nat.le_of_ble_eq_true rfl⟩ (fun r hq => ?_)
  subst hq
  refine lv_if_ne (tgt := 10) hx hb d_C_spaceOf_5 (by decide) (fun c_5 => ?_) (fun c_5 => ?_)
  · refine lv_aload_n hx hb d_C_spaceOf_10 rfl (lv_at hl 0 rfl) ?_
    refine lv_iload_n hx hb d_C_spaceOf_11 rfl (lv_at hl 1 rfl) ?_
    refine xro (As := [.int x]) (rest := []) Sx (ck_holderOf l D a cI cII N K A hN hKK x) v_C_holderOf ⟨rfl, rfl, Nat.le_of_ble_eq_true rfl, Nat.le_of_ble_eq_true rfl⟩ hK hP (ci := 0) (q0 := 0) rfl rfl rfl hl.1 rfl (Nat.le_of_ble_eq_true rfl) d_C_spaceOf_12 ⟨Nat.le_of_ble_eq_true rfl, Nat.le_of_ble_eq_true rfl⟩ (fun r hq => ?_)
    subst hq
    refine lv_istore_n (lv' := [(2, .int (k_holderOf N K A x)), (0, .ref (a 0)), (1, .int x)]) hx hb d_C_spaceOf_15 rfl hl (by decide) rfl (fun ls hl => ?_)
    refine lv_iconst (v := (0 : Int32)) hx hb d_C_spaceOf_16 (by decide) ?_
    refine lv_istore_n (lv' := [(3, .int (0 : Int32)), (2, .int (k_holderOf N K A x)), (0, .ref (a 0)), (1, .int x)]) hx hb d_C_spaceOf_17 rfl hl (by decide) rfl (fun ls hl => ?_)
    have e_18 : k_spaceOf N K A x = k_spaceOf_18 N K A 30 0 (k_holderOf N K A x) := by rw [k_spaceOf, if_neg c_5]
    rw [e_18]
    exact wk_spaceOf_18 l D a cI cII N K A hN hKK x Sx hr hlk hP hK 30 0 (by omega) (k_holderOf N K A x) ls (lv_sub hl [2, 3, 1, 0] rfl)
  · refine lv_iload_n hx hb d_C_spaceOf_8 rfl (lv_at hl 1 rfl) ?_
    exact roRet hx hb hr rfl hlk (show x = k_spaceOf N K A x from by rw [k_spaceOf, if_pos c_5]) d_C_spaceOf_9
theorem spaceOf_18_T {N K : Nat} {A : Nat → Nat → Int32} : ∀ (k i : Nat) (v : Int32), ¬ k_spaceOf_18 N K A k i v = (-1 : Int32) → ¬ k_isSpace N K A (k_spaceOf_18 N K A k i v) = (0 : Int32) := by
  intro k
  induction k with
  | zero => intro i v h; exact absurd rfl h
  | succ k ih =>
    intro i v h
    rw [k_spaceOf_18_S] at h ⊢
    by_cases c1 : v = (-1 : Int32)
    · rw [if_pos c1] at h; exact absurd rfl h
    · rw [if_neg c1] at h ⊢
      by_cases c2 : k_isSpace N K A v = (0 : Int32)
      · rw [if_pos c2] at h ⊢; exact ih (i + 1) _ h
      · rw [if_neg c2]; exact c2
theorem spaceOf_S {N K : Nat} {A : Nat → Nat → Int32} {x : Int32} (h : ¬ k_spaceOf N K A x = (-1 : Int32)) : ¬ k_isSpace N K A (k_spaceOf N K A x) = (0 : Int32) := by
  rw [k_spaceOf] at h ⊢
  by_cases c : k_sortOf N K A x = (0 : Int32)
  · rw [if_pos c, k_isSpace, if_pos c]; decide
  · rw [if_neg c] at h ⊢; exact spaceOf_18_T _ _ _ h
theorem in_spaceOf {N K : Nat} {A : Nat → Nat → Int32} {x : Int32} (hN : N ≤ 30) (h : ¬ k_spaceOf N K A x = (-1 : Int32)) : vp_in (k_spaceOf N K A x) 30 := in_isSpace hN (spaceOf_S h)
end
section
def k_turningPoint_5 (N K : Nat) (A : Nat → Nat → Int32) (x : Int32) : Nat → Nat → Int32 → Int32
  | 0, i, v3 => (-1 : Int32)
  | k + 1, i, v3 => (if v3 = (-1 : Int32) then (-1 : Int32) else (if v3 = x then v3 else (if (k_isWithin N K A x v3) = (0 : Int32) then k_turningPoint_5 N K A x k (i + 1) (k_holderOf N K A v3) else v3)))
theorem k_turningPoint_5_0 (N K : Nat) (A : Nat → Nat → Int32) (x : Int32) (i : Nat) (v3 : Int32) : k_turningPoint_5 N K A x 0 i v3 = (-1 : Int32) := rfl
theorem k_turningPoint_5_S (N K : Nat) (A : Nat → Nat → Int32) (x : Int32) (k i : Nat) (v3 : Int32) : k_turningPoint_5 N K A x (k + 1) i v3 = (if v3 = (-1 : Int32) then (-1 : Int32) else (if v3 = x then v3 else (if (k_isWithin N K A x v3) = (0 : Int32) then k_turningPoint_5 N K A x k (i + 1) (k_holderOf N K A v3) else v3))) := rfl
set_option maxHeartbeats 4000000 in
set_option maxRecDepth 100000 in
theorem wk_turningPoint_5 (l : Launch) (D : va_G) (a : Nat → Nat) (cI cII : ClassId) (N K : Nat) (A : Nat → Nat → Int32) (hN : N ≤ 30) (hKK : K ≤ 10) (who x : Int32) {p : Program} {e : Env} {s : State} {m : MethodId} {below : List Frame} {meth : Method} {c : Code} (Sx : CallFix p m c b_C_turningPoint 5 s ([.ref (a 0), .int who, .int x] : List Value).toArray BW R_C) (hr : meth.sig.returnType = (some .int)) (hlk : meth.locks = false) (hP : va_P D classes (wC a cI cII (nI N) (nI K) A) s.heap) (hK : va_K D classes (tC cI cII) s) : ∀ (k i : Nat), i + k = 30 → ∀ (v3 : Int32) (ls : Array Slot), lv_has ls 5 [(0, .ref (a 0)), (1, .int who), (2, .int x), (3, .int v3), (4, .int (nI i))] → W p l e ({ frames := 3, cells := 0, slots := 0, locals := 66 } : Room) s m ([.ref (a 0), .int who, .int x] : List Value).toArray below meth c s.heap [] 0 0 (MQ below (vp_Si (fun r => r = k_turningPoint_5 N K A x k i v3)) ([.ref (a 0), .int who, .int x] : List Value).toArray s 0 0 (fun _ => False)) (F0 m 5 ls []) := by
  obtain ⟨hx, hb, hml, hown, hts⟩ := id Sx
  intro k
  induction k with
  | zero =>
    intro i hi v3 ls hl
    refine lv_iload hx hb d_C_turningPoint_5 (lv_at hl 4 rfl) ?_
    refine lv_bipush (v := (30 : Int32)) hx hb d_C_turningPoint_7 (by decide) ?_
    refine lv_icmp_ge (tgt := 45) hx hb d_C_turningPoint_9 (by decide) (fun c_9 => ?_) (fun c_9 => absurd (nI_le (a := 30) (b := i) (by omega) (by omega)) c_9)
    refine lv_iconst (v := (-1 : Int32)) hx hb d_C_turningPoint_45 (by decide) ?_
    exact roRet hx hb hr rfl hlk (show (-1 : Int32) = k_turningPoint_5 N K A x 0 i v3 from by rw [k_turningPoint_5_0]) d_C_turningPoint_46
  | succ k ih =>
    intro i hi v3 ls hl
    refine lv_iload hx hb d_C_turningPoint_5 (lv_at hl 4 rfl) ?_
    refine lv_bipush (v := (30 : Int32)) hx hb d_C_turningPoint_7 (by decide) ?_
    refine lv_icmp_ge (tgt := 45) hx hb d_C_turningPoint_9 (by decide) (fun c_9 => absurd c_9 (nI_ge (a := i) (b := 30) (by omega) (by omega))) (fun c_9 => ?_)
    refine lv_iload_n hx hb d_C_turningPoint_12 rfl (lv_at hl 3 rfl) ?_
    refine lv_iconst (v := (-1 : Int32)) hx hb d_C_turningPoint_13 (by decide) ?_
    refine lv_icmp_eq (tgt := 45) hx hb d_C_turningPoint_14 (by decide) (fun c_14 => ?_) (fun c_14 => ?_)
    · refine lv_iconst (v := (-1 : Int32)) hx hb d_C_turningPoint_45 (by decide) ?_
      exact roRet hx hb hr rfl hlk (show (-1 : Int32) = k_turningPoint_5 N K A x (k + 1) i v3 from by rw [k_turningPoint_5_S, if_pos c_14]) d_C_turningPoint_46
    · refine lv_iload_n hx hb d_C_turningPoint_17 rfl (lv_at hl 3 rfl) ?_
      refine lv_iload_n hx hb d_C_turningPoint_18 rfl (lv_at hl 2 rfl) ?_
      refine lv_icmp_eq (tgt := 31) hx hb d_C_turningPoint_19 (by decide) (fun c_19 => ?_) (fun c_19 => ?_)
      · refine lv_iload_n hx hb d_C_turningPoint_31 rfl (lv_at hl 3 rfl) ?_
        exact roRet hx hb hr rfl hlk (show v3 = k_turningPoint_5 N K A x (k + 1) i v3 from by rw [k_turningPoint_5_S, if_neg c_14, if_pos c_19]) d_C_turningPoint_32
      · refine lv_aload_n hx hb d_C_turningPoint_22 rfl (lv_at hl 0 rfl) ?_
        refine lv_iload_n hx hb d_C_turningPoint_23 rfl (lv_at hl 2 rfl) ?_
        refine lv_iload_n hx hb d_C_turningPoint_24 rfl (lv_at hl 3 rfl) ?_
        refine xro (As := [.int x, .int v3]) (rest := []) Sx (ck_isWithin l D a cI cII N K A hN hKK x v3) v_C_isWithin ⟨rfl, rfl, Nat.le_of_ble_eq_true rfl, Nat.le_of_ble_eq_true rfl⟩ hK hP (ci := 0) (q0 := 0) rfl rfl rfl hl.1 rfl (Nat.le_of_ble_eq_true rfl) d_C_turningPoint_25 ⟨Nat.le_of_ble_eq_true rfl, Nat.le_of_ble_eq_true rfl⟩ (fun r hq => ?_)
        subst hq
        refine lv_if_eq (tgt := 33) hx hb d_C_turningPoint_28 (by decide) (fun c_28 => ?_) (fun c_28 => ?_)
        · refine lv_aload_n hx hb d_C_turningPoint_33 rfl (lv_at hl 0 rfl) ?_
          refine lv_iload_n hx hb d_C_turningPoint_34 rfl (lv_at hl 3 rfl) ?_
          refine xro (As := [.int v3]) (rest := []) Sx (ck_holderOf l D a cI cII N K A hN hKK v3) v_C_holderOf ⟨rfl, rfl, Nat.le_of_ble_eq_true rfl, Nat.le_of_ble_eq_true rfl⟩ hK hP (ci := 0) (q0 := 0) rfl rfl rfl hl.1 rfl (Nat.le_of_ble_eq_true rfl) d_C_turningPoint_35 ⟨Nat.le_of_ble_eq_true rfl, Nat.le_of_ble_eq_true rfl⟩ (fun r hq => ?_)
          subst hq
          refine lv_istore_n (lv' := [(3, .int (k_holderOf N K A v3)), (0, .ref (a 0)), (1, .int who), (2, .int x), (4, .int (nI i))]) hx hb d_C_turningPoint_38 rfl hl (by decide) rfl (fun ls hl => ?_)
          refine lv_iinc (v := nI (i + 1)) (lv' := [(4, .int (nI (i + 1))), (3, .int (k_holderOf N K A v3)), (0, .ref (a 0)), (1, .int who), (2, .int x)]) hx hb d_C_turningPoint_39 hl (k := 4) rfl (nI_1 i) (by decide) rfl (fun ls hl => ?_)
          refine lv_goto (tgt := 5) hx hb d_C_turningPoint_42 (by decide) ?_
          have e_b : k_turningPoint_5 N K A x (k + 1) i v3 = k_turningPoint_5 N K A x k (i + 1) (k_holderOf N K A v3) := by rw [k_turningPoint_5_S, if_neg c_14, if_neg c_19, if_pos c_28]
          rw [e_b]
          exact ih (i + 1) (by omega) (k_holderOf N K A v3) ls (lv_sub hl [2, 3, 4, 1, 0] rfl)
        · refine lv_iload_n hx hb d_C_turningPoint_31 rfl (lv_at hl 3 rfl) ?_
          exact roRet hx hb hr rfl hlk (show v3 = k_turningPoint_5 N K A x (k + 1) i v3 from by rw [k_turningPoint_5_S, if_neg c_14, if_neg c_19, if_neg c_28]) d_C_turningPoint_32
def k_turningPoint (N K : Nat) (A : Nat → Nat → Int32) (who x : Int32) : Int32 := k_turningPoint_5 N K A x 30 0 who
set_option maxHeartbeats 4000000 in
set_option maxRecDepth 100000 in
theorem ck_turningPoint (l : Launch) (D : va_G) (a : Nat → Nat) (cI cII : ClassId) (N K : Nat) (A : Nat → Nat → Int32) (hN : N ≤ 30) (hKK : K ≤ 10) (who x : Int32) : Met l y_C_turningPoint (Cond.code y_C_turningPoint b_C_turningPoint 5 (some .int) :: BW) ({ frames := 3, cells := 0, slots := 0, locals := 66 } : Room) (PcR D (wC a cI cII (nI N) (nI K) A) (tC cI cII) [.ref (a 0), .int who, .int x]) (vp_Si (fun r => r = k_turningPoint N K A who x)) 0 0 (fun _ => False) := by
  refine roStart (by decide) rfl (Nat.le_of_ble_eq_true rfl) (fun p e s m below meth c Sx hr hlk hP hK ls hl => ?_)
  obtain ⟨hx, hb, hml, hown, hts⟩ := id Sx
  have hl : lv_has ls 5 [(0, .ref (a 0)), (1, .int who), (2, .int x)] := hl
  refine lv_iload_n hx hb d_C_turningPoint_0 rfl (lv_at hl 1 rfl) ?_
  refine lv_istore_n (lv' := [(3, .int who), (0, .ref (a 0)), (1, .int who), (2, .int x)]) hx hb d_C_turningPoint_1 rfl hl (by decide) rfl (fun ls hl => ?_)
  refine lv_iconst (v := (0 : Int32)) hx hb d_C_turningPoint_2 (by decide) ?_
  refine lv_istore (lv' := [(4, .int (0 : Int32)), (3, .int who), (0, .ref (a 0)), (1, .int who), (2, .int x)]) hx hb d_C_turningPoint_3 hl (by decide) rfl (fun ls hl => ?_)
  have e_5 : k_turningPoint N K A who x = k_turningPoint_5 N K A x 30 0 who := by rw [k_turningPoint]
  rw [e_5]
  exact wk_turningPoint_5 l D a cI cII N K A hN hKK who x Sx hr hlk hP hK 30 0 (by omega) who ls (lv_sub hl [2, 3, 4, 1, 0] rfl)

def k_firstBarrierOut_5 (N K : Nat) (A : Nat → Nat → Int32) (tp : Int32) : Nat → Nat → Int32 → Int32
  | 0, i, v3 => (-1 : Int32)
  | k + 1, i, v3 => (if v3 = tp then (-1 : Int32) else (if v3 = (-1 : Int32) then (-1 : Int32) else (if (k_isShutBox N K A v3) = (0 : Int32) then k_firstBarrierOut_5 N K A tp k (i + 1) (k_holderOf N K A v3) else v3)))
theorem k_firstBarrierOut_5_0 (N K : Nat) (A : Nat → Nat → Int32) (tp : Int32) (i : Nat) (v3 : Int32) : k_firstBarrierOut_5 N K A tp 0 i v3 = (-1 : Int32) := rfl
theorem k_firstBarrierOut_5_S (N K : Nat) (A : Nat → Nat → Int32) (tp : Int32) (k i : Nat) (v3 : Int32) : k_firstBarrierOut_5 N K A tp (k + 1) i v3 = (if v3 = tp then (-1 : Int32) else (if v3 = (-1 : Int32) then (-1 : Int32) else (if (k_isShutBox N K A v3) = (0 : Int32) then k_firstBarrierOut_5 N K A tp k (i + 1) (k_holderOf N K A v3) else v3))) := rfl
set_option maxHeartbeats 4000000 in
set_option maxRecDepth 100000 in
theorem wk_firstBarrierOut_5 (l : Launch) (D : va_G) (a : Nat → Nat) (cI cII : ClassId) (N K : Nat) (A : Nat → Nat → Int32) (hN : N ≤ 30) (hKK : K ≤ 10) (who tp : Int32) {p : Program} {e : Env} {s : State} {m : MethodId} {below : List Frame} {meth : Method} {c : Code} (Sx : CallFix p m c b_C_firstBarrierOut 5 s ([.ref (a 0), .int who, .int tp] : List Value).toArray BW R_C) (hr : meth.sig.returnType = (some .int)) (hlk : meth.locks = false) (hP : va_P D classes (wC a cI cII (nI N) (nI K) A) s.heap) (hK : va_K D classes (tC cI cII) s) : ∀ (k i : Nat), i + k = 30 → ∀ (v3 : Int32) (ls : Array Slot), lv_has ls 5 [(0, .ref (a 0)), (1, .int who), (2, .int tp), (3, .int v3), (4, .int (nI i))] → W p l e ({ frames := 3, cells := 0, slots := 0, locals := 64 } : Room) s m ([.ref (a 0), .int who, .int tp] : List Value).toArray below meth c s.heap [] 0 0 (MQ below (vp_Si (fun r => r = k_firstBarrierOut_5 N K A tp k i v3)) ([.ref (a 0), .int who, .int tp] : List Value).toArray s 0 0 (fun _ => False)) (F0 m 5 ls []) := by
  obtain ⟨hx, hb, hml, hown, hts⟩ := id Sx
  intro k
  induction k with
  | zero =>
    intro i hi v3 ls hl
    refine lv_iload hx hb d_C_firstBarrierOut_5 (lv_at hl 4 rfl) ?_
    refine lv_bipush (v := (30 : Int32)) hx hb d_C_firstBarrierOut_7 (by decide) ?_
    refine lv_icmp_ge (tgt := 44) hx hb d_C_firstBarrierOut_9 (by decide) (fun c_9 => ?_) (fun c_9 => absurd (nI_le (a := 30) (b := i) (by omega) (by omega)) c_9)
    refine lv_iconst (v := (-1 : Int32)) hx hb d_C_firstBarrierOut_44 (by decide) ?_
    exact roRet hx hb hr rfl hlk (show (-1 : Int32) = k_firstBarrierOut_5 N K A tp 0 i v3 from by rw [k_firstBarrierOut_5_0]) d_C_firstBarrierOut_45
  | succ k ih =>
    intro i hi v3 ls hl
    refine lv_iload hx hb d_C_firstBarrierOut_5 (lv_at hl 4 rfl) ?_
    refine lv_bipush (v := (30 : Int32)) hx hb d_C_firstBarrierOut_7 (by decide) ?_
    refine lv_icmp_ge (tgt := 44) hx hb d_C_firstBarrierOut_9 (by decide) (fun c_9 => absurd c_9 (nI_ge (a := i) (b := 30) (by omega) (by omega))) (fun c_9 => ?_)
    refine lv_iload_n hx hb d_C_firstBarrierOut_12 rfl (lv_at hl 3 rfl) ?_
    refine lv_iload_n hx hb d_C_firstBarrierOut_13 rfl (lv_at hl 2 rfl) ?_
    refine lv_icmp_eq (tgt := 44) hx hb d_C_firstBarrierOut_14 (by decide) (fun c_14 => ?_) (fun c_14 => ?_)
    · refine lv_iconst (v := (-1 : Int32)) hx hb d_C_firstBarrierOut_44 (by decide) ?_
      exact roRet hx hb hr rfl hlk (show (-1 : Int32) = k_firstBarrierOut_5 N K A tp (k + 1) i v3 from by rw [k_firstBarrierOut_5_S, if_pos c_14]) d_C_firstBarrierOut_45
    · refine lv_iload_n hx hb d_C_firstBarrierOut_17 rfl (lv_at hl 3 rfl) ?_
      refine lv_iconst (v := (-1 : Int32)) hx hb d_C_firstBarrierOut_18 (by decide) ?_
      refine lv_icmp_eq (tgt := 44) hx hb d_C_firstBarrierOut_19 (by decide) (fun c_19 => ?_) (fun c_19 => ?_)
      · refine lv_iconst (v := (-1 : Int32)) hx hb d_C_firstBarrierOut_44 (by decide) ?_
        exact roRet hx hb hr rfl hlk (show (-1 : Int32) = k_firstBarrierOut_5 N K A tp (k + 1) i v3 from by rw [k_firstBarrierOut_5_S, if_neg c_14, if_pos c_19]) d_C_firstBarrierOut_45
      · refine lv_aload_n hx hb d_C_firstBarrierOut_22 rfl (lv_at hl 0 rfl) ?_
        refine lv_iload_n hx hb d_C_firstBarrierOut_23 rfl (lv_at hl 3 rfl) ?_
        refine xro (As := [.int v3]) (rest := []) Sx (ck_isShutBox l D a cI cII N K A hN hKK v3) v_C_isShutBox ⟨rfl, rfl, Nat.le_of_ble_eq_true rfl, Nat.le_of_ble_eq_true rfl⟩ hK hP (ci := 0) (q0 := 0) rfl rfl rfl hl.1 rfl (Nat.le_of_ble_eq_true rfl) d_C_firstBarrierOut_24 ⟨Nat.le_of_ble_eq_true rfl, Nat.le_of_ble_eq_true rfl⟩ (fun r hq => ?_)
        subst hq
        refine lv_if_eq (tgt := 32) hx hb d_C_firstBarrierOut_27 (by decide) (fun c_27 => ?_) (fun c_27 => ?_)
        · refine lv_aload_n hx hb d_C_firstBarrierOut_32 rfl (lv_at hl 0 rfl) ?_
          refine lv_iload_n hx hb d_C_firstBarrierOut_33 rfl (lv_at hl 3 rfl) ?_
          refine xro (As := [.int v3]) (rest := []) Sx (ck_holderOf l D a cI cII N K A hN hKK v3) v_C_holderOf ⟨rfl, rfl, Nat.le_of_ble_eq_true rfl, Nat.le_of_ble_eq_true rfl⟩ hK hP (ci := 0) (q0 := 0) rfl rfl rfl hl.1 rfl (Nat.le_of_ble_eq_true rfl) d_C_firstBarrierOut_34 ⟨Nat.le_of_ble_eq_true rfl, Nat.le_of_ble_eq_true rfl⟩ (fun r hq => ?_)
          subst hq
          refine lv_istore_n (lv' := [(3, .int (k_holderOf N K A v3)), (0, .ref (a 0)), (1, .int who), (2, .int tp), (4, .int (nI i))]) hx hb d_C_firstBarrierOut_37 rfl hl (by decide) rfl (fun ls hl => ?_)
          refine lv_iinc (v := nI (i + 1)) (lv' := [(4, .int (nI (i + 1))), (3, .int (k_holderOf N K A v3)), (0, .ref (a 0)), (1, .int who), (2, .int tp)]) hx hb d_C_firstBarrierOut_38 hl (k := 4) rfl (nI_1 i) (by decide) rfl (fun ls hl => ?_)
          refine lv_goto (tgt := 5) hx hb d_C_firstBarrierOut_41 (by decide) ?_
          have e_b : k_firstBarrierOut_5 N K A tp (k + 1) i v3 = k_firstBarrierOut_5 N K A tp k (i + 1) (k_holderOf N K A v3) := by rw [k_firstBarrierOut_5_S, if_neg c_14, if_neg c_19, if_pos c_27]
          rw [e_b]
          exact ih (i + 1) (by omega) (k_holderOf N K A v3) ls (lv_sub hl [2, 3, 4, 1, 0] rfl)
        · refine lv_iload_n hx hb d_C_firstBarrierOut_30 rfl (lv_at hl 3 rfl) ?_
          exact roRet hx hb hr rfl hlk (show v3 = k_firstBarrierOut_5 N K A tp (k + 1) i v3 from by rw [k_firstBarrierOut_5_S, if_neg c_14, if_neg c_19, if_neg c_27]) d_C_firstBarrierOut_31
def k_firstBarrierOut (N K : Nat) (A : Nat → Nat → Int32) (who tp : Int32) : Int32 := k_firstBarrierOut_5 N K A tp 30 0 who
set_option maxHeartbeats 4000000 in
set_option maxRecDepth 100000 in
theorem ck_firstBarrierOut (l : Launch) (D : va_G) (a : Nat → Nat) (cI cII : ClassId) (N K : Nat) (A : Nat → Nat → Int32) (hN : N ≤ 30) (hKK : K ≤ 10) (who tp : Int32) : Met l y_C_firstBarrierOut (Cond.code y_C_firstBarrierOut b_C_firstBarrierOut 5 (some .int) :: BW) ({ frames := 3, cells := 0, slots := 0, locals := 64 } : Room) (PcR D (wC a cI cII (nI N) (nI K) A) (tC cI cII) [.ref (a 0), .int who, .int tp]) (vp_Si (fun r => r = k_firstBarrierOut N K A who tp)) 0 0 (fun _ => False) := by
  refine roStart (by decide) rfl (Nat.le_of_ble_eq_true rfl) (fun p e s m below meth c Sx hr hlk hP hK ls hl => ?_)
  obtain ⟨hx, hb, hml, hown, hts⟩ := id Sx
  have hl : lv_has ls 5 [(0, .ref (a 0)), (1, .int who), (2, .int tp)] := hl
  refine lv_iload_n hx hb d_C_firstBarrierOut_0 rfl (lv_at hl 1 rfl) ?_
  refine lv_istore_n (lv' := [(3, .int who), (0, .ref (a 0)), (1, .int who), (2, .int tp)]) hx hb d_C_firstBarrierOut_1 rfl hl (by decide) rfl (fun ls hl => ?_)
  refine lv_iconst (v := (0 : Int32)) hx hb d_C_firstBarrierOut_2 (by decide) ?_
  refine lv_istore (lv' := [(4, .int (0 : Int32)), (3, .int who), (0, .ref (a 0)), (1, .int who), (2, .int tp)]) hx hb d_C_firstBarrierOut_3 hl (by decide) rfl (fun ls hl => ?_)
  have e_5 : k_firstBarrierOut N K A who tp = k_firstBarrierOut_5 N K A tp 30 0 who := by rw [k_firstBarrierOut]
  rw [e_5]
  exact wk_firstBarrierOut_5 l D a cI cII N K A hN hKK who tp Sx hr hlk hP hK 30 0 (by omega) who ls (lv_sub hl [2, 3, 4, 1, 0] rfl)

def k_firstBarrierIn_19 (N K : Nat) (A : Nat → Nat → Int32) (tp : Int32) : Nat → Nat → Int32 → Int32 → Int32
  | 0, i, v3, v4 => v3
  | k + 1, i, v3, v4 => (if v4 = tp then v3 else (if v4 = (-1 : Int32) then v3 else (if (k_isShutBox N K A v4) = (0 : Int32) then (if (k_isPerson N K A v4) = (0 : Int32) then k_firstBarrierIn_19 N K A tp k (i + 1) v3 (k_holderOf N K A v4) else k_firstBarrierIn_19 N K A tp k (i + 1) v4 (k_holderOf N K A v4)) else k_firstBarrierIn_19 N K A tp k (i + 1) v4 (k_holderOf N K A v4))))
theorem k_firstBarrierIn_19_0 (N K : Nat) (A : Nat → Nat → Int32) (tp : Int32) (i : Nat) (v3 v4 : Int32) : k_firstBarrierIn_19 N K A tp 0 i v3 v4 = v3 := rfl
theorem k_firstBarrierIn_19_S (N K : Nat) (A : Nat → Nat → Int32) (tp : Int32) (k i : Nat) (v3 v4 : Int32) : k_firstBarrierIn_19 N K A tp (k + 1) i v3 v4 = (if v4 = tp then v3 else (if v4 = (-1 : Int32) then v3 else (if (k_isShutBox N K A v4) = (0 : Int32) then (if (k_isPerson N K A v4) = (0 : Int32) then k_firstBarrierIn_19 N K A tp k (i + 1) v3 (k_holderOf N K A v4) else k_firstBarrierIn_19 N K A tp k (i + 1) v4 (k_holderOf N K A v4)) else k_firstBarrierIn_19 N K A tp k (i + 1) v4 (k_holderOf N K A v4)))) := rfl
set_option maxHeartbeats 4000000 in
set_option maxRecDepth 100000 in
theorem wk_firstBarrierIn_19 (l : Launch) (D : va_G) (a : Nat → Nat) (cI cII : ClassId) (N K : Nat) (A : Nat → Nat → Int32) (hN : N ≤ 30) (hKK : K ≤ 10) (tp x : Int32) {p : Program} {e : Env} {s : State} {m : MethodId} {below : List Frame} {meth : Method} {c : Code} (Sx : CallFix p m c b_C_firstBarrierIn 6 s ([.ref (a 0), .int tp, .int x] : List Value).toArray BW R_C) (hr : meth.sig.returnType = (some .int)) (hlk : meth.locks = false) (hP : va_P D classes (wC a cI cII (nI N) (nI K) A) s.heap) (hK : va_K D classes (tC cI cII) s) : ∀ (k i : Nat), i + k = 30 → ∀ (v3 v4 : Int32) (ls : Array Slot), lv_has ls 6 [(0, .ref (a 0)), (1, .int tp), (2, .int x), (3, .int v3), (4, .int v4), (5, .int (nI i))] → W p l e ({ frames := 3, cells := 0, slots := 0, locals := 64 } : Room) s m ([.ref (a 0), .int tp, .int x] : List Value).toArray below meth c s.heap [] 0 0 (MQ below (vp_Si (fun r => r = k_firstBarrierIn_19 N K A tp k i v3 v4)) ([.ref (a 0), .int tp, .int x] : List Value).toArray s 0 0 (fun _ => False)) (F0 m 19 ls []) := by
  obtain ⟨hx, hb, hml, hown, hts⟩ := id Sx
  intro k
  induction k with
  | zero =>
    intro i hi v3 v4 ls hl
    refine lv_iload hx hb d_C_firstBarrierIn_19 (lv_at hl 5 rfl) ?_
    refine lv_bipush (v := (30 : Int32)) hx hb d_C_firstBarrierIn_21 (by decide) ?_
    refine lv_icmp_ge (tgt := 73) hx hb d_C_firstBarrierIn_23 (by decide) (fun c_23 => ?_) (fun c_23 => absurd (nI_le (a := 30) (b := i) (by omega) (by omega)) c_23)
    refine lv_iload_n hx hb d_C_firstBarrierIn_73 rfl (lv_at hl 3 rfl) ?_
    exact roRet hx hb hr rfl hlk (show v3 = k_firstBarrierIn_19 N K A tp 0 i v3 v4 from by rw [k_firstBarrierIn_19_0]) d_C_firstBarrierIn_74
  | succ k ih =>
    intro i hi v3 v4 ls hl
    refine lv_iload hx hb d_C_firstBarrierIn_19 (lv_at hl 5 rfl) ?_
    refine lv_bipush (v := (30 : Int32)) hx hb d_C_firstBarrierIn_21 (by decide) ?_
    refine lv_icmp_ge (tgt := 73) hx hb d_C_firstBarrierIn_23 (by decide) (fun c_23 => absurd c_23 (nI_ge (a := i) (b := 30) (by omega) (by omega))) (fun c_23 => ?_)
    refine lv_iload hx hb d_C_firstBarrierIn_26 (lv_at hl 4 rfl) ?_
    refine lv_iload_n hx hb d_C_firstBarrierIn_28 rfl (lv_at hl 1 rfl) ?_
    refine lv_icmp_eq (tgt := 73) hx hb d_C_firstBarrierIn_29 (by decide) (fun c_29 => ?_) (fun c_29 => ?_)
    · refine lv_iload_n hx hb d_C_firstBarrierIn_73 rfl (lv_at hl 3 rfl) ?_
      exact roRet hx hb hr rfl hlk (show v3 = k_firstBarrierIn_19 N K A tp (k + 1) i v3 v4 from by rw [k_firstBarrierIn_19_S, if_pos c_29]) d_C_firstBarrierIn_74
    · refine lv_iload hx hb d_C_firstBarrierIn_32 (lv_at hl 4 rfl) ?_
      refine lv_iconst (v := (-1 : Int32)) hx hb d_C_firstBarrierIn_34 (by decide) ?_
      refine lv_icmp_eq (tgt := 73) hx hb d_C_firstBarrierIn_35 (by decide) (fun c_35 => ?_) (fun c_35 => ?_)
      · refine lv_iload_n hx hb d_C_firstBarrierIn_73 rfl (lv_at hl 3 rfl) ?_
        exact roRet hx hb hr rfl hlk (show v3 = k_firstBarrierIn_19 N K A tp (k + 1) i v3 v4 from by rw [k_firstBarrierIn_19_S, if_neg c_29, if_pos c_35]) d_C_firstBarrierIn_74
      · refine lv_aload_n hx hb d_C_firstBarrierIn_38 rfl (lv_at hl 0 rfl) ?_
        refine lv_iload hx hb d_C_firstBarrierIn_39 (lv_at hl 4 rfl) ?_
        refine xro (As := [.int v4]) (rest := []) Sx (ck_isShutBox l D a cI cII N K A hN hKK v4) v_C_isShutBox ⟨rfl, rfl, Nat.le_of_ble_eq_true rfl, Nat.le_of_ble_eq_true rfl⟩ hK hP (ci := 0) (q0 := 0) rfl rfl rfl hl.1 rfl (Nat.le_of_ble_eq_true rfl) d_C_firstBarrierIn_41 ⟨Nat.le_of_ble_eq_true rfl, Nat.le_of_ble_eq_true rfl⟩ (fun r hq => ?_)
        subst hq
        refine lv_if_ne (tgt := 56) hx hb d_C_firstBarrierIn_44 (by decide) (fun c_44 => ?_) (fun c_44 => ?_)
        · refine lv_iload hx hb d_C_firstBarrierIn_56 (lv_at hl 4 rfl) ?_
          refine lv_istore_n (lv' := [(3, .int v4), (0, .ref (a 0)), (1, .int tp), (2, .int x), (4, .int v4), (5, .int (nI i))]) hx hb d_C_firstBarrierIn_58 rfl hl (by decide) rfl (fun ls hl => ?_)
          refine lv_aload_n hx hb d_C_firstBarrierIn_59 rfl (lv_at hl 1 rfl) ?_
          refine lv_iload hx hb d_C_firstBarrierIn_60 (lv_at hl 4 rfl) ?_
          refine xro (As := [.int v4]) (rest := []) Sx (ck_holderOf l D a cI cII N K A hN hKK v4) v_C_holderOf ⟨rfl, rfl, Nat.le_of_ble_eq_true rfl, Nat.le_of_ble_eq_true rfl⟩ hK hP (ci := 0) (q0 := 0) rfl rfl rfl hl.1 rfl (Nat.le_of_ble_eq_true rfl) d_C_firstBarrierIn_62 ⟨Nat.le_of_ble_eq_true rfl, Nat.le_of_ble_eq_true rfl⟩ (fun r hq => ?_)
          subst hq
          refine lv_istore (lv' := [(4, .int (k_holderOf N K A v4)), (3, .int v4), (0, .ref (a 0)), (1, .int tp), (2, .int x), (5, .int (nI i))]) hx hb d_C_firstBarrierIn_65 hl (by decide) rfl (fun ls hl => ?_)
          refine lv_iinc (v := nI (i + 1)) (lv' := [(5, .int (nI (i + 1))), (4, .int (k_holderOf N K A v4)), (3, .int v4), (0, .ref (a 0)), (1, .int tp), (2, .int x)]) hx hb d_C_firstBarrierIn_67 hl (k := 5) rfl (nI_1 i) (by decide) rfl (fun ls hl => ?_)
          refine lv_goto (tgt := 19) hx hb d_C_firstBarrierIn_70 (by decide) ?_
          have e_b : k_firstBarrierIn_19 N K A tp (k + 1) i v3 v4 = k_firstBarrierIn_19 N K A tp k (i + 1) v4 (k_holderOf N K A v4) := by rw [k_firstBarrierIn_19_S, if_neg c_29, if_neg c_35, if_neg c_44]
          rw [e_b]
          exact ih (i + 1) (by omega) v4 (k_holderOf N K A v4) ls (lv_sub hl [3, 4, 5, 2, 1, 0] rfl)
        · refine lv_aload_n hx hb d_C_firstBarrierIn_47 rfl (lv_at hl 0 rfl) ?_
          refine lv_iload hx hb d_C_firstBarrierIn_48 (lv_at hl 4 rfl) ?_
          refine xro (As := [.int v4]) (rest := []) Sx (ck_isPerson l D a cI cII N K A hN hKK v4) v_C_isPerson ⟨rfl, rfl, Nat.le_of_ble_eq_true rfl, Nat.le_of_ble_eq_true rfl⟩ hK hP (ci := 0) (q0 := 0) rfl rfl rfl hl.1 rfl (Nat.le_of_ble_eq_true rfl) d_C_firstBarrierIn_50 ⟨Nat.le_of_ble_eq_true rfl, Nat.le_of_ble_eq_true rfl⟩ (fun r hq => ?_)
          subst hq
          refine lv_if_eq (tgt := 59) hx hb d_C_firstBarrierIn_53 (by decide) (fun c_53 => ?_) (fun c_53 => ?_)
          · refine lv_aload_n hx hb d_C_firstBarrierIn_59 rfl (lv_at hl 0 rfl) ?_
            refine lv_iload hx hb d_C_firstBarrierIn_60 (lv_at hl 4 rfl) ?_
            refine xro (As := [.int v4]) (rest := []) Sx (ck_holderOf l D a cI cII N K A hN hKK v4) v_C_holderOf ⟨rfl, rfl, Nat.le_of_ble_eq_true rfl, Nat.le_of_ble_eq_true rfl⟩ hK hP (ci := 0) (q0 := 0) rfl rfl rfl hl.1 rfl (Nat.le_of_ble_eq_true rfl) d_C_firstBarrierIn_62 ⟨Nat.le_of_ble_eq_true rfl, Nat.le_of_ble_eq_true rfl⟩ (fun r hq => ?_)
            subst hq
            refine lv_istore (lv' := [(4, .int (k_holderOf N K A v4)), (0, .ref (a 0)), (1, .int tp), (2, .int x), (3, .int v3), (5, .int (nI i))]) hx hb d_C_firstBarrierIn_65 hl (by decide) rfl (fun ls hl => ?_)
            refine lv_iinc (v := nI (i + 1)) (lv' := [(5, .int (nI (i + 1))), (4, .int (k_holderOf N K A v4)), (0, .ref (a 0)), (1, .int tp), (2, .int x), (3, .int v3)]) hx hb d_C_firstBarrierIn_67 hl (k := 5) rfl (nI_1 i) (by decide) rfl (fun ls hl => ?_)
            refine lv_goto (tgt := 19) hx hb d_C_firstBarrierIn_70 (by decide) ?_
            have e_b : k_firstBarrierIn_19 N K A tp (k + 1) i v3 v4 = k_firstBarrierIn_19 N K A tp k (i + 1) v3 (k_holderOf N K A v4) := by rw [k_firstBarrierIn_19_S, if_neg c_29, if_neg c_35, if_pos c_44, if_pos c_53]
            rw [e_b]
            exact ih (i + 1) (by omega) v3 (k_holderOf N K A v4) ls (lv_sub hl [2, 3, 4, 5, 1, 0] rfl)
          · refine lv_iload hx hb d_C_firstBarrierIn_56 (lv_at hl 4 rfl) ?_
            refine lv_istore_n (lv' := [(3, .int v4), (0, .ref (a 0)), (1, .int tp), (2, .int x), (4, .int v4), (5, .int (nI i))]) hx hb d_C_firstBarrierIn_58 rfl hl (by decide) rfl (fun ls hl => ?_)
            refine lv_aload_n hx hb d_C_firstBarrierIn_59 rfl (lv_at hl 1 rfl) ?_
            refine lv_iload hx hb d_C_firstBarrierIn_60 (lv_at hl 4 rfl) ?_
            refine xro (As := [.int v4]) (rest := []) Sx (ck_holderOf l D a cI cII N K A hN hKK v4) v_C_holderOf ⟨rfl, rfl, Nat.le_of_ble_eq_true rfl, Nat.le_of_ble_eq_true rfl⟩ hK hP (ci := 0) (q0 := 0) rfl rfl rfl hl.1 rfl (Nat.le_of_ble_eq_true rfl) d_C_firstBarrierIn_62 ⟨Nat.le_of_ble_eq_true rfl, Nat.le_of_ble_eq_true rfl⟩ (fun r hq => ?_)
            subst hq
            refine lv_istore (lv' := [(4, .int (k_holderOf N K A v4)), (3, .int v4), (0, .ref (a 0)), (1, .int tp), (2, .int x), (5, .int (nI i))]) hx hb d_C_firstBarrierIn_65 hl (by decide) rfl (fun ls hl => ?_)
            refine lv_iinc (v := nI (i + 1)) (lv' := [(5, .int (nI (i + 1))), (4, .int (k_holderOf N K A v4)), (3, .int v4), (0, .ref (a 0)), (1, .int tp), (2, .int x)]) hx hb d_C_firstBarrierIn_67 hl (k := 5) rfl (nI_1 i) (by decide) rfl (fun ls hl => ?_)
            refine lv_goto (tgt := 19) hx hb d_C_firstBarrierIn_70 (by decide) ?_
            have e_b : k_firstBarrierIn_19 N K A tp (k + 1) i v3 v4 = k_firstBarrierIn_19 N K A tp k (i + 1) v4 (k_holderOf N K A v4) := by rw [k_firstBarrierIn_19_S, if_neg c_29, if_neg c_35, if_pos c_44, if_neg c_53]
            rw [e_b]
            exact ih (i + 1) (by omega) v4 (k_holderOf N K A v4) ls (lv_sub hl [3, 4, 5, 2, 1, 0] rfl)
def k_firstBarrierIn (N K : Nat) (A : Nat → Nat → Int32) (tp x : Int32) : Int32 := (if tp = x then (-1 : Int32) else k_firstBarrierIn_19 N K A tp 30 0 (-1 : Int32) (k_holderOf N K A x))
set_option maxHeartbeats 4000000 in
set_option maxRecDepth 100000 in
theorem ck_firstBarrierIn (l : Launch) (D : va_G) (a : Nat → Nat) (cI cII : ClassId) (N K : Nat) (A : Nat → Nat → Int32) (hN : N ≤ 30) (hKK : K ≤ 10) (tp x : Int32) : Met l y_C_firstBarrierIn (Cond.code y_C_firstBarrierIn b_C_firstBarrierIn 6 (some .int) :: BW) ({ frames := 3, cells := 0, slots := 0, locals := 64 } : Room) (PcR D (wC a cI cII (nI N) (nI K) A) (tC cI cII) [.ref (a 0), .int tp, .int x]) (vp_Si (fun r => r = k_firstBarrierIn N K A tp x)) 0 0 (fun _ => False) := by
  refine roStart (by decide) rfl (Nat.le_of_ble_eq_true rfl) (fun p e s m below meth c Sx hr hlk hP hK ls hl => ?_)
  obtain ⟨hx, hb, hml, hown, hts⟩ := id Sx
  have hl : lv_has ls 6 [(0, .ref (a 0)), (1, .int tp), (2, .int x)] := hl
  refine lv_iload_n hx hb d_C_firstBarrierIn_0 rfl (lv_at hl 1 rfl) ?_
  refine lv_iload_n hx hb d_C_firstBarrierIn_1 rfl (lv_at hl 2 rfl) ?_
  refine lv_icmp_ne (tgt := 7) hx hb d_C_firstBarrierIn_2 (by decide) (fun c_2 => ?_) (fun c_2 => ?_)
  · refine lv_iconst (v := (-1 : Int32)) hx hb d_C_firstBarrierIn_7 (by decide) ?_
    refine lv_istore_n (lv' := [(3, .int (-1 : Int32)), (0, .ref (a 0)), (1, .int tp), (2, .int x)]) hx hb d_C_firstBarrierIn_8 rfl hl (by decide) rfl (fun ls hl => ?_)
    refine lv_aload_n hx hb d_C_firstBarrierIn_9 rfl (lv_at hl 1 rfl) ?_
    refine lv_iload_n hx hb d_C_firstBarrierIn_10 rfl (lv_at hl 3 rfl) ?_
    refine xro (As := [.int x]) (rest := []) Sx (ck_holderOf l D a cI cII N K A hN hKK x) v_C_holderOf ⟨rfl, rfl, Nat.le_of_ble_eq_true rfl, Nat.le_of_ble_eq_true rfl⟩ hK hP (ci := 0) (q0 := 0) rfl rfl rfl hl.1 rfl (Nat.le_of_ble_eq_true rfl) d_C_firstBarrierIn_11 ⟨Nat.le_of_ble_eq_true rfl, Nat.le_of_ble_eq_true rfl⟩ (fun r hq => ?_)
    subst hq
    refine lv_istore (lv' := [(4, .int (k_holderOf N K A x)), (3, .int (-1 : Int32)), (0, .ref (a 0)), (1, .int tp), (2, .int x)]) hx hb d_C_firstBarrierIn_14 hl (by decide) rfl (fun ls hl => ?_)
    refine lv_iconst (v := (0 : Int32)) hx hb d_C_firstBarrierIn_16 (by decide) ?_
    refine lv_istore (lv' := [(5, .int (0 : Int32)), (4, .int (k_holderOf N K A x)), (3, .int (-1 : Int32)), (0, .ref (a 0)), (1, .int tp), (2, .int x)]) hx hb d_C_firstBarrierIn_17 hl (by decide) rfl (fun ls hl => ?_)
    have e_19 : k_firstBarrierIn N K A tp x = k_firstBarrierIn_19 N K A tp 30 0 (-1 : Int32) (k_holderOf N K A x) := by rw [k_firstBarrierIn, if_neg c_2]
    rw [e_19]
    exact wk_firstBarrierIn_19 l D a cI cII N K A hN hKK tp x Sx hr hlk hP hK 30 0 (by omega) (-1 : Int32) (k_holderOf N K A x) ls (lv_sub hl [3, 4, 5, 2, 1, 0] rfl)
  · refine lv_iconst (v := (-1 : Int32)) hx hb d_C_firstBarrierIn_5 (by decide) ?_
    exact roRet hx hb hr rfl hlk (show (-1 : Int32) = k_firstBarrierIn N K A tp x from by rw [k_firstBarrierIn, if_pos c_2]) d_C_firstBarrierIn_6

def k_firstBarrier (N K : Nat) (A : Nat → Nat → Int32) (who x : Int32) : Int32 := (if (k_turningPoint N K A who x) = (-1 : Int32) then (-5 : Int32) else (if (k_firstBarrierOut N K A who (k_turningPoint N K A who x)) = (-1 : Int32) then k_firstBarrierIn N K A (k_turningPoint N K A who x) x else k_firstBarrierOut N K A who (k_turningPoint N K A who x)))
set_option maxHeartbeats 4000000 in
set_option maxRecDepth 100000 in
theorem ck_firstBarrier (l : Launch) (D : va_G) (a : Nat → Nat) (cI cII : ClassId) (N K : Nat) (A : Nat → Nat → Int32) (hN : N ≤ 30) (hKK : K ≤ 10) (who x : Int32) : Met l y_C_firstBarrier (Cond.code y_C_firstBarrier b_C_firstBarrier 5 (some .int) :: BW) ({ frames := 4, cells := 0, slots := 0, locals := 90 } : Room) (PcR D (wC a cI cII (nI N) (nI K) A) (tC cI cII) [.ref (a 0), .int who, .int x]) (vp_Si (fun r => r = k_firstBarrier N K A who x)) 0 0 (fun _ => False) := by
  refine roStart (by decide) rfl (Nat.le_of_ble_eq_true rfl) (fun p e s m below meth c Sx hr hlk hP hK ls hl => ?_)
  obtain ⟨hx, hb, hml, hown, hts⟩ := id Sx
  have hl : lv_has ls 5 [(0, .ref (a 0)), (1, .int who), (2, .int x)] := hl
  refine lv_aload_n hx hb d_C_firstBarrier_0 rfl (lv_at hl 0 rfl) ?_
  refine lv_iload_n hx hb d_C_firstBarrier_1 rfl (lv_at hl 1 rfl) ?_
  refine lv_iload_n hx hb d_C_firstBarrier_2 rfl (lv_at hl 2 rfl) ?_
  refine xro (As := [.int who, .int x]) (rest := []) Sx (ck_turningPoint l D a cI cII N K A hN hKK who x) v_C_turningPoint ⟨rfl, rfl, Nat.le_of_ble_eq_true rfl, Nat.le_of_ble_eq_true rfl⟩ hK hP (ci := 0) (q0 := 0) rfl rfl rfl hl.1 rfl (Nat.le_of_ble_eq_true rfl) d_C_firstBarrier_3 ⟨Nat.le_of_ble_eq_true rfl, Nat.le_of_ble_eq_true rfl⟩ (fun r hq => ?_)
  subst hq
  refine lv_istore_n (lv' := [(3, .int (k_turningPoint N K A who x)), (0, .ref (a 0)), (1, .int who), (2, .int x)]) hx hb d_C_firstBarrier_6 rfl hl (by decide) rfl (fun ls hl => ?_)
  refine lv_iload_n hx hb d_C_firstBarrier_7 rfl (lv_at hl 0 rfl) ?_
  refine lv_iconst (v := (-1 : Int32)) hx hb d_C_firstBarrier_8 (by decide) ?_
  refine lv_icmp_ne (tgt := 15) hx hb d_C_firstBarrier_9 (by decide) (fun c_9 => ?_) (fun c_9 => ?_)
  · refine lv_aload_n hx hb d_C_firstBarrier_15 rfl (lv_at hl 1 rfl) ?_
    refine lv_iload_n hx hb d_C_firstBarrier_16 rfl (lv_at hl 2 rfl) ?_
    refine lv_iload_n hx hb d_C_firstBarrier_17 rfl (lv_at hl 0 rfl) ?_
    refine xro (As := [.int who, .int (k_turningPoint N K A who x)]) (rest := []) Sx (ck_firstBarrierOut l D a cI cII N K A hN hKK who (k_turningPoint N K A who x)) v_C_firstBarrierOut ⟨rfl, rfl, Nat.le_of_ble_eq_true rfl, Nat.le_of_ble_eq_true rfl⟩ hK hP (ci := 0) (q0 := 0) rfl rfl rfl hl.1 rfl (Nat.le_of_ble_eq_true rfl) d_C_firstBarrier_18 ⟨Nat.le_of_ble_eq_true rfl, Nat.le_of_ble_eq_true rfl⟩ (fun r hq => ?_)
    subst hq
    refine lv_istore (lv' := [(4, .int (k_firstBarrierOut N K A who (k_turningPoint N K A who x))), (3, .int (k_turningPoint N K A who x)), (0, .ref (a 0)), (1, .int who), (2, .int x)]) hx hb d_C_firstBarrier_21 hl (by decide) rfl (fun ls hl => ?_)
    refine lv_iload hx hb d_C_firstBarrier_23 (lv_at hl 0 rfl) ?_
    refine lv_iconst (v := (-1 : Int32)) hx hb d_C_firstBarrier_25 (by decide) ?_
    refine lv_icmp_eq (tgt := 34) hx hb d_C_firstBarrier_26 (by decide) (fun c_26 => ?_) (fun c_26 => ?_)
    · refine lv_aload_n hx hb d_C_firstBarrier_34 rfl (lv_at hl 2 rfl) ?_
      refine lv_iload_n hx hb d_C_firstBarrier_35 rfl (lv_at hl 1 rfl) ?_
      refine lv_iload_n hx hb d_C_firstBarrier_36 rfl (lv_at hl 4 rfl) ?_
      refine xro (As := [.int (k_turningPoint N K A who x), .int x]) (rest := []) Sx (ck_firstBarrierIn l D a cI cII N K A hN hKK (k_turningPoint N K A who x) x) v_C_firstBarrierIn ⟨rfl, rfl, Nat.le_of_ble_eq_true rfl, Nat.le_of_ble_eq_true rfl⟩ hK hP (ci := 0) (q0 := 0) rfl rfl rfl hl.1 rfl (Nat.le_of_ble_eq_true rfl) d_C_firstBarrier_37 ⟨Nat.le_of_ble_eq_true rfl, Nat.le_of_ble_eq_true rfl⟩ (fun r hq => ?_)
      subst hq
      exact roRet hx hb hr rfl hlk (show k_firstBarrierIn N K A (k_turningPoint N K A who x) x = k_firstBarrier N K A who x from by rw [k_firstBarrier, if_neg c_9, if_pos c_26]) d_C_firstBarrier_40
    · refine lv_iload hx hb d_C_firstBarrier_29 (lv_at hl 0 rfl) ?_
      refine lv_goto (tgt := 40) hx hb d_C_firstBarrier_31 (by decide) ?_
      exact roRet hx hb hr rfl hlk (show k_firstBarrierOut N K A who (k_turningPoint N K A who x) = k_firstBarrier N K A who x from by rw [k_firstBarrier, if_neg c_9, if_neg c_26]) d_C_firstBarrier_40
  · refine lv_bipush (v := (-5 : Int32)) hx hb d_C_firstBarrier_12 (by decide) ?_
    exact roRet hx hb hr rfl hlk (show (-5 : Int32) = k_firstBarrier N K A who x from by rw [k_firstBarrier, if_pos c_9]) d_C_firstBarrier_14

def k_wallLoss (N K : Nat) (A : Nat → Nat → Int32) (x mk : Int32) : Int32 := (if (k_sortOf N K A x) = (1 : Int32) then (if (k_markOf N K A x (0 : Int32)) = (1 : Int32) then (0 : Int32) else (if mk = (3 : Int32) then (2 : Int32) else (if (k_markOf N K A x (1 : Int32)) = (1 : Int32) then (1 : Int32) else (-1 : Int32)))) else (-1 : Int32))
set_option maxHeartbeats 4000000 in
set_option maxRecDepth 100000 in
theorem ck_wallLoss (l : Launch) (D : va_G) (a : Nat → Nat) (cI cII : ClassId) (N K : Nat) (A : Nat → Nat → Int32) (hN : N ≤ 30) (hKK : K ≤ 10) (x mk : Int32) : Met l y_C_wallLoss (Cond.code y_C_wallLoss b_C_wallLoss 3 (some .int) :: BW) ({ frames := 2, cells := 0, slots := 0, locals := 43 } : Room) (PcR D (wC a cI cII (nI N) (nI K) A) (tC cI cII) [.ref (a 0), .int x, .int mk]) (vp_Si (fun r => r = k_wallLoss N K A x mk)) 0 0 (fun _ => False) := by
  refine roStart (by decide) rfl (Nat.le_of_ble_eq_true rfl) (fun p e s m below meth c Sx hr hlk hP hK ls hl => ?_)
  obtain ⟨hx, hb, hml, hown, hts⟩ := id Sx
  have hl : lv_has ls 3 [(0, .ref (a 0)), (1, .int x), (2, .int mk)] := hl
  refine lv_aload_n hx hb d_C_wallLoss_0 rfl (lv_at hl 0 rfl) ?_
  refine lv_iload_n hx hb d_C_wallLoss_1 rfl (lv_at hl 1 rfl) ?_
  refine xro (As := [.int x]) (rest := []) Sx (ck_sortOf l D a cI cII N K A hN hKK x) v_C_sortOf ⟨rfl, rfl, Nat.le_of_ble_eq_true rfl, Nat.le_of_ble_eq_true rfl⟩ hK hP (ci := 0) (q0 := 0) rfl rfl rfl hl.1 rfl (Nat.le_of_ble_eq_true rfl) d_C_wallLoss_2 ⟨Nat.le_of_ble_eq_true rfl, Nat.le_of_ble_eq_true rfl⟩ (fun r hq => ?_)
  subst hq
  refine lv_iconst (v := (1 : Int32)) hx hb d_C_wallLoss_5 (by decide) ?_
  refine lv_icmp_eq (tgt := 11) hx hb d_C_wallLoss_6 (by decide) (fun c_6 => ?_) (fun c_6 => ?_)
  · refine lv_aload_n hx hb d_C_wallLoss_11 rfl (lv_at hl 0 rfl) ?_
    refine lv_iload_n hx hb d_C_wallLoss_12 rfl (lv_at hl 1 rfl) ?_
    refine lv_iconst (v := (0 : Int32)) hx hb d_C_wallLoss_13 (by decide) ?_
    refine xro (As := [.int x, .int (0 : Int32)]) (rest := []) Sx (ck_markOf l D a cI cII N K A hN hKK x (0 : Int32)) v_C_markOf ⟨rfl, rfl, Nat.le_of_ble_eq_true rfl, Nat.le_of_ble_eq_true rfl⟩ hK hP (ci := 0) (q0 := 0) rfl rfl rfl hl.1 rfl (Nat.le_of_ble_eq_true rfl) d_C_wallLoss_14 ⟨Nat.le_of_ble_eq_true rfl, Nat.le_of_ble_eq_true rfl⟩ (fun r hq => ?_)
    subst hq
    refine lv_iconst (v := (1 : Int32)) hx hb d_C_wallLoss_17 (by decide) ?_
    refine lv_icmp_ne (tgt := 23) hx hb d_C_wallLoss_18 (by decide) (fun c_18 => ?_) (fun c_18 => ?_)
    · refine lv_iload_n hx hb d_C_wallLoss_23 rfl (lv_at hl 2 rfl) ?_
      refine lv_iconst (v := (3 : Int32)) hx hb d_C_wallLoss_24 (by decide) ?_
      refine lv_icmp_ne (tgt := 30) hx hb d_C_wallLoss_25 (by decide) (fun c_25 => ?_) (fun c_25 => ?_)
      · refine lv_aload_n hx hb d_C_wallLoss_30 rfl (lv_at hl 0 rfl) ?_
        refine lv_iload_n hx hb d_C_wallLoss_31 rfl (lv_at hl 1 rfl) ?_
        refine lv_iconst (v := (1 : Int32)) hx hb d_C_wallLoss_32 (by decide) ?_
        refine xro (As := [.int x, .int (1 : Int32)]) (rest := []) Sx (ck_markOf l D a cI cII N K A hN hKK x (1 : Int32)) v_C_markOf ⟨rfl, rfl, Nat.le_of_ble_eq_true rfl, Nat.le_of_ble_eq_true rfl⟩ hK hP (ci := 0) (q0 := 0) rfl rfl rfl hl.1 rfl (Nat.le_of_ble_eq_true rfl) d_C_wallLoss_33 ⟨Nat.le_of_ble_eq_true rfl, Nat.le_of_ble_eq_true rfl⟩ (fun r hq => ?_)
        subst hq
        refine lv_iconst (v := (1 : Int32)) hx hb d_C_wallLoss_36 (by decide) ?_
        refine lv_icmp_ne (tgt := 44) hx hb d_C_wallLoss_37 (by decide) (fun c_37 => ?_) (fun c_37 => ?_)
        · refine lv_iconst (v := (-1 : Int32)) hx hb d_C_wallLoss_44 (by decide) ?_
          exact roRet hx hb hr rfl hlk (show (-1 : Int32) = k_wallLoss N K A x mk from by rw [k_wallLoss, if_pos c_6, if_neg c_18, if_neg c_25, if_neg c_37]) d_C_wallLoss_45
        · refine lv_iconst (v := (1 : Int32)) hx hb d_C_wallLoss_40 (by decide) ?_
          refine lv_goto (tgt := 45) hx hb d_C_wallLoss_41 (by decide) ?_
          exact roRet hx hb hr rfl hlk (show (1 : Int32) = k_wallLoss N K A x mk from by rw [k_wallLoss, if_pos c_6, if_neg c_18, if_neg c_25, if_pos c_37]) d_C_wallLoss_45
      · refine lv_iconst (v := (2 : Int32)) hx hb d_C_wallLoss_28 (by decide) ?_
        exact roRet hx hb hr rfl hlk (show (2 : Int32) = k_wallLoss N K A x mk from by rw [k_wallLoss, if_pos c_6, if_neg c_18, if_pos c_25]) d_C_wallLoss_29
    · refine lv_iconst (v := (0 : Int32)) hx hb d_C_wallLoss_21 (by decide) ?_
      exact roRet hx hb hr rfl hlk (show (0 : Int32) = k_wallLoss N K A x mk from by rw [k_wallLoss, if_pos c_6, if_pos c_18]) d_C_wallLoss_22
  · refine lv_iconst (v := (-1 : Int32)) hx hb d_C_wallLoss_9 (by decide) ?_
    exact roRet hx hb hr rfl hlk (show (-1 : Int32) = k_wallLoss N K A x mk from by rw [k_wallLoss, if_neg c_6]) d_C_wallLoss_10

def k_doorLoss (N K : Nat) (A : Nat → Nat → Int32) (dr mk : Int32) : Int32 := (if (k_isDoor N K A dr) = (0 : Int32) then (-1 : Int32) else (if (A (8 + (0 : Int32).toNatClampNeg) dr.toNatClampNeg) = (1 : Int32) then (if mk = (3 : Int32) then (1 : Int32) else (2 : Int32)) else (if mk = (3 : Int32) then (3 : Int32) else (if (A (8 + (1 : Int32).toNatClampNeg) dr.toNatClampNeg) = (1 : Int32) then (3 : Int32) else (-1 : Int32)))))
set_option maxHeartbeats 4000000 in
set_option maxRecDepth 100000 in
theorem ck_doorLoss (l : Launch) (D : va_G) (a : Nat → Nat) (cI cII : ClassId) (N K : Nat) (A : Nat → Nat → Int32) (hN : N ≤ 30) (hKK : K ≤ 10) (dr mk : Int32) : Met l y_C_doorLoss (Cond.code y_C_doorLoss b_C_doorLoss 4 (some .int) :: BW) ({ frames := 1, cells := 0, slots := 0, locals := 21 } : Room) (PcR D (wC a cI cII (nI N) (nI K) A) (tC cI cII) [.ref (a 0), .int dr, .int mk]) (vp_Si (fun r => r = k_doorLoss N K A dr mk)) 0 0 (fun _ => False) := by
  refine roStart (by decide) rfl (Nat.le_of_ble_eq_true rfl) (fun p e s m below meth c Sx hr hlk hP hK ls hl => ?_)
  obtain ⟨hx, hb, hml, hown, hts⟩ := id Sx
  have hl : lv_has ls 4 [(0, .ref (a 0)), (1, .int dr), (2, .int mk)] := hl
  refine lv_aload_n hx hb d_C_doorLoss_0 rfl (lv_at hl 0 rfl) ?_
  refine lv_iload_n hx hb d_C_doorLoss_1 rfl (lv_at hl 1 rfl) ?_
  refine xro (As := [.int dr]) (rest := []) Sx (ck_isDoor l D a cI cII N K A hN hKK dr) v_C_isDoor ⟨rfl, rfl, Nat.le_of_ble_eq_true rfl, Nat.le_of_ble_eq_true rfl⟩ hK hP (ci := 0) (q0 := 0) rfl rfl rfl hl.1 rfl (Nat.le_of_ble_eq_true rfl) d_C_doorLoss_2 ⟨Nat.le_of_ble_eq_true rfl, Nat.le_of_ble_eq_true rfl⟩ (fun r hq => ?_)
  subst hq
  refine lv_if_ne (tgt := 10) hx hb d_C_doorLoss_5 (by decide) (fun c_5 => ?_) (fun c_5 => ?_)
  · refine lv_aload_n hx hb d_C_doorLoss_10 rfl (lv_at hl 0 rfl) ?_
    refine va_get (D := D) (ci := 0) (v := .ref (a 10)) (C := R_C) (T := F_C) (N := 9) hx hb hts i_C hown hK hP 0 rfl rfl 7 (by decide) (hts _ fl_C_34) (fun _ h9 => h9) rfl d_C_doorLoss_11 ?_
    refine lv_iconst (v := (0 : Int32)) hx hb d_C_doorLoss_14 (by decide) ?_
    refine x_ald2 hx hb hK hP (by unfold vp_in; decide) d_C_doorLoss_15 ?_
    refine lv_iload_n hx hb d_C_doorLoss_16 rfl (lv_at hl 1 rfl) ?_
    refine va_iald (n := 10) hx hb hK hP (11 + (0 : Int32).toNatClampNeg) 0 (wC_row2 (vp_lt (by unfold vp_in; decide))) rfl (in_isDoor hKK c_5) d_C_doorLoss_17 ?_
    refine lv_iconst (v := (1 : Int32)) hx hb d_C_doorLoss_18 (by decide) ?_
    refine lv_icmp_ne (tgt := 26) hx hb d_C_doorLoss_19 (by decide) (fun c_19 => ?_) (fun c_19 => ?_)
    · refine lv_iconst (v := (0 : Int32)) hx hb d_C_doorLoss_26 (by decide) ?_
      refine lv_istore_n (lv' := [(3, .int (0 : Int32)), (0, .ref (a 0)), (1, .int dr), (2, .int mk)]) hx hb d_C_doorLoss_27 rfl hl (by decide) rfl (fun ls hl => ?_)
      refine lv_iload_n hx hb d_C_doorLoss_28 rfl (lv_at hl 3 rfl) ?_
      refine lv_iconst (v := (3 : Int32)) hx hb d_C_doorLoss_29 (by decide) ?_
      refine lv_icmp_ne (tgt := 43) hx hb d_C_doorLoss_30 (by decide) (fun c_30 => ?_) (fun c_30 => ?_)
      · refine lv_iload_n hx hb d_C_doorLoss_43 rfl (lv_at hl 0 rfl) ?_
        refine lv_if_eq (tgt := 49) hx hb d_C_doorLoss_44 (by decide) (fun c_44 => ?_) (fun c_44 => absurd c_44 (by decide))
        refine lv_aload_n hx hb d_C_doorLoss_49 rfl (lv_at hl 1 rfl) ?_
        refine va_get (D := D) (ci := 0) (v := .ref (a 10)) (C := R_C) (T := F_C) (N := 9) hx hb hts i_C hown hK hP 0 rfl rfl 7 (by decide) (hts _ fl_C_34) (fun _ h9 => h9) rfl d_C_doorLoss_50 ?_
        refine lv_iconst (v := (1 : Int32)) hx hb d_C_doorLoss_53 (by decide) ?_
        refine x_ald2 hx hb hK hP (by unfold vp_in; decide) d_C_doorLoss_54 ?_
        refine lv_iload_n hx hb d_C_doorLoss_55 rfl (lv_at hl 2 rfl) ?_
        refine va_iald (n := 10) hx hb hK hP (11 + (1 : Int32).toNatClampNeg) 0 (wC_row2 (vp_lt (by unfold vp_in; decide))) rfl (in_isDoor hKK c_5) d_C_doorLoss_56 ?_
        refine lv_iconst (v := (1 : Int32)) hx hb d_C_doorLoss_57 (by decide) ?_
        refine lv_icmp_ne (tgt := 65) hx hb d_C_doorLoss_58 (by decide) (fun c_58 => ?_) (fun c_58 => ?_)
        · refine lv_iconst (v := (-1 : Int32)) hx hb d_C_doorLoss_65 (by decide) ?_
          exact roRet hx hb hr rfl hlk (show (-1 : Int32) = k_doorLoss N K A dr mk from by rw [k_doorLoss, if_neg c_5, if_neg c_19, if_neg c_30, if_neg c_58]) d_C_doorLoss_66
        · refine lv_iconst (v := (3 : Int32)) hx hb d_C_doorLoss_61 (by decide) ?_
          refine lv_goto (tgt := 66) hx hb d_C_doorLoss_62 (by decide) ?_
          exact roRet hx hb hr rfl hlk (show (3 : Int32) = k_doorLoss N K A dr mk from by rw [k_doorLoss, if_neg c_5, if_neg c_19, if_neg c_30, if_pos c_58]) d_C_doorLoss_66
      · refine lv_iload_n hx hb d_C_doorLoss_33 rfl (lv_at hl 0 rfl) ?_
        refine lv_if_eq (tgt := 41) hx hb d_C_doorLoss_34 (by decide) (fun c_34 => ?_) (fun c_34 => absurd c_34 (by decide))
        refine lv_iconst (v := (3 : Int32)) hx hb d_C_doorLoss_41 (by decide) ?_
        exact roRet hx hb hr rfl hlk (show (3 : Int32) = k_doorLoss N K A dr mk from by rw [k_doorLoss, if_neg c_5, if_neg c_19, if_pos c_30]) d_C_doorLoss_42
    · refine lv_iconst (v := (1 : Int32)) hx hb d_C_doorLoss_22 (by decide) ?_
      refine lv_goto (tgt := 27) hx hb d_C_doorLoss_23 (by decide) ?_
      refine lv_istore_n (lv' := [(3, .int (1 : Int32)), (0, .ref (a 0)), (1, .int dr), (2, .int mk)]) hx hb d_C_doorLoss_27 rfl hl (by decide) rfl (fun ls hl => ?_)
      refine lv_iload_n hx hb d_C_doorLoss_28 rfl (lv_at hl 3 rfl) ?_
      refine lv_iconst (v := (3 : Int32)) hx hb d_C_doorLoss_29 (by decide) ?_
      refine lv_icmp_ne (tgt := 43) hx hb d_C_doorLoss_30 (by decide) (fun c_30 => ?_) (fun c_30 => ?_)
      · refine lv_iload_n hx hb d_C_doorLoss_43 rfl (lv_at hl 0 rfl) ?_
        refine lv_if_eq (tgt := 49) hx hb d_C_doorLoss_44 (by decide) (fun c_44 => absurd c_44 (by decide)) (fun c_44 => ?_)
        refine lv_iconst (v := (2 : Int32)) hx hb d_C_doorLoss_47 (by decide) ?_
        exact roRet hx hb hr rfl hlk (show (2 : Int32) = k_doorLoss N K A dr mk from by rw [k_doorLoss, if_neg c_5, if_pos c_19, if_neg c_30]) d_C_doorLoss_48
      · refine lv_iload_n hx hb d_C_doorLoss_33 rfl (lv_at hl 0 rfl) ?_
        refine lv_if_eq (tgt := 41) hx hb d_C_doorLoss_34 (by decide) (fun c_34 => absurd c_34 (by decide)) (fun c_34 => ?_)
        refine lv_iconst (v := (1 : Int32)) hx hb d_C_doorLoss_37 (by decide) ?_
        refine lv_goto (tgt := 42) hx hb d_C_doorLoss_38 (by decide) ?_
        exact roRet hx hb hr rfl hlk (show (1 : Int32) = k_doorLoss N K A dr mk from by rw [k_doorLoss, if_neg c_5, if_pos c_19, if_pos c_30]) d_C_doorLoss_42
  · refine lv_iconst (v := (-1 : Int32)) hx hb d_C_doorLoss_8 (by decide) ?_
    exact roRet hx hb hr rfl hlk (show (-1 : Int32) = k_doorLoss N K A dr mk from by rw [k_doorLoss, if_pos c_5]) d_C_doorLoss_9

def k_lossAt (N K : Nat) (A : Nat → Nat → Int32) (sp : Int32) : Int32 := (if (k_isThing N K A sp) = (0 : Int32) then (-1 : Int32) else (if (A 10 sp.toNatClampNeg) ≤ (0 : Int32) then (-1 : Int32) else (1000 : Int32) - (A 10 sp.toNatClampNeg)))
set_option maxHeartbeats 4000000 in
set_option maxRecDepth 100000 in
theorem ck_lossAt (l : Launch) (D : va_G) (a : Nat → Nat) (cI cII : ClassId) (N K : Nat) (A : Nat → Nat → Int32) (hN : N ≤ 30) (hKK : K ≤ 10) (sp : Int32) : Met l y_C_lossAt (Cond.code y_C_lossAt b_C_lossAt 2 (some .int) :: BW) ({ frames := 1, cells := 0, slots := 0, locals := 21 } : Room) (PcR D (wC a cI cII (nI N) (nI K) A) (tC cI cII) [.ref (a 0), .int sp]) (vp_Si (fun r => r = k_lossAt N K A sp)) 0 0 (fun _ => False) := by
  refine roStart (by decide) rfl (Nat.le_of_ble_eq_true rfl) (fun p e s m below meth c Sx hr hlk hP hK ls hl => ?_)
  obtain ⟨hx, hb, hml, hown, hts⟩ := id Sx
  have hl : lv_has ls 2 [(0, .ref (a 0)), (1, .int sp)] := hl
  refine lv_aload_n hx hb d_C_lossAt_0 rfl (lv_at hl 0 rfl) ?_
  refine lv_iload_n hx hb d_C_lossAt_1 rfl (lv_at hl 1 rfl) ?_
  refine xro (As := [.int sp]) (rest := []) Sx (ck_isThing l D a cI cII N K A hN hKK sp) v_C_isThing ⟨rfl, rfl, Nat.le_of_ble_eq_true rfl, Nat.le_of_ble_eq_true rfl⟩ hK hP (ci := 0) (q0 := 0) rfl rfl rfl hl.1 rfl (Nat.le_of_ble_eq_true rfl) d_C_lossAt_2 ⟨Nat.le_of_ble_eq_true rfl, Nat.le_of_ble_eq_true rfl⟩ (fun r hq => ?_)
  subst hq
  refine lv_if_eq (tgt := 30) hx hb d_C_lossAt_5 (by decide) (fun c_5 => ?_) (fun c_5 => ?_)
  · refine lv_iconst (v := (-1 : Int32)) hx hb d_C_lossAt_30 (by decide) ?_
    exact roRet hx hb hr rfl hlk (show (-1 : Int32) = k_lossAt N K A sp from by rw [k_lossAt, if_pos c_5]) d_C_lossAt_31
  · refine lv_aload_n hx hb d_C_lossAt_8 rfl (lv_at hl 0 rfl) ?_
    refine va_get (D := D) (ci := 0) (v := .ref (a 13)) (C := R_C) (T := F_C) (N := 9) hx hb hts i_C hown hK hP 0 rfl rfl 8 (by decide) (hts _ fl_C_37) (fun _ h9 => h9) rfl d_C_lossAt_9 ?_
    refine lv_iload_n hx hb d_C_lossAt_12 rfl (lv_at hl 1 rfl) ?_
    refine va_iald (n := 30) hx hb hK hP 13 0 rfl rfl (in_isThing hN c_5) d_C_lossAt_13 ?_
    refine lv_if_le (tgt := 30) hx hb d_C_lossAt_14 (by decide) (fun c_14 => ?_) (fun c_14 => ?_)
    · refine lv_iconst (v := (-1 : Int32)) hx hb d_C_lossAt_30 (by decide) ?_
      exact roRet hx hb hr rfl hlk (show (-1 : Int32) = k_lossAt N K A sp from by rw [k_lossAt, if_neg c_5, if_pos c_14]) d_C_lossAt_31
    · refine lv_sipush (v := (1000 : Int32)) hx hb d_C_lossAt_17 (by decide) ?_
      refine lv_aload_n hx hb d_C_lossAt_20 rfl (lv_at hl 0 rfl) ?_
      refine va_get (D := D) (ci := 0) (v := .ref (a 13)) (C := R_C) (T := F_C) (N := 9) hx hb hts i_C hown hK hP 0 rfl rfl 8 (by decide) (hts _ fl_C_37) (fun _ h9 => h9) rfl d_C_lossAt_21 ?_
      refine lv_iload_n hx hb d_C_lossAt_24 rfl (lv_at hl 1 rfl) ?_
      refine va_iald (n := 30) hx hb hK hP 13 0 rfl rfl (in_isThing hN c_5) d_C_lossAt_25 ?_
      refine lv_isub hx hb d_C_lossAt_26 ?_
      refine lv_goto (tgt := 31) hx hb d_C_lossAt_27 (by decide) ?_
      exact roRet hx hb hr rfl hlk (show (1000 : Int32) - (A 10 sp.toNatClampNeg) = k_lossAt N K A sp from by rw [k_lossAt, if_neg c_5, if_neg c_14]) d_C_lossAt_31

def k_endsIfTouched (view x y : Int32) : Int32 := (if x < (0 : Int32) then (0 : Int32) else (if (0 : Int32) ≤ y then (if (view &&& (((1 : Int32) <<< (x &&& 31)) ||| ((1 : Int32) <<< (y &&& 31)))) = (0 : Int32) then (0 : Int32) else ((1 : Int32) <<< (x &&& 31)) ||| ((1 : Int32) <<< (y &&& 31))) else (0 : Int32)))
set_option maxHeartbeats 4000000 in
set_option maxRecDepth 100000 in
theorem ck_endsIfTouched (l : Launch) (view x y : Int32) : Met l y_C_endsIfTouched (Cond.code y_C_endsIfTouched b_C_endsIfTouched 4 (some .int) :: BW) ({ frames := 0, cells := 0, slots := 0, locals := 0 } : Room) (va_Pc [.int view, .int x, .int y] (fun _ => True)) (vp_Si (fun r => r = k_endsIfTouched view x y)) 0 0 (fun _ => False) := by
  refine stStart (by decide) rfl (Nat.le_of_ble_eq_true rfl) (fun p e s m below meth c Sx hr hlk ls hl => ?_)
  obtain ⟨hx, hb, hml, hown, hts⟩ := id Sx
  have hl : lv_has ls 4 [(0, .int view), (1, .int x), (2, .int y)] := hl
  refine lv_iload_n hx hb d_C_endsIfTouched_0 rfl (lv_at hl 1 rfl) ?_
  refine lv_if_lt (tgt := 8) hx hb d_C_endsIfTouched_1 (by decide) (fun c_1 => ?_) (fun c_1 => ?_)
  · refine lv_iconst (v := (0 : Int32)) hx hb d_C_endsIfTouched_8 (by decide) ?_
    exact roRet hx hb hr rfl hlk (show (0 : Int32) = k_endsIfTouched view x y from by rw [k_endsIfTouched, if_pos c_1]) d_C_endsIfTouched_9
  · refine lv_iload_n hx hb d_C_endsIfTouched_4 rfl (lv_at hl 2 rfl) ?_
    refine lv_if_ge (tgt := 10) hx hb d_C_endsIfTouched_5 (by decide) (fun c_5 => ?_) (fun c_5 => ?_)
    · refine lv_iconst (v := (1 : Int32)) hx hb d_C_endsIfTouched_10 (by decide) ?_
      refine lv_iload_n hx hb d_C_endsIfTouched_11 rfl (lv_at hl 1 rfl) ?_
      refine lv_ishl hx hb d_C_endsIfTouched_12 ?_
      refine lv_iconst (v := (1 : Int32)) hx hb d_C_endsIfTouched_13 (by decide) ?_
      refine lv_iload_n hx hb d_C_endsIfTouched_14 rfl (lv_at hl 2 rfl) ?_
      refine lv_ishl hx hb d_C_endsIfTouched_15 ?_
      refine lv_ior hx hb d_C_endsIfTouched_16 ?_
      refine lv_istore_n (lv' := [(3, .int (((1 : Int32) <<< (x &&& 31)) ||| ((1 : Int32) <<< (y &&& 31)))), (0, .int view), (1, .int x), (2, .int y)]) hx hb d_C_endsIfTouched_17 rfl hl (by decide) rfl (fun ls hl => ?_)
      refine lv_iload_n hx hb d_C_endsIfTouched_18 rfl (lv_at hl 1 rfl) ?_
      refine lv_iload_n hx hb d_C_endsIfTouched_19 rfl (lv_at hl 0 rfl) ?_
      refine lv_iand hx hb d_C_endsIfTouched_20 ?_
      refine lv_if_eq (tgt := 28) hx hb d_C_endsIfTouched_21 (by decide) (fun c_21 => ?_) (fun c_21 => ?_)
      · refine lv_iconst (v := (0 : Int32)) hx hb d_C_endsIfTouched_28 (by decide) ?_
        exact roRet hx hb hr rfl hlk (show (0 : Int32) = k_endsIfTouched view x y from by rw [k_endsIfTouched, if_neg c_1, if_pos c_5, if_pos c_21]) d_C_endsIfTouched_29
      · refine lv_iload_n hx hb d_C_endsIfTouched_24 rfl (lv_at hl 0 rfl) ?_
        refine lv_goto (tgt := 29) hx hb d_C_endsIfTouched_25 (by decide) ?_
        exact roRet hx hb hr rfl hlk (show ((1 : Int32) <<< (x &&& 31)) ||| ((1 : Int32) <<< (y &&& 31)) = k_endsIfTouched view x y from by rw [k_endsIfTouched, if_neg c_1, if_pos c_5, if_neg c_21]) d_C_endsIfTouched_29
    · refine lv_iconst (v := (0 : Int32)) hx hb d_C_endsIfTouched_8 (by decide) ?_
      exact roRet hx hb hr rfl hlk (show (0 : Int32) = k_endsIfTouched view x y from by rw [k_endsIfTouched, if_neg c_1, if_neg c_5]) d_C_endsIfTouched_9

def k_isSeen (N K : Nat) (A : Nat → Nat → Int32) (x view : Int32) : Int32 := (if (k_spaceOf N K A x) = (-1 : Int32) then (0 : Int32) else (if (view &&& ((1 : Int32) <<< ((k_spaceOf N K A x) &&& 31))) = (0 : Int32) then (0 : Int32) else (if (A 10 (k_spaceOf N K A x).toNatClampNeg) ≤ (0 : Int32) then (0 : Int32) else (1 : Int32))))
set_option maxHeartbeats 4000000 in
set_option maxRecDepth 100000 in
theorem ck_isSeen (l : Launch) (D : va_G) (a : Nat → Nat) (cI cII : ClassId) (N K : Nat) (A : Nat → Nat → Int32) (hN : N ≤ 30) (hKK : K ≤ 10) (x view : Int32) : Met l y_C_isSeen (Cond.code y_C_isSeen b_C_isSeen 4 (some .boolean) :: BW) ({ frames := 4, cells := 0, slots := 0, locals := 87 } : Room) (PcR D (wC a cI cII (nI N) (nI K) A) (tC cI cII) [.ref (a 0), .int x, .int view]) (vp_Si (fun r => r = k_isSeen N K A x view)) 0 0 (fun _ => False) := by
  refine roStart (by decide) rfl (Nat.le_of_ble_eq_true rfl) (fun p e s m below meth c Sx hr hlk hP hK ls hl => ?_)
  obtain ⟨hx, hb, hml, hown, hts⟩ := id Sx
  have hl : lv_has ls 4 [(0, .ref (a 0)), (1, .int x), (2, .int view)] := hl
  refine lv_aload_n hx hb d_C_isSeen_0 rfl (lv_at hl 0 rfl) ?_
  refine lv_iload_n hx hb d_C_isSeen_1 rfl (lv_at hl 1 rfl) ?_
  refine xro (As := [.int x]) (rest := []) Sx (ck_spaceOf l D a cI cII N K A hN hKK x) v_C_spaceOf ⟨rfl, rfl, Nat.le_of_ble_eq_true rfl, Nat.le_of_ble_eq_true rfl⟩ hK hP (ci := 0) (q0 := 0) rfl rfl rfl hl.1 rfl (Nat.le_of_ble_eq_true rfl) d_C_isSeen_2 ⟨Nat.le_of_ble_eq_true rfl, Nat.le_of_ble_eq_true rfl⟩ (fun r hq => ?_)
  subst hq
  refine lv_istore_n (lv' := [(3, .int (k_spaceOf N K A x)), (0, .ref (a 0)), (1, .int x), (2, .int view)]) hx hb d_C_isSeen_5 rfl hl (by decide) rfl (fun ls hl => ?_)
  refine lv_iload_n hx hb d_C_isSeen_6 rfl (lv_at hl 0 rfl) ?_
  refine lv_iconst (v := (-1 : Int32)) hx hb d_C_isSeen_7 (by decide) ?_
  refine lv_icmp_eq (tgt := 32) hx hb d_C_isSeen_8 (by decide) (fun c_8 => ?_) (fun c_8 => ?_)
  · refine lv_iconst (v := (0 : Int32)) hx hb d_C_isSeen_32 (by decide) ?_
    exact roRet hx hb hr (by first | rfl | decide) hlk (show (0 : Int32) = k_isSeen N K A x view from by rw [k_isSeen, if_pos c_8]) d_C_isSeen_33
  · refine lv_iload_n hx hb d_C_isSeen_11 rfl (lv_at hl 3 rfl) ?_
    refine lv_iconst (v := (1 : Int32)) hx hb d_C_isSeen_12 (by decide) ?_
    refine lv_iload_n hx hb d_C_isSeen_13 rfl (lv_at hl 0 rfl) ?_
    refine lv_ishl hx hb d_C_isSeen_14 ?_
    refine lv_iand hx hb d_C_isSeen_15 ?_
    refine lv_if_eq (tgt := 32) hx hb d_C_isSeen_16 (by decide) (fun c_16 => ?_) (fun c_16 => ?_)
    · refine lv_iconst (v := (0 : Int32)) hx hb d_C_isSeen_32 (by decide) ?_
      exact roRet hx hb hr (by first | rfl | decide) hlk (show (0 : Int32) = k_isSeen N K A x view from by rw [k_isSeen, if_neg c_8, if_pos c_16]) d_C_isSeen_33
    · refine lv_aload_n hx hb d_C_isSeen_19 rfl (lv_at hl 1 rfl) ?_
      refine va_get (D := D) (ci := 0) (v := .ref (a 13)) (C := R_C) (T := F_C) (N := 9) hx hb hts i_C hown hK hP 0 rfl rfl 8 (by decide) (hts _ fl_C_37) (fun _ h9 => h9) rfl d_C_isSeen_20 ?_
      refine lv_iload_n hx hb d_C_isSeen_23 rfl (lv_at hl 0 rfl) ?_
      refine va_iald (n := 30) hx hb hK hP 13 0 rfl rfl (in_spaceOf hN c_8) d_C_isSeen_24 ?_
      refine lv_if_le (tgt := 32) hx hb d_C_isSeen_25 (by decide) (fun c_25 => ?_) (fun c_25 => ?_)
      · refine lv_iconst (v := (0 : Int32)) hx hb d_C_isSeen_32 (by decide) ?_
        exact roRet hx hb hr (by first | rfl | decide) hlk (show (0 : Int32) = k_isSeen N K A x view from by rw [k_isSeen, if_neg c_8, if_neg c_16, if_pos c_25]) d_C_isSeen_33
      · refine lv_iconst (v := (1 : Int32)) hx hb d_C_isSeen_28 (by decide) ?_
        refine lv_goto (tgt := 33) hx hb d_C_isSeen_29 (by decide) ?_
        exact roRet hx hb hr (by first | rfl | decide) hlk (show (1 : Int32) = k_isSeen N K A x view from by rw [k_isSeen, if_neg c_8, if_neg c_16, if_neg c_25]) d_C_isSeen_33

def k_partHeardOf (N K : Nat) (A : Nat → Nat → Int32) (x : Int32) : Int32 := (if (k_lossAt N K A (k_spaceOf N K A x)) = (-1 : Int32) then (0 : Int32) else (k_markOf N K A x (3 : Int32)) - (k_lossAt N K A (k_spaceOf N K A x)))
set_option maxHeartbeats 4000000 in
set_option maxRecDepth 100000 in
theorem ck_partHeardOf (l : Launch) (D : va_G) (a : Nat → Nat) (cI cII : ClassId) (N K : Nat) (A : Nat → Nat → Int32) (hN : N ≤ 30) (hKK : K ≤ 10) (x : Int32) : Met l y_C_partHeardOf (Cond.code y_C_partHeardOf b_C_partHeardOf 3 (some .int) :: BW) ({ frames := 4, cells := 0, slots := 0, locals := 87 } : Room) (PcR D (wC a cI cII (nI N) (nI K) A) (tC cI cII) [.ref (a 0), .int x]) (vp_Si (fun r => r = k_partHeardOf N K A x)) 0 0 (fun _ => False) := by
  refine roStart (by decide) rfl (Nat.le_of_ble_eq_true rfl) (fun p e s m below meth c Sx hr hlk hP hK ls hl => ?_)
  obtain ⟨hx, hb, hml, hown, hts⟩ := id Sx
  have hl : lv_has ls 3 [(0, .ref (a 0)), (1, .int x)] := hl
  refine lv_aload_n hx hb d_C_partHeardOf_0 rfl (lv_at hl 0 rfl) ?_
  refine lv_aload_n hx hb d_C_partHeardOf_1 rfl (lv_at hl 0 rfl) ?_
  refine lv_iload_n hx hb d_C_partHeardOf_2 rfl (lv_at hl 1 rfl) ?_
  refine xro (As := [.int x]) (rest := [.ref (a 0)]) Sx (ck_spaceOf l D a cI cII N K A hN hKK x) v_C_spaceOf ⟨rfl, rfl, Nat.le_of_ble_eq_true rfl, Nat.le_of_ble_eq_true rfl⟩ hK hP (ci := 0) (q0 := 0) rfl rfl rfl hl.1 rfl (Nat.le_of_ble_eq_true rfl) d_C_partHeardOf_3 ⟨Nat.le_of_ble_eq_true rfl, Nat.le_of_ble_eq_true rfl⟩ (fun r hq => ?_)
  subst hq
  refine xro (As := [.int (k_spaceOf N K A x)]) (rest := []) Sx (ck_lossAt l D a cI cII N K A hN hKK (k_spaceOf N K A x)) v_C_lossAt ⟨rfl, rfl, Nat.le_of_ble_eq_true rfl, Nat.le_of_ble_eq_true rfl⟩ hK hP (ci := 0) (q0 := 0) rfl rfl rfl hl.1 rfl (Nat.le_of_ble_eq_true rfl) d_C_partHeardOf_6 ⟨Nat.le_of_ble_eq_true rfl, Nat.le_of_ble_eq_true rfl⟩ (fun r hq => ?_)
  subst hq
  refine lv_istore_n (lv' := [(2, .int (k_lossAt N K A (k_spaceOf N K A x))), (0, .ref (a 0)), (1, .int x)]) hx hb d_C_partHeardOf_9 rfl hl (by decide) rfl (fun ls hl => ?_)
  refine lv_iload_n hx hb d_C_partHeardOf_10 rfl (lv_at hl 0 rfl) ?_
  refine lv_iconst (v := (-1 : Int32)) hx hb d_C_partHeardOf_11 (by decide) ?_
  refine lv_icmp_ne (tgt := 19) hx hb d_C_partHeardOf_12 (by decide) (fun c_12 => ?_) (fun c_12 => ?_)
  · refine lv_aload_n hx hb d_C_partHeardOf_19 rfl (lv_at hl 1 rfl) ?_
    refine lv_iload_n hx hb d_C_partHeardOf_20 rfl (lv_at hl 2 rfl) ?_
    refine lv_iconst (v := (3 : Int32)) hx hb d_C_partHeardOf_21 (by decide) ?_
    refine xro (As := [.int x, .int (3 : Int32)]) (rest := []) Sx (ck_markOf l D a cI cII N K A hN hKK x (3 : Int32)) v_C_markOf ⟨rfl, rfl, Nat.le_of_ble_eq_true rfl, Nat.le_of_ble_eq_true rfl⟩ hK hP (ci := 0) (q0 := 0) rfl rfl rfl hl.1 rfl (Nat.le_of_ble_eq_true rfl) d_C_partHeardOf_22 ⟨Nat.le_of_ble_eq_true rfl, Nat.le_of_ble_eq_true rfl⟩ (fun r hq => ?_)
    subst hq
    refine lv_iload_n hx hb d_C_partHeardOf_25 rfl (lv_at hl 0 rfl) ?_
    refine lv_isub hx hb d_C_partHeardOf_26 ?_
    exact roRet hx hb hr rfl hlk (show (k_markOf N K A x (3 : Int32)) - (k_lossAt N K A (k_spaceOf N K A x)) = k_partHeardOf N K A x from by rw [k_partHeardOf, if_neg c_12]) d_C_partHeardOf_27
  · refine lv_iconst (v := (0 : Int32)) hx hb d_C_partHeardOf_15 (by decide) ?_
    refine lv_goto (tgt := 27) hx hb d_C_partHeardOf_16 (by decide) ?_
    exact roRet hx hb hr rfl hlk (show (0 : Int32) = k_partHeardOf N K A x from by rw [k_partHeardOf, if_pos c_12]) d_C_partHeardOf_27

def k_widenedOverWalls_24 (N K : Nat) (A : Nat → Nat → Int32) : Nat → Nat → Int32 → Int32
  | 0, i, v2 => v2
  | k + 1, i, v2 => (if (k_wallLoss N K A (nI i) (2 : Int32)) = (-1 : Int32) then k_widenedOverWalls_24 N K A k (i + 1) v2 else k_widenedOverWalls_24 N K A k (i + 1) (v2 ||| (k_endsIfTouched v2 (nI i) (k_spaceOf N K A (nI i)))))
theorem k_widenedOverWalls_24_0 (N K : Nat) (A : Nat → Nat → Int32) (i : Nat) (v2 : Int32) : k_widenedOverWalls_24 N K A 0 i v2 = v2 := rfl
theorem k_widenedOverWalls_24_S (N K : Nat) (A : Nat → Nat → Int32) (k i : Nat) (v2 : Int32) : k_widenedOverWalls_24 N K A (k + 1) i v2 = (if (k_wallLoss N K A (nI i) (2 : Int32)) = (-1 : Int32) then k_widenedOverWalls_24 N K A k (i + 1) v2 else k_widenedOverWalls_24 N K A k (i + 1) (v2 ||| (k_endsIfTouched v2 (nI i) (k_spaceOf N K A (nI i))))) := rfl
set_option maxHeartbeats 4000000 in
set_option maxRecDepth 100000 in
theorem wk_widenedOverWalls_24 (l : Launch) (D : va_G) (a : Nat → Nat) (cI cII : ClassId) (N K : Nat) (A : Nat → Nat → Int32) (hN : N ≤ 30) (hKK : K ≤ 10) (view u3 u4 u5 : Int32) {p : Program} {e : Env} {s : State} {m : MethodId} {below : List Frame} {meth : Method} {c : Code} {Q : State → Prop} (Sx : CallFix p m c b_C_widenedOverWalls 7 s ([.ref (a 0), .int view] : List Value).toArray BW R_C) (hP : va_P D classes (wC a cI cII (nI N) (nI K) A) s.heap) (hK : va_K D classes (tC cI cII) s) : ∀ (k i : Nat), i + k = N → ∀ (v2 : Int32) (ls : Array Slot), lv_has ls 7 [(0, .ref (a 0)), (1, .int view), (2, .int v2), (3, .int u3), (4, .int u4), (5, .int u5), (6, .int (nI i))] → (∀ ls : Array Slot, lv_has ls 7 [(0, .ref (a 0)), (1, .int view), (2, .int (k_widenedOverWalls_24 N K A k i v2)), (3, .int u3), (4, .int u4), (5, .int u5)] → W p l e ({ frames := 4, cells := 0, slots := 0, locals := 87 } : Room) s m ([.ref (a 0), .int view] : List Value).toArray below meth c s.heap [] 0 0 Q (F0 m 65 ls [])) → W p l e ({ frames := 4, cells := 0, slots := 0, locals := 87 } : Room) s m ([.ref (a 0), .int view] : List Value).toArray below meth c s.heap [] 0 0 Q (F0 m 24 ls []) := by
  obtain ⟨hx, hb, hml, hown, hts⟩ := id Sx
  intro k
  induction k with
  | zero =>
    intro i hi v2 ls hl hk
    refine lv_iload hx hb d_C_widenedOverWalls_24 (lv_at hl 6 rfl) ?_
    refine lv_aload_n hx hb d_C_widenedOverWalls_26 rfl (lv_at hl 0 rfl) ?_
    refine va_get (D := D) (ci := 0) (v := .int (nI N)) (C := R_C) (T := F_C) (N := 9) hx hb hts i_C hown hK hP 0 rfl rfl 0 (by decide) (hts _ fl_C_7) (fun _ h9 => h9) rfl d_C_widenedOverWalls_27 ?_
    refine lv_icmp_ge (tgt := 65) hx hb d_C_widenedOverWalls_30 (by decide) (fun c_30 => ?_) (fun c_30 => absurd (nI_le (a := N) (b := i) (by omega) (by omega)) c_30)
    have e_b : k_widenedOverWalls_24 N K A 0 i v2 = v2 := by rw [k_widenedOverWalls_24_0]
    rw [e_b] at hk
    exact hk ls (lv_sub hl [0, 1, 2, 3, 4, 5] rfl)
  | succ k ih =>
    intro i hi v2 ls hl hk
    refine lv_iload hx hb d_C_widenedOverWalls_24 (lv_at hl 6 rfl) ?_
    refine lv_aload_n hx hb d_C_widenedOverWalls_26 rfl (lv_at hl 0 rfl) ?_
    refine va_get (D := D) (ci := 0) (v := .int (nI N)) (C := R_C) (T := F_C) (N := 9) hx hb hts i_C hown hK hP 0 rfl rfl 0 (by decide) (hts _ fl_C_7) (fun _ h9 => h9) rfl d_C_widenedOverWalls_27 ?_
    refine lv_icmp_ge (tgt := 65) hx hb d_C_widenedOverWalls_30 (by decide) (fun c_30 => absurd c_30 (nI_ge (a := i) (b := N) (by omega) (by omega))) (fun c_30 => ?_)
    refine lv_aload_n hx hb d_C_widenedOverWalls_33 rfl (lv_at hl 0 rfl) ?_
    refine lv_iload hx hb d_C_widenedOverWalls_34 (lv_at hl 6 rfl) ?_
    refine lv_iconst (v := (2 : Int32)) hx hb d_C_widenedOverWalls_36 (by decide) ?_
    refine xro (As := [.int (nI i), .int (2 : Int32)]) (rest := []) Sx (ck_wallLoss l D a cI cII N K A hN hKK (nI i) (2 : Int32)) v_C_wallLoss ⟨rfl, rfl, Nat.le_of_ble_eq_true rfl, Nat.le_of_ble_eq_true rfl⟩ hK hP (ci := 0) (q0 := 0) rfl rfl rfl hl.1 rfl (Nat.le_of_ble_eq_true rfl) d_C_widenedOverWalls_37 ⟨Nat.le_of_ble_eq_true rfl, Nat.le_of_ble_eq_true rfl⟩ (fun r hq => ?_)
    subst hq
    refine lv_iconst (v := (-1 : Int32)) hx hb d_C_widenedOverWalls_40 (by decide) ?_
    refine lv_icmp_eq (tgt := 59) hx hb d_C_widenedOverWalls_41 (by decide) (fun c_41 => ?_) (fun c_41 => ?_)
    · refine lv_iinc (v := nI (i + 1)) (lv' := [(6, .int (nI (i + 1))), (0, .ref (a 0)), (1, .int view), (2, .int v2), (3, .int u3), (4, .int u4), (5, .int u5)]) hx hb d_C_widenedOverWalls_59 hl (k := 6) rfl (nI_1 i) (by decide) rfl (fun ls hl => ?_)
      refine lv_goto (tgt := 24) hx hb d_C_widenedOverWalls_62 (by decide) ?_
      have e_b : k_widenedOverWalls_24 N K A (k + 1) i v2 = k_widenedOverWalls_24 N K A k (i + 1) v2 := by rw [k_widenedOverWalls_24_S, if_pos c_41]
      rw [e_b] at hk
      exact ih (i + 1) (by omega) v2 ls (lv_sub hl [1, 2, 3, 4, 5, 6, 0] rfl) hk
    · refine lv_iload_n hx hb d_C_widenedOverWalls_44 rfl (lv_at hl 2 rfl) ?_
      refine lv_iload_n hx hb d_C_widenedOverWalls_45 rfl (lv_at hl 2 rfl) ?_
      refine lv_iload hx hb d_C_widenedOverWalls_46 (lv_at hl 6 rfl) ?_
      refine lv_aload_n hx hb d_C_widenedOverWalls_48 rfl (lv_at hl 0 rfl) ?_
      refine lv_iload hx hb d_C_widenedOverWalls_49 (lv_at hl 6 rfl) ?_
      refine xro (As := [.int (nI i)]) (rest := [.int (nI i), .int v2, .int v2]) Sx (ck_spaceOf l D a cI cII N K A hN hKK (nI i)) v_C_spaceOf ⟨rfl, rfl, Nat.le_of_ble_eq_true rfl, Nat.le_of_ble_eq_true rfl⟩ hK hP (ci := 0) (q0 := 0) rfl rfl rfl hl.1 rfl (Nat.le_of_ble_eq_true rfl) d_C_widenedOverWalls_51 ⟨Nat.le_of_ble_eq_true rfl, Nat.le_of_ble_eq_true rfl⟩ (fun r hq => ?_)
      subst hq
      refine xst (As := [.int v2, .int (nI i), .int (k_spaceOf N K A (nI i))]) (rest := [.int v2]) Sx (ck_endsIfTouched l v2 (nI i) (k_spaceOf N K A (nI i))) v_C_endsIfTouched ⟨rfl, rfl, Nat.le_of_ble_eq_true rfl, Nat.le_of_ble_eq_true rfl⟩ rfl hl.1 rfl (Nat.le_of_ble_eq_true rfl) d_C_widenedOverWalls_54 ⟨Nat.le_of_ble_eq_true rfl, Nat.le_of_ble_eq_true rfl⟩ (fun r hq => ?_)
      subst hq
      refine lv_ior hx hb d_C_widenedOverWalls_57 ?_
      refine lv_istore_n (lv' := [(2, .int (v2 ||| (k_endsIfTouched v2 (nI i) (k_spaceOf N K A (nI i))))), (0, .ref (a 0)), (1, .int view), (3, .int u3), (4, .int u4), (5, .int u5), (6, .int (nI i))]) hx hb d_C_widenedOverWalls_58 rfl hl (by decide) rfl (fun ls hl => ?_)
      refine lv_iinc (v := nI (i + 1)) (lv' := [(6, .int (nI (i + 1))), (2, .int (v2 ||| (k_endsIfTouched v2 (nI i) (k_spaceOf N K A (nI i))))), (0, .ref (a 0)), (1, .int view), (3, .int u3), (4, .int u4), (5, .int u5)]) hx hb d_C_widenedOverWalls_59 hl (k := 6) rfl (nI_1 i) (by decide) rfl (fun ls hl => ?_)
      refine lv_goto (tgt := 24) hx hb d_C_widenedOverWalls_62 (by decide) ?_
      have e_b : k_widenedOverWalls_24 N K A (k + 1) i v2 = k_widenedOverWalls_24 N K A k (i + 1) (v2 ||| (k_endsIfTouched v2 (nI i) (k_spaceOf N K A (nI i)))) := by rw [k_widenedOverWalls_24_S, if_neg c_41]
      rw [e_b] at hk
      exact ih (i + 1) (by omega) (v2 ||| (k_endsIfTouched v2 (nI i) (k_spaceOf N K A (nI i)))) ls (lv_sub hl [2, 3, 1, 4, 5, 6, 0] rfl) hk
def k_widenedOverWalls_7 (N K : Nat) (A : Nat → Nat → Int32) : Nat → Nat → Int32 → Int32 → Int32
  | 0, i, v2, v3 => v2
  | k + 1, i, v2, v3 => (if v3 = (0 : Int32) then v2 else (if (k_widenedOverWalls_24 N K A N 0 v2) = v2 then k_widenedOverWalls_7 N K A k (i + 1) (k_widenedOverWalls_24 N K A N 0 v2) (0 : Int32) else k_widenedOverWalls_7 N K A k (i + 1) (k_widenedOverWalls_24 N K A N 0 v2) (1 : Int32)))
theorem k_widenedOverWalls_7_0 (N K : Nat) (A : Nat → Nat → Int32) (i : Nat) (v2 v3 : Int32) : k_widenedOverWalls_7 N K A 0 i v2 v3 = v2 := rfl
theorem k_widenedOverWalls_7_S (N K : Nat) (A : Nat → Nat → Int32) (k i : Nat) (v2 v3 : Int32) : k_widenedOverWalls_7 N K A (k + 1) i v2 v3 = (if v3 = (0 : Int32) then v2 else (if (k_widenedOverWalls_24 N K A N 0 v2) = v2 then k_widenedOverWalls_7 N K A k (i + 1) (k_widenedOverWalls_24 N K A N 0 v2) (0 : Int32) else k_widenedOverWalls_7 N K A k (i + 1) (k_widenedOverWalls_24 N K A N 0 v2) (1 : Int32))) := rfl
set_option maxHeartbeats 4000000 in
set_option maxRecDepth 100000 in
theorem wk_widenedOverWalls_7 (l : Launch) (D : va_G) (a : Nat → Nat) (cI cII : ClassId) (N K : Nat) (A : Nat → Nat → Int32) (hN : N ≤ 30) (hKK : K ≤ 10) (view : Int32) {p : Program} {e : Env} {s : State} {m : MethodId} {below : List Frame} {meth : Method} {c : Code} (Sx : CallFix p m c b_C_widenedOverWalls 7 s ([.ref (a 0), .int view] : List Value).toArray BW R_C) (hr : meth.sig.returnType = (some .int)) (hlk : meth.locks = false) (hP : va_P D classes (wC a cI cII (nI N) (nI K) A) s.heap) (hK : va_K D classes (tC cI cII) s) : ∀ (k i : Nat), i + k = 30 → ∀ (v2 v3 : Int32) (ls : Array Slot), lv_has ls 7 [(0, .ref (a 0)), (1, .int view), (2, .int v2), (3, .int v3), (4, .int (nI i))] → W p l e ({ frames := 4, cells := 0, slots := 0, locals := 87 } : Room) s m ([.ref (a 0), .int view] : List Value).toArray below meth c s.heap [] 0 0 (MQ below (vp_Si (fun r => r = k_widenedOverWalls_7 N K A k i v2 v3)) ([.ref (a 0), .int view] : List Value).toArray s 0 0 (fun _ => False)) (F0 m 7 ls []) := by
  obtain ⟨hx, hb, hml, hown, hts⟩ := id Sx
  intro k
  induction k with
  | zero =>
    intro i hi v2 v3 ls hl
    refine lv_iload hx hb d_C_widenedOverWalls_7 (lv_at hl 4 rfl) ?_
    refine lv_bipush (v := (30 : Int32)) hx hb d_C_widenedOverWalls_9 (by decide) ?_
    refine lv_icmp_ge (tgt := 83) hx hb d_C_widenedOverWalls_11 (by decide) (fun c_11 => ?_) (fun c_11 => absurd (nI_le (a := 30) (b := i) (by omega) (by omega)) c_11)
    refine lv_iload_n hx hb d_C_widenedOverWalls_83 rfl (lv_at hl 2 rfl) ?_
    exact roRet hx hb hr rfl hlk (show v2 = k_widenedOverWalls_7 N K A 0 i v2 v3 from by rw [k_widenedOverWalls_7_0]) d_C_widenedOverWalls_84
  | succ k ih =>
    intro i hi v2 v3 ls hl
    refine lv_iload hx hb d_C_widenedOverWalls_7 (lv_at hl 4 rfl) ?_
    refine lv_bipush (v := (30 : Int32)) hx hb d_C_widenedOverWalls_9 (by decide) ?_
    refine lv_icmp_ge (tgt := 83) hx hb d_C_widenedOverWalls_11 (by decide) (fun c_11 => absurd c_11 (nI_ge (a := i) (b := 30) (by omega) (by omega))) (fun c_11 => ?_)
    refine lv_iload_n hx hb d_C_widenedOverWalls_14 rfl (lv_at hl 3 rfl) ?_
    refine lv_if_eq (tgt := 83) hx hb d_C_widenedOverWalls_15 (by decide) (fun c_15 => ?_) (fun c_15 => ?_)
    · refine lv_iload_n hx hb d_C_widenedOverWalls_83 rfl (lv_at hl 2 rfl) ?_
      exact roRet hx hb hr rfl hlk (show v2 = k_widenedOverWalls_7 N K A (k + 1) i v2 v3 from by rw [k_widenedOverWalls_7_S, if_pos c_15]) d_C_widenedOverWalls_84
    · refine lv_iload_n hx hb d_C_widenedOverWalls_18 rfl (lv_at hl 2 rfl) ?_
      refine lv_istore (lv' := [(5, .int v2), (0, .ref (a 0)), (1, .int view), (2, .int v2), (3, .int v3), (4, .int (nI i))]) hx hb d_C_widenedOverWalls_19 hl (by decide) rfl (fun ls hl => ?_)
      refine lv_iconst (v := (0 : Int32)) hx hb d_C_widenedOverWalls_21 (by decide) ?_
      refine lv_istore (lv' := [(6, .int (0 : Int32)), (5, .int v2), (0, .ref (a 0)), (1, .int view), (2, .int v2), (3, .int v3), (4, .int (nI i))]) hx hb d_C_widenedOverWalls_22 hl (by decide) rfl (fun ls hl => ?_)
      refine wk_widenedOverWalls_24 l D a cI cII N K A hN hKK view v3 (nI i) v2 Sx hP hK N 0 (by omega) v2 ls (lv_sub hl [2, 3, 4, 5, 6, 1, 0] rfl) (fun ls hl => ?_)
      refine lv_iload_n hx hb d_C_widenedOverWalls_65 rfl (lv_at hl 2 rfl) ?_
      refine lv_iload hx hb d_C_widenedOverWalls_66 (lv_at hl 5 rfl) ?_
      refine lv_icmp_eq (tgt := 75) hx hb d_C_widenedOverWalls_68 (by decide) (fun c_68 => ?_) (fun c_68 => ?_)
      · refine lv_iconst (v := (0 : Int32)) hx hb d_C_widenedOverWalls_75 (by decide) ?_
        refine lv_istore_n (lv' := [(3, .int (0 : Int32)), (0, .ref (a 0)), (1, .int view), (2, .int (k_widenedOverWalls_24 N K A N 0 v2)), (4, .int (nI i)), (5, .int v2)]) hx hb d_C_widenedOverWalls_76 rfl hl (by decide) rfl (fun ls hl => ?_)
        refine lv_iinc (v := nI (i + 1)) (lv' := [(4, .int (nI (i + 1))), (3, .int (0 : Int32)), (0, .ref (a 0)), (1, .int view), (2, .int (k_widenedOverWalls_24 N K A N 0 v2)), (5, .int v2)]) hx hb d_C_widenedOverWalls_77 hl (k := 4) rfl (nI_1 i) (by decide) rfl (fun ls hl => ?_)
        refine lv_goto (tgt := 7) hx hb d_C_widenedOverWalls_80 (by decide) ?_
        have e_b : k_widenedOverWalls_7 N K A (k + 1) i v2 v3 = k_widenedOverWalls_7 N K A k (i + 1) (k_widenedOverWalls_24 N K A N 0 v2) (0 : Int32) := by rw [k_widenedOverWalls_7_S, if_neg c_15, if_pos c_68]
        rw [e_b]
        exact ih (i + 1) (by omega) (k_widenedOverWalls_24 N K A N 0 v2) (0 : Int32) ls (lv_sub hl [2, 3, 4, 1, 0] rfl)
      · refine lv_iconst (v := (1 : Int32)) hx hb d_C_widenedOverWalls_71 (by decide) ?_
        refine lv_goto (tgt := 76) hx hb d_C_widenedOverWalls_72 (by decide) ?_
        refine lv_istore_n (lv' := [(3, .int (1 : Int32)), (0, .ref (a 0)), (1, .int view), (2, .int (k_widenedOverWalls_24 N K A N 0 v2)), (4, .int (nI i)), (5, .int v2)]) hx hb d_C_widenedOverWalls_76 rfl hl (by decide) rfl (fun ls hl => ?_)
        refine lv_iinc (v := nI (i + 1)) (lv' := [(4, .int (nI (i + 1))), (3, .int (1 : Int32)), (0, .ref (a 0)), (1, .int view), (2, .int (k_widenedOverWalls_24 N K A N 0 v2)), (5, .int v2)]) hx hb d_C_widenedOverWalls_77 hl (k := 4) rfl (nI_1 i) (by decide) rfl (fun ls hl => ?_)
        refine lv_goto (tgt := 7) hx hb d_C_widenedOverWalls_80 (by decide) ?_
        have e_b : k_widenedOverWalls_7 N K A (k + 1) i v2 v3 = k_widenedOverWalls_7 N K A k (i + 1) (k_widenedOverWalls_24 N K A N 0 v2) (1 : Int32) := by rw [k_widenedOverWalls_7_S, if_neg c_15, if_neg c_68]
        rw [e_b]
        exact ih (i + 1) (by omega) (k_widenedOverWalls_24 N K A N 0 v2) (1 : Int32) ls (lv_sub hl [2, 3, 4, 1, 0] rfl)
def k_widenedOverWalls (N K : Nat) (A : Nat → Nat → Int32) (view : Int32) : Int32 := k_widenedOverWalls_7 N K A 30 0 view (1 : Int32)
set_option maxHeartbeats 4000000 in
set_option maxRecDepth 100000 in
theorem ck_widenedOverWalls (l : Launch) (D : va_G) (a : Nat → Nat) (cI cII : ClassId) (N K : Nat) (A : Nat → Nat → Int32) (hN : N ≤ 30) (hKK : K ≤ 10) (view : Int32) : Met l y_C_widenedOverWalls (Cond.code y_C_widenedOverWalls b_C_widenedOverWalls 7 (some .int) :: BW) ({ frames := 4, cells := 0, slots := 0, locals := 87 } : Room) (PcR D (wC a cI cII (nI N) (nI K) A) (tC cI cII) [.ref (a 0), .int view]) (vp_Si (fun r => r = k_widenedOverWalls N K A view)) 0 0 (fun _ => False) := by
  refine roStart (by decide) rfl (Nat.le_of_ble_eq_true rfl) (fun p e s m below meth c Sx hr hlk hP hK ls hl => ?_)
  obtain ⟨hx, hb, hml, hown, hts⟩ := id Sx
  have hl : lv_has ls 7 [(0, .ref (a 0)), (1, .int view)] := hl
  refine lv_iload_n hx hb d_C_widenedOverWalls_0 rfl (lv_at hl 1 rfl) ?_
  refine lv_istore_n (lv' := [(2, .int view), (0, .ref (a 0)), (1, .int view)]) hx hb d_C_widenedOverWalls_1 rfl hl (by decide) rfl (fun ls hl => ?_)
  refine lv_iconst (v := (1 : Int32)) hx hb d_C_widenedOverWalls_2 (by decide) ?_
  refine lv_istore_n (lv' := [(3, .int (1 : Int32)), (2, .int view), (0, .ref (a 0)), (1, .int view)]) hx hb d_C_widenedOverWalls_3 rfl hl (by decide) rfl (fun ls hl => ?_)
  refine lv_iconst (v := (0 : Int32)) hx hb d_C_widenedOverWalls_4 (by decide) ?_
  refine lv_istore (lv' := [(4, .int (0 : Int32)), (3, .int (1 : Int32)), (2, .int view), (0, .ref (a 0)), (1, .int view)]) hx hb d_C_widenedOverWalls_5 hl (by decide) rfl (fun ls hl => ?_)
  have e_7 : k_widenedOverWalls N K A view = k_widenedOverWalls_7 N K A 30 0 view (1 : Int32) := by rw [k_widenedOverWalls]
  rw [e_7]
  exact wk_widenedOverWalls_7 l D a cI cII N K A hN hKK view Sx hr hlk hP hK 30 0 (by omega) view (1 : Int32) ls (lv_sub hl [3, 4, 2, 1, 0] rfl)

def k_widenedOverOneDoor_4 (N K : Nat) (A : Nat → Nat → Int32) (view : Int32) : Nat → Nat → Int32 → Int32
  | 0, i, v2 => v2
  | k + 1, i, v2 => (if (k_doorLoss N K A (nI i) (2 : Int32)) = (-1 : Int32) then k_widenedOverOneDoor_4 N K A view k (i + 1) v2 else k_widenedOverOneDoor_4 N K A view k (i + 1) (v2 ||| (k_endsIfTouched view (A 6 (nI i).toNatClampNeg) (A 7 (nI i).toNatClampNeg))))
theorem k_widenedOverOneDoor_4_0 (N K : Nat) (A : Nat → Nat → Int32) (view : Int32) (i : Nat) (v2 : Int32) : k_widenedOverOneDoor_4 N K A view 0 i v2 = v2 := rfl
theorem k_widenedOverOneDoor_4_S (N K : Nat) (A : Nat → Nat → Int32) (view : Int32) (k i : Nat) (v2 : Int32) : k_widenedOverOneDoor_4 N K A view (k + 1) i v2 = (if (k_doorLoss N K A (nI i) (2 : Int32)) = (-1 : Int32) then k_widenedOverOneDoor_4 N K A view k (i + 1) v2 else k_widenedOverOneDoor_4 N K A view k (i + 1) (v2 ||| (k_endsIfTouched view (A 6 (nI i).toNatClampNeg) (A 7 (nI i).toNatClampNeg)))) := rfl
set_option maxHeartbeats 4000000 in
set_option maxRecDepth 100000 in
theorem wk_widenedOverOneDoor_4 (l : Launch) (D : va_G) (a : Nat → Nat) (cI cII : ClassId) (N K : Nat) (A : Nat → Nat → Int32) (hN : N ≤ 30) (hKK : K ≤ 10) (view : Int32) {p : Program} {e : Env} {s : State} {m : MethodId} {below : List Frame} {meth : Method} {c : Code} (Sx : CallFix p m c b_C_widenedOverOneDoor 4 s ([.ref (a 0), .int view] : List Value).toArray BW R_C) (hr : meth.sig.returnType = (some .int)) (hlk : meth.locks = false) (hP : va_P D classes (wC a cI cII (nI N) (nI K) A) s.heap) (hK : va_K D classes (tC cI cII) s) : ∀ (k i : Nat), i + k = K → ∀ (v2 : Int32) (ls : Array Slot), lv_has ls 4 [(0, .ref (a 0)), (1, .int view), (2, .int v2), (3, .int (nI i))] → W p l e ({ frames := 2, cells := 0, slots := 0, locals := 44 } : Room) s m ([.ref (a 0), .int view] : List Value).toArray below meth c s.heap [] 0 0 (MQ below (vp_Si (fun r => r = k_widenedOverOneDoor_4 N K A view k i v2)) ([.ref (a 0), .int view] : List Value).toArray s 0 0 (fun _ => False)) (F0 m 4 ls []) := by
  obtain ⟨hx, hb, hml, hown, hts⟩ := id Sx
  intro k
  induction k with
  | zero =>
    intro i hi v2 ls hl
    refine lv_iload_n hx hb d_C_widenedOverOneDoor_4 rfl (lv_at hl 3 rfl) ?_
    refine lv_aload_n hx hb d_C_widenedOverOneDoor_5 rfl (lv_at hl 0 rfl) ?_
    refine va_get (D := D) (ci := 0) (v := .int (nI K)) (C := R_C) (T := F_C) (N := 9) hx hb hts i_C hown hK hP 0 rfl rfl 4 (by decide) (hts _ fl_C_25) (fun _ h9 => h9) rfl d_C_widenedOverOneDoor_6 ?_
    refine lv_icmp_ge (tgt := 47) hx hb d_C_widenedOverOneDoor_9 (by decide) (fun c_9 => ?_) (fun c_9 => absurd (nI_le (a := K) (b := i) (by omega) (by omega)) c_9)
    refine lv_iload_n hx hb d_C_widenedOverOneDoor_47 rfl (lv_at hl 2 rfl) ?_
    exact roRet hx hb hr rfl hlk (show v2 = k_widenedOverOneDoor_4 N K A view 0 i v2 from by rw [k_widenedOverOneDoor_4_0]) d_C_widenedOverOneDoor_48
  | succ k ih =>
    intro i hi v2 ls hl
    refine lv_iload_n hx hb d_C_widenedOverOneDoor_4 rfl (lv_at hl 3 rfl) ?_
    refine lv_aload_n hx hb d_C_widenedOverOneDoor_5 rfl (lv_at hl 0 rfl) ?_
    refine va_get (D := D) (ci := 0) (v := .int (nI K)) (C := R_C) (T := F_C) (N := 9) hx hb hts i_C hown hK hP 0 rfl rfl 4 (by decide) (hts _ fl_C_25) (fun _ h9 => h9) rfl d_C_widenedOverOneDoor_6 ?_
    refine lv_icmp_ge (tgt := 47) hx hb d_C_widenedOverOneDoor_9 (by decide) (fun c_9 => absurd c_9 (nI_ge (a := i) (b := K) (by omega) (by omega))) (fun c_9 => ?_)
    refine lv_aload_n hx hb d_C_widenedOverOneDoor_12 rfl (lv_at hl 0 rfl) ?_
    refine lv_iload_n hx hb d_C_widenedOverOneDoor_13 rfl (lv_at hl 3 rfl) ?_
    refine lv_iconst (v := (2 : Int32)) hx hb d_C_widenedOverOneDoor_14 (by decide) ?_
    refine xro (As := [.int (nI i), .int (2 : Int32)]) (rest := []) Sx (ck_doorLoss l D a cI cII N K A hN hKK (nI i) (2 : Int32)) v_C_doorLoss ⟨rfl, rfl, Nat.le_of_ble_eq_true rfl, Nat.le_of_ble_eq_true rfl⟩ hK hP (ci := 0) (q0 := 0) rfl rfl rfl hl.1 rfl (Nat.le_of_ble_eq_true rfl) d_C_widenedOverOneDoor_15 ⟨Nat.le_of_ble_eq_true rfl, Nat.le_of_ble_eq_true rfl⟩ (fun r hq => ?_)
    subst hq
    refine lv_iconst (v := (-1 : Int32)) hx hb d_C_widenedOverOneDoor_18 (by decide) ?_
    refine lv_icmp_eq (tgt := 41) hx hb d_C_widenedOverOneDoor_19 (by decide) (fun c_19 => ?_) (fun c_19 => ?_)
    · refine lv_iinc (v := nI (i + 1)) (lv' := [(3, .int (nI (i + 1))), (0, .ref (a 0)), (1, .int view), (2, .int v2)]) hx hb d_C_widenedOverOneDoor_41 hl (k := 3) rfl (nI_1 i) (by decide) rfl (fun ls hl => ?_)
      refine lv_goto (tgt := 4) hx hb d_C_widenedOverOneDoor_44 (by decide) ?_
      have e_b : k_widenedOverOneDoor_4 N K A view (k + 1) i v2 = k_widenedOverOneDoor_4 N K A view k (i + 1) v2 := by rw [k_widenedOverOneDoor_4_S, if_pos c_19]
      rw [e_b]
      exact ih (i + 1) (by omega) v2 ls (lv_sub hl [1, 2, 3, 0] rfl)
    · refine lv_iload_n hx hb d_C_widenedOverOneDoor_22 rfl (lv_at hl 2 rfl) ?_
      refine lv_iload_n hx hb d_C_widenedOverOneDoor_23 rfl (lv_at hl 1 rfl) ?_
      refine lv_aload_n hx hb d_C_widenedOverOneDoor_24 rfl (lv_at hl 0 rfl) ?_
      refine va_get (D := D) (ci := 0) (v := .ref (a 8)) (C := R_C) (T := F_C) (N := 9) hx hb hts i_C hown hK hP 0 rfl rfl 5 (by decide) (hts _ fl_C_28) (fun _ h9 => h9) rfl d_C_widenedOverOneDoor_25 ?_
      refine lv_iload_n hx hb d_C_widenedOverOneDoor_28 rfl (lv_at hl 3 rfl) ?_
      refine va_iald (n := 10) hx hb hK hP 8 0 rfl rfl (vp_in_nI (by omega) (by omega)) d_C_widenedOverOneDoor_29 ?_
      refine lv_aload_n hx hb d_C_widenedOverOneDoor_30 rfl (lv_at hl 0 rfl) ?_
      refine va_get (D := D) (ci := 0) (v := .ref (a 9)) (C := R_C) (T := F_C) (N := 9) hx hb hts i_C hown hK hP 0 rfl rfl 6 (by decide) (hts _ fl_C_31) (fun _ h9 => h9) rfl d_C_widenedOverOneDoor_31 ?_
      refine lv_iload_n hx hb d_C_widenedOverOneDoor_34 rfl (lv_at hl 3 rfl) ?_
      refine va_iald (n := 10) hx hb hK hP 9 0 rfl rfl (vp_in_nI (by omega) (by omega)) d_C_widenedOverOneDoor_35 ?_
      refine xst (As := [.int view, .int (A 6 (nI i).toNatClampNeg), .int (A 7 (nI i).toNatClampNeg)]) (rest := [.int v2]) Sx (ck_endsIfTouched l view (A 6 (nI i).toNatClampNeg) (A 7 (nI i).toNatClampNeg)) v_C_endsIfTouched ⟨rfl, rfl, Nat.le_of_ble_eq_true rfl, Nat.le_of_ble_eq_true rfl⟩ rfl hl.1 rfl (Nat.le_of_ble_eq_true rfl) d_C_widenedOverOneDoor_36 ⟨Nat.le_of_ble_eq_true rfl, Nat.le_of_ble_eq_true rfl⟩ (fun r hq => ?_)
      subst hq
      refine lv_ior hx hb d_C_widenedOverOneDoor_39 ?_
      refine lv_istore_n (lv' := [(2, .int (v2 ||| (k_endsIfTouched view (A 6 (nI i).toNatClampNeg) (A 7 (nI i).toNatClampNeg)))), (0, .ref (a 0)), (1, .int view), (3, .int (nI i))]) hx hb d_C_widenedOverOneDoor_40 rfl hl (by decide) rfl (fun ls hl => ?_)
      refine lv_iinc (v := nI (i + 1)) (lv' := [(3, .int (nI (i + 1))), (2, .int (v2 ||| (k_endsIfTouched view (A 6 (nI i).toNatClampNeg) (A 7 (nI i).toNatClampNeg)))), (0, .ref (a 0)), (1, .int view)]) hx hb d_C_widenedOverOneDoor_41 hl (k := 3) rfl (nI_1 i) (by decide) rfl (fun ls hl => ?_)
      refine lv_goto (tgt := 4) hx hb d_C_widenedOverOneDoor_44 (by decide) ?_
      have e_b : k_widenedOverOneDoor_4 N K A view (k + 1) i v2 = k_widenedOverOneDoor_4 N K A view k (i + 1) (v2 ||| (k_endsIfTouched view (A 6 (nI i).toNatClampNeg) (A 7 (nI i).toNatClampNeg))) := by rw [k_widenedOverOneDoor_4_S, if_neg c_19]
      rw [e_b]
      exact ih (i + 1) (by omega) (v2 ||| (k_endsIfTouched view (A 6 (nI i).toNatClampNeg) (A 7 (nI i).toNatClampNeg))) ls (lv_sub hl [2, 3, 1, 0] rfl)
def k_widenedOverOneDoor (N K : Nat) (A : Nat → Nat → Int32) (view : Int32) : Int32 := k_widenedOverOneDoor_4 N K A view K 0 view
set_option maxHeartbeats 4000000 in
set_option maxRecDepth 100000 in
theorem ck_widenedOverOneDoor (l : Launch) (D : va_G) (a : Nat → Nat) (cI cII : ClassId) (N K : Nat) (A : Nat → Nat → Int32) (hN : N ≤ 30) (hKK : K ≤ 10) (view : Int32) : Met l y_C_widenedOverOneDoor (Cond.code y_C_widenedOverOneDoor b_C_widenedOverOneDoor 4 (some .int) :: BW) ({ frames := 2, cells := 0, slots := 0, locals := 44 } : Room) (PcR D (wC a cI cII (nI N) (nI K) A) (tC cI cII) [.ref (a 0), .int view]) (vp_Si (fun r => r = k_widenedOverOneDoor N K A view)) 0 0 (fun _ => False) := by
  refine roStart (by decide) rfl (Nat.le_of_ble_eq_true rfl) (fun p e s m below meth c Sx hr hlk hP hK ls hl => ?_)
  obtain ⟨hx, hb, hml, hown, hts⟩ := id Sx
  have hl : lv_has ls 4 [(0, .ref (a 0)), (1, .int view)] := hl
  refine lv_iload_n hx hb d_C_widenedOverOneDoor_0 rfl (lv_at hl 1 rfl) ?_
  refine lv_istore_n (lv' := [(2, .int view), (0, .ref (a 0)), (1, .int view)]) hx hb d_C_widenedOverOneDoor_1 rfl hl (by decide) rfl (fun ls hl => ?_)
  refine lv_iconst (v := (0 : Int32)) hx hb d_C_widenedOverOneDoor_2 (by decide) ?_
  refine lv_istore_n (lv' := [(3, .int (0 : Int32)), (2, .int view), (0, .ref (a 0)), (1, .int view)]) hx hb d_C_widenedOverOneDoor_3 rfl hl (by decide) rfl (fun ls hl => ?_)
  have e_4 : k_widenedOverOneDoor N K A view = k_widenedOverOneDoor_4 N K A view K 0 view := by rw [k_widenedOverOneDoor]
  rw [e_4]
  exact wk_widenedOverOneDoor_4 l D a cI cII N K A hN hKK view Sx hr hlk hP hK K 0 (by omega) view ls (lv_sub hl [2, 3, 1, 0] rfl)

def k_viewOf (N K : Nat) (A : Nat → Nat → Int32) (who : Int32) : Int32 := (if (k_spaceOf N K A who) = (-1 : Int32) then (0 : Int32) else k_widenedOverWalls N K A (k_widenedOverOneDoor N K A (k_widenedOverWalls N K A ((1 : Int32) <<< ((k_spaceOf N K A who) &&& 31)))))
set_option maxHeartbeats 4000000 in
set_option maxRecDepth 100000 in
theorem ck_viewOf (l : Launch) (D : va_G) (a : Nat → Nat) (cI cII : ClassId) (N K : Nat) (A : Nat → Nat → Int32) (hN : N ≤ 30) (hKK : K ≤ 10) (who : Int32) : Met l y_C_viewOf (Cond.code y_C_viewOf b_C_viewOf 4 (some .int) :: BW) ({ frames := 5, cells := 0, slots := 0, locals := 113 } : Room) (PcR D (wC a cI cII (nI N) (nI K) A) (tC cI cII) [.ref (a 0), .int who]) (vp_Si (fun r => r = k_viewOf N K A who)) 0 0 (fun _ => False) := by
  refine roStart (by decide) rfl (Nat.le_of_ble_eq_true rfl) (fun p e s m below meth c Sx hr hlk hP hK ls hl => ?_)
  obtain ⟨hx, hb, hml, hown, hts⟩ := id Sx
  have hl : lv_has ls 4 [(0, .ref (a 0)), (1, .int who)] := hl
  refine lv_aload_n hx hb d_C_viewOf_0 rfl (lv_at hl 0 rfl) ?_
  refine lv_iload_n hx hb d_C_viewOf_1 rfl (lv_at hl 1 rfl) ?_
  refine xro (As := [.int who]) (rest := []) Sx (ck_spaceOf l D a cI cII N K A hN hKK who) v_C_spaceOf ⟨rfl, rfl, Nat.le_of_ble_eq_true rfl, Nat.le_of_ble_eq_true rfl⟩ hK hP (ci := 0) (q0 := 0) rfl rfl rfl hl.1 rfl (Nat.le_of_ble_eq_true rfl) d_C_viewOf_2 ⟨Nat.le_of_ble_eq_true rfl, Nat.le_of_ble_eq_true rfl⟩ (fun r hq => ?_)
  subst hq
  refine lv_istore_n (lv' := [(2, .int (k_spaceOf N K A who)), (0, .ref (a 0)), (1, .int who)]) hx hb d_C_viewOf_5 rfl hl (by decide) rfl (fun ls hl => ?_)
  refine lv_iload_n hx hb d_C_viewOf_6 rfl (lv_at hl 0 rfl) ?_
  refine lv_iconst (v := (-1 : Int32)) hx hb d_C_viewOf_7 (by decide) ?_
  refine lv_icmp_ne (tgt := 13) hx hb d_C_viewOf_8 (by decide) (fun c_8 => ?_) (fun c_8 => ?_)
  · refine lv_aload_n hx hb d_C_viewOf_13 rfl (lv_at hl 1 rfl) ?_
    refine lv_iconst (v := (1 : Int32)) hx hb d_C_viewOf_14 (by decide) ?_
    refine lv_iload_n hx hb d_C_viewOf_15 rfl (lv_at hl 0 rfl) ?_
    refine lv_ishl hx hb d_C_viewOf_16 ?_
    refine xro (As := [.int ((1 : Int32) <<< ((k_spaceOf N K A who) &&& 31))]) (rest := []) Sx (ck_widenedOverWalls l D a cI cII N K A hN hKK ((1 : Int32) <<< ((k_spaceOf N K A who) &&& 31))) v_C_widenedOverWalls ⟨rfl, rfl, Nat.le_of_ble_eq_true rfl, Nat.le_of_ble_eq_true rfl⟩ hK hP (ci := 0) (q0 := 0) rfl rfl rfl hl.1 rfl (Nat.le_of_ble_eq_true rfl) d_C_viewOf_17 ⟨Nat.le_of_ble_eq_true rfl, Nat.le_of_ble_eq_true rfl⟩ (fun r hq => ?_)
    subst hq
    refine lv_istore_n (lv' := [(3, .int (k_widenedOverWalls N K A ((1 : Int32) <<< ((k_spaceOf N K A who) &&& 31)))), (2, .int (k_spaceOf N K A who)), (0, .ref (a 0)), (1, .int who)]) hx hb d_C_viewOf_20 rfl hl (by decide) rfl (fun ls hl => ?_)
    refine lv_aload_n hx hb d_C_viewOf_21 rfl (lv_at hl 2 rfl) ?_
    refine lv_aload_n hx hb d_C_viewOf_22 rfl (lv_at hl 2 rfl) ?_
    refine lv_iload_n hx hb d_C_viewOf_23 rfl (lv_at hl 0 rfl) ?_
    refine xro (As := [.int (k_widenedOverWalls N K A ((1 : Int32) <<< ((k_spaceOf N K A who) &&& 31)))]) (rest := [.ref (a 0)]) Sx (ck_widenedOverOneDoor l D a cI cII N K A hN hKK (k_widenedOverWalls N K A ((1 : Int32) <<< ((k_spaceOf N K A who) &&& 31)))) v_C_widenedOverOneDoor ⟨rfl, rfl, Nat.le_of_ble_eq_true rfl, Nat.le_of_ble_eq_true rfl⟩ hK hP (ci := 0) (q0 := 0) rfl rfl rfl hl.1 rfl (Nat.le_of_ble_eq_true rfl) d_C_viewOf_24 ⟨Nat.le_of_ble_eq_true rfl, Nat.le_of_ble_eq_true rfl⟩ (fun r hq => ?_)
    subst hq
    refine xro (As := [.int (k_widenedOverOneDoor N K A (k_widenedOverWalls N K A ((1 : Int32) <<< ((k_spaceOf N K A who) &&& 31))))]) (rest := []) Sx (ck_widenedOverWalls l D a cI cII N K A hN hKK (k_widenedOverOneDoor N K A (k_widenedOverWalls N K A ((1 : Int32) <<< ((k_spaceOf N K A who) &&& 31))))) v_C_widenedOverWalls ⟨rfl, rfl, Nat.le_of_ble_eq_true rfl, Nat.le_of_ble_eq_true rfl⟩ hK hP (ci := 0) (q0 := 0) rfl rfl rfl hl.1 rfl (Nat.le_of_ble_eq_true rfl) d_C_viewOf_27 ⟨Nat.le_of_ble_eq_true rfl, Nat.le_of_ble_eq_true rfl⟩ (fun r hq => ?_)
    subst hq
    exact roRet hx hb hr rfl hlk (show k_widenedOverWalls N K A (k_widenedOverOneDoor N K A (k_widenedOverWalls N K A ((1 : Int32) <<< ((k_spaceOf N K A who) &&& 31)))) = k_viewOf N K A who from by rw [k_viewOf, if_neg c_8]) d_C_viewOf_30
  · refine lv_iconst (v := (0 : Int32)) hx hb d_C_viewOf_11 (by decide) ?_
    exact roRet hx hb hr rfl hlk (show (0 : Int32) = k_viewOf N K A who from by rw [k_viewOf, if_pos c_8]) d_C_viewOf_12

def k_count (N K : Nat) (A : Nat → Nat → Int32) (what : Int32) : Int32 := (if what = (0 : Int32) then nI N else (if what = (1 : Int32) then nI K else (-3 : Int32)))
set_option maxHeartbeats 4000000 in
set_option maxRecDepth 100000 in
theorem ck_count (l : Launch) (D : va_G) (a : Nat → Nat) (cI cII : ClassId) (N K : Nat) (A : Nat → Nat → Int32) (hN : N ≤ 30) (hKK : K ≤ 10) (what : Int32) : Met l y_C_count (Cond.code y_C_count b_C_count 2 (some .int) :: BW) ({ frames := 0, cells := 0, slots := 0, locals := 0 } : Room) (PcR D (wC a cI cII (nI N) (nI K) A) (tC cI cII) [.ref (a 0), .int what]) (vp_Si (fun r => r = k_count N K A what)) 0 0 (fun _ => False) := by
  refine roStart (by decide) rfl (Nat.le_of_ble_eq_true rfl) (fun p e s m below meth c Sx hr hlk hP hK ls hl => ?_)
  obtain ⟨hx, hb, hml, hown, hts⟩ := id Sx
  have hl : lv_has ls 2 [(0, .ref (a 0)), (1, .int what)] := hl
  refine lv_iload_n hx hb d_C_count_0 rfl (lv_at hl 1 rfl) ?_
  by_cases c_1_0 : what = (0 : Int32)
  · refine lv_lookup (off := (27 : Int)) (tgt := 28) hx hb d_C_count_1 (by decide) (by rw [c_1_0]; rfl) (by decide) ?_
    refine lv_aload_n hx hb d_C_count_28 rfl (lv_at hl 0 rfl) ?_
    refine va_get (D := D) (ci := 0) (v := .int (nI N)) (C := R_C) (T := F_C) (N := 9) hx hb hts i_C hown hK hP 0 rfl rfl 0 (by decide) (hts _ fl_C_7) (fun _ h9 => h9) rfl d_C_count_29 ?_
    exact roRet hx hb hr rfl hlk (show nI N = k_count N K A what from by rw [k_count, if_pos c_1_0]) d_C_count_32
  · skip
    by_cases c_1_1 : what = (1 : Int32)
    · refine lv_lookup (off := (32 : Int)) (tgt := 33) hx hb d_C_count_1 (by decide) (by rw [c_1_1]; rfl) (by decide) ?_
      refine lv_aload_n hx hb d_C_count_33 rfl (lv_at hl 0 rfl) ?_
      refine va_get (D := D) (ci := 0) (v := .int (nI K)) (C := R_C) (T := F_C) (N := 9) hx hb hts i_C hown hK hP 0 rfl rfl 4 (by decide) (hts _ fl_C_25) (fun _ h9 => h9) rfl d_C_count_34 ?_
      exact roRet hx hb hr rfl hlk (show nI K = k_count N K A what from by rw [k_count, if_neg c_1_0, if_pos c_1_1]) d_C_count_37
    · skip
      refine lv_lookup (off := (37 : Int)) (tgt := 38) hx hb d_C_count_1 (by decide) (by show Op.lookupswitch.offset [(0, 27), (1, 32)] 37 _ = _; rw [lv_osw c_1_0 (by decide), lv_osw c_1_1 (by decide)]; rfl) (by decide) ?_
      refine lv_bipush (v := (-3 : Int32)) hx hb d_C_count_38 (by decide) ?_
      exact roRet hx hb hr rfl hlk (show (-3 : Int32) = k_count N K A what from by rw [k_count, if_neg c_1_0, if_neg c_1_1]) d_C_count_40

def k_told (N K : Nat) (A : Nat → Nat → Int32) (x what : Int32) : Int32 := (if (k_isThing N K A x) = (0 : Int32) then (-2 : Int32) else (if what = (0 : Int32) then k_sortOf N K A x else (if what = (1 : Int32) then k_holderOf N K A x else (if what = (2 : Int32) then k_spaceOf N K A x else (if what = (3 : Int32) then k_countHeldBy N K A x else (if what = (4 : Int32) then k_countWithin N K A x else (if what = (5 : Int32) then k_markOf N K A x (0 : Int32) else (if what = (6 : Int32) then k_markOf N K A x (1 : Int32) else (if what = (7 : Int32) then k_markOf N K A x (2 : Int32) else (if what = (8 : Int32) then k_markOf N K A x (3 : Int32) else (-3 : Int32)))))))))))
set_option maxHeartbeats 4000000 in
set_option maxRecDepth 100000 in
theorem ck_told (l : Launch) (D : va_G) (a : Nat → Nat) (cI cII : ClassId) (N K : Nat) (A : Nat → Nat → Int32) (hN : N ≤ 30) (hKK : K ≤ 10) (x what : Int32) : Met l y_C_told (Cond.code y_C_told b_C_told 3 (some .int) :: BW) ({ frames := 4, cells := 0, slots := 0, locals := 89 } : Room) (PcR D (wC a cI cII (nI N) (nI K) A) (tC cI cII) [.ref (a 0), .int x, .int what]) (vp_Si (fun r => r = k_told N K A x what)) 0 0 (fun _ => False) := by
  refine roStart (by decide) rfl (Nat.le_of_ble_eq_true rfl) (fun p e s m below meth c Sx hr hlk hP hK ls hl => ?_)
  obtain ⟨hx, hb, hml, hown, hts⟩ := id Sx
  have hl : lv_has ls 3 [(0, .ref (a 0)), (1, .int x), (2, .int what)] := hl
  refine lv_aload_n hx hb d_C_told_0 rfl (lv_at hl 0 rfl) ?_
  refine lv_iload_n hx hb d_C_told_1 rfl (lv_at hl 1 rfl) ?_
  refine xro (As := [.int x]) (rest := []) Sx (ck_isThing l D a cI cII N K A hN hKK x) v_C_isThing ⟨rfl, rfl, Nat.le_of_ble_eq_true rfl, Nat.le_of_ble_eq_true rfl⟩ hK hP (ci := 0) (q0 := 0) rfl rfl rfl hl.1 rfl (Nat.le_of_ble_eq_true rfl) d_C_told_2 ⟨Nat.le_of_ble_eq_true rfl, Nat.le_of_ble_eq_true rfl⟩ (fun r hq => ?_)
  subst hq
  refine lv_if_ne (tgt := 11) hx hb d_C_told_5 (by decide) (fun c_5 => ?_) (fun c_5 => ?_)
  · refine lv_iload_n hx hb d_C_told_11 rfl (lv_at hl 2 rfl) ?_
    by_cases c_12_0 : what = (0 : Int32)
    · refine lv_tableIn (off := (52 : Int)) (tgt := 64) hx hb d_C_told_12 (by rw [c_12_0]; decide) (by rw [c_12_0]; decide) (by rw [c_12_0]; rfl) (by decide) ?_
      refine lv_aload_n hx hb d_C_told_64 rfl (lv_at hl 0 rfl) ?_
      refine lv_iload_n hx hb d_C_told_65 rfl (lv_at hl 1 rfl) ?_
      refine xro (As := [.int x]) (rest := []) Sx (ck_sortOf l D a cI cII N K A hN hKK x) v_C_sortOf ⟨rfl, rfl, Nat.le_of_ble_eq_true rfl, Nat.le_of_ble_eq_true rfl⟩ hK hP (ci := 0) (q0 := 0) rfl rfl rfl hl.1 rfl (Nat.le_of_ble_eq_true rfl) d_C_told_66 ⟨Nat.le_of_ble_eq_true rfl, Nat.le_of_ble_eq_true rfl⟩ (fun r hq => ?_)
      subst hq
      exact roRet hx hb hr rfl hlk (show k_sortOf N K A x = k_told N K A x what from by rw [k_told, if_neg c_5, if_pos c_12_0]) d_C_told_69
    · skip
      by_cases c_12_1 : what = (1 : Int32)
      · refine lv_tableIn (off := (58 : Int)) (tgt := 70) hx hb d_C_told_12 (by rw [c_12_1]; decide) (by rw [c_12_1]; decide) (by rw [c_12_1]; rfl) (by decide) ?_
        refine lv_aload_n hx hb d_C_told_70 rfl (lv_at hl 0 rfl) ?_
        refine lv_iload_n hx hb d_C_told_71 rfl (lv_at hl 1 rfl) ?_
        refine xro (As := [.int x]) (rest := []) Sx (ck_holderOf l D a cI cII N K A hN hKK x) v_C_holderOf ⟨rfl, rfl, Nat.le_of_ble_eq_true rfl, Nat.le_of_ble_eq_true rfl⟩ hK hP (ci := 0) (q0 := 0) rfl rfl rfl hl.1 rfl (Nat.le_of_ble_eq_true rfl) d_C_told_72 ⟨Nat.le_of_ble_eq_true rfl, Nat.le_of_ble_eq_true rfl⟩ (fun r hq => ?_)
        subst hq
        exact roRet hx hb hr rfl hlk (show k_holderOf N K A x = k_told N K A x what from by rw [k_told, if_neg c_5, if_neg c_12_0, if_pos c_12_1]) d_C_told_75
      · skip
        by_cases c_12_2 : what = (2 : Int32)
        · refine lv_tableIn (off := (64 : Int)) (tgt := 76) hx hb d_C_told_12 (by rw [c_12_2]; decide) (by rw [c_12_2]; decide) (by rw [c_12_2]; rfl) (by decide) ?_
          refine lv_aload_n hx hb d_C_told_76 rfl (lv_at hl 0 rfl) ?_
          refine lv_iload_n hx hb d_C_told_77 rfl (lv_at hl 1 rfl) ?_
          refine xro (As := [.int x]) (rest := []) Sx (ck_spaceOf l D a cI cII N K A hN hKK x) v_C_spaceOf ⟨rfl, rfl, Nat.le_of_ble_eq_true rfl, Nat.le_of_ble_eq_true rfl⟩ hK hP (ci := 0) (q0 := 0) rfl rfl rfl hl.1 rfl (Nat.le_of_ble_eq_true rfl) d_C_told_78 ⟨Nat.le_of_ble_eq_true rfl, Nat.le_of_ble_eq_true rfl⟩ (fun r hq => ?_)
          subst hq
          exact roRet hx hb hr rfl hlk (show k_spaceOf N K A x = k_told N K A x what from by rw [k_told, if_neg c_5, if_neg c_12_0, if_neg c_12_1, if_pos c_12_2]) d_C_told_81
        · skip
          by_cases c_12_3 : what = (3 : Int32)
          · refine lv_tableIn (off := (70 : Int)) (tgt := 82) hx hb d_C_told_12 (by rw [c_12_3]; decide) (by rw [c_12_3]; decide) (by rw [c_12_3]; rfl) (by decide) ?_
            refine lv_aload_n hx hb d_C_told_82 rfl (lv_at hl 0 rfl) ?_
            refine lv_iload_n hx hb d_C_told_83 rfl (lv_at hl 1 rfl) ?_
            refine xro (As := [.int x]) (rest := []) Sx (ck_countHeldBy l D a cI cII N K A hN hKK x) v_C_countHeldBy ⟨rfl, rfl, Nat.le_of_ble_eq_true rfl, Nat.le_of_ble_eq_true rfl⟩ hK hP (ci := 0) (q0 := 0) rfl rfl rfl hl.1 rfl (Nat.le_of_ble_eq_true rfl) d_C_told_84 ⟨Nat.le_of_ble_eq_true rfl, Nat.le_of_ble_eq_true rfl⟩ (fun r hq => ?_)
            subst hq
            exact roRet hx hb hr rfl hlk (show k_countHeldBy N K A x = k_told N K A x what from by rw [k_told, if_neg c_5, if_neg c_12_0, if_neg c_12_1, if_neg c_12_2, if_pos c_12_3]) d_C_told_87
          · skip
            by_cases c_12_4 : what = (4 : Int32)
            · refine lv_tableIn (off := (76 : Int)) (tgt := 88) hx hb d_C_told_12 (by rw [c_12_4]; decide) (by rw [c_12_4]; decide) (by rw [c_12_4]; rfl) (by decide) ?_
              refine lv_aload_n hx hb d_C_told_88 rfl (lv_at hl 0 rfl) ?_
              refine lv_iload_n hx hb d_C_told_89 rfl (lv_at hl 1 rfl) ?_
              refine xro (As := [.int x]) (rest := []) Sx (ck_countWithin l D a cI cII N K A hN hKK x) v_C_countWithin ⟨rfl, rfl, Nat.le_of_ble_eq_true rfl, Nat.le_of_ble_eq_true rfl⟩ hK hP (ci := 0) (q0 := 0) rfl rfl rfl hl.1 rfl (Nat.le_of_ble_eq_true rfl) d_C_told_90 ⟨Nat.le_of_ble_eq_true rfl, Nat.le_of_ble_eq_true rfl⟩ (fun r hq => ?_)
              subst hq
              exact roRet hx hb hr rfl hlk (show k_countWithin N K A x = k_told N K A x what from by rw [k_told, if_neg c_5, if_neg c_12_0, if_neg c_12_1, if_neg c_12_2, if_neg c_12_3, if_pos c_12_4]) d_C_told_93
            · skip
              by_cases c_12_5 : what = (5 : Int32)
              · refine lv_tableIn (off := (82 : Int)) (tgt := 94) hx hb d_C_told_12 (by rw [c_12_5]; decide) (by rw [c_12_5]; decide) (by rw [c_12_5]; rfl) (by decide) ?_
                refine lv_aload_n hx hb d_C_told_94 rfl (lv_at hl 0 rfl) ?_
                refine lv_iload_n hx hb d_C_told_95 rfl (lv_at hl 1 rfl) ?_
                refine lv_iconst (v := (0 : Int32)) hx hb d_C_told_96 (by decide) ?_
                refine xro (As := [.int x, .int (0 : Int32)]) (rest := []) Sx (ck_markOf l D a cI cII N K A hN hKK x (0 : Int32)) v_C_markOf ⟨rfl, rfl, Nat.le_of_ble_eq_true rfl, Nat.le_of_ble_eq_true rfl⟩ hK hP (ci := 0) (q0 := 0) rfl rfl rfl hl.1 rfl (Nat.le_of_ble_eq_true rfl) d_C_told_97 ⟨Nat.le_of_ble_eq_true rfl, Nat.le_of_ble_eq_true rfl⟩ (fun r hq => ?_)
                subst hq
                exact roRet hx hb hr rfl hlk (show k_markOf N K A x (0 : Int32) = k_told N K A x what from by rw [k_told, if_neg c_5, if_neg c_12_0, if_neg c_12_1, if_neg c_12_2, if_neg c_12_3, if_neg c_12_4, if_pos c_12_5]) d_C_told_100
              · skip
                by_cases c_12_6 : what = (6 : Int32)
                · refine lv_tableIn (off := (89 : Int)) (tgt := 101) hx hb d_C_told_12 (by rw [c_12_6]; decide) (by rw [c_12_6]; decide) (by rw [c_12_6]; rfl) (by decide) ?_
                  refine lv_aload_n hx hb d_C_told_101 rfl (lv_at hl 0 rfl) ?_
                  refine lv_iload_n hx hb d_C_told_102 rfl (lv_at hl 1 rfl) ?_
                  refine lv_iconst (v := (1 : Int32)) hx hb d_C_told_103 (by decide) ?_
                  refine xro (As := [.int x, .int (1 : Int32)]) (rest := []) Sx (ck_markOf l D a cI cII N K A hN hKK x (1 : Int32)) v_C_markOf ⟨rfl, rfl, Nat.le_of_ble_eq_true rfl, Nat.le_of_ble_eq_true rfl⟩ hK hP (ci := 0) (q0 := 0) rfl rfl rfl hl.1 rfl (Nat.le_of_ble_eq_true rfl) d_C_told_104 ⟨Nat.le_of_ble_eq_true rfl, Nat.le_of_ble_eq_true rfl⟩ (fun r hq => ?_)
                  subst hq
                  exact roRet hx hb hr rfl hlk (show k_markOf N K A x (1 : Int32) = k_told N K A x what from by rw [k_told, if_neg c_5, if_neg c_12_0, if_neg c_12_1, if_neg c_12_2, if_neg c_12_3, if_neg c_12_4, if_neg c_12_5, if_pos c_12_6]) d_C_told_107
                · skip
                  by_cases c_12_7 : what = (7 : Int32)
                  · refine lv_tableIn (off := (96 : Int)) (tgt := 108) hx hb d_C_told_12 (by rw [c_12_7]; decide) (by rw [c_12_7]; decide) (by rw [c_12_7]; rfl) (by decide) ?_
                    refine lv_aload_n hx hb d_C_told_108 rfl (lv_at hl 0 rfl) ?_
                    refine lv_iload_n hx hb d_C_told_109 rfl (lv_at hl 1 rfl) ?_
                    refine lv_iconst (v := (2 : Int32)) hx hb d_C_told_110 (by decide) ?_
                    refine xro (As := [.int x, .int (2 : Int32)]) (rest := []) Sx (ck_markOf l D a cI cII N K A hN hKK x (2 : Int32)) v_C_markOf ⟨rfl, rfl, Nat.le_of_ble_eq_true rfl, Nat.le_of_ble_eq_true rfl⟩ hK hP (ci := 0) (q0 := 0) rfl rfl rfl hl.1 rfl (Nat.le_of_ble_eq_true rfl) d_C_told_111 ⟨Nat.le_of_ble_eq_true rfl, Nat.le_of_ble_eq_true rfl⟩ (fun r hq => ?_)
                    subst hq
                    exact roRet hx hb hr rfl hlk (show k_markOf N K A x (2 : Int32) = k_told N K A x what from by rw [k_told, if_neg c_5, if_neg c_12_0, if_neg c_12_1, if_neg c_12_2, if_neg c_12_3, if_neg c_12_4, if_neg c_12_5, if_neg c_12_6, if_pos c_12_7]) d_C_told_114
                  · skip
                    by_cases c_12_8 : what = (8 : Int32)
                    · refine lv_tableIn (off := (103 : Int)) (tgt := 115) hx hb d_C_told_12 (by rw [c_12_8]; decide) (by rw [c_12_8]; decide) (by rw [c_12_8]; rfl) (by decide) ?_
                      refine lv_aload_n hx hb d_C_told_115 rfl (lv_at hl 0 rfl) ?_
                      refine lv_iload_n hx hb d_C_told_116 rfl (lv_at hl 1 rfl) ?_
                      refine lv_iconst (v := (3 : Int32)) hx hb d_C_told_117 (by decide) ?_
                      refine xro (As := [.int x, .int (3 : Int32)]) (rest := []) Sx (ck_markOf l D a cI cII N K A hN hKK x (3 : Int32)) v_C_markOf ⟨rfl, rfl, Nat.le_of_ble_eq_true rfl, Nat.le_of_ble_eq_true rfl⟩ hK hP (ci := 0) (q0 := 0) rfl rfl rfl hl.1 rfl (Nat.le_of_ble_eq_true rfl) d_C_told_118 ⟨Nat.le_of_ble_eq_true rfl, Nat.le_of_ble_eq_true rfl⟩ (fun r hq => ?_)
                      subst hq
                      exact roRet hx hb hr rfl hlk (show k_markOf N K A x (3 : Int32) = k_told N K A x what from by rw [k_told, if_neg c_5, if_neg c_12_0, if_neg c_12_1, if_neg c_12_2, if_neg c_12_3, if_neg c_12_4, if_neg c_12_5, if_neg c_12_6, if_neg c_12_7, if_pos c_12_8]) d_C_told_121
                    · skip
                      refine lv_tableOut (tgt := 122) hx hb d_C_told_12 (by have h0 := lv_neT (a := 0) c_12_0 (by decide); have h1 := lv_neT (a := 1) c_12_1 (by decide); have h2 := lv_neT (a := 2) c_12_2 (by decide); have h3 := lv_neT (a := 3) c_12_3 (by decide); have h4 := lv_neT (a := 4) c_12_4 (by decide); have h5 := lv_neT (a := 5) c_12_5 (by decide); have h6 := lv_neT (a := 6) c_12_6 (by decide); have h7 := lv_neT (a := 7) c_12_7 (by decide); have h8 := lv_neT (a := 8) c_12_8 (by decide); omega) (by decide) ?_
                      refine lv_bipush (v := (-3 : Int32)) hx hb d_C_told_122 (by decide) ?_
                      exact roRet hx hb hr rfl hlk (show (-3 : Int32) = k_told N K A x what from by rw [k_told, if_neg c_5, if_neg c_12_0, if_neg c_12_1, if_neg c_12_2, if_neg c_12_3, if_neg c_12_4, if_neg c_12_5, if_neg c_12_6, if_neg c_12_7, if_neg c_12_8]) d_C_told_124
  · refine lv_bipush (v := (-2 : Int32)) hx hb d_C_told_8 (by decide) ?_
    exact roRet hx hb hr rfl hlk (show (-2 : Int32) = k_told N K A x what from by rw [k_told, if_pos c_5]) d_C_told_10

def k_held_16 (N K : Nat) (A : Nat → Nat → Int32) (x ix : Int32) : Nat → Nat → Int32 → Int32
  | 0, i, v3 => (-1 : Int32)
  | k + 1, i, v3 => (if (A 1 (nI i).toNatClampNeg) = x then (if v3 = ix then nI i else k_held_16 N K A x ix k (i + 1) (v3 + 1)) else k_held_16 N K A x ix k (i + 1) v3)
theorem k_held_16_0 (N K : Nat) (A : Nat → Nat → Int32) (x ix : Int32) (i : Nat) (v3 : Int32) : k_held_16 N K A x ix 0 i v3 = (-1 : Int32) := rfl
theorem k_held_16_S (N K : Nat) (A : Nat → Nat → Int32) (x ix : Int32) (k i : Nat) (v3 : Int32) : k_held_16 N K A x ix (k + 1) i v3 = (if (A 1 (nI i).toNatClampNeg) = x then (if v3 = ix then nI i else k_held_16 N K A x ix k (i + 1) (v3 + 1)) else k_held_16 N K A x ix k (i + 1) v3) := rfl
set_option maxHeartbeats 4000000 in
set_option maxRecDepth 100000 in
theorem wk_held_16 (l : Launch) (D : va_G) (a : Nat → Nat) (cI cII : ClassId) (N K : Nat) (A : Nat → Nat → Int32) (hN : N ≤ 30) (hKK : K ≤ 10) (x ix : Int32) {p : Program} {e : Env} {s : State} {m : MethodId} {below : List Frame} {meth : Method} {c : Code} (Sx : CallFix p m c b_C_held 5 s ([.ref (a 0), .int x, .int ix] : List Value).toArray BW R_C) (hr : meth.sig.returnType = (some .int)) (hlk : meth.locks = false) (hP : va_P D classes (wC a cI cII (nI N) (nI K) A) s.heap) (hK : va_K D classes (tC cI cII) s) : ∀ (k i : Nat), i + k = N → ∀ (v3 : Int32) (ls : Array Slot), lv_has ls 5 [(0, .ref (a 0)), (1, .int x), (2, .int ix), (3, .int v3), (4, .int (nI i))] → W p l e ({ frames := 1, cells := 0, slots := 0, locals := 21 } : Room) s m ([.ref (a 0), .int x, .int ix] : List Value).toArray below meth c s.heap [] 0 0 (MQ below (vp_Si (fun r => r = k_held_16 N K A x ix k i v3)) ([.ref (a 0), .int x, .int ix] : List Value).toArray s 0 0 (fun _ => False)) (F0 m 16 ls []) := by
  obtain ⟨hx, hb, hml, hown, hts⟩ := id Sx
  intro k
  induction k with
  | zero =>
    intro i hi v3 ls hl
    refine lv_iload hx hb d_C_held_16 (lv_at hl 4 rfl) ?_
    refine lv_aload_n hx hb d_C_held_18 rfl (lv_at hl 0 rfl) ?_
    refine va_get (D := D) (ci := 0) (v := .int (nI N)) (C := R_C) (T := F_C) (N := 9) hx hb hts i_C hown hK hP 0 rfl rfl 0 (by decide) (hts _ fl_C_7) (fun _ h9 => h9) rfl d_C_held_19 ?_
    refine lv_icmp_ge (tgt := 53) hx hb d_C_held_22 (by decide) (fun c_22 => ?_) (fun c_22 => absurd (nI_le (a := N) (b := i) (by omega) (by omega)) c_22)
    refine lv_iconst (v := (-1 : Int32)) hx hb d_C_held_53 (by decide) ?_
    exact roRet hx hb hr rfl hlk (show (-1 : Int32) = k_held_16 N K A x ix 0 i v3 from by rw [k_held_16_0]) d_C_held_54
  | succ k ih =>
    intro i hi v3 ls hl
    refine lv_iload hx hb d_C_held_16 (lv_at hl 4 rfl) ?_
    refine lv_aload_n hx hb d_C_held_18 rfl (lv_at hl 0 rfl) ?_
    refine va_get (D := D) (ci := 0) (v := .int (nI N)) (C := R_C) (T := F_C) (N := 9) hx hb hts i_C hown hK hP 0 rfl rfl 0 (by decide) (hts _ fl_C_7) (fun _ h9 => h9) rfl d_C_held_19 ?_
    refine lv_icmp_ge (tgt := 53) hx hb d_C_held_22 (by decide) (fun c_22 => absurd c_22 (nI_ge (a := i) (b := N) (by omega) (by omega))) (fun c_22 => ?_)
    refine lv_aload_n hx hb d_C_held_25 rfl (lv_at hl 0 rfl) ?_
    refine va_get (D := D) (ci := 0) (v := .ref (a 2)) (C := R_C) (T := F_C) (N := 9) hx hb hts i_C hown hK hP 0 rfl rfl 2 (by decide) (hts _ fl_C_17) (fun _ h9 => h9) rfl d_C_held_26 ?_
    refine lv_iload hx hb d_C_held_29 (lv_at hl 4 rfl) ?_
    refine va_iald (n := 30) hx hb hK hP 2 0 rfl rfl (vp_in_nI (by omega) (by omega)) d_C_held_31 ?_
    refine lv_iload_n hx hb d_C_held_32 rfl (lv_at hl 1 rfl) ?_
    refine lv_icmp_ne (tgt := 47) hx hb d_C_held_33 (by decide) (fun c_33 => ?_) (fun c_33 => ?_)
    · refine lv_iinc (v := nI (i + 1)) (lv' := [(4, .int (nI (i + 1))), (0, .ref (a 0)), (1, .int x), (2, .int ix), (3, .int v3)]) hx hb d_C_held_47 hl (k := 4) rfl (nI_1 i) (by decide) rfl (fun ls hl => ?_)
      refine lv_goto (tgt := 16) hx hb d_C_held_50 (by decide) ?_
      have e_b : k_held_16 N K A x ix (k + 1) i v3 = k_held_16 N K A x ix k (i + 1) v3 := by rw [k_held_16_S, if_neg c_33]
      rw [e_b]
      exact ih (i + 1) (by omega) v3 ls (lv_sub hl [1, 2, 3, 4, 0] rfl)
    · refine lv_iload_n hx hb d_C_held_36 rfl (lv_at hl 3 rfl) ?_
      refine lv_iload_n hx hb d_C_held_37 rfl (lv_at hl 2 rfl) ?_
      refine lv_icmp_ne (tgt := 44) hx hb d_C_held_38 (by decide) (fun c_38 => ?_) (fun c_38 => ?_)
      · refine lv_iinc (v := v3 + 1) (lv' := [(3, .int (v3 + 1)), (0, .ref (a 0)), (1, .int x), (2, .int ix), (4, .int (nI i))]) hx hb d_C_held_44 hl (k := 3) rfl (rfl) (by decide) rfl (fun ls hl => ?_)
        refine lv_iinc (v := nI (i + 1)) (lv' := [(4, .int (nI (i + 1))), (3, .int (v3 + 1)), (0, .ref (a 0)), (1, .int x), (2, .int ix)]) hx hb d_C_held_47 hl (k := 4) rfl (nI_1 i) (by decide) rfl (fun ls hl => ?_)
        refine lv_goto (tgt := 16) hx hb d_C_held_50 (by decide) ?_
        have e_b : k_held_16 N K A x ix (k + 1) i v3 = k_held_16 N K A x ix k (i + 1) (v3 + 1) := by rw [k_held_16_S, if_pos c_33, if_neg c_38]
        rw [e_b]
        exact ih (i + 1) (by omega) (v3 + 1) ls (lv_sub hl [2, 3, 4, 1, 0] rfl)
      · refine lv_iload hx hb d_C_held_41 (lv_at hl 4 rfl) ?_
        exact roRet hx hb hr rfl hlk (show nI i = k_held_16 N K A x ix (k + 1) i v3 from by rw [k_held_16_S, if_pos c_33, if_pos c_38]) d_C_held_43
def k_held (N K : Nat) (A : Nat → Nat → Int32) (x ix : Int32) : Int32 := (if (k_isThing N K A x) = (0 : Int32) then (-2 : Int32) else k_held_16 N K A x ix N 0 (0 : Int32))
set_option maxHeartbeats 4000000 in
set_option maxRecDepth 100000 in
theorem ck_held (l : Launch) (D : va_G) (a : Nat → Nat) (cI cII : ClassId) (N K : Nat) (A : Nat → Nat → Int32) (hN : N ≤ 30) (hKK : K ≤ 10) (x ix : Int32) : Met l y_C_held (Cond.code y_C_held b_C_held 5 (some .int) :: BW) ({ frames := 1, cells := 0, slots := 0, locals := 21 } : Room) (PcR D (wC a cI cII (nI N) (nI K) A) (tC cI cII) [.ref (a 0), .int x, .int ix]) (vp_Si (fun r => r = k_held N K A x ix)) 0 0 (fun _ => False) := by
  refine roStart (by decide) rfl (Nat.le_of_ble_eq_true rfl) (fun p e s m below meth c Sx hr hlk hP hK ls hl => ?_)
  obtain ⟨hx, hb, hml, hown, hts⟩ := id Sx
  have hl : lv_has ls 5 [(0, .ref (a 0)), (1, .int x), (2, .int ix)] := hl
  refine lv_aload_n hx hb d_C_held_0 rfl (lv_at hl 0 rfl) ?_
  refine lv_iload_n hx hb d_C_held_1 rfl (lv_at hl 1 rfl) ?_
  refine xro (As := [.int x]) (rest := []) Sx (ck_isThing l D a cI cII N K A hN hKK x) v_C_isThing ⟨rfl, rfl, Nat.le_of_ble_eq_true rfl, Nat.le_of_ble_eq_true rfl⟩ hK hP (ci := 0) (q0 := 0) rfl rfl rfl hl.1 rfl (Nat.le_of_ble_eq_true rfl) d_C_held_2 ⟨Nat.le_of_ble_eq_true rfl, Nat.le_of_ble_eq_true rfl⟩ (fun r hq => ?_)
  subst hq
  refine lv_if_ne (tgt := 11) hx hb d_C_held_5 (by decide) (fun c_5 => ?_) (fun c_5 => ?_)
  · refine lv_iconst (v := (0 : Int32)) hx hb d_C_held_11 (by decide) ?_
    refine lv_istore_n (lv' := [(3, .int (0 : Int32)), (0, .ref (a 0)), (1, .int x), (2, .int ix)]) hx hb d_C_held_12 rfl hl (by decide) rfl (fun ls hl => ?_)
    refine lv_iconst (v := (0 : Int32)) hx hb d_C_held_13 (by decide) ?_
    refine lv_istore (lv' := [(4, .int (0 : Int32)), (3, .int (0 : Int32)), (0, .ref (a 0)), (1, .int x), (2, .int ix)]) hx hb d_C_held_14 hl (by decide) rfl (fun ls hl => ?_)
    have e_16 : k_held N K A x ix = k_held_16 N K A x ix N 0 (0 : Int32) := by rw [k_held, if_neg c_5]
    rw [e_16]
    exact wk_held_16 l D a cI cII N K A hN hKK x ix Sx hr hlk hP hK N 0 (by omega) (0 : Int32) ls (lv_sub hl [2, 3, 4, 1, 0] rfl)
  · refine lv_bipush (v := (-2 : Int32)) hx hb d_C_held_8 (by decide) ?_
    exact roRet hx hb hr rfl hlk (show (-2 : Int32) = k_held N K A x ix from by rw [k_held, if_pos c_5]) d_C_held_10

def k_barrier (N K : Nat) (A : Nat → Nat → Int32) (who x : Int32) : Int32 := (if (k_isPerson N K A who) = (0 : Int32) then (-2 : Int32) else (if (k_isThing N K A x) = (0 : Int32) then (-2 : Int32) else (if who = x then (-1 : Int32) else k_firstBarrier N K A who x)))
set_option maxHeartbeats 4000000 in
set_option maxRecDepth 100000 in
theorem ck_barrier (l : Launch) (D : va_G) (a : Nat → Nat) (cI cII : ClassId) (N K : Nat) (A : Nat → Nat → Int32) (hN : N ≤ 30) (hKK : K ≤ 10) (who x : Int32) : Met l y_C_barrier (Cond.code y_C_barrier b_C_barrier 3 (some .int) :: BW) ({ frames := 5, cells := 0, slots := 0, locals := 114 } : Room) (PcR D (wC a cI cII (nI N) (nI K) A) (tC cI cII) [.ref (a 0), .int who, .int x]) (vp_Si (fun r => r = k_barrier N K A who x)) 0 0 (fun _ => False) := by
  refine roStart (by decide) rfl (Nat.le_of_ble_eq_true rfl) (fun p e s m below meth c Sx hr hlk hP hK ls hl => ?_)
  obtain ⟨hx, hb, hml, hown, hts⟩ := id Sx
  have hl : lv_has ls 3 [(0, .ref (a 0)), (1, .int who), (2, .int x)] := hl
  refine lv_aload_n hx hb d_C_barrier_0 rfl (lv_at hl 0 rfl) ?_
  refine lv_iload_n hx hb d_C_barrier_1 rfl (lv_at hl 1 rfl) ?_
  refine xro (As := [.int who]) (rest := []) Sx (ck_isPerson l D a cI cII N K A hN hKK who) v_C_isPerson ⟨rfl, rfl, Nat.le_of_ble_eq_true rfl, Nat.le_of_ble_eq_true rfl⟩ hK hP (ci := 0) (q0 := 0) rfl rfl rfl hl.1 rfl (Nat.le_of_ble_eq_true rfl) d_C_barrier_2 ⟨Nat.le_of_ble_eq_true rfl, Nat.le_of_ble_eq_true rfl⟩ (fun r hq => ?_)
  subst hq
  refine lv_if_eq (tgt := 16) hx hb d_C_barrier_5 (by decide) (fun c_5 => ?_) (fun c_5 => ?_)
  · refine lv_bipush (v := (-2 : Int32)) hx hb d_C_barrier_16 (by decide) ?_
    exact roRet hx hb hr rfl hlk (show (-2 : Int32) = k_barrier N K A who x from by rw [k_barrier, if_pos c_5]) d_C_barrier_18
  · refine lv_aload_n hx hb d_C_barrier_8 rfl (lv_at hl 0 rfl) ?_
    refine lv_iload_n hx hb d_C_barrier_9 rfl (lv_at hl 2 rfl) ?_
    refine xro (As := [.int x]) (rest := []) Sx (ck_isThing l D a cI cII N K A hN hKK x) v_C_isThing ⟨rfl, rfl, Nat.le_of_ble_eq_true rfl, Nat.le_of_ble_eq_true rfl⟩ hK hP (ci := 0) (q0 := 0) rfl rfl rfl hl.1 rfl (Nat.le_of_ble_eq_true rfl) d_C_barrier_10 ⟨Nat.le_of_ble_eq_true rfl, Nat.le_of_ble_eq_true rfl⟩ (fun r hq => ?_)
    subst hq
    refine lv_if_ne (tgt := 19) hx hb d_C_barrier_13 (by decide) (fun c_13 => ?_) (fun c_13 => ?_)
    · refine lv_iload_n hx hb d_C_barrier_19 rfl (lv_at hl 1 rfl) ?_
      refine lv_iload_n hx hb d_C_barrier_20 rfl (lv_at hl 2 rfl) ?_
      refine lv_icmp_ne (tgt := 28) hx hb d_C_barrier_21 (by decide) (fun c_21 => ?_) (fun c_21 => ?_)
      · refine lv_aload_n hx hb d_C_barrier_28 rfl (lv_at hl 0 rfl) ?_
        refine lv_iload_n hx hb d_C_barrier_29 rfl (lv_at hl 1 rfl) ?_
        refine lv_iload_n hx hb d_C_barrier_30 rfl (lv_at hl 2 rfl) ?_
        refine xro (As := [.int who, .int x]) (rest := []) Sx (ck_firstBarrier l D a cI cII N K A hN hKK who x) v_C_firstBarrier ⟨rfl, rfl, Nat.le_of_ble_eq_true rfl, Nat.le_of_ble_eq_true rfl⟩ hK hP (ci := 0) (q0 := 0) rfl rfl rfl hl.1 rfl (Nat.le_of_ble_eq_true rfl) d_C_barrier_31 ⟨Nat.le_of_ble_eq_true rfl, Nat.le_of_ble_eq_true rfl⟩ (fun r hq => ?_)
        subst hq
        exact roRet hx hb hr rfl hlk (show k_firstBarrier N K A who x = k_barrier N K A who x from by rw [k_barrier, if_neg c_5, if_neg c_13, if_neg c_21]) d_C_barrier_34
      · refine lv_iconst (v := (-1 : Int32)) hx hb d_C_barrier_24 (by decide) ?_
        refine lv_goto (tgt := 34) hx hb d_C_barrier_25 (by decide) ?_
        exact roRet hx hb hr rfl hlk (show (-1 : Int32) = k_barrier N K A who x from by rw [k_barrier, if_neg c_5, if_neg c_13, if_pos c_21]) d_C_barrier_34
    · refine lv_bipush (v := (-2 : Int32)) hx hb d_C_barrier_16 (by decide) ?_
      exact roRet hx hb hr rfl hlk (show (-2 : Int32) = k_barrier N K A who x from by rw [k_barrier, if_neg c_5, if_pos c_13]) d_C_barrier_18
end
section
def k_spreadOver (N K : Nat) (A : Nat → Nat → Int32) (x y loss : Int32) : Int32 × (Nat → Nat → Int32) := (if (k_isThing N K A x) = (0 : Int32) then ((0 : Int32), A) else (if (k_isThing N K A y) = (0 : Int32) then ((0 : Int32), A) else (if ((A 10 x.toNatClampNeg) - loss) ≤ (A 10 y.toNatClampNeg) then (if ((A 10 y.toNatClampNeg) - loss) ≤ (A 10 x.toNatClampNeg) then ((0 : Int32), A) else ((1 : Int32), sU A 10 x.toNatClampNeg ((A 10 y.toNatClampNeg) - loss))) else ((1 : Int32), sU A 10 y.toNatClampNeg ((A 10 x.toNatClampNeg) - loss)))))
set_option maxHeartbeats 4000000 in
set_option maxRecDepth 100000 in
theorem ck_spreadOver (l : Launch) (D : va_G) (a : Nat → Nat) (cI cII : ClassId) (N K : Nat) (A : Nat → Nat → Int32) (hN : N ≤ 30) (hKK : K ≤ 10) (Z : Nat → Prop) (x y loss : Int32) : Met l y_C_spreadOver (Cond.code y_C_spreadOver b_C_spreadOver 4 (some .boolean) :: BW) ({ frames := 1, cells := 0, slots := 0, locals := 21 } : Room) (PcW D Z (wC a cI cII (nI N) (nI K) A) (tC cI cII) [.ref (a 0), .int x, .int y, .int loss]) (va_Qi (fun r u => r = (k_spreadOver N K A x y loss).1 ∧ u = (k_spreadOver N K A x y loss).2) (atW D (fun u => wC a cI cII (nI N) (nI K) u) (tC cI cII)) Z) 0 0 Z := by
  refine wStart (by decide) rfl (Nat.le_of_ble_eq_true rfl) (fun p e s m below meth c Sx hr hlk hP hK hD hS ls hl => ?_)
  obtain ⟨hx, hb, hml, hown, hts⟩ := id Sx
  have hl : lv_has ls 4 [(0, .ref (a 0)), (1, .int x), (2, .int y), (3, .int loss)] := hl
  refine lv_aload_n hx hb d_C_spreadOver_0 rfl (lv_at hl 0 rfl) ?_
  refine lv_iload_n hx hb d_C_spreadOver_1 rfl (lv_at hl 1 rfl) ?_
  refine xro (As := [.int x]) (rest := []) Sx (ck_isThing l D a cI cII N K A hN hKK x) v_C_isThing ⟨rfl, rfl, Nat.le_of_ble_eq_true rfl, Nat.le_of_ble_eq_true rfl⟩ hK hP (ci := 0) (q0 := 0) rfl rfl rfl hl.1 rfl (Nat.le_of_ble_eq_true rfl) d_C_spreadOver_2 ⟨Nat.le_of_ble_eq_true rfl, Nat.le_of_ble_eq_true rfl⟩ (fun r hq => ?_)
  subst hq
  refine lv_if_eq (tgt := 16) hx hb d_C_spreadOver_5 (by decide) (fun c_5 => ?_) (fun c_5 => ?_)
  · refine lv_iconst (v := (0 : Int32)) hx hb d_C_spreadOver_16 (by decide) ?_
    exact wRet (u := A) hx hb hr (by first | rfl | decide) hlk (show (0 : Int32) = (k_spreadOver N K A x y loss).1 ∧ A = (k_spreadOver N K A x y loss).2 from by rw [k_spreadOver, if_pos c_5]; exact ⟨rfl, rfl⟩) hP hK hS d_C_spreadOver_17
  · refine lv_aload_n hx hb d_C_spreadOver_8 rfl (lv_at hl 0 rfl) ?_
    refine lv_iload_n hx hb d_C_spreadOver_9 rfl (lv_at hl 2 rfl) ?_
    refine xro (As := [.int y]) (rest := []) Sx (ck_isThing l D a cI cII N K A hN hKK y) v_C_isThing ⟨rfl, rfl, Nat.le_of_ble_eq_true rfl, Nat.le_of_ble_eq_true rfl⟩ hK hP (ci := 0) (q0 := 0) rfl rfl rfl hl.1 rfl (Nat.le_of_ble_eq_true rfl) d_C_spreadOver_10 ⟨Nat.le_of_ble_eq_true rfl, Nat.le_of_ble_eq_true rfl⟩ (fun r hq => ?_)
    subst hq
    refine lv_if_ne (tgt := 18) hx hb d_C_spreadOver_13 (by decide) (fun c_13 => ?_) (fun c_13 => ?_)
    · refine lv_aload_n hx hb d_C_spreadOver_18 rfl (lv_at hl 0 rfl) ?_
      refine va_get (D := D) (ci := 0) (v := .ref (a 13)) (C := R_C) (T := F_C) (N := 9) hx hb hts i_C hown hK hP 0 rfl rfl 8 (by decide) (hts _ fl_C_37) (fun _ h9 => h9) rfl d_C_spreadOver_19 ?_
      refine lv_iload_n hx hb d_C_spreadOver_22 rfl (lv_at hl 1 rfl) ?_
      refine va_iald (n := 30) hx hb hK hP 13 0 rfl rfl (in_isThing hN c_5) d_C_spreadOver_23 ?_
      refine lv_iload_n hx hb d_C_spreadOver_24 rfl (lv_at hl 3 rfl) ?_
      refine lv_isub hx hb d_C_spreadOver_25 ?_
      refine lv_aload_n hx hb d_C_spreadOver_26 rfl (lv_at hl 0 rfl) ?_
      refine va_get (D := D) (ci := 0) (v := .ref (a 13)) (C := R_C) (T := F_C) (N := 9) hx hb hts i_C hown hK hP 0 rfl rfl 8 (by decide) (hts _ fl_C_37) (fun _ h9 => h9) rfl d_C_spreadOver_27 ?_
      refine lv_iload_n hx hb d_C_spreadOver_30 rfl (lv_at hl 2 rfl) ?_
      refine va_iald (n := 30) hx hb hK hP 13 0 rfl rfl (in_isThing hN c_13) d_C_spreadOver_31 ?_
      refine lv_icmp_le (tgt := 51) hx hb d_C_spreadOver_32 (by decide) (fun c_32 => ?_) (fun c_32 => ?_)
      · refine lv_aload_n hx hb d_C_spreadOver_51 rfl (lv_at hl 0 rfl) ?_
        refine va_get (D := D) (ci := 0) (v := .ref (a 13)) (C := R_C) (T := F_C) (N := 9) hx hb hts i_C hown hK hP 0 rfl rfl 8 (by decide) (hts _ fl_C_37) (fun _ h9 => h9) rfl d_C_spreadOver_52 ?_
        refine lv_iload_n hx hb d_C_spreadOver_55 rfl (lv_at hl 2 rfl) ?_
        refine va_iald (n := 30) hx hb hK hP 13 0 rfl rfl (in_isThing hN c_13) d_C_spreadOver_56 ?_
        refine lv_iload_n hx hb d_C_spreadOver_57 rfl (lv_at hl 3 rfl) ?_
        refine lv_isub hx hb d_C_spreadOver_58 ?_
        refine lv_aload_n hx hb d_C_spreadOver_59 rfl (lv_at hl 0 rfl) ?_
        refine va_get (D := D) (ci := 0) (v := .ref (a 13)) (C := R_C) (T := F_C) (N := 9) hx hb hts i_C hown hK hP 0 rfl rfl 8 (by decide) (hts _ fl_C_37) (fun _ h9 => h9) rfl d_C_spreadOver_60 ?_
        refine lv_iload_n hx hb d_C_spreadOver_63 rfl (lv_at hl 1 rfl) ?_
        refine va_iald (n := 30) hx hb hK hP 13 0 rfl rfl (in_isThing hN c_5) d_C_spreadOver_64 ?_
        refine lv_icmp_le (tgt := 84) hx hb d_C_spreadOver_65 (by decide) (fun c_65 => ?_) (fun c_65 => ?_)
        · refine lv_iconst (v := (0 : Int32)) hx hb d_C_spreadOver_84 (by decide) ?_
          exact wRet (u := A) hx hb hr (by first | rfl | decide) hlk (show (0 : Int32) = (k_spreadOver N K A x y loss).1 ∧ A = (k_spreadOver N K A x y loss).2 from by rw [k_spreadOver, if_neg c_5, if_neg c_13, if_pos c_32, if_pos c_65]; exact ⟨rfl, rfl⟩) hP hK hS d_C_spreadOver_85
        · refine lv_aload_n hx hb d_C_spreadOver_68 rfl (lv_at hl 0 rfl) ?_
          refine va_get (D := D) (ci := 0) (v := .ref (a 13)) (C := R_C) (T := F_C) (N := 9) hx hb hts i_C hown hK hP 0 rfl rfl 8 (by decide) (hts _ fl_C_37) (fun _ h9 => h9) rfl d_C_spreadOver_69 ?_
          refine lv_iload_n hx hb d_C_spreadOver_72 rfl (lv_at hl 1 rfl) ?_
          refine lv_aload_n hx hb d_C_spreadOver_73 rfl (lv_at hl 0 rfl) ?_
          refine va_get (D := D) (ci := 0) (v := .ref (a 13)) (C := R_C) (T := F_C) (N := 9) hx hb hts i_C hown hK hP 0 rfl rfl 8 (by decide) (hts _ fl_C_37) (fun _ h9 => h9) rfl d_C_spreadOver_74 ?_
          refine lv_iload_n hx hb d_C_spreadOver_77 rfl (lv_at hl 2 rfl) ?_
          refine va_iald (n := 30) hx hb hK hP 13 0 rfl rfl (in_isThing hN c_13) d_C_spreadOver_78 ?_
          refine lv_iload_n hx hb d_C_spreadOver_79 rfl (lv_at hl 3 rfl) ?_
          refine lv_isub hx hb d_C_spreadOver_80 ?_
          refine va_iast (n := 30) hx hb hK hP (wC_D hD) hS 13 0 rfl rfl (in_isThing hN c_5) d_C_spreadOver_81 (fun H locs hP _ hS => ?_)
          have hP : va_P D classes (wC a cI cII (nI N) (nI K) (sU A 10 x.toNatClampNeg ((A 10 y.toNatClampNeg) - loss))) H := hP
          refine lv_iconst (v := (1 : Int32)) hx hb d_C_spreadOver_82 (by decide) ?_
          exact wRet (u := sU A 10 x.toNatClampNeg ((A 10 y.toNatClampNeg) - loss)) hx hb hr (by first | rfl | decide) hlk (show (1 : Int32) = (k_spreadOver N K A x y loss).1 ∧ sU A 10 x.toNatClampNeg ((A 10 y.toNatClampNeg) - loss) = (k_spreadOver N K A x y loss).2 from by rw [k_spreadOver, if_neg c_5, if_neg c_13, if_pos c_32, if_neg c_65]; exact ⟨rfl, rfl⟩) hP hK hS d_C_spreadOver_83
      · refine lv_aload_n hx hb d_C_spreadOver_35 rfl (lv_at hl 0 rfl) ?_
        refine va_get (D := D) (ci := 0) (v := .ref (a 13)) (C := R_C) (T := F_C) (N := 9) hx hb hts i_C hown hK hP 0 rfl rfl 8 (by decide) (hts _ fl_C_37) (fun _ h9 => h9) rfl d_C_spreadOver_36 ?_
        refine lv_iload_n hx hb d_C_spreadOver_39 rfl (lv_at hl 2 rfl) ?_
        refine lv_aload_n hx hb d_C_spreadOver_40 rfl (lv_at hl 0 rfl) ?_
        refine va_get (D := D) (ci := 0) (v := .ref (a 13)) (C := R_C) (T := F_C) (N := 9) hx hb hts i_C hown hK hP 0 rfl rfl 8 (by decide) (hts _ fl_C_37) (fun _ h9 => h9) rfl d_C_spreadOver_41 ?_
        refine lv_iload_n hx hb d_C_spreadOver_44 rfl (lv_at hl 1 rfl) ?_
        refine va_iald (n := 30) hx hb hK hP 13 0 rfl rfl (in_isThing hN c_5) d_C_spreadOver_45 ?_
        refine lv_iload_n hx hb d_C_spreadOver_46 rfl (lv_at hl 3 rfl) ?_
        refine lv_isub hx hb d_C_spreadOver_47 ?_
        refine va_iast (n := 30) hx hb hK hP (wC_D hD) hS 13 0 rfl rfl (in_isThing hN c_13) d_C_spreadOver_48 (fun H locs hP _ hS => ?_)
        have hP : va_P D classes (wC a cI cII (nI N) (nI K) (sU A 10 y.toNatClampNeg ((A 10 x.toNatClampNeg) - loss))) H := hP
        refine lv_iconst (v := (1 : Int32)) hx hb d_C_spreadOver_49 (by decide) ?_
        exact wRet (u := sU A 10 y.toNatClampNeg ((A 10 x.toNatClampNeg) - loss)) hx hb hr (by first | rfl | decide) hlk (show (1 : Int32) = (k_spreadOver N K A x y loss).1 ∧ sU A 10 y.toNatClampNeg ((A 10 x.toNatClampNeg) - loss) = (k_spreadOver N K A x y loss).2 from by rw [k_spreadOver, if_neg c_5, if_neg c_13, if_neg c_32]; exact ⟨rfl, rfl⟩) hP hK hS d_C_spreadOver_50
    · refine lv_iconst (v := (0 : Int32)) hx hb d_C_spreadOver_16 (by decide) ?_
      exact wRet (u := A) hx hb hr (by first | rfl | decide) hlk (show (0 : Int32) = (k_spreadOver N K A x y loss).1 ∧ A = (k_spreadOver N K A x y loss).2 from by rw [k_spreadOver, if_neg c_5, if_pos c_13]; exact ⟨rfl, rfl⟩) hP hK hS d_C_spreadOver_17

def k_spread_19 (N K : Nat) (mk : Int32) : Nat → Nat → (Nat → Nat → Int32) → Int32 → (Nat → Nat → Int32) × Int32
  | 0, i, A1, v2 => (A1, v2)
  | k + 1, i, A1, v2 => (if (k_wallLoss N K A1 (nI i) mk) = (-1 : Int32) then k_spread_19 N K mk k (i + 1) A1 v2 else (if ((k_spreadOver N K A1 (nI i) (k_spaceOf N K A1 (nI i)) (k_wallLoss N K A1 (nI i) mk)).1) = (0 : Int32) then k_spread_19 N K mk k (i + 1) ((k_spreadOver N K A1 (nI i) (k_spaceOf N K A1 (nI i)) (k_wallLoss N K A1 (nI i) mk)).2) v2 else k_spread_19 N K mk k (i + 1) ((k_spreadOver N K A1 (nI i) (k_spaceOf N K A1 (nI i)) (k_wallLoss N K A1 (nI i) mk)).2) (1 : Int32)))
theorem k_spread_19_0 (N K : Nat) (mk : Int32) (i : Nat) (A1 : (Nat → Nat → Int32)) (v2 : Int32) : k_spread_19 N K mk 0 i A1 v2 = (A1, v2) := rfl
theorem k_spread_19_S (N K : Nat) (mk : Int32) (k i : Nat) (A1 : (Nat → Nat → Int32)) (v2 : Int32) : k_spread_19 N K mk (k + 1) i A1 v2 = (if (k_wallLoss N K A1 (nI i) mk) = (-1 : Int32) then k_spread_19 N K mk k (i + 1) A1 v2 else (if ((k_spreadOver N K A1 (nI i) (k_spaceOf N K A1 (nI i)) (k_wallLoss N K A1 (nI i) mk)).1) = (0 : Int32) then k_spread_19 N K mk k (i + 1) ((k_spreadOver N K A1 (nI i) (k_spaceOf N K A1 (nI i)) (k_wallLoss N K A1 (nI i) mk)).2) v2 else k_spread_19 N K mk k (i + 1) ((k_spreadOver N K A1 (nI i) (k_spaceOf N K A1 (nI i)) (k_wallLoss N K A1 (nI i) mk)).2) (1 : Int32))) := rfl
set_option maxHeartbeats 4000000 in
set_option maxRecDepth 100000 in
theorem wk_spread_19 (l : Launch) (D : va_G) (a : Nat → Nat) (cI cII : ClassId) (N K : Nat) (A : Nat → Nat → Int32) (hN : N ≤ 30) (hKK : K ≤ 10) (Z : Nat → Prop) (mk u3 : Int32) {p : Program} {e : Env} {s : State} {m : MethodId} {below : List Frame} {meth : Method} {c : Code} {Q : State → Prop} (Sx : CallFix p m c b_C_spread 6 s ([.ref (a 0), .int mk] : List Value).toArray BW R_C) (hD : va_D Z (wC a cI cII (nI N) (nI K) A)) (hK : va_K D classes (tC cI cII) s) : ∀ (k i : Nat), i + k = N → ∀ (A1 : (Nat → Nat → Int32)) (v2 : Int32) (H : Heap) (locs : List Loc) (ls : Array Slot), va_P D classes (wC a cI cII (nI N) (nI K) A1) H → va_S Z s.heap H locs → lv_has ls 6 [(0, .ref (a 0)), (1, .int mk), (2, .int v2), (3, .int u3), (4, .int (nI i))] → (∀ (H : Heap) (locs : List Loc) (ls : Array Slot), va_P D classes (wC a cI cII (nI N) (nI K) ((k_spread_19 N K mk k i A1 v2).1)) H → va_S Z s.heap H locs → lv_has ls 6 [(0, .ref (a 0)), (1, .int mk), (2, .int ((k_spread_19 N K mk k i A1 v2).2)), (3, .int u3)] → W p l e ({ frames := 4, cells := 0, slots := 0, locals := 87 } : Room) s m ([.ref (a 0), .int mk] : List Value).toArray below meth c H locs 0 0 Q (F0 m 68 ls [])) → W p l e ({ frames := 4, cells := 0, slots := 0, locals := 87 } : Room) s m ([.ref (a 0), .int mk] : List Value).toArray below meth c H locs 0 0 Q (F0 m 19 ls []) := by
  obtain ⟨hx, hb, hml, hown, hts⟩ := id Sx
  intro k
  induction k with
  | zero =>
    intro i hi A1 v2 H locs ls hP hS hl hk
    refine lv_iload hx hb d_C_spread_19 (lv_at hl 4 rfl) ?_
    refine lv_aload_n hx hb d_C_spread_21 rfl (lv_at hl 0 rfl) ?_
    refine va_get (D := D) (ci := 0) (v := .int (nI N)) (C := R_C) (T := F_C) (N := 9) hx hb hts i_C hown hK hP 0 rfl rfl 0 (by decide) (hts _ fl_C_7) (fun _ h9 => h9) rfl d_C_spread_22 ?_
    refine lv_icmp_ge (tgt := 68) hx hb d_C_spread_25 (by decide) (fun c_25 => ?_) (fun c_25 => absurd (nI_le (a := N) (b := i) (by omega) (by omega)) c_25)
    have e_b : k_spread_19 N K mk 0 i A1 v2 = (A1, v2) := by rw [k_spread_19_0]
    rw [e_b] at hk
    exact hk _ _ ls hP hS (lv_sub hl [0, 1, 2, 3] rfl)
  | succ k ih =>
    intro i hi A1 v2 H locs ls hP hS hl hk
    refine lv_iload hx hb d_C_spread_19 (lv_at hl 4 rfl) ?_
    refine lv_aload_n hx hb d_C_spread_21 rfl (lv_at hl 0 rfl) ?_
    refine va_get (D := D) (ci := 0) (v := .int (nI N)) (C := R_C) (T := F_C) (N := 9) hx hb hts i_C hown hK hP 0 rfl rfl 0 (by decide) (hts _ fl_C_7) (fun _ h9 => h9) rfl d_C_spread_22 ?_
    refine lv_icmp_ge (tgt := 68) hx hb d_C_spread_25 (by decide) (fun c_25 => absurd c_25 (nI_ge (a := i) (b := N) (by omega) (by omega))) (fun c_25 => ?_)
    refine lv_aload_n hx hb d_C_spread_28 rfl (lv_at hl 0 rfl) ?_
    refine lv_iload hx hb d_C_spread_29 (lv_at hl 4 rfl) ?_
    refine lv_iload_n hx hb d_C_spread_31 rfl (lv_at hl 1 rfl) ?_
    refine xro (As := [.int (nI i), .int mk]) (rest := []) Sx (ck_wallLoss l D a cI cII N K A1 hN hKK (nI i) mk) v_C_wallLoss ⟨rfl, rfl, Nat.le_of_ble_eq_true rfl, Nat.le_of_ble_eq_true rfl⟩ hK hP (ci := 0) (q0 := 0) rfl rfl rfl hl.1 rfl (Nat.le_of_ble_eq_true rfl) d_C_spread_32 ⟨Nat.le_of_ble_eq_true rfl, Nat.le_of_ble_eq_true rfl⟩ (fun r hq => ?_)
    subst hq
    refine lv_istore (lv' := [(5, .int (k_wallLoss N K A1 (nI i) mk)), (0, .ref (a 0)), (1, .int mk), (2, .int v2), (3, .int u3), (4, .int (nI i))]) hx hb d_C_spread_35 hl (by decide) rfl (fun ls hl => ?_)
    refine lv_iload hx hb d_C_spread_37 (lv_at hl 0 rfl) ?_
    refine lv_iconst (v := (-1 : Int32)) hx hb d_C_spread_39 (by decide) ?_
    refine lv_icmp_eq (tgt := 62) hx hb d_C_spread_40 (by decide) (fun c_40 => ?_) (fun c_40 => ?_)
    · refine lv_iinc (v := nI (i + 1)) (lv' := [(4, .int (nI (i + 1))), (5, .int (k_wallLoss N K A1 (nI i) mk)), (0, .ref (a 0)), (1, .int mk), (2, .int v2), (3, .int u3)]) hx hb d_C_spread_62 hl (k := 5) rfl (nI_1 i) (by decide) rfl (fun ls hl => ?_)
      refine lv_goto (tgt := 19) hx hb d_C_spread_65 (by decide) ?_
      have e_b : k_spread_19 N K mk (k + 1) i A1 v2 = k_spread_19 N K mk k (i + 1) A1 v2 := by rw [k_spread_19_S, if_pos c_40]
      rw [e_b] at hk
      exact ih (i + 1) (by omega) A1 v2 _ _ ls hP hS (lv_sub hl [2, 3, 4, 5, 0] rfl) hk
    · refine lv_aload_n hx hb d_C_spread_43 rfl (lv_at hl 1 rfl) ?_
      refine lv_iload hx hb d_C_spread_44 (lv_at hl 5 rfl) ?_
      refine lv_aload_n hx hb d_C_spread_46 rfl (lv_at hl 1 rfl) ?_
      refine lv_iload hx hb d_C_spread_47 (lv_at hl 5 rfl) ?_
      refine xro (As := [.int (nI i)]) (rest := [.int (nI i), .ref (a 0)]) Sx (ck_spaceOf l D a cI cII N K A1 hN hKK (nI i)) v_C_spaceOf ⟨rfl, rfl, Nat.le_of_ble_eq_true rfl, Nat.le_of_ble_eq_true rfl⟩ hK hP (ci := 0) (q0 := 0) rfl rfl rfl hl.1 rfl (Nat.le_of_ble_eq_true rfl) d_C_spread_49 ⟨Nat.le_of_ble_eq_true rfl, Nat.le_of_ble_eq_true rfl⟩ (fun r hq => ?_)
      subst hq
      refine lv_iload hx hb d_C_spread_52 (lv_at hl 0 rfl) ?_
      refine xwi (As := [.int (nI i), .int (k_spaceOf N K A1 (nI i)), .int (k_wallLoss N K A1 (nI i) mk)]) (rest := []) Sx (ck_spreadOver l D a cI cII N K A1 hN hKK Z (nI i) (k_spaceOf N K A1 (nI i)) (k_wallLoss N K A1 (nI i) mk)) v_C_spreadOver ⟨rfl, rfl, Nat.le_of_ble_eq_true rfl, Nat.le_of_ble_eq_true rfl⟩ hK hP (ci := 0) (q0 := 0) rfl rfl (wC_D hD) hS (fun _ h => h) rfl hl.1 rfl (Nat.le_of_ble_eq_true rfl) d_C_spread_54 ⟨Nat.le_of_ble_eq_true rfl, Nat.le_of_ble_eq_true rfl⟩ (fun r u H locs hu hP hS => ?_)
      obtain ⟨rfl, rfl⟩ := hu
      have hP : va_P D classes (wC a cI cII (nI N) (nI K) ((k_spreadOver N K A1 (nI i) (k_spaceOf N K A1 (nI i)) (k_wallLoss N K A1 (nI i) mk)).2)) H := hP
      refine lv_if_eq (tgt := 62) hx hb d_C_spread_57 (by decide) (fun c_57 => ?_) (fun c_57 => ?_)
      · refine lv_iinc (v := nI (i + 1)) (lv' := [(4, .int (nI (i + 1))), (5, .int (k_wallLoss N K A1 (nI i) mk)), (0, .ref (a 0)), (1, .int mk), (2, .int v2), (3, .int u3)]) hx hb d_C_spread_62 hl (k := 5) rfl (nI_1 i) (by decide) rfl (fun ls hl => ?_)
        refine lv_goto (tgt := 19) hx hb d_C_spread_65 (by decide) ?_
        have e_b : k_spread_19 N K mk (k + 1) i A1 v2 = k_spread_19 N K mk k (i + 1) ((k_spreadOver N K A1 (nI i) (k_spaceOf N K A1 (nI i)) (k_wallLoss N K A1 (nI i) mk)).2) v2 := by rw [k_spread_19_S, if_neg c_40, if_pos c_57]
        rw [e_b] at hk
        exact ih (i + 1) (by omega) ((k_spreadOver N K A1 (nI i) (k_spaceOf N K A1 (nI i)) (k_wallLoss N K A1 (nI i) mk)).2) v2 _ _ ls hP hS (lv_sub hl [2, 3, 4, 5, 0] rfl) hk
      · refine lv_iconst (v := (1 : Int32)) hx hb d_C_spread_60 (by decide) ?_
        refine lv_istore_n (lv' := [(2, .int (1 : Int32)), (5, .int (k_wallLoss N K A1 (nI i) mk)), (0, .ref (a 0)), (1, .int mk), (3, .int u3), (4, .int (nI i))]) hx hb d_C_spread_61 rfl hl (by decide) rfl (fun ls hl => ?_)
        refine lv_iinc (v := nI (i + 1)) (lv' := [(4, .int (nI (i + 1))), (2, .int (1 : Int32)), (5, .int (k_wallLoss N K A1 (nI i) mk)), (0, .ref (a 0)), (1, .int mk), (3, .int u3)]) hx hb d_C_spread_62 hl (k := 5) rfl (nI_1 i) (by decide) rfl (fun ls hl => ?_)
        refine lv_goto (tgt := 19) hx hb d_C_spread_65 (by decide) ?_
        have e_b : k_spread_19 N K mk (k + 1) i A1 v2 = k_spread_19 N K mk k (i + 1) ((k_spreadOver N K A1 (nI i) (k_spaceOf N K A1 (nI i)) (k_wallLoss N K A1 (nI i) mk)).2) (1 : Int32) := by rw [k_spread_19_S, if_neg c_40, if_neg c_57]
        rw [e_b] at hk
        exact ih (i + 1) (by omega) ((k_spreadOver N K A1 (nI i) (k_spaceOf N K A1 (nI i)) (k_wallLoss N K A1 (nI i) mk)).2) (1 : Int32) _ _ ls hP hS (lv_sub hl [3, 4, 1, 5, 0] rfl) hk
def k_spread_71 (N K : Nat) (mk : Int32) : Nat → Nat → (Nat → Nat → Int32) → Int32 → (Nat → Nat → Int32) × Int32
  | 0, i, A1, v2 => (A1, v2)
  | k + 1, i, A1, v2 => (if (k_doorLoss N K A1 (nI i) mk) = (-1 : Int32) then k_spread_71 N K mk k (i + 1) A1 v2 else (if ((k_spreadOver N K A1 (A1 6 (nI i).toNatClampNeg) (A1 7 (nI i).toNatClampNeg) (k_doorLoss N K A1 (nI i) mk)).1) = (0 : Int32) then k_spread_71 N K mk k (i + 1) ((k_spreadOver N K A1 (A1 6 (nI i).toNatClampNeg) (A1 7 (nI i).toNatClampNeg) (k_doorLoss N K A1 (nI i) mk)).2) v2 else k_spread_71 N K mk k (i + 1) ((k_spreadOver N K A1 (A1 6 (nI i).toNatClampNeg) (A1 7 (nI i).toNatClampNeg) (k_doorLoss N K A1 (nI i) mk)).2) (1 : Int32)))
theorem k_spread_71_0 (N K : Nat) (mk : Int32) (i : Nat) (A1 : (Nat → Nat → Int32)) (v2 : Int32) : k_spread_71 N K mk 0 i A1 v2 = (A1, v2) := rfl
theorem k_spread_71_S (N K : Nat) (mk : Int32) (k i : Nat) (A1 : (Nat → Nat → Int32)) (v2 : Int32) : k_spread_71 N K mk (k + 1) i A1 v2 = (if (k_doorLoss N K A1 (nI i) mk) = (-1 : Int32) then k_spread_71 N K mk k (i + 1) A1 v2 else (if ((k_spreadOver N K A1 (A1 6 (nI i).toNatClampNeg) (A1 7 (nI i).toNatClampNeg) (k_doorLoss N K A1 (nI i) mk)).1) = (0 : Int32) then k_spread_71 N K mk k (i + 1) ((k_spreadOver N K A1 (A1 6 (nI i).toNatClampNeg) (A1 7 (nI i).toNatClampNeg) (k_doorLoss N K A1 (nI i) mk)).2) v2 else k_spread_71 N K mk k (i + 1) ((k_spreadOver N K A1 (A1 6 (nI i).toNatClampNeg) (A1 7 (nI i).toNatClampNeg) (k_doorLoss N K A1 (nI i) mk)).2) (1 : Int32))) := rfl
set_option maxHeartbeats 4000000 in
set_option maxRecDepth 100000 in
theorem wk_spread_71 (l : Launch) (D : va_G) (a : Nat → Nat) (cI cII : ClassId) (N K : Nat) (A : Nat → Nat → Int32) (hN : N ≤ 30) (hKK : K ≤ 10) (Z : Nat → Prop) (mk u3 : Int32) {p : Program} {e : Env} {s : State} {m : MethodId} {below : List Frame} {meth : Method} {c : Code} {Q : State → Prop} (Sx : CallFix p m c b_C_spread 6 s ([.ref (a 0), .int mk] : List Value).toArray BW R_C) (hD : va_D Z (wC a cI cII (nI N) (nI K) A)) (hK : va_K D classes (tC cI cII) s) : ∀ (k i : Nat), i + k = K → ∀ (A1 : (Nat → Nat → Int32)) (v2 : Int32) (H : Heap) (locs : List Loc) (ls : Array Slot), va_P D classes (wC a cI cII (nI N) (nI K) A1) H → va_S Z s.heap H locs → lv_has ls 6 [(0, .ref (a 0)), (1, .int mk), (2, .int v2), (3, .int u3), (4, .int (nI i))] → (∀ (H : Heap) (locs : List Loc) (ls : Array Slot), va_P D classes (wC a cI cII (nI N) (nI K) ((k_spread_71 N K mk k i A1 v2).1)) H → va_S Z s.heap H locs → lv_has ls 6 [(0, .ref (a 0)), (1, .int mk), (2, .int ((k_spread_71 N K mk k i A1 v2).2)), (3, .int u3)] → W p l e ({ frames := 4, cells := 0, slots := 0, locals := 87 } : Room) s m ([.ref (a 0), .int mk] : List Value).toArray below meth c H locs 0 0 Q (F0 m 126 ls [])) → W p l e ({ frames := 4, cells := 0, slots := 0, locals := 87 } : Room) s m ([.ref (a 0), .int mk] : List Value).toArray below meth c H locs 0 0 Q (F0 m 71 ls []) := by
  obtain ⟨hx, hb, hml, hown, hts⟩ := id Sx
  intro k
  induction k with
  | zero =>
    intro i hi A1 v2 H locs ls hP hS hl hk
    refine lv_iload hx hb d_C_spread_71 (lv_at hl 4 rfl) ?_
    refine lv_aload_n hx hb d_C_spread_73 rfl (lv_at hl 0 rfl) ?_
    refine va_get (D := D) (ci := 0) (v := .int (nI K)) (C := R_C) (T := F_C) (N := 9) hx hb hts i_C hown hK hP 0 rfl rfl 4 (by decide) (hts _ fl_C_25) (fun _ h9 => h9) rfl d_C_spread_74 ?_
    refine lv_icmp_ge (tgt := 126) hx hb d_C_spread_77 (by decide) (fun c_77 => ?_) (fun c_77 => absurd (nI_le (a := K) (b := i) (by omega) (by omega)) c_77)
    have e_b : k_spread_71 N K mk 0 i A1 v2 = (A1, v2) := by rw [k_spread_71_0]
    rw [e_b] at hk
    exact hk _ _ ls hP hS (lv_sub hl [0, 1, 2, 3] rfl)
  | succ k ih =>
    intro i hi A1 v2 H locs ls hP hS hl hk
    refine lv_iload hx hb d_C_spread_71 (lv_at hl 4 rfl) ?_
    refine lv_aload_n hx hb d_C_spread_73 rfl (lv_at hl 0 rfl) ?_
    refine va_get (D := D) (ci := 0) (v := .int (nI K)) (C := R_C) (T := F_C) (N := 9) hx hb hts i_C hown hK hP 0 rfl rfl 4 (by decide) (hts _ fl_C_25) (fun _ h9 => h9) rfl d_C_spread_74 ?_
    refine lv_icmp_ge (tgt := 126) hx hb d_C_spread_77 (by decide) (fun c_77 => absurd c_77 (nI_ge (a := i) (b := K) (by omega) (by omega))) (fun c_77 => ?_)
    refine lv_aload_n hx hb d_C_spread_80 rfl (lv_at hl 0 rfl) ?_
    refine lv_iload hx hb d_C_spread_81 (lv_at hl 4 rfl) ?_
    refine lv_iload_n hx hb d_C_spread_83 rfl (lv_at hl 1 rfl) ?_
    refine xro (As := [.int (nI i), .int mk]) (rest := []) Sx (ck_doorLoss l D a cI cII N K A1 hN hKK (nI i) mk) v_C_doorLoss ⟨rfl, rfl, Nat.le_of_ble_eq_true rfl, Nat.le_of_ble_eq_true rfl⟩ hK hP (ci := 0) (q0 := 0) rfl rfl rfl hl.1 rfl (Nat.le_of_ble_eq_true rfl) d_C_spread_84 ⟨Nat.le_of_ble_eq_true rfl, Nat.le_of_ble_eq_true rfl⟩ (fun r hq => ?_)
    subst hq
    refine lv_istore (lv' := [(5, .int (k_doorLoss N K A1 (nI i) mk)), (0, .ref (a 0)), (1, .int mk), (2, .int v2), (3, .int u3), (4, .int (nI i))]) hx hb d_C_spread_87 hl (by decide) rfl (fun ls hl => ?_)
    refine lv_iload hx hb d_C_spread_89 (lv_at hl 0 rfl) ?_
    refine lv_iconst (v := (-1 : Int32)) hx hb d_C_spread_91 (by decide) ?_
    refine lv_icmp_eq (tgt := 120) hx hb d_C_spread_92 (by decide) (fun c_92 => ?_) (fun c_92 => ?_)
    · refine lv_iinc (v := nI (i + 1)) (lv' := [(4, .int (nI (i + 1))), (5, .int (k_doorLoss N K A1 (nI i) mk)), (0, .ref (a 0)), (1, .int mk), (2, .int v2), (3, .int u3)]) hx hb d_C_spread_120 hl (k := 5) rfl (nI_1 i) (by decide) rfl (fun ls hl => ?_)
      refine lv_goto (tgt := 71) hx hb d_C_spread_123 (by decide) ?_
      have e_b : k_spread_71 N K mk (k + 1) i A1 v2 = k_spread_71 N K mk k (i + 1) A1 v2 := by rw [k_spread_71_S, if_pos c_92]
      rw [e_b] at hk
      exact ih (i + 1) (by omega) A1 v2 _ _ ls hP hS (lv_sub hl [2, 3, 4, 5, 0] rfl) hk
    · refine lv_aload_n hx hb d_C_spread_95 rfl (lv_at hl 1 rfl) ?_
      refine lv_aload_n hx hb d_C_spread_96 rfl (lv_at hl 1 rfl) ?_
      refine va_get (D := D) (ci := 0) (v := .ref (a 8)) (C := R_C) (T := F_C) (N := 9) hx hb hts i_C hown hK hP 0 rfl rfl 5 (by decide) (hts _ fl_C_28) (fun _ h9 => h9) rfl d_C_spread_97 ?_
      refine lv_iload hx hb d_C_spread_100 (lv_at hl 5 rfl) ?_
      refine va_iald (n := 10) hx hb hK hP 8 0 rfl rfl (vp_in_nI (by omega) (by omega)) d_C_spread_102 ?_
      refine lv_aload_n hx hb d_C_spread_103 rfl (lv_at hl 1 rfl) ?_
      refine va_get (D := D) (ci := 0) (v := .ref (a 9)) (C := R_C) (T := F_C) (N := 9) hx hb hts i_C hown hK hP 0 rfl rfl 6 (by decide) (hts _ fl_C_31) (fun _ h9 => h9) rfl d_C_spread_104 ?_
      refine lv_iload hx hb d_C_spread_107 (lv_at hl 5 rfl) ?_
      refine va_iald (n := 10) hx hb hK hP 9 0 rfl rfl (vp_in_nI (by omega) (by omega)) d_C_spread_109 ?_
      refine lv_iload hx hb d_C_spread_110 (lv_at hl 0 rfl) ?_
      refine xwi (As := [.int (A1 6 (nI i).toNatClampNeg), .int (A1 7 (nI i).toNatClampNeg), .int (k_doorLoss N K A1 (nI i) mk)]) (rest := []) Sx (ck_spreadOver l D a cI cII N K A1 hN hKK Z (A1 6 (nI i).toNatClampNeg) (A1 7 (nI i).toNatClampNeg) (k_doorLoss N K A1 (nI i) mk)) v_C_spreadOver ⟨rfl, rfl, Nat.le_of_ble_eq_true rfl, Nat.le_of_ble_eq_true rfl⟩ hK hP (ci := 0) (q0 := 0) rfl rfl (wC_D hD) hS (fun _ h => h) rfl hl.1 rfl (Nat.le_of_ble_eq_true rfl) d_C_spread_112 ⟨Nat.le_of_ble_eq_true rfl, Nat.le_of_ble_eq_true rfl⟩ (fun r u H locs hu hP hS => ?_)
      obtain ⟨rfl, rfl⟩ := hu
      have hP : va_P D classes (wC a cI cII (nI N) (nI K) ((k_spreadOver N K A1 (A1 6 (nI i).toNatClampNeg) (A1 7 (nI i).toNatClampNeg) (k_doorLoss N K A1 (nI i) mk)).2)) H := hP
      refine lv_if_eq (tgt := 120) hx hb d_C_spread_115 (by decide) (fun c_115 => ?_) (fun c_115 => ?_)
      · refine lv_iinc (v := nI (i + 1)) (lv' := [(4, .int (nI (i + 1))), (5, .int (k_doorLoss N K A1 (nI i) mk)), (0, .ref (a 0)), (1, .int mk), (2, .int v2), (3, .int u3)]) hx hb d_C_spread_120 hl (k := 5) rfl (nI_1 i) (by decide) rfl (fun ls hl => ?_)
        refine lv_goto (tgt := 71) hx hb d_C_spread_123 (by decide) ?_
        have e_b : k_spread_71 N K mk (k + 1) i A1 v2 = k_spread_71 N K mk k (i + 1) ((k_spreadOver N K A1 (A1 6 (nI i).toNatClampNeg) (A1 7 (nI i).toNatClampNeg) (k_doorLoss N K A1 (nI i) mk)).2) v2 := by rw [k_spread_71_S, if_neg c_92, if_pos c_115]
        rw [e_b] at hk
        exact ih (i + 1) (by omega) ((k_spreadOver N K A1 (A1 6 (nI i).toNatClampNeg) (A1 7 (nI i).toNatClampNeg) (k_doorLoss N K A1 (nI i) mk)).2) v2 _ _ ls hP hS (lv_sub hl [2, 3, 4, 5, 0] rfl) hk
      · refine lv_iconst (v := (1 : Int32)) hx hb d_C_spread_118 (by decide) ?_
        refine lv_istore_n (lv' := [(2, .int (1 : Int32)), (5, .int (k_doorLoss N K A1 (nI i) mk)), (0, .ref (a 0)), (1, .int mk), (3, .int u3), (4, .int (nI i))]) hx hb d_C_spread_119 rfl hl (by decide) rfl (fun ls hl => ?_)
        refine lv_iinc (v := nI (i + 1)) (lv' := [(4, .int (nI (i + 1))), (2, .int (1 : Int32)), (5, .int (k_doorLoss N K A1 (nI i) mk)), (0, .ref (a 0)), (1, .int mk), (3, .int u3)]) hx hb d_C_spread_120 hl (k := 5) rfl (nI_1 i) (by decide) rfl (fun ls hl => ?_)
        refine lv_goto (tgt := 71) hx hb d_C_spread_123 (by decide) ?_
        have e_b : k_spread_71 N K mk (k + 1) i A1 v2 = k_spread_71 N K mk k (i + 1) ((k_spreadOver N K A1 (A1 6 (nI i).toNatClampNeg) (A1 7 (nI i).toNatClampNeg) (k_doorLoss N K A1 (nI i) mk)).2) (1 : Int32) := by rw [k_spread_71_S, if_neg c_92, if_neg c_115]
        rw [e_b] at hk
        exact ih (i + 1) (by omega) ((k_spreadOver N K A1 (A1 6 (nI i).toNatClampNeg) (A1 7 (nI i).toNatClampNeg) (k_doorLoss N K A1 (nI i) mk)).2) (1 : Int32) _ _ ls hP hS (lv_sub hl [3, 4, 1, 5, 0] rfl) hk
def k_spread_4 (N K : Nat) (mk : Int32) : Nat → Nat → (Nat → Nat → Int32) → Int32 → (Nat → Nat → Int32)
  | 0, i, A1, v2 => A1
  | k + 1, i, A1, v2 => (if v2 = (0 : Int32) then A1 else k_spread_4 N K mk k (i + 1) ((k_spread_71 N K mk K 0 ((k_spread_19 N K mk N 0 A1 (0 : Int32)).1) ((k_spread_19 N K mk N 0 A1 (0 : Int32)).2)).1) ((k_spread_71 N K mk K 0 ((k_spread_19 N K mk N 0 A1 (0 : Int32)).1) ((k_spread_19 N K mk N 0 A1 (0 : Int32)).2)).2))
theorem k_spread_4_0 (N K : Nat) (mk : Int32) (i : Nat) (A1 : (Nat → Nat → Int32)) (v2 : Int32) : k_spread_4 N K mk 0 i A1 v2 = A1 := rfl
theorem k_spread_4_S (N K : Nat) (mk : Int32) (k i : Nat) (A1 : (Nat → Nat → Int32)) (v2 : Int32) : k_spread_4 N K mk (k + 1) i A1 v2 = (if v2 = (0 : Int32) then A1 else k_spread_4 N K mk k (i + 1) ((k_spread_71 N K mk K 0 ((k_spread_19 N K mk N 0 A1 (0 : Int32)).1) ((k_spread_19 N K mk N 0 A1 (0 : Int32)).2)).1) ((k_spread_71 N K mk K 0 ((k_spread_19 N K mk N 0 A1 (0 : Int32)).1) ((k_spread_19 N K mk N 0 A1 (0 : Int32)).2)).2)) := rfl
set_option maxHeartbeats 4000000 in
set_option maxRecDepth 100000 in
theorem wk_spread_4 (l : Launch) (D : va_G) (a : Nat → Nat) (cI cII : ClassId) (N K : Nat) (A : Nat → Nat → Int32) (hN : N ≤ 30) (hKK : K ≤ 10) (Z : Nat → Prop) (mk : Int32) {p : Program} {e : Env} {s : State} {m : MethodId} {below : List Frame} {meth : Method} {c : Code} (Sx : CallFix p m c b_C_spread 6 s ([.ref (a 0), .int mk] : List Value).toArray BW R_C) (hr : meth.sig.returnType = none) (hlk : meth.locks = false) (hD : va_D Z (wC a cI cII (nI N) (nI K) A)) (hK : va_K D classes (tC cI cII) s) : ∀ (k i : Nat), i + k = 30 → ∀ (A1 : (Nat → Nat → Int32)) (v2 : Int32) (H : Heap) (locs : List Loc) (ls : Array Slot), va_P D classes (wC a cI cII (nI N) (nI K) A1) H → va_S Z s.heap H locs → lv_has ls 6 [(0, .ref (a 0)), (1, .int mk), (2, .int v2), (3, .int (nI i))] → W p l e ({ frames := 4, cells := 0, slots := 0, locals := 87 } : Room) s m ([.ref (a 0), .int mk] : List Value).toArray below meth c H locs 0 0 (MQ below (va_Qv (fun u => u = k_spread_4 N K mk k i A1 v2) (atW D (fun u => wC a cI cII (nI N) (nI K) u) (tC cI cII)) Z) ([.ref (a 0), .int mk] : List Value).toArray s 0 0 Z) (F0 m 4 ls []) := by
  obtain ⟨hx, hb, hml, hown, hts⟩ := id Sx
  intro k
  induction k with
  | zero =>
    intro i hi A1 v2 H locs ls hP hS hl
    refine lv_iload_n hx hb d_C_spread_4 rfl (lv_at hl 3 rfl) ?_
    refine lv_bipush (v := (30 : Int32)) hx hb d_C_spread_5 (by decide) ?_
    refine lv_icmp_ge (tgt := 132) hx hb d_C_spread_7 (by decide) (fun c_7 => ?_) (fun c_7 => absurd (nI_le (a := 30) (b := i) (by omega) (by omega)) c_7)
    exact wRetV (u := A1) hx hb hr hlk (show A1 = k_spread_4 N K mk 0 i A1 v2 from by rw [k_spread_4_0]) hP hK hS d_C_spread_132
  | succ k ih =>
    intro i hi A1 v2 H locs ls hP hS hl
    refine lv_iload_n hx hb d_C_spread_4 rfl (lv_at hl 3 rfl) ?_
    refine lv_bipush (v := (30 : Int32)) hx hb d_C_spread_5 (by decide) ?_
    refine lv_icmp_ge (tgt := 132) hx hb d_C_spread_7 (by decide) (fun c_7 => absurd c_7 (nI_ge (a := i) (b := 30) (by omega) (by omega))) (fun c_7 => ?_)
    refine lv_iload_n hx hb d_C_spread_10 rfl (lv_at hl 2 rfl) ?_
    refine lv_if_eq (tgt := 132) hx hb d_C_spread_11 (by decide) (fun c_11 => ?_) (fun c_11 => ?_)
    · exact wRetV (u := A1) hx hb hr hlk (show A1 = k_spread_4 N K mk (k + 1) i A1 v2 from by rw [k_spread_4_S, if_pos c_11]) hP hK hS d_C_spread_132
    · refine lv_iconst (v := (0 : Int32)) hx hb d_C_spread_14 (by decide) ?_
      refine lv_istore_n (lv' := [(2, .int (0 : Int32)), (0, .ref (a 0)), (1, .int mk), (3, .int (nI i))]) hx hb d_C_spread_15 rfl hl (by decide) rfl (fun ls hl => ?_)
      refine lv_iconst (v := (0 : Int32)) hx hb d_C_spread_16 (by decide) ?_
      refine lv_istore (lv' := [(4, .int (0 : Int32)), (2, .int (0 : Int32)), (0, .ref (a 0)), (1, .int mk), (3, .int (nI i))]) hx hb d_C_spread_17 hl (by decide) rfl (fun ls hl => ?_)
      refine wk_spread_19 l D a cI cII N K A1 hN hKK Z mk (nI i) Sx (wC_D hD) hK N 0 (by omega) A1 (0 : Int32) _ _ ls hP hS (lv_sub hl [2, 3, 1, 4, 0] rfl) (fun H locs ls hP hS hl => ?_)
      refine lv_iconst (v := (0 : Int32)) hx hb d_C_spread_68 (by decide) ?_
      refine lv_istore (lv' := [(4, .int (0 : Int32)), (0, .ref (a 0)), (1, .int mk), (2, .int ((k_spread_19 N K mk N 0 A1 (0 : Int32)).2)), (3, .int (nI i))]) hx hb d_C_spread_69 hl (by decide) rfl (fun ls hl => ?_)
      refine wk_spread_71 l D a cI cII N K ((k_spread_19 N K mk N 0 A1 (0 : Int32)).1) hN hKK Z mk (nI i) Sx (wC_D hD) hK K 0 (by omega) ((k_spread_19 N K mk N 0 A1 (0 : Int32)).1) ((k_spread_19 N K mk N 0 A1 (0 : Int32)).2) _ _ ls hP hS (lv_sub hl [1, 2, 3, 4, 0] rfl) (fun H locs ls hP hS hl => ?_)
      refine lv_iinc (v := nI (i + 1)) (lv' := [(3, .int (nI (i + 1))), (0, .ref (a 0)), (1, .int mk), (2, .int ((k_spread_71 N K mk K 0 ((k_spread_19 N K mk N 0 A1 (0 : Int32)).1) ((k_spread_19 N K mk N 0 A1 (0 : Int32)).2)).2))]) hx hb d_C_spread_126 hl (k := 3) rfl (nI_1 i) (by decide) rfl (fun ls hl => ?_)
      refine lv_goto (tgt := 4) hx hb d_C_spread_129 (by decide) ?_
      have e_b : k_spread_4 N K mk (k + 1) i A1 v2 = k_spread_4 N K mk k (i + 1) ((k_spread_71 N K mk K 0 ((k_spread_19 N K mk N 0 A1 (0 : Int32)).1) ((k_spread_19 N K mk N 0 A1 (0 : Int32)).2)).1) ((k_spread_71 N K mk K 0 ((k_spread_19 N K mk N 0 A1 (0 : Int32)).1) ((k_spread_19 N K mk N 0 A1 (0 : Int32)).2)).2) := by rw [k_spread_4_S, if_neg c_11]
      rw [e_b]
      exact ih (i + 1) (by omega) ((k_spread_71 N K mk K 0 ((k_spread_19 N K mk N 0 A1 (0 : Int32)).1) ((k_spread_19 N K mk N 0 A1 (0 : Int32)).2)).1) ((k_spread_71 N K mk K 0 ((k_spread_19 N K mk N 0 A1 (0 : Int32)).1) ((k_spread_19 N K mk N 0 A1 (0 : Int32)).2)).2) _ _ ls hP hS (lv_sub hl [1, 2, 3, 0] rfl)
def k_spread (N K : Nat) (A : Nat → Nat → Int32) (mk : Int32) : (Nat → Nat → Int32) := k_spread_4 N K mk 30 0 A (1 : Int32)
set_option maxHeartbeats 4000000 in
set_option maxRecDepth 100000 in
theorem ck_spread (l : Launch) (D : va_G) (a : Nat → Nat) (cI cII : ClassId) (N K : Nat) (A : Nat → Nat → Int32) (hN : N ≤ 30) (hKK : K ≤ 10) (Z : Nat → Prop) (mk : Int32) : Met l y_C_spread (Cond.code y_C_spread b_C_spread 6 none :: BW) ({ frames := 4, cells := 0, slots := 0, locals := 87 } : Room) (PcW D Z (wC a cI cII (nI N) (nI K) A) (tC cI cII) [.ref (a 0), .int mk]) (va_Qv (fun u => u = k_spread N K A mk) (atW D (fun u => wC a cI cII (nI N) (nI K) u) (tC cI cII)) Z) 0 0 Z := by
  refine wStartV (by decide) rfl (Nat.le_of_ble_eq_true rfl) (fun p e s m below meth c Sx hr hlk hP hK hD hS ls hl => ?_)
  obtain ⟨hx, hb, hml, hown, hts⟩ := id Sx
  have hl : lv_has ls 6 [(0, .ref (a 0)), (1, .int mk)] := hl
  refine lv_iconst (v := (1 : Int32)) hx hb d_C_spread_0 (by decide) ?_
  refine lv_istore_n (lv' := [(2, .int (1 : Int32)), (0, .ref (a 0)), (1, .int mk)]) hx hb d_C_spread_1 rfl hl (by decide) rfl (fun ls hl => ?_)
  refine lv_iconst (v := (0 : Int32)) hx hb d_C_spread_2 (by decide) ?_
  refine lv_istore_n (lv' := [(3, .int (0 : Int32)), (2, .int (1 : Int32)), (0, .ref (a 0)), (1, .int mk)]) hx hb d_C_spread_3 rfl hl (by decide) rfl (fun ls hl => ?_)
  have e_4 : k_spread N K A mk = k_spread_4 N K mk 30 0 A (1 : Int32) := by rw [k_spread]
  rw [e_4]
  exact wk_spread_4 l D a cI cII N K A hN hKK Z mk Sx hr hlk (wC_D hD) hK 30 0 (by omega) A (1 : Int32) _ _ ls hP hS (lv_sub hl [2, 3, 1, 0] rfl)

def k_fillFromAllThings_10 (N K : Nat) (mk : Int32) : Nat → Nat → (Nat → Nat → Int32) → (Nat → Nat → Int32)
  | 0, i, A1 => k_spread N K A1 mk
  | k + 1, i, A1 => (if (k_spaceOf N K A1 (nI i)) = (-1 : Int32) then k_fillFromAllThings_10 N K mk k (i + 1) A1 else k_fillFromAllThings_10 N K mk k (i + 1) (sU A1 10 (k_spaceOf N K A1 (nI i)).toNatClampNeg (if (A1 10 (k_spaceOf N K A1 (nI i)).toNatClampNeg) < (k_markOf N K A1 (nI i) mk) then (k_markOf N K A1 (nI i) mk) else (A1 10 (k_spaceOf N K A1 (nI i)).toNatClampNeg))))
theorem k_fillFromAllThings_10_0 (N K : Nat) (mk : Int32) (i : Nat) (A1 : (Nat → Nat → Int32)) : k_fillFromAllThings_10 N K mk 0 i A1 = k_spread N K A1 mk := rfl
theorem k_fillFromAllThings_10_S (N K : Nat) (mk : Int32) (k i : Nat) (A1 : (Nat → Nat → Int32)) : k_fillFromAllThings_10 N K mk (k + 1) i A1 = (if (k_spaceOf N K A1 (nI i)) = (-1 : Int32) then k_fillFromAllThings_10 N K mk k (i + 1) A1 else k_fillFromAllThings_10 N K mk k (i + 1) (sU A1 10 (k_spaceOf N K A1 (nI i)).toNatClampNeg (if (A1 10 (k_spaceOf N K A1 (nI i)).toNatClampNeg) < (k_markOf N K A1 (nI i) mk) then (k_markOf N K A1 (nI i) mk) else (A1 10 (k_spaceOf N K A1 (nI i)).toNatClampNeg)))) := rfl
set_option maxHeartbeats 4000000 in
set_option maxRecDepth 100000 in
theorem wk_fillFromAllThings_10 (l : Launch) (D : va_G) (a : Nat → Nat) (cI cII : ClassId) (N K : Nat) (A : Nat → Nat → Int32) (hN : N ≤ 30) (hKK : K ≤ 10) (Z : Nat → Prop) (mk : Int32) {p : Program} {e : Env} {s : State} {m : MethodId} {below : List Frame} {meth : Method} {c : Code} (Sx : CallFix p m c b_C_fillFromAllThings 4 s ([.ref (a 0), .int mk] : List Value).toArray BW R_C) (hr : meth.sig.returnType = none) (hlk : meth.locks = false) (hD : va_D Z (wC a cI cII (nI N) (nI K) A)) (hK : va_K D classes (tC cI cII) s) : ∀ (k i : Nat), i + k = N → ∀ (A1 : (Nat → Nat → Int32)) (H : Heap) (locs : List Loc) (ls : Array Slot), va_P D classes (wC a cI cII (nI N) (nI K) A1) H → va_S Z s.heap H locs → lv_has ls 4 [(0, .ref (a 0)), (1, .int mk), (2, .int (nI i))] → W p l e ({ frames := 5, cells := 0, slots := 0, locals := 112 } : Room) s m ([.ref (a 0), .int mk] : List Value).toArray below meth c H locs 0 0 (MQ below (va_Qv (fun u => u = k_fillFromAllThings_10 N K mk k i A1) (atW D (fun u => wC a cI cII (nI N) (nI K) u) (tC cI cII)) Z) ([.ref (a 0), .int mk] : List Value).toArray s 0 0 Z) (F0 m 10 ls []) := by
  obtain ⟨hx, hb, hml, hown, hts⟩ := id Sx
  intro k
  induction k with
  | zero =>
    intro i hi A1 H locs ls hP hS hl
    refine lv_iload_n hx hb d_C_fillFromAllThings_10 rfl (lv_at hl 2 rfl) ?_
    refine lv_aload_n hx hb d_C_fillFromAllThings_11 rfl (lv_at hl 0 rfl) ?_
    refine va_get (D := D) (ci := 0) (v := .int (nI N)) (C := R_C) (T := F_C) (N := 9) hx hb hts i_C hown hK hP 0 rfl rfl 0 (by decide) (hts _ fl_C_7) (fun _ h9 => h9) rfl d_C_fillFromAllThings_12 ?_
    refine lv_icmp_ge (tgt := 56) hx hb d_C_fillFromAllThings_15 (by decide) (fun c_15 => ?_) (fun c_15 => absurd (nI_le (a := N) (b := i) (by omega) (by omega)) c_15)
    refine lv_aload_n hx hb d_C_fillFromAllThings_56 rfl (lv_at hl 0 rfl) ?_
    refine lv_iload_n hx hb d_C_fillFromAllThings_57 rfl (lv_at hl 1 rfl) ?_
    refine xwv (As := [.int mk]) (rest := []) Sx (ck_spread l D a cI cII N K A1 hN hKK Z mk) v_C_spread ⟨rfl, rfl, Nat.le_of_ble_eq_true rfl, Nat.le_of_ble_eq_true rfl⟩ hK hP (ci := 0) (q0 := 0) rfl rfl (wC_D hD) hS (fun _ h => h) rfl hl.1 rfl (Nat.le_of_ble_eq_true rfl) d_C_fillFromAllThings_58 ⟨Nat.le_of_ble_eq_true rfl, Nat.le_of_ble_eq_true rfl⟩ (fun u H locs hu hP hS => ?_)
    subst hu
    have hP : va_P D classes (wC a cI cII (nI N) (nI K) (k_spread N K A1 mk)) H := hP
    exact wRetV (u := k_spread N K A1 mk) hx hb hr hlk (show k_spread N K A1 mk = k_fillFromAllThings_10 N K mk 0 i A1 from by rw [k_fillFromAllThings_10_0]) hP hK hS d_C_fillFromAllThings_61
  | succ k ih =>
    intro i hi A1 H locs ls hP hS hl
    refine lv_iload_n hx hb d_C_fillFromAllThings_10 rfl (lv_at hl 2 rfl) ?_
    refine lv_aload_n hx hb d_C_fillFromAllThings_11 rfl (lv_at hl 0 rfl) ?_
    refine va_get (D := D) (ci := 0) (v := .int (nI N)) (C := R_C) (T := F_C) (N := 9) hx hb hts i_C hown hK hP 0 rfl rfl 0 (by decide) (hts _ fl_C_7) (fun _ h9 => h9) rfl d_C_fillFromAllThings_12 ?_
    refine lv_icmp_ge (tgt := 56) hx hb d_C_fillFromAllThings_15 (by decide) (fun c_15 => absurd c_15 (nI_ge (a := i) (b := N) (by omega) (by omega))) (fun c_15 => ?_)
    refine lv_aload_n hx hb d_C_fillFromAllThings_18 rfl (lv_at hl 0 rfl) ?_
    refine lv_iload_n hx hb d_C_fillFromAllThings_19 rfl (lv_at hl 2 rfl) ?_
    refine xro (As := [.int (nI i)]) (rest := []) Sx (ck_spaceOf l D a cI cII N K A1 hN hKK (nI i)) v_C_spaceOf ⟨rfl, rfl, Nat.le_of_ble_eq_true rfl, Nat.le_of_ble_eq_true rfl⟩ hK hP (ci := 0) (q0 := 0) rfl rfl rfl hl.1 rfl (Nat.le_of_ble_eq_true rfl) d_C_fillFromAllThings_20 ⟨Nat.le_of_ble_eq_true rfl, Nat.le_of_ble_eq_true rfl⟩ (fun r hq => ?_)
    subst hq
    refine lv_istore_n (lv' := [(3, .int (k_spaceOf N K A1 (nI i))), (0, .ref (a 0)), (1, .int mk), (2, .int (nI i))]) hx hb d_C_fillFromAllThings_23 rfl hl (by decide) rfl (fun ls hl => ?_)
    refine lv_iload_n hx hb d_C_fillFromAllThings_24 rfl (lv_at hl 0 rfl) ?_
    refine lv_iconst (v := (-1 : Int32)) hx hb d_C_fillFromAllThings_25 (by decide) ?_
    refine lv_icmp_eq (tgt := 50) hx hb d_C_fillFromAllThings_26 (by decide) (fun c_26 => ?_) (fun c_26 => ?_)
    · refine lv_iinc (v := nI (i + 1)) (lv' := [(2, .int (nI (i + 1))), (3, .int (k_spaceOf N K A1 (nI i))), (0, .ref (a 0)), (1, .int mk)]) hx hb d_C_fillFromAllThings_50 hl (k := 3) rfl (nI_1 i) (by decide) rfl (fun ls hl => ?_)
      refine lv_goto (tgt := 10) hx hb d_C_fillFromAllThings_53 (by decide) ?_
      have e_b : k_fillFromAllThings_10 N K mk (k + 1) i A1 = k_fillFromAllThings_10 N K mk k (i + 1) A1 := by rw [k_fillFromAllThings_10_S, if_pos c_26]
      rw [e_b]
      exact ih (i + 1) (by omega) A1 _ _ ls hP hS (lv_sub hl [2, 3, 0] rfl)
    · refine lv_aload_n hx hb d_C_fillFromAllThings_29 rfl (lv_at hl 1 rfl) ?_
      refine va_get (D := D) (ci := 0) (v := .ref (a 13)) (C := R_C) (T := F_C) (N := 9) hx hb hts i_C hown hK hP 0 rfl rfl 8 (by decide) (hts _ fl_C_37) (fun _ h9 => h9) rfl d_C_fillFromAllThings_30 ?_
      refine lv_iload_n hx hb d_C_fillFromAllThings_33 rfl (lv_at hl 0 rfl) ?_
      refine lv_aload_n hx hb d_C_fillFromAllThings_34 rfl (lv_at hl 1 rfl) ?_
      refine va_get (D := D) (ci := 0) (v := .ref (a 13)) (C := R_C) (T := F_C) (N := 9) hx hb hts i_C hown hK hP 0 rfl rfl 8 (by decide) (hts _ fl_C_37) (fun _ h9 => h9) rfl d_C_fillFromAllThings_35 ?_
      refine lv_iload_n hx hb d_C_fillFromAllThings_38 rfl (lv_at hl 0 rfl) ?_
      refine va_iald (n := 30) hx hb hK hP 13 0 rfl rfl (in_spaceOf hN c_26) d_C_fillFromAllThings_39 ?_
      refine lv_aload_n hx hb d_C_fillFromAllThings_40 rfl (lv_at hl 1 rfl) ?_
      refine lv_iload_n hx hb d_C_fillFromAllThings_41 rfl (lv_at hl 3 rfl) ?_
      refine lv_iload_n hx hb d_C_fillFromAllThings_42 rfl (lv_at hl 2 rfl) ?_
      refine xro (As := [.int (nI i), .int mk]) (rest := [.int (A1 10 (k_spaceOf N K A1 (nI i)).toNatClampNeg), .int (k_spaceOf N K A1 (nI i)), .ref (a 13)]) Sx (ck_markOf l D a cI cII N K A1 hN hKK (nI i) mk) v_C_markOf ⟨rfl, rfl, Nat.le_of_ble_eq_true rfl, Nat.le_of_ble_eq_true rfl⟩ hK hP (ci := 0) (q0 := 0) rfl rfl rfl hl.1 rfl (Nat.le_of_ble_eq_true rfl) d_C_fillFromAllThings_43 ⟨Nat.le_of_ble_eq_true rfl, Nat.le_of_ble_eq_true rfl⟩ (fun r hq => ?_)
      subst hq
      refine va_mmax (rest := [.int (k_spaceOf N K A1 (nI i)), .ref (a 13)]) hx hb (by rw [hml]; exact hl.1.symm) hown (hts _ k_mmax_link) (hts _ k_mmax_stat) (hts _ k_mmax_ini) (hts _ k_mmax_code) (Nat.le_of_ble_eq_true rfl) (Nat.le_of_ble_eq_true rfl) (Nat.le_of_ble_eq_true rfl) (Nat.le_of_ble_eq_true rfl) d_C_fillFromAllThings_46 ?_
      refine va_iast (n := 30) hx hb hK hP (wC_D hD) hS 13 0 rfl rfl (in_spaceOf hN c_26) d_C_fillFromAllThings_49 (fun H locs hP _ hS => ?_)
      have hP : va_P D classes (wC a cI cII (nI N) (nI K) (sU A1 10 (k_spaceOf N K A1 (nI i)).toNatClampNeg (if (A1 10 (k_spaceOf N K A1 (nI i)).toNatClampNeg) < (k_markOf N K A1 (nI i) mk) then (k_markOf N K A1 (nI i) mk) else (A1 10 (k_spaceOf N K A1 (nI i)).toNatClampNeg)))) H := hP
      refine lv_iinc (v := nI (i + 1)) (lv' := [(2, .int (nI (i + 1))), (3, .int (k_spaceOf N K A1 (nI i))), (0, .ref (a 0)), (1, .int mk)]) hx hb d_C_fillFromAllThings_50 hl (k := 3) rfl (nI_1 i) (by decide) rfl (fun ls hl => ?_)
      refine lv_goto (tgt := 10) hx hb d_C_fillFromAllThings_53 (by decide) ?_
      have e_b : k_fillFromAllThings_10 N K mk (k + 1) i A1 = k_fillFromAllThings_10 N K mk k (i + 1) (sU A1 10 (k_spaceOf N K A1 (nI i)).toNatClampNeg (if (A1 10 (k_spaceOf N K A1 (nI i)).toNatClampNeg) < (k_markOf N K A1 (nI i) mk) then (k_markOf N K A1 (nI i) mk) else (A1 10 (k_spaceOf N K A1 (nI i)).toNatClampNeg))) := by rw [k_fillFromAllThings_10_S, if_neg c_26]
      rw [e_b]
      exact ih (i + 1) (by omega) (sU A1 10 (k_spaceOf N K A1 (nI i)).toNatClampNeg (if (A1 10 (k_spaceOf N K A1 (nI i)).toNatClampNeg) < (k_markOf N K A1 (nI i) mk) then (k_markOf N K A1 (nI i) mk) else (A1 10 (k_spaceOf N K A1 (nI i)).toNatClampNeg))) _ _ ls hP hS (lv_sub hl [2, 3, 0] rfl)
def k_fillFromAllThings (N K : Nat) (A : Nat → Nat → Int32) (mk : Int32) : (Nat → Nat → Int32) := k_fillFromAllThings_10 N K mk N 0 (fU A)
set_option maxHeartbeats 4000000 in
set_option maxRecDepth 100000 in
theorem ck_fillFromAllThings (l : Launch) (D : va_G) (a : Nat → Nat) (cI cII : ClassId) (N K : Nat) (A : Nat → Nat → Int32) (hN : N ≤ 30) (hKK : K ≤ 10) (Z : Nat → Prop) (mk : Int32) : Met l y_C_fillFromAllThings (Cond.code y_C_fillFromAllThings b_C_fillFromAllThings 4 none :: BW) ({ frames := 5, cells := 0, slots := 0, locals := 112 } : Room) (PcW D Z (wC a cI cII (nI N) (nI K) A) (tC cI cII) [.ref (a 0), .int mk]) (va_Qv (fun u => u = k_fillFromAllThings N K A mk) (atW D (fun u => wC a cI cII (nI N) (nI K) u) (tC cI cII)) Z) 0 0 Z := by
  refine wStartV (by decide) rfl (Nat.le_of_ble_eq_true rfl) (fun p e s m below meth c Sx hr hlk hP hK hD hS ls hl => ?_)
  obtain ⟨hx, hb, hml, hown, hts⟩ := id Sx
  have hl : lv_has ls 4 [(0, .ref (a 0)), (1, .int mk)] := hl
  refine lv_aload_n hx hb d_C_fillFromAllThings_0 rfl (lv_at hl 0 rfl) ?_
  refine va_get (D := D) (ci := 0) (v := .ref (a 13)) (C := R_C) (T := F_C) (N := 9) hx hb hts i_C hown hK hP 0 rfl rfl 8 (by decide) (hts _ fl_C_37) (fun _ h9 => h9) rfl d_C_fillFromAllThings_1 ?_
  refine lv_iconst (v := (0 : Int32)) hx hb d_C_fillFromAllThings_4 (by decide) ?_
  refine x_fill13 Sx v_A_fill ⟨rfl, rfl, Nat.le_of_ble_eq_true rfl, Nat.le_of_ble_eq_true rfl⟩ hK hP (wC_D hD) hS hl.1 (Nat.le_of_ble_eq_true rfl) d_C_fillFromAllThings_5 ⟨Nat.le_of_ble_eq_true rfl, Nat.le_of_ble_eq_true rfl⟩ (fun H locs hP hS => ?_)
  have hP : va_P D classes (wC a cI cII (nI N) (nI K) (fU A)) H := hP
  refine lv_iconst (v := (0 : Int32)) hx hb d_C_fillFromAllThings_8 (by decide) ?_
  refine lv_istore_n (lv' := [(2, .int (0 : Int32)), (0, .ref (a 0)), (1, .int mk)]) hx hb d_C_fillFromAllThings_9 rfl hl (by decide) rfl (fun ls hl => ?_)
  have e_10 : k_fillFromAllThings N K A mk = k_fillFromAllThings_10 N K mk N 0 (fU A) := by rw [k_fillFromAllThings]
  rw [e_10]
  exact wk_fillFromAllThings_10 l D a cI cII N K (fU A) hN hKK Z mk Sx hr hlk (wC_D hD) hK N 0 (by omega) (fU A) _ _ ls hP hS (lv_sub hl [1, 2, 0] rfl)

def k_fillFromOneSpace (N K : Nat) (A : Nat → Nat → Int32) (src mk : Int32) : (Nat → Nat → Int32) := (if (k_isThing N K (fU A) src) = (0 : Int32) then k_spread N K (fU A) mk else k_spread N K (sU (fU A) 10 src.toNatClampNeg (1000 : Int32)) mk)
set_option maxHeartbeats 4000000 in
set_option maxRecDepth 100000 in
theorem ck_fillFromOneSpace (l : Launch) (D : va_G) (a : Nat → Nat) (cI cII : ClassId) (N K : Nat) (A : Nat → Nat → Int32) (hN : N ≤ 30) (hKK : K ≤ 10) (Z : Nat → Prop) (src mk : Int32) : Met l y_C_fillFromOneSpace (Cond.code y_C_fillFromOneSpace b_C_fillFromOneSpace 3 none :: BW) ({ frames := 5, cells := 0, slots := 0, locals := 112 } : Room) (PcW D Z (wC a cI cII (nI N) (nI K) A) (tC cI cII) [.ref (a 0), .int src, .int mk]) (va_Qv (fun u => u = k_fillFromOneSpace N K A src mk) (atW D (fun u => wC a cI cII (nI N) (nI K) u) (tC cI cII)) Z) 0 0 Z := by
  refine wStartV (by decide) rfl (Nat.le_of_ble_eq_true rfl) (fun p e s m below meth c Sx hr hlk hP hK hD hS ls hl => ?_)
  obtain ⟨hx, hb, hml, hown, hts⟩ := id Sx
  have hl : lv_has ls 3 [(0, .ref (a 0)), (1, .int src), (2, .int mk)] := hl
  refine lv_aload_n hx hb d_C_fillFromOneSpace_0 rfl (lv_at hl 0 rfl) ?_
  refine va_get (D := D) (ci := 0) (v := .ref (a 13)) (C := R_C) (T := F_C) (N := 9) hx hb hts i_C hown hK hP 0 rfl rfl 8 (by decide) (hts _ fl_C_37) (fun _ h9 => h9) rfl d_C_fillFromOneSpace_1 ?_
  refine lv_iconst (v := (0 : Int32)) hx hb d_C_fillFromOneSpace_4 (by decide) ?_
  refine x_fill13 Sx v_A_fill ⟨rfl, rfl, Nat.le_of_ble_eq_true rfl, Nat.le_of_ble_eq_true rfl⟩ hK hP (wC_D hD) hS hl.1 (Nat.le_of_ble_eq_true rfl) d_C_fillFromOneSpace_5 ⟨Nat.le_of_ble_eq_true rfl, Nat.le_of_ble_eq_true rfl⟩ (fun H locs hP hS => ?_)
  have hP : va_P D classes (wC a cI cII (nI N) (nI K) (fU A)) H := hP
  refine lv_aload_n hx hb d_C_fillFromOneSpace_8 rfl (lv_at hl 0 rfl) ?_
  refine lv_iload_n hx hb d_C_fillFromOneSpace_9 rfl (lv_at hl 1 rfl) ?_
  refine xro (As := [.int src]) (rest := []) Sx (ck_isThing l D a cI cII N K (fU A) hN hKK src) v_C_isThing ⟨rfl, rfl, Nat.le_of_ble_eq_true rfl, Nat.le_of_ble_eq_true rfl⟩ hK hP (ci := 0) (q0 := 0) rfl rfl rfl hl.1 rfl (Nat.le_of_ble_eq_true rfl) d_C_fillFromOneSpace_10 ⟨Nat.le_of_ble_eq_true rfl, Nat.le_of_ble_eq_true rfl⟩ (fun r hq => ?_)
  subst hq
  refine lv_if_eq (tgt := 25) hx hb d_C_fillFromOneSpace_13 (by decide) (fun c_13 => ?_) (fun c_13 => ?_)
  · refine lv_aload_n hx hb d_C_fillFromOneSpace_25 rfl (lv_at hl 0 rfl) ?_
    refine lv_iload_n hx hb d_C_fillFromOneSpace_26 rfl (lv_at hl 2 rfl) ?_
    refine xwv (As := [.int mk]) (rest := []) Sx (ck_spread l D a cI cII N K (fU A) hN hKK Z mk) v_C_spread ⟨rfl, rfl, Nat.le_of_ble_eq_true rfl, Nat.le_of_ble_eq_true rfl⟩ hK hP (ci := 0) (q0 := 0) rfl rfl (wC_D hD) hS (fun _ h => h) rfl hl.1 rfl (Nat.le_of_ble_eq_true rfl) d_C_fillFromOneSpace_27 ⟨Nat.le_of_ble_eq_true rfl, Nat.le_of_ble_eq_true rfl⟩ (fun u H locs hu hP hS => ?_)
    subst hu
    have hP : va_P D classes (wC a cI cII (nI N) (nI K) (k_spread N K (fU A) mk)) H := hP
    exact wRetV (u := k_spread N K (fU A) mk) hx hb hr hlk (show k_spread N K (fU A) mk = k_fillFromOneSpace N K A src mk from by rw [k_fillFromOneSpace, if_pos c_13]) hP hK hS d_C_fillFromOneSpace_30
  · refine lv_aload_n hx hb d_C_fillFromOneSpace_16 rfl (lv_at hl 0 rfl) ?_
    refine va_get (D := D) (ci := 0) (v := .ref (a 13)) (C := R_C) (T := F_C) (N := 9) hx hb hts i_C hown hK hP 0 rfl rfl 8 (by decide) (hts _ fl_C_37) (fun _ h9 => h9) rfl d_C_fillFromOneSpace_17 ?_
    refine lv_iload_n hx hb d_C_fillFromOneSpace_20 rfl (lv_at hl 1 rfl) ?_
    refine lv_sipush (v := (1000 : Int32)) hx hb d_C_fillFromOneSpace_21 (by decide) ?_
    refine va_iast (n := 30) hx hb hK hP (wC_D hD) hS 13 0 rfl rfl (in_isThing hN c_13) d_C_fillFromOneSpace_24 (fun H locs hP _ hS => ?_)
    have hP : va_P D classes (wC a cI cII (nI N) (nI K) (sU (fU A) 10 src.toNatClampNeg (1000 : Int32))) H := hP
    refine lv_aload_n hx hb d_C_fillFromOneSpace_25 rfl (lv_at hl 0 rfl) ?_
    refine lv_iload_n hx hb d_C_fillFromOneSpace_26 rfl (lv_at hl 2 rfl) ?_
    refine xwv (As := [.int mk]) (rest := []) Sx (ck_spread l D a cI cII N K (sU (fU A) 10 src.toNatClampNeg (1000 : Int32)) hN hKK Z mk) v_C_spread ⟨rfl, rfl, Nat.le_of_ble_eq_true rfl, Nat.le_of_ble_eq_true rfl⟩ hK hP (ci := 0) (q0 := 0) rfl rfl (wC_D hD) hS (fun _ h => h) rfl hl.1 rfl (Nat.le_of_ble_eq_true rfl) d_C_fillFromOneSpace_27 ⟨Nat.le_of_ble_eq_true rfl, Nat.le_of_ble_eq_true rfl⟩ (fun u H locs hu hP hS => ?_)
    subst hu
    have hP : va_P D classes (wC a cI cII (nI N) (nI K) (k_spread N K (sU (fU A) 10 src.toNatClampNeg (1000 : Int32)) mk)) H := hP
    exact wRetV (u := k_spread N K (sU (fU A) 10 src.toNatClampNeg (1000 : Int32)) mk) hx hb hr hlk (show k_spread N K (sU (fU A) 10 src.toNatClampNeg (1000 : Int32)) mk = k_fillFromOneSpace N K A src mk from by rw [k_fillFromOneSpace, if_neg c_13]) hP hK hS d_C_fillFromOneSpace_30

def k_thing_55 (N K : Nat) (u2 : Int32) : Nat → Nat → (Nat → Nat → Int32) → Int32 × Nat × Nat × (Nat → Nat → Int32)
  | 0, i, A1 => (u2, (N, K, A1))
  | k + 1, i, A1 => k_thing_55 N K u2 k (i + 1) (sU A1 (2 + (nI i).toNatClampNeg) u2.toNatClampNeg (0 : Int32))
theorem k_thing_55_0 (N K : Nat) (u2 : Int32) (i : Nat) (A1 : (Nat → Nat → Int32)) : k_thing_55 N K u2 0 i A1 = (u2, (N, K, A1)) := rfl
theorem k_thing_55_S (N K : Nat) (u2 : Int32) (k i : Nat) (A1 : (Nat → Nat → Int32)) : k_thing_55 N K u2 (k + 1) i A1 = k_thing_55 N K u2 k (i + 1) (sU A1 (2 + (nI i).toNatClampNeg) u2.toNatClampNeg (0 : Int32)) := rfl
set_option maxHeartbeats 4000000 in
set_option maxRecDepth 100000 in
theorem wk_thing_55 (l : Launch) (D : va_G) (a : Nat → Nat) (cI cII : ClassId) (N K : Nat) (A : Nat → Nat → Int32) (hN : N ≤ 30) (hKK : K ≤ 10) (Z : Nat → Prop) (srt u2 : Int32) (hu2 : vp_in u2 30) {p : Program} {e : Env} {s : State} {m : MethodId} {below : List Frame} {meth : Method} {c : Code} (Sx : CallFix p m c b_C_thing 4 s ([.ref (a 0), .int srt] : List Value).toArray BW R_C) (hr : meth.sig.returnType = (some .int)) (hlk : meth.locks = false) (hD : va_D Z (wC a cI cII (nI N) (nI K) A)) (hK : va_K D classes (tC cI cII) s) : ∀ (k i : Nat), i + k = 4 → ∀ (A1 : (Nat → Nat → Int32)) (H : Heap) (locs : List Loc) (ls : Array Slot), va_P D classes (wC a cI cII (nI N) (nI K) A1) H → va_S Z s.heap H locs → lv_has ls 4 [(0, .ref (a 0)), (1, .int srt), (2, .int u2), (3, .int (nI i))] → W p l e ({ frames := 0, cells := 0, slots := 0, locals := 0 } : Room) s m ([.ref (a 0), .int srt] : List Value).toArray below meth c H locs 0 0 (MQ below (va_Qi (fun r u => r = (k_thing_55 N K u2 k i A1).1 ∧ u = (k_thing_55 N K u2 k i A1).2) (atW D (fun u => wC a cI cII (nI u.1) (nI u.2.1) u.2.2) (tC cI cII)) Z) ([.ref (a 0), .int srt] : List Value).toArray s 0 0 Z) (F0 m 55 ls []) := by
  obtain ⟨hx, hb, hml, hown, hts⟩ := id Sx
  intro k
  induction k with
  | zero =>
    intro i hi A1 H locs ls hP hS hl
    refine lv_iload_n hx hb d_C_thing_55 rfl (lv_at hl 3 rfl) ?_
    refine lv_iconst (v := (4 : Int32)) hx hb d_C_thing_56 (by decide) ?_
    refine lv_icmp_ge (tgt := 75) hx hb d_C_thing_57 (by decide) (fun c_57 => ?_) (fun c_57 => absurd (nI_le (a := 4) (b := i) (by omega) (by omega)) c_57)
    refine lv_iload_n hx hb d_C_thing_75 rfl (lv_at hl 2 rfl) ?_
    exact wRet (u := (N, K, A1)) hx hb hr rfl hlk (show u2 = (k_thing_55 N K u2 0 i A1).1 ∧ (N, K, A1) = (k_thing_55 N K u2 0 i A1).2 from by rw [k_thing_55_0]; exact ⟨rfl, rfl⟩) hP hK hS d_C_thing_76
  | succ k ih =>
    intro i hi A1 H locs ls hP hS hl
    refine lv_iload_n hx hb d_C_thing_55 rfl (lv_at hl 3 rfl) ?_
    refine lv_iconst (v := (4 : Int32)) hx hb d_C_thing_56 (by decide) ?_
    refine lv_icmp_ge (tgt := 75) hx hb d_C_thing_57 (by decide) (fun c_57 => absurd c_57 (nI_ge (a := i) (b := 4) (by omega) (by omega))) (fun c_57 => ?_)
    refine lv_aload_n hx hb d_C_thing_60 rfl (lv_at hl 0 rfl) ?_
    refine va_get (D := D) (ci := 0) (v := .ref (a 3)) (C := R_C) (T := F_C) (N := 9) hx hb hts i_C hown hK hP 0 rfl rfl 3 (by decide) (hts _ fl_C_22) (fun _ h9 => h9) rfl d_C_thing_61 ?_
    refine lv_iload_n hx hb d_C_thing_64 rfl (lv_at hl 3 rfl) ?_
    refine x_ald4 hx hb hK hP (vp_in_nI (by omega) (by omega)) d_C_thing_65 ?_
    refine lv_iload_n hx hb d_C_thing_66 rfl (lv_at hl 2 rfl) ?_
    refine lv_iconst (v := (0 : Int32)) hx hb d_C_thing_67 (by decide) ?_
    refine va_iast (n := 30) hx hb hK hP (wC_D hD) hS (4 + (nI i).toNatClampNeg) 0 (wC_row4 (vp_lt (vp_in_nI (by omega) (by omega)))) rfl (hu2) d_C_thing_68 (fun H locs hP _ hS => ?_)
    have hP : va_P D classes (wC a cI cII (nI N) (nI K) (sU A1 (2 + (nI i).toNatClampNeg) u2.toNatClampNeg (0 : Int32))) H := by have h9 := hP; rw [wC_set4 (j := (nI i).toNatClampNeg) (vp_lt (vp_in_nI (by omega) (by omega)))] at h9; exact h9
    refine lv_iinc (v := nI (i + 1)) (lv' := [(3, .int (nI (i + 1))), (0, .ref (a 0)), (1, .int srt), (2, .int u2)]) hx hb d_C_thing_69 hl (k := 3) rfl (nI_1 i) (by decide) rfl (fun ls hl => ?_)
    refine lv_goto (tgt := 55) hx hb d_C_thing_72 (by decide) ?_
    have e_b : k_thing_55 N K u2 (k + 1) i A1 = k_thing_55 N K u2 k (i + 1) (sU A1 (2 + (nI i).toNatClampNeg) u2.toNatClampNeg (0 : Int32)) := by rw [k_thing_55_S]
    rw [e_b]
    exact ih (i + 1) (by omega) (sU A1 (2 + (nI i).toNatClampNeg) u2.toNatClampNeg (0 : Int32)) _ _ ls hP hS (lv_sub hl [1, 2, 3, 0] rfl)
def k_thing (N K : Nat) (A : Nat → Nat → Int32) (srt : Int32) : Int32 × Nat × Nat × (Nat → Nat → Int32) := (if srt < (0 : Int32) then ((-3 : Int32), (N, K, A)) else (if srt ≤ (4 : Int32) then (if (nI N) < (30 : Int32) then k_thing_55 (N + 1) K (nI N) 4 0 (sU (sU A 0 (nI N).toNatClampNeg srt) 1 (nI N).toNatClampNeg (-1 : Int32)) else ((-7 : Int32), (N, K, A))) else ((-3 : Int32), (N, K, A))))
set_option maxHeartbeats 4000000 in
set_option maxRecDepth 100000 in
theorem ck_thing (l : Launch) (D : va_G) (a : Nat → Nat) (cI cII : ClassId) (N K : Nat) (A : Nat → Nat → Int32) (hN : N ≤ 30) (hKK : K ≤ 10) (Z : Nat → Prop) (srt : Int32) : Met l y_C_thing (Cond.code y_C_thing b_C_thing 4 (some .int) :: BW) ({ frames := 0, cells := 0, slots := 0, locals := 0 } : Room) (PcW D Z (wC a cI cII (nI N) (nI K) A) (tC cI cII) [.ref (a 0), .int srt]) (va_Qi (fun r u => r = (k_thing N K A srt).1 ∧ u = (k_thing N K A srt).2) (atW D (fun u => wC a cI cII (nI u.1) (nI u.2.1) u.2.2) (tC cI cII)) Z) 0 0 Z := by
  refine wStart (by decide) rfl (Nat.le_of_ble_eq_true rfl) (fun p e s m below meth c Sx hr hlk hP hK hD hS ls hl => ?_)
  obtain ⟨hx, hb, hml, hown, hts⟩ := id Sx
  have hl : lv_has ls 4 [(0, .ref (a 0)), (1, .int srt)] := hl
  refine lv_iload_n hx hb d_C_thing_0 rfl (lv_at hl 1 rfl) ?_
  refine lv_if_lt (tgt := 9) hx hb d_C_thing_1 (by decide) (fun c_1 => ?_) (fun c_1 => ?_)
  · refine lv_bipush (v := (-3 : Int32)) hx hb d_C_thing_9 (by decide) ?_
    exact wRet (u := (N, K, A)) hx hb hr rfl hlk (show (-3 : Int32) = (k_thing N K A srt).1 ∧ (N, K, A) = (k_thing N K A srt).2 from by rw [k_thing, if_pos c_1]; exact ⟨rfl, rfl⟩) hP hK hS d_C_thing_11
  · refine lv_iload_n hx hb d_C_thing_4 rfl (lv_at hl 1 rfl) ?_
    refine lv_iconst (v := (4 : Int32)) hx hb d_C_thing_5 (by decide) ?_
    refine lv_icmp_le (tgt := 12) hx hb d_C_thing_6 (by decide) (fun c_6 => ?_) (fun c_6 => ?_)
    · refine lv_aload_n hx hb d_C_thing_12 rfl (lv_at hl 0 rfl) ?_
      refine va_get (D := D) (ci := 0) (v := .int (nI N)) (C := R_C) (T := F_C) (N := 9) hx hb hts i_C hown hK hP 0 rfl rfl 0 (by decide) (hts _ fl_C_7) (fun _ h9 => h9) rfl d_C_thing_13 ?_
      refine lv_bipush (v := (30 : Int32)) hx hb d_C_thing_16 (by decide) ?_
      refine lv_icmp_lt (tgt := 24) hx hb d_C_thing_18 (by decide) (fun c_18 => ?_) (fun c_18 => ?_)
      · refine lv_aload_n hx hb d_C_thing_24 rfl (lv_at hl 0 rfl) ?_
        refine va_get (D := D) (ci := 0) (v := .int (nI N)) (C := R_C) (T := F_C) (N := 9) hx hb hts i_C hown hK hP 0 rfl rfl 0 (by decide) (hts _ fl_C_7) (fun _ h9 => h9) rfl d_C_thing_25 ?_
        refine lv_istore_n (lv' := [(2, .int (nI N)), (0, .ref (a 0)), (1, .int srt)]) hx hb d_C_thing_28 rfl hl (by decide) rfl (fun ls hl => ?_)
        refine lv_aload_n hx hb d_C_thing_29 rfl (lv_at hl 1 rfl) ?_
        refine lv_dup hx hb d_C_thing_30 rfl ?_
        refine va_get (D := D) (ci := 0) (v := .int (nI N)) (C := R_C) (T := F_C) (N := 9) hx hb hts i_C hown hK hP 0 rfl rfl 0 (by decide) (hts _ fl_C_7) (fun _ h9 => h9) rfl d_C_thing_31 ?_
        refine lv_iconst (v := (1 : Int32)) hx hb d_C_thing_34 (by decide) ?_
        refine x_iadd1 hx hb d_C_thing_35 ?_
        refine va_put (D := D) (ci := 0) (v := .int (nI (N + 1))) (ty := .int) (C := R_C) (T := F_C) (N := 9) hx hb hts i_C t_C t_C_ok n_C hown hK hP (wC_D hD) hS 0 rfl rfl 0 (by decide) (hts _ fl_C_7) (fun _ h9 => h9) rfl (by decide +kernel) rfl rfl (Nat.le_of_ble_eq_true rfl) d_C_thing_36 (fun H locs hP _ hS => ?_)
        have hP : va_P D classes (wC a cI cII (nI (N + 1)) (nI K) A) H := hP
        refine lv_aload_n hx hb d_C_thing_39 rfl (lv_at hl 1 rfl) ?_
        refine va_get (D := D) (ci := 0) (v := .ref (a 1)) (C := R_C) (T := F_C) (N := 9) hx hb hts i_C hown hK hP 0 rfl rfl 1 (by decide) (hts _ fl_C_13) (fun _ h9 => h9) rfl d_C_thing_40 ?_
        refine lv_iload_n hx hb d_C_thing_43 rfl (lv_at hl 0 rfl) ?_
        refine lv_iload_n hx hb d_C_thing_44 rfl (lv_at hl 2 rfl) ?_
        refine va_iast (n := 30) hx hb hK hP (wC_D hD) hS 1 0 rfl rfl (vp_in_nI ((nI_ltI (a := N) (b := 30) (by omega) (by omega)).mp c_18) (by omega)) d_C_thing_45 (fun H locs hP _ hS => ?_)
        have hP : va_P D classes (wC a cI cII (nI (N + 1)) (nI K) (sU A 0 (nI N).toNatClampNeg srt)) H := hP
        refine lv_aload_n hx hb d_C_thing_46 rfl (lv_at hl 1 rfl) ?_
        refine va_get (D := D) (ci := 0) (v := .ref (a 2)) (C := R_C) (T := F_C) (N := 9) hx hb hts i_C hown hK hP 0 rfl rfl 2 (by decide) (hts _ fl_C_17) (fun _ h9 => h9) rfl d_C_thing_47 ?_
        refine lv_iload_n hx hb d_C_thing_50 rfl (lv_at hl 0 rfl) ?_
        refine lv_iconst (v := (-1 : Int32)) hx hb d_C_thing_51 (by decide) ?_
        refine va_iast (n := 30) hx hb hK hP (wC_D hD) hS 2 0 rfl rfl (vp_in_nI ((nI_ltI (a := N) (b := 30) (by omega) (by omega)).mp c_18) (by omega)) d_C_thing_52 (fun H locs hP _ hS => ?_)
        have hP : va_P D classes (wC a cI cII (nI (N + 1)) (nI K) (sU (sU A 0 (nI N).toNatClampNeg srt) 1 (nI N).toNatClampNeg (-1 : Int32))) H := hP
        refine lv_iconst (v := (0 : Int32)) hx hb d_C_thing_53 (by decide) ?_
        refine lv_istore_n (lv' := [(3, .int (0 : Int32)), (2, .int (nI N)), (0, .ref (a 0)), (1, .int srt)]) hx hb d_C_thing_54 rfl hl (by decide) rfl (fun ls hl => ?_)
        have e_55 : k_thing N K A srt = k_thing_55 (N + 1) K (nI N) 4 0 (sU (sU A 0 (nI N).toNatClampNeg srt) 1 (nI N).toNatClampNeg (-1 : Int32)) := by rw [k_thing, if_neg c_1, if_pos c_6, if_pos c_18]
        rw [e_55]
        exact wk_thing_55 l D a cI cII (N + 1) K (sU (sU A 0 (nI N).toNatClampNeg srt) 1 (nI N).toNatClampNeg (-1 : Int32)) ((nI_ltI (a := N) (b := 30) (by omega) (by omega)).mp c_18) hKK Z srt (nI N) (vp_in_nI ((nI_ltI (a := N) (b := 30) (by omega) (by omega)).mp c_18) (by omega)) Sx hr hlk (wC_D hD) hK 4 0 (by omega) (sU (sU A 0 (nI N).toNatClampNeg srt) 1 (nI N).toNatClampNeg (-1 : Int32)) _ _ ls hP hS (lv_sub hl [2, 3, 1, 0] rfl)
      · refine lv_bipush (v := (-7 : Int32)) hx hb d_C_thing_21 (by decide) ?_
        exact wRet (u := (N, K, A)) hx hb hr rfl hlk (show (-7 : Int32) = (k_thing N K A srt).1 ∧ (N, K, A) = (k_thing N K A srt).2 from by rw [k_thing, if_neg c_1, if_pos c_6, if_neg c_18]; exact ⟨rfl, rfl⟩) hP hK hS d_C_thing_23
    · refine lv_bipush (v := (-3 : Int32)) hx hb d_C_thing_9 (by decide) ?_
      exact wRet (u := (N, K, A)) hx hb hr rfl hlk (show (-3 : Int32) = (k_thing N K A srt).1 ∧ (N, K, A) = (k_thing N K A srt).2 from by rw [k_thing, if_neg c_1, if_neg c_6]; exact ⟨rfl, rfl⟩) hP hK hS d_C_thing_11

def k_clear (N K : Nat) (A : Nat → Nat → Int32) : Int32 × Nat × Nat × (Nat → Nat → Int32) := (nI N, (0, 0, A))
set_option maxHeartbeats 4000000 in
set_option maxRecDepth 100000 in
theorem ck_clear (l : Launch) (D : va_G) (a : Nat → Nat) (cI cII : ClassId) (N K : Nat) (A : Nat → Nat → Int32) (hN : N ≤ 30) (hKK : K ≤ 10) (Z : Nat → Prop) : Met l y_C_clear (Cond.code y_C_clear b_C_clear 2 (some .int) :: BW) ({ frames := 0, cells := 0, slots := 0, locals := 0 } : Room) (PcW D Z (wC a cI cII (nI N) (nI K) A) (tC cI cII) [.ref (a 0)]) (va_Qi (fun r u => r = (k_clear N K A).1 ∧ u = (k_clear N K A).2) (atW D (fun u => wC a cI cII (nI u.1) (nI u.2.1) u.2.2) (tC cI cII)) Z) 0 0 Z := by
  refine wStart (by decide) rfl (Nat.le_of_ble_eq_true rfl) (fun p e s m below meth c Sx hr hlk hP hK hD hS ls hl => ?_)
  obtain ⟨hx, hb, hml, hown, hts⟩ := id Sx
  have hl : lv_has ls 2 [(0, .ref (a 0))] := hl
  refine lv_aload_n hx hb d_C_clear_0 rfl (lv_at hl 0 rfl) ?_
  refine va_get (D := D) (ci := 0) (v := .int (nI N)) (C := R_C) (T := F_C) (N := 9) hx hb hts i_C hown hK hP 0 rfl rfl 0 (by decide) (hts _ fl_C_7) (fun _ h9 => h9) rfl d_C_clear_1 ?_
  refine lv_istore_n (lv' := [(1, .int (nI N)), (0, .ref (a 0))]) hx hb d_C_clear_4 rfl hl (by decide) rfl (fun ls hl => ?_)
  refine lv_aload_n hx hb d_C_clear_5 rfl (lv_at hl 1 rfl) ?_
  refine lv_iconst (v := (0 : Int32)) hx hb d_C_clear_6 (by decide) ?_
  refine va_put (D := D) (ci := 0) (v := .int (0 : Int32)) (ty := .int) (C := R_C) (T := F_C) (N := 9) hx hb hts i_C t_C t_C_ok n_C hown hK hP (wC_D hD) hS 0 rfl rfl 0 (by decide) (hts _ fl_C_7) (fun _ h9 => h9) rfl (by decide +kernel) rfl rfl (Nat.le_of_ble_eq_true rfl) d_C_clear_7 (fun H locs hP _ hS => ?_)
  have hP : va_P D classes (wC a cI cII (nI 0) (nI K) A) H := hP
  refine lv_aload_n hx hb d_C_clear_10 rfl (lv_at hl 1 rfl) ?_
  refine lv_iconst (v := (0 : Int32)) hx hb d_C_clear_11 (by decide) ?_
  refine va_put (D := D) (ci := 0) (v := .int (0 : Int32)) (ty := .int) (C := R_C) (T := F_C) (N := 9) hx hb hts i_C t_C t_C_ok n_C hown hK hP (wC_D hD) hS 0 rfl rfl 4 (by decide) (hts _ fl_C_25) (fun _ h9 => h9) rfl (by decide +kernel) rfl rfl (Nat.le_of_ble_eq_true rfl) d_C_clear_12 (fun H locs hP _ hS => ?_)
  have hP : va_P D classes (wC a cI cII (nI 0) (nI 0) A) H := hP
  refine lv_iload_n hx hb d_C_clear_15 rfl (lv_at hl 0 rfl) ?_
  exact wRet (u := (0, 0, A)) hx hb hr rfl hlk (show nI N = (k_clear N K A).1 ∧ (0, 0, A) = (k_clear N K A).2 from by rw [k_clear]; exact ⟨rfl, rfl⟩) hP hK hS d_C_clear_16

def k_put (N K : Nat) (A : Nat → Nat → Int32) (x hd : Int32) : Int32 × (Nat → Nat → Int32) := (if (k_isThing N K A x) = (0 : Int32) then ((-2 : Int32), A) else (if (k_sortOf N K A x) = (0 : Int32) then ((-2 : Int32), A) else (if hd = (-1 : Int32) then (A 1 x.toNatClampNeg, sU A 1 x.toNatClampNeg (-1 : Int32)) else (if (k_isThing N K A hd) = (0 : Int32) then ((-2 : Int32), A) else (if (k_sortOf N K A hd) = (4 : Int32) then ((-2 : Int32), A) else (if hd = x then ((-4 : Int32), A) else (if (k_isWithin N K A hd x) = (0 : Int32) then (if hd = (A 1 x.toNatClampNeg) then (A 1 x.toNatClampNeg, sU A 1 x.toNatClampNeg hd) else (if (k_isFull N K A hd) = (0 : Int32) then (A 1 x.toNatClampNeg, sU A 1 x.toNatClampNeg hd) else ((-7 : Int32), A))) else ((-4 : Int32), A))))))))
set_option maxHeartbeats 4000000 in
set_option maxRecDepth 100000 in
theorem ck_put (l : Launch) (D : va_G) (a : Nat → Nat) (cI cII : ClassId) (N K : Nat) (A : Nat → Nat → Int32) (hN : N ≤ 30) (hKK : K ≤ 10) (Z : Nat → Prop) (x hd : Int32) : Met l y_C_put (Cond.code y_C_put b_C_put 4 (some .int) :: BW) ({ frames := 3, cells := 0, slots := 0, locals := 66 } : Room) (PcW D Z (wC a cI cII (nI N) (nI K) A) (tC cI cII) [.ref (a 0), .int x, .int hd]) (va_Qi (fun r u => r = (k_put N K A x hd).1 ∧ u = (k_put N K A x hd).2) (atW D (fun u => wC a cI cII (nI N) (nI K) u) (tC cI cII)) Z) 0 0 Z := by
  refine wStart (by decide) rfl (Nat.le_of_ble_eq_true rfl) (fun p e s m below meth c Sx hr hlk hP hK hD hS ls hl => ?_)
  obtain ⟨hx, hb, hml, hown, hts⟩ := id Sx
  have hl : lv_has ls 4 [(0, .ref (a 0)), (1, .int x), (2, .int hd)] := hl
  refine lv_aload_n hx hb d_C_put_0 rfl (lv_at hl 0 rfl) ?_
  refine lv_iload_n hx hb d_C_put_1 rfl (lv_at hl 1 rfl) ?_
  refine xro (As := [.int x]) (rest := []) Sx (ck_isThing l D a cI cII N K A hN hKK x) v_C_isThing ⟨rfl, rfl, Nat.le_of_ble_eq_true rfl, Nat.le_of_ble_eq_true rfl⟩ hK hP (ci := 0) (q0 := 0) rfl rfl rfl hl.1 rfl (Nat.le_of_ble_eq_true rfl) d_C_put_2 ⟨Nat.le_of_ble_eq_true rfl, Nat.le_of_ble_eq_true rfl⟩ (fun r hq => ?_)
  subst hq
  refine lv_if_eq (tgt := 16) hx hb d_C_put_5 (by decide) (fun c_5 => ?_) (fun c_5 => ?_)
  · refine lv_bipush (v := (-2 : Int32)) hx hb d_C_put_16 (by decide) ?_
    exact wRet (u := A) hx hb hr rfl hlk (show (-2 : Int32) = (k_put N K A x hd).1 ∧ A = (k_put N K A x hd).2 from by rw [k_put, if_pos c_5]; exact ⟨rfl, rfl⟩) hP hK hS d_C_put_18
  · refine lv_aload_n hx hb d_C_put_8 rfl (lv_at hl 0 rfl) ?_
    refine lv_iload_n hx hb d_C_put_9 rfl (lv_at hl 1 rfl) ?_
    refine xro (As := [.int x]) (rest := []) Sx (ck_sortOf l D a cI cII N K A hN hKK x) v_C_sortOf ⟨rfl, rfl, Nat.le_of_ble_eq_true rfl, Nat.le_of_ble_eq_true rfl⟩ hK hP (ci := 0) (q0 := 0) rfl rfl rfl hl.1 rfl (Nat.le_of_ble_eq_true rfl) d_C_put_10 ⟨Nat.le_of_ble_eq_true rfl, Nat.le_of_ble_eq_true rfl⟩ (fun r hq => ?_)
    subst hq
    refine lv_if_ne (tgt := 19) hx hb d_C_put_13 (by decide) (fun c_13 => ?_) (fun c_13 => ?_)
    · refine lv_aload_n hx hb d_C_put_19 rfl (lv_at hl 0 rfl) ?_
      refine va_get (D := D) (ci := 0) (v := .ref (a 2)) (C := R_C) (T := F_C) (N := 9) hx hb hts i_C hown hK hP 0 rfl rfl 2 (by decide) (hts _ fl_C_17) (fun _ h9 => h9) rfl d_C_put_20 ?_
      refine lv_iload_n hx hb d_C_put_23 rfl (lv_at hl 1 rfl) ?_
      refine va_iald (n := 30) hx hb hK hP 2 0 rfl rfl (in_isThing hN c_5) d_C_put_24 ?_
      refine lv_istore_n (lv' := [(3, .int (A 1 x.toNatClampNeg)), (0, .ref (a 0)), (1, .int x), (2, .int hd)]) hx hb d_C_put_25 rfl hl (by decide) rfl (fun ls hl => ?_)
      refine lv_iload_n hx hb d_C_put_26 rfl (lv_at hl 3 rfl) ?_
      refine lv_iconst (v := (-1 : Int32)) hx hb d_C_put_27 (by decide) ?_
      refine lv_icmp_ne (tgt := 40) hx hb d_C_put_28 (by decide) (fun c_28 => ?_) (fun c_28 => ?_)
      · refine lv_aload_n hx hb d_C_put_40 rfl (lv_at hl 1 rfl) ?_
        refine lv_iload_n hx hb d_C_put_41 rfl (lv_at hl 3 rfl) ?_
        refine xro (As := [.int hd]) (rest := []) Sx (ck_isThing l D a cI cII N K A hN hKK hd) v_C_isThing ⟨rfl, rfl, Nat.le_of_ble_eq_true rfl, Nat.le_of_ble_eq_true rfl⟩ hK hP (ci := 0) (q0 := 0) rfl rfl rfl hl.1 rfl (Nat.le_of_ble_eq_true rfl) d_C_put_42 ⟨Nat.le_of_ble_eq_true rfl, Nat.le_of_ble_eq_true rfl⟩ (fun r hq => ?_)
        subst hq
        refine lv_if_eq (tgt := 57) hx hb d_C_put_45 (by decide) (fun c_45 => ?_) (fun c_45 => ?_)
        · refine lv_bipush (v := (-2 : Int32)) hx hb d_C_put_57 (by decide) ?_
          exact wRet (u := A) hx hb hr rfl hlk (show (-2 : Int32) = (k_put N K A x hd).1 ∧ A = (k_put N K A x hd).2 from by rw [k_put, if_neg c_5, if_neg c_13, if_neg c_28, if_pos c_45]; exact ⟨rfl, rfl⟩) hP hK hS d_C_put_59
        · refine lv_aload_n hx hb d_C_put_48 rfl (lv_at hl 1 rfl) ?_
          refine lv_iload_n hx hb d_C_put_49 rfl (lv_at hl 3 rfl) ?_
          refine xro (As := [.int hd]) (rest := []) Sx (ck_sortOf l D a cI cII N K A hN hKK hd) v_C_sortOf ⟨rfl, rfl, Nat.le_of_ble_eq_true rfl, Nat.le_of_ble_eq_true rfl⟩ hK hP (ci := 0) (q0 := 0) rfl rfl rfl hl.1 rfl (Nat.le_of_ble_eq_true rfl) d_C_put_50 ⟨Nat.le_of_ble_eq_true rfl, Nat.le_of_ble_eq_true rfl⟩ (fun r hq => ?_)
          subst hq
          refine lv_iconst (v := (4 : Int32)) hx hb d_C_put_53 (by decide) ?_
          refine lv_icmp_ne (tgt := 60) hx hb d_C_put_54 (by decide) (fun c_54 => ?_) (fun c_54 => ?_)
          · refine lv_iload_n hx hb d_C_put_60 rfl (lv_at hl 3 rfl) ?_
            refine lv_iload_n hx hb d_C_put_61 rfl (lv_at hl 2 rfl) ?_
            refine lv_icmp_eq (tgt := 74) hx hb d_C_put_62 (by decide) (fun c_62 => ?_) (fun c_62 => ?_)
            · refine lv_bipush (v := (-4 : Int32)) hx hb d_C_put_74 (by decide) ?_
              exact wRet (u := A) hx hb hr rfl hlk (show (-4 : Int32) = (k_put N K A x hd).1 ∧ A = (k_put N K A x hd).2 from by rw [k_put, if_neg c_5, if_neg c_13, if_neg c_28, if_neg c_45, if_neg c_54, if_pos c_62]; exact ⟨rfl, rfl⟩) hP hK hS d_C_put_76
            · refine lv_aload_n hx hb d_C_put_65 rfl (lv_at hl 1 rfl) ?_
              refine lv_iload_n hx hb d_C_put_66 rfl (lv_at hl 3 rfl) ?_
              refine lv_iload_n hx hb d_C_put_67 rfl (lv_at hl 2 rfl) ?_
              refine xro (As := [.int hd, .int x]) (rest := []) Sx (ck_isWithin l D a cI cII N K A hN hKK hd x) v_C_isWithin ⟨rfl, rfl, Nat.le_of_ble_eq_true rfl, Nat.le_of_ble_eq_true rfl⟩ hK hP (ci := 0) (q0 := 0) rfl rfl rfl hl.1 rfl (Nat.le_of_ble_eq_true rfl) d_C_put_68 ⟨Nat.le_of_ble_eq_true rfl, Nat.le_of_ble_eq_true rfl⟩ (fun r hq => ?_)
              subst hq
              refine lv_if_eq (tgt := 77) hx hb d_C_put_71 (by decide) (fun c_71 => ?_) (fun c_71 => ?_)
              · refine lv_iload_n hx hb d_C_put_77 rfl (lv_at hl 3 rfl) ?_
                refine lv_iload_n hx hb d_C_put_78 rfl (lv_at hl 0 rfl) ?_
                refine lv_icmp_eq (tgt := 93) hx hb d_C_put_79 (by decide) (fun c_79 => ?_) (fun c_79 => ?_)
                · refine lv_aload_n hx hb d_C_put_93 rfl (lv_at hl 1 rfl) ?_
                  refine va_get (D := D) (ci := 0) (v := .ref (a 2)) (C := R_C) (T := F_C) (N := 9) hx hb hts i_C hown hK hP 0 rfl rfl 2 (by decide) (hts _ fl_C_17) (fun _ h9 => h9) rfl d_C_put_94 ?_
                  refine lv_iload_n hx hb d_C_put_97 rfl (lv_at hl 2 rfl) ?_
                  refine lv_iload_n hx hb d_C_put_98 rfl (lv_at hl 3 rfl) ?_
                  refine va_iast (n := 30) hx hb hK hP (wC_D hD) hS 2 0 rfl rfl (in_isThing hN c_5) d_C_put_99 (fun H locs hP _ hS => ?_)
                  have hP : va_P D classes (wC a cI cII (nI N) (nI K) (sU A 1 x.toNatClampNeg hd)) H := hP
                  refine lv_iload_n hx hb d_C_put_100 rfl (lv_at hl 0 rfl) ?_
                  exact wRet (u := sU A 1 x.toNatClampNeg hd) hx hb hr rfl hlk (show A 1 x.toNatClampNeg = (k_put N K A x hd).1 ∧ sU A 1 x.toNatClampNeg hd = (k_put N K A x hd).2 from by rw [k_put, if_neg c_5, if_neg c_13, if_neg c_28, if_neg c_45, if_neg c_54, if_neg c_62, if_pos c_71, if_pos c_79]; exact ⟨rfl, rfl⟩) hP hK hS d_C_put_101
                · refine lv_aload_n hx hb d_C_put_82 rfl (lv_at hl 1 rfl) ?_
                  refine lv_iload_n hx hb d_C_put_83 rfl (lv_at hl 3 rfl) ?_
                  refine xro (As := [.int hd]) (rest := []) Sx (ck_isFull l D a cI cII N K A hN hKK hd) v_C_isFull ⟨rfl, rfl, Nat.le_of_ble_eq_true rfl, Nat.le_of_ble_eq_true rfl⟩ hK hP (ci := 0) (q0 := 0) rfl rfl rfl hl.1 rfl (Nat.le_of_ble_eq_true rfl) d_C_put_84 ⟨Nat.le_of_ble_eq_true rfl, Nat.le_of_ble_eq_true rfl⟩ (fun r hq => ?_)
                  subst hq
                  refine lv_if_eq (tgt := 93) hx hb d_C_put_87 (by decide) (fun c_87 => ?_) (fun c_87 => ?_)
                  · refine lv_aload_n hx hb d_C_put_93 rfl (lv_at hl 1 rfl) ?_
                    refine va_get (D := D) (ci := 0) (v := .ref (a 2)) (C := R_C) (T := F_C) (N := 9) hx hb hts i_C hown hK hP 0 rfl rfl 2 (by decide) (hts _ fl_C_17) (fun _ h9 => h9) rfl d_C_put_94 ?_
                    refine lv_iload_n hx hb d_C_put_97 rfl (lv_at hl 2 rfl) ?_
                    refine lv_iload_n hx hb d_C_put_98 rfl (lv_at hl 3 rfl) ?_
                    refine va_iast (n := 30) hx hb hK hP (wC_D hD) hS 2 0 rfl rfl (in_isThing hN c_5) d_C_put_99 (fun H locs hP _ hS => ?_)
                    have hP : va_P D classes (wC a cI cII (nI N) (nI K) (sU A 1 x.toNatClampNeg hd)) H := hP
                    refine lv_iload_n hx hb d_C_put_100 rfl (lv_at hl 0 rfl) ?_
                    exact wRet (u := sU A 1 x.toNatClampNeg hd) hx hb hr rfl hlk (show A 1 x.toNatClampNeg = (k_put N K A x hd).1 ∧ sU A 1 x.toNatClampNeg hd = (k_put N K A x hd).2 from by rw [k_put, if_neg c_5, if_neg c_13, if_neg c_28, if_neg c_45, if_neg c_54, if_neg c_62, if_pos c_71, if_neg c_79, if_pos c_87]; exact ⟨rfl, rfl⟩) hP hK hS d_C_put_101
                  · refine lv_bipush (v := (-7 : Int32)) hx hb d_C_put_90 (by decide) ?_
                    exact wRet (u := A) hx hb hr rfl hlk (show (-7 : Int32) = (k_put N K A x hd).1 ∧ A = (k_put N K A x hd).2 from by rw [k_put, if_neg c_5, if_neg c_13, if_neg c_28, if_neg c_45, if_neg c_54, if_neg c_62, if_pos c_71, if_neg c_79, if_neg c_87]; exact ⟨rfl, rfl⟩) hP hK hS d_C_put_92
              · refine lv_bipush (v := (-4 : Int32)) hx hb d_C_put_74 (by decide) ?_
                exact wRet (u := A) hx hb hr rfl hlk (show (-4 : Int32) = (k_put N K A x hd).1 ∧ A = (k_put N K A x hd).2 from by rw [k_put, if_neg c_5, if_neg c_13, if_neg c_28, if_neg c_45, if_neg c_54, if_neg c_62, if_neg c_71]; exact ⟨rfl, rfl⟩) hP hK hS d_C_put_76
          · refine lv_bipush (v := (-2 : Int32)) hx hb d_C_put_57 (by decide) ?_
            exact wRet (u := A) hx hb hr rfl hlk (show (-2 : Int32) = (k_put N K A x hd).1 ∧ A = (k_put N K A x hd).2 from by rw [k_put, if_neg c_5, if_neg c_13, if_neg c_28, if_neg c_45, if_pos c_54]; exact ⟨rfl, rfl⟩) hP hK hS d_C_put_59
      · refine lv_aload_n hx hb d_C_put_31 rfl (lv_at hl 1 rfl) ?_
        refine va_get (D := D) (ci := 0) (v := .ref (a 2)) (C := R_C) (T := F_C) (N := 9) hx hb hts i_C hown hK hP 0 rfl rfl 2 (by decide) (hts _ fl_C_17) (fun _ h9 => h9) rfl d_C_put_32 ?_
        refine lv_iload_n hx hb d_C_put_35 rfl (lv_at hl 2 rfl) ?_
        refine lv_iconst (v := (-1 : Int32)) hx hb d_C_put_36 (by decide) ?_
        refine va_iast (n := 30) hx hb hK hP (wC_D hD) hS 2 0 rfl rfl (in_isThing hN c_5) d_C_put_37 (fun H locs hP _ hS => ?_)
        have hP : va_P D classes (wC a cI cII (nI N) (nI K) (sU A 1 x.toNatClampNeg (-1 : Int32))) H := hP
        refine lv_iload_n hx hb d_C_put_38 rfl (lv_at hl 0 rfl) ?_
        exact wRet (u := sU A 1 x.toNatClampNeg (-1 : Int32)) hx hb hr rfl hlk (show A 1 x.toNatClampNeg = (k_put N K A x hd).1 ∧ sU A 1 x.toNatClampNeg (-1 : Int32) = (k_put N K A x hd).2 from by rw [k_put, if_neg c_5, if_neg c_13, if_pos c_28]; exact ⟨rfl, rfl⟩) hP hK hS d_C_put_39
    · refine lv_bipush (v := (-2 : Int32)) hx hb d_C_put_16 (by decide) ?_
      exact wRet (u := A) hx hb hr rfl hlk (show (-2 : Int32) = (k_put N K A x hd).1 ∧ A = (k_put N K A x hd).2 from by rw [k_put, if_neg c_5, if_pos c_13]; exact ⟨rfl, rfl⟩) hP hK hS d_C_put_18

def k_set (N K : Nat) (A : Nat → Nat → Int32) (x what v : Int32) : Int32 × (Nat → Nat → Int32) := (if (k_isThing N K A x) = (0 : Int32) then ((-2 : Int32), A) else (if what = (0 : Int32) then (if (k_sortOf N K A x) = (1 : Int32) then (if what < (0 : Int32) then ((-3 : Int32), A) else (if (4 : Int32) ≤ what then ((-3 : Int32), A) else (if v < (0 : Int32) then ((-3 : Int32), A) else (if v ≤ (1 : Int32) then (A (2 + what.toNatClampNeg) x.toNatClampNeg, sU A (2 + what.toNatClampNeg) x.toNatClampNeg v) else ((-3 : Int32), A))))) else ((-2 : Int32), A)) else (if what = (1 : Int32) then (if (k_sortOf N K A x) = (1 : Int32) then (if what < (0 : Int32) then ((-3 : Int32), A) else (if (4 : Int32) ≤ what then ((-3 : Int32), A) else (if v < (0 : Int32) then ((-3 : Int32), A) else (if v ≤ (1 : Int32) then (A (2 + what.toNatClampNeg) x.toNatClampNeg, sU A (2 + what.toNatClampNeg) x.toNatClampNeg v) else ((-3 : Int32), A))))) else ((-2 : Int32), A)) else (if what < (0 : Int32) then ((-3 : Int32), A) else (if (4 : Int32) ≤ what then ((-3 : Int32), A) else (if v < (0 : Int32) then ((-3 : Int32), A) else (if v ≤ (9 : Int32) then (A (2 + what.toNatClampNeg) x.toNatClampNeg, sU A (2 + what.toNatClampNeg) x.toNatClampNeg v) else ((-3 : Int32), A))))))))
set_option maxHeartbeats 4000000 in
set_option maxRecDepth 100000 in
theorem ck_set (l : Launch) (D : va_G) (a : Nat → Nat) (cI cII : ClassId) (N K : Nat) (A : Nat → Nat → Int32) (hN : N ≤ 30) (hKK : K ≤ 10) (Z : Nat → Prop) (x what v : Int32) : Met l y_C_set (Cond.code y_C_set b_C_set 6 (some .int) :: BW) ({ frames := 2, cells := 0, slots := 0, locals := 42 } : Room) (PcW D Z (wC a cI cII (nI N) (nI K) A) (tC cI cII) [.ref (a 0), .int x, .int what, .int v]) (va_Qi (fun r u => r = (k_set N K A x what v).1 ∧ u = (k_set N K A x what v).2) (atW D (fun u => wC a cI cII (nI N) (nI K) u) (tC cI cII)) Z) 0 0 Z := by
  refine wStart (by decide) rfl (Nat.le_of_ble_eq_true rfl) (fun p e s m below meth c Sx hr hlk hP hK hD hS ls hl => ?_)
  obtain ⟨hx, hb, hml, hown, hts⟩ := id Sx
  have hl : lv_has ls 6 [(0, .ref (a 0)), (1, .int x), (2, .int what), (3, .int v)] := hl
  refine lv_aload_n hx hb d_C_set_0 rfl (lv_at hl 0 rfl) ?_
  refine lv_iload_n hx hb d_C_set_1 rfl (lv_at hl 1 rfl) ?_
  refine xro (As := [.int x]) (rest := []) Sx (ck_isThing l D a cI cII N K A hN hKK x) v_C_isThing ⟨rfl, rfl, Nat.le_of_ble_eq_true rfl, Nat.le_of_ble_eq_true rfl⟩ hK hP (ci := 0) (q0 := 0) rfl rfl rfl hl.1 rfl (Nat.le_of_ble_eq_true rfl) d_C_set_2 ⟨Nat.le_of_ble_eq_true rfl, Nat.le_of_ble_eq_true rfl⟩ (fun r hq => ?_)
  subst hq
  refine lv_if_ne (tgt := 11) hx hb d_C_set_5 (by decide) (fun c_5 => ?_) (fun c_5 => ?_)
  · refine lv_iload_n hx hb d_C_set_11 rfl (lv_at hl 2 rfl) ?_
    refine lv_if_eq (tgt := 20) hx hb d_C_set_12 (by decide) (fun c_12 => ?_) (fun c_12 => ?_)
    · refine lv_iconst (v := (1 : Int32)) hx hb d_C_set_20 (by decide) ?_
      refine lv_goto (tgt := 25) hx hb d_C_set_21 (by decide) ?_
      refine lv_istore (lv' := [(4, .int (1 : Int32)), (0, .ref (a 0)), (1, .int x), (2, .int what), (3, .int v)]) hx hb d_C_set_25 hl (by decide) rfl (fun ls hl => ?_)
      refine lv_iload hx hb d_C_set_27 (lv_at hl 0 rfl) ?_
      refine lv_if_eq (tgt := 44) hx hb d_C_set_29 (by decide) (fun c_29 => absurd c_29 (by decide)) (fun c_29 => ?_)
      refine lv_aload_n hx hb d_C_set_32 rfl (lv_at hl 1 rfl) ?_
      refine lv_iload_n hx hb d_C_set_33 rfl (lv_at hl 2 rfl) ?_
      refine xro (As := [.int x]) (rest := []) Sx (ck_sortOf l D a cI cII N K A hN hKK x) v_C_sortOf ⟨rfl, rfl, Nat.le_of_ble_eq_true rfl, Nat.le_of_ble_eq_true rfl⟩ hK hP (ci := 0) (q0 := 0) rfl rfl rfl hl.1 rfl (Nat.le_of_ble_eq_true rfl) d_C_set_34 ⟨Nat.le_of_ble_eq_true rfl, Nat.le_of_ble_eq_true rfl⟩ (fun r hq => ?_)
      subst hq
      refine lv_iconst (v := (1 : Int32)) hx hb d_C_set_37 (by decide) ?_
      refine lv_icmp_eq (tgt := 44) hx hb d_C_set_38 (by decide) (fun c_38 => ?_) (fun c_38 => ?_)
      · refine lv_iload_n hx hb d_C_set_44 rfl (lv_at hl 3 rfl) ?_
        refine lv_if_lt (tgt := 72) hx hb d_C_set_45 (by decide) (fun c_45 => ?_) (fun c_45 => ?_)
        · refine lv_bipush (v := (-3 : Int32)) hx hb d_C_set_72 (by decide) ?_
          exact wRet (u := A) hx hb hr rfl hlk (show (-3 : Int32) = (k_set N K A x what v).1 ∧ A = (k_set N K A x what v).2 from by rw [k_set, if_neg c_5, if_pos c_12, if_pos c_38, if_pos c_45]; exact ⟨rfl, rfl⟩) hP hK hS d_C_set_74
        · refine lv_iload_n hx hb d_C_set_48 rfl (lv_at hl 3 rfl) ?_
          refine lv_iconst (v := (4 : Int32)) hx hb d_C_set_49 (by decide) ?_
          refine lv_icmp_ge (tgt := 72) hx hb d_C_set_50 (by decide) (fun c_50 => ?_) (fun c_50 => ?_)
          · refine lv_bipush (v := (-3 : Int32)) hx hb d_C_set_72 (by decide) ?_
            exact wRet (u := A) hx hb hr rfl hlk (show (-3 : Int32) = (k_set N K A x what v).1 ∧ A = (k_set N K A x what v).2 from by rw [k_set, if_neg c_5, if_pos c_12, if_pos c_38, if_neg c_45, if_pos c_50]; exact ⟨rfl, rfl⟩) hP hK hS d_C_set_74
          · refine lv_iload_n hx hb d_C_set_53 rfl (lv_at hl 4 rfl) ?_
            refine lv_if_lt (tgt := 72) hx hb d_C_set_54 (by decide) (fun c_54 => ?_) (fun c_54 => ?_)
            · refine lv_bipush (v := (-3 : Int32)) hx hb d_C_set_72 (by decide) ?_
              exact wRet (u := A) hx hb hr rfl hlk (show (-3 : Int32) = (k_set N K A x what v).1 ∧ A = (k_set N K A x what v).2 from by rw [k_set, if_neg c_5, if_pos c_12, if_pos c_38, if_neg c_45, if_neg c_50, if_pos c_54]; exact ⟨rfl, rfl⟩) hP hK hS d_C_set_74
            · refine lv_iload_n hx hb d_C_set_57 rfl (lv_at hl 4 rfl) ?_
              refine lv_iload hx hb d_C_set_58 (lv_at hl 0 rfl) ?_
              refine lv_if_eq (tgt := 67) hx hb d_C_set_60 (by decide) (fun c_60 => absurd c_60 (by decide)) (fun c_60 => ?_)
              refine lv_iconst (v := (1 : Int32)) hx hb d_C_set_63 (by decide) ?_
              refine lv_goto (tgt := 69) hx hb d_C_set_64 (by decide) ?_
              refine lv_icmp_le (tgt := 75) hx hb d_C_set_69 (by decide) (fun c_69 => ?_) (fun c_69 => ?_)
              · refine lv_aload_n hx hb d_C_set_75 rfl (lv_at hl 1 rfl) ?_
                refine va_get (D := D) (ci := 0) (v := .ref (a 3)) (C := R_C) (T := F_C) (N := 9) hx hb hts i_C hown hK hP 0 rfl rfl 3 (by decide) (hts _ fl_C_22) (fun _ h9 => h9) rfl d_C_set_76 ?_
                refine lv_iload_n hx hb d_C_set_79 rfl (lv_at hl 3 rfl) ?_
                refine x_ald4 hx hb hK hP (in4 c_45 c_50) d_C_set_80 ?_
                refine lv_iload_n hx hb d_C_set_81 rfl (lv_at hl 2 rfl) ?_
                refine va_iald (n := 30) hx hb hK hP (4 + what.toNatClampNeg) 0 (wC_row4 (vp_lt (in4 c_45 c_50))) rfl (in_isThing hN c_5) d_C_set_82 ?_
                refine lv_istore (lv' := [(5, .int (A (2 + what.toNatClampNeg) x.toNatClampNeg)), (4, .int (1 : Int32)), (0, .ref (a 0)), (1, .int x), (2, .int what), (3, .int v)]) hx hb d_C_set_83 hl (by decide) rfl (fun ls hl => ?_)
                refine lv_aload_n hx hb d_C_set_85 rfl (lv_at hl 2 rfl) ?_
                refine va_get (D := D) (ci := 0) (v := .ref (a 3)) (C := R_C) (T := F_C) (N := 9) hx hb hts i_C hown hK hP 0 rfl rfl 3 (by decide) (hts _ fl_C_22) (fun _ h9 => h9) rfl d_C_set_86 ?_
                refine lv_iload_n hx hb d_C_set_89 rfl (lv_at hl 4 rfl) ?_
                refine x_ald4 hx hb hK hP (in4 c_45 c_50) d_C_set_90 ?_
                refine lv_iload_n hx hb d_C_set_91 rfl (lv_at hl 3 rfl) ?_
                refine lv_iload_n hx hb d_C_set_92 rfl (lv_at hl 5 rfl) ?_
                refine va_iast (n := 30) hx hb hK hP (wC_D hD) hS (4 + what.toNatClampNeg) 0 (wC_row4 (vp_lt (in4 c_45 c_50))) rfl (in_isThing hN c_5) d_C_set_93 (fun H locs hP _ hS => ?_)
                have hP : va_P D classes (wC a cI cII (nI N) (nI K) (sU A (2 + what.toNatClampNeg) x.toNatClampNeg v)) H := by have h9 := hP; rw [wC_set4 (j := what.toNatClampNeg) (vp_lt (in4 c_45 c_50))] at h9; exact h9
                refine lv_iload hx hb d_C_set_94 (lv_at hl 0 rfl) ?_
                exact wRet (u := sU A (2 + what.toNatClampNeg) x.toNatClampNeg v) hx hb hr rfl hlk (show A (2 + what.toNatClampNeg) x.toNatClampNeg = (k_set N K A x what v).1 ∧ sU A (2 + what.toNatClampNeg) x.toNatClampNeg v = (k_set N K A x what v).2 from by rw [k_set, if_neg c_5, if_pos c_12, if_pos c_38, if_neg c_45, if_neg c_50, if_neg c_54, if_pos c_69]; exact ⟨rfl, rfl⟩) hP hK hS d_C_set_96
              · refine lv_bipush (v := (-3 : Int32)) hx hb d_C_set_72 (by decide) ?_
                exact wRet (u := A) hx hb hr rfl hlk (show (-3 : Int32) = (k_set N K A x what v).1 ∧ A = (k_set N K A x what v).2 from by rw [k_set, if_neg c_5, if_pos c_12, if_pos c_38, if_neg c_45, if_neg c_50, if_neg c_54, if_neg c_69]; exact ⟨rfl, rfl⟩) hP hK hS d_C_set_74
      · refine lv_bipush (v := (-2 : Int32)) hx hb d_C_set_41 (by decide) ?_
        exact wRet (u := A) hx hb hr rfl hlk (show (-2 : Int32) = (k_set N K A x what v).1 ∧ A = (k_set N K A x what v).2 from by rw [k_set, if_neg c_5, if_pos c_12, if_neg c_38]; exact ⟨rfl, rfl⟩) hP hK hS d_C_set_43
    · refine lv_iload_n hx hb d_C_set_15 rfl (lv_at hl 2 rfl) ?_
      refine lv_iconst (v := (1 : Int32)) hx hb d_C_set_16 (by decide) ?_
      refine lv_icmp_ne (tgt := 24) hx hb d_C_set_17 (by decide) (fun c_17 => ?_) (fun c_17 => ?_)
      · refine lv_iconst (v := (0 : Int32)) hx hb d_C_set_24 (by decide) ?_
        refine lv_istore (lv' := [(4, .int (0 : Int32)), (0, .ref (a 0)), (1, .int x), (2, .int what), (3, .int v)]) hx hb d_C_set_25 hl (by decide) rfl (fun ls hl => ?_)
        refine lv_iload hx hb d_C_set_27 (lv_at hl 0 rfl) ?_
        refine lv_if_eq (tgt := 44) hx hb d_C_set_29 (by decide) (fun c_29 => ?_) (fun c_29 => absurd c_29 (by decide))
        refine lv_iload_n hx hb d_C_set_44 rfl (lv_at hl 3 rfl) ?_
        refine lv_if_lt (tgt := 72) hx hb d_C_set_45 (by decide) (fun c_45 => ?_) (fun c_45 => ?_)
        · refine lv_bipush (v := (-3 : Int32)) hx hb d_C_set_72 (by decide) ?_
          exact wRet (u := A) hx hb hr rfl hlk (show (-3 : Int32) = (k_set N K A x what v).1 ∧ A = (k_set N K A x what v).2 from by rw [k_set, if_neg c_5, if_neg c_12, if_neg c_17, if_pos c_45]; exact ⟨rfl, rfl⟩) hP hK hS d_C_set_74
        · refine lv_iload_n hx hb d_C_set_48 rfl (lv_at hl 3 rfl) ?_
          refine lv_iconst (v := (4 : Int32)) hx hb d_C_set_49 (by decide) ?_
          refine lv_icmp_ge (tgt := 72) hx hb d_C_set_50 (by decide) (fun c_50 => ?_) (fun c_50 => ?_)
          · refine lv_bipush (v := (-3 : Int32)) hx hb d_C_set_72 (by decide) ?_
            exact wRet (u := A) hx hb hr rfl hlk (show (-3 : Int32) = (k_set N K A x what v).1 ∧ A = (k_set N K A x what v).2 from by rw [k_set, if_neg c_5, if_neg c_12, if_neg c_17, if_neg c_45, if_pos c_50]; exact ⟨rfl, rfl⟩) hP hK hS d_C_set_74
          · refine lv_iload_n hx hb d_C_set_53 rfl (lv_at hl 4 rfl) ?_
            refine lv_if_lt (tgt := 72) hx hb d_C_set_54 (by decide) (fun c_54 => ?_) (fun c_54 => ?_)
            · refine lv_bipush (v := (-3 : Int32)) hx hb d_C_set_72 (by decide) ?_
              exact wRet (u := A) hx hb hr rfl hlk (show (-3 : Int32) = (k_set N K A x what v).1 ∧ A = (k_set N K A x what v).2 from by rw [k_set, if_neg c_5, if_neg c_12, if_neg c_17, if_neg c_45, if_neg c_50, if_pos c_54]; exact ⟨rfl, rfl⟩) hP hK hS d_C_set_74
            · refine lv_iload_n hx hb d_C_set_57 rfl (lv_at hl 4 rfl) ?_
              refine lv_iload hx hb d_C_set_58 (lv_at hl 0 rfl) ?_
              refine lv_if_eq (tgt := 67) hx hb d_C_set_60 (by decide) (fun c_60 => ?_) (fun c_60 => absurd c_60 (by decide))
              refine lv_bipush (v := (9 : Int32)) hx hb d_C_set_67 (by decide) ?_
              refine lv_icmp_le (tgt := 75) hx hb d_C_set_69 (by decide) (fun c_69 => ?_) (fun c_69 => ?_)
              · refine lv_aload_n hx hb d_C_set_75 rfl (lv_at hl 1 rfl) ?_
                refine va_get (D := D) (ci := 0) (v := .ref (a 3)) (C := R_C) (T := F_C) (N := 9) hx hb hts i_C hown hK hP 0 rfl rfl 3 (by decide) (hts _ fl_C_22) (fun _ h9 => h9) rfl d_C_set_76 ?_
                refine lv_iload_n hx hb d_C_set_79 rfl (lv_at hl 3 rfl) ?_
                refine x_ald4 hx hb hK hP (in4 c_45 c_50) d_C_set_80 ?_
                refine lv_iload_n hx hb d_C_set_81 rfl (lv_at hl 2 rfl) ?_
                refine va_iald (n := 30) hx hb hK hP (4 + what.toNatClampNeg) 0 (wC_row4 (vp_lt (in4 c_45 c_50))) rfl (in_isThing hN c_5) d_C_set_82 ?_
                refine lv_istore (lv' := [(5, .int (A (2 + what.toNatClampNeg) x.toNatClampNeg)), (4, .int (0 : Int32)), (0, .ref (a 0)), (1, .int x), (2, .int what), (3, .int v)]) hx hb d_C_set_83 hl (by decide) rfl (fun ls hl => ?_)
                refine lv_aload_n hx hb d_C_set_85 rfl (lv_at hl 2 rfl) ?_
                refine va_get (D := D) (ci := 0) (v := .ref (a 3)) (C := R_C) (T := F_C) (N := 9) hx hb hts i_C hown hK hP 0 rfl rfl 3 (by decide) (hts _ fl_C_22) (fun _ h9 => h9) rfl d_C_set_86 ?_
                refine lv_iload_n hx hb d_C_set_89 rfl (lv_at hl 4 rfl) ?_
                refine x_ald4 hx hb hK hP (in4 c_45 c_50) d_C_set_90 ?_
                refine lv_iload_n hx hb d_C_set_91 rfl (lv_at hl 3 rfl) ?_
                refine lv_iload_n hx hb d_C_set_92 rfl (lv_at hl 5 rfl) ?_
                refine va_iast (n := 30) hx hb hK hP (wC_D hD) hS (4 + what.toNatClampNeg) 0 (wC_row4 (vp_lt (in4 c_45 c_50))) rfl (in_isThing hN c_5) d_C_set_93 (fun H locs hP _ hS => ?_)
                have hP : va_P D classes (wC a cI cII (nI N) (nI K) (sU A (2 + what.toNatClampNeg) x.toNatClampNeg v)) H := by have h9 := hP; rw [wC_set4 (j := what.toNatClampNeg) (vp_lt (in4 c_45 c_50))] at h9; exact h9
                refine lv_iload hx hb d_C_set_94 (lv_at hl 0 rfl) ?_
                exact wRet (u := sU A (2 + what.toNatClampNeg) x.toNatClampNeg v) hx hb hr rfl hlk (show A (2 + what.toNatClampNeg) x.toNatClampNeg = (k_set N K A x what v).1 ∧ sU A (2 + what.toNatClampNeg) x.toNatClampNeg v = (k_set N K A x what v).2 from by rw [k_set, if_neg c_5, if_neg c_12, if_neg c_17, if_neg c_45, if_neg c_50, if_neg c_54, if_pos c_69]; exact ⟨rfl, rfl⟩) hP hK hS d_C_set_96
              · refine lv_bipush (v := (-3 : Int32)) hx hb d_C_set_72 (by decide) ?_
                exact wRet (u := A) hx hb hr rfl hlk (show (-3 : Int32) = (k_set N K A x what v).1 ∧ A = (k_set N K A x what v).2 from by rw [k_set, if_neg c_5, if_neg c_12, if_neg c_17, if_neg c_45, if_neg c_50, if_neg c_54, if_neg c_69]; exact ⟨rfl, rfl⟩) hP hK hS d_C_set_74
      · refine lv_iconst (v := (1 : Int32)) hx hb d_C_set_20 (by decide) ?_
        refine lv_goto (tgt := 25) hx hb d_C_set_21 (by decide) ?_
        refine lv_istore (lv' := [(4, .int (1 : Int32)), (0, .ref (a 0)), (1, .int x), (2, .int what), (3, .int v)]) hx hb d_C_set_25 hl (by decide) rfl (fun ls hl => ?_)
        refine lv_iload hx hb d_C_set_27 (lv_at hl 0 rfl) ?_
        refine lv_if_eq (tgt := 44) hx hb d_C_set_29 (by decide) (fun c_29 => absurd c_29 (by decide)) (fun c_29 => ?_)
        refine lv_aload_n hx hb d_C_set_32 rfl (lv_at hl 1 rfl) ?_
        refine lv_iload_n hx hb d_C_set_33 rfl (lv_at hl 2 rfl) ?_
        refine xro (As := [.int x]) (rest := []) Sx (ck_sortOf l D a cI cII N K A hN hKK x) v_C_sortOf ⟨rfl, rfl, Nat.le_of_ble_eq_true rfl, Nat.le_of_ble_eq_true rfl⟩ hK hP (ci := 0) (q0 := 0) rfl rfl rfl hl.1 rfl (Nat.le_of_ble_eq_true rfl) d_C_set_34 ⟨Nat.le_of_ble_eq_true rfl, Nat.le_of_ble_eq_true rfl⟩ (fun r hq => ?_)
        subst hq
        refine lv_iconst (v := (1 : Int32)) hx hb d_C_set_37 (by decide) ?_
        refine lv_icmp_eq (tgt := 44) hx hb d_C_set_38 (by decide) (fun c_38 => ?_) (fun c_38 => ?_)
        · refine lv_iload_n hx hb d_C_set_44 rfl (lv_at hl 3 rfl) ?_
          refine lv_if_lt (tgt := 72) hx hb d_C_set_45 (by decide) (fun c_45 => ?_) (fun c_45 => ?_)
          · refine lv_bipush (v := (-3 : Int32)) hx hb d_C_set_72 (by decide) ?_
            exact wRet (u := A) hx hb hr rfl hlk (show (-3 : Int32) = (k_set N K A x what v).1 ∧ A = (k_set N K A x what v).2 from by rw [k_set, if_neg c_5, if_neg c_12, if_pos c_17, if_pos c_38, if_pos c_45]; exact ⟨rfl, rfl⟩) hP hK hS d_C_set_74
          · refine lv_iload_n hx hb d_C_set_48 rfl (lv_at hl 3 rfl) ?_
            refine lv_iconst (v := (4 : Int32)) hx hb d_C_set_49 (by decide) ?_
            refine lv_icmp_ge (tgt := 72) hx hb d_C_set_50 (by decide) (fun c_50 => ?_) (fun c_50 => ?_)
            · refine lv_bipush (v := (-3 : Int32)) hx hb d_C_set_72 (by decide) ?_
              exact wRet (u := A) hx hb hr rfl hlk (show (-3 : Int32) = (k_set N K A x what v).1 ∧ A = (k_set N K A x what v).2 from by rw [k_set, if_neg c_5, if_neg c_12, if_pos c_17, if_pos c_38, if_neg c_45, if_pos c_50]; exact ⟨rfl, rfl⟩) hP hK hS d_C_set_74
            · refine lv_iload_n hx hb d_C_set_53 rfl (lv_at hl 4 rfl) ?_
              refine lv_if_lt (tgt := 72) hx hb d_C_set_54 (by decide) (fun c_54 => ?_) (fun c_54 => ?_)
              · refine lv_bipush (v := (-3 : Int32)) hx hb d_C_set_72 (by decide) ?_
                exact wRet (u := A) hx hb hr rfl hlk (show (-3 : Int32) = (k_set N K A x what v).1 ∧ A = (k_set N K A x what v).2 from by rw [k_set, if_neg c_5, if_neg c_12, if_pos c_17, if_pos c_38, if_neg c_45, if_neg c_50, if_pos c_54]; exact ⟨rfl, rfl⟩) hP hK hS d_C_set_74
              · refine lv_iload_n hx hb d_C_set_57 rfl (lv_at hl 4 rfl) ?_
                refine lv_iload hx hb d_C_set_58 (lv_at hl 0 rfl) ?_
                refine lv_if_eq (tgt := 67) hx hb d_C_set_60 (by decide) (fun c_60 => absurd c_60 (by decide)) (fun c_60 => ?_)
                refine lv_iconst (v := (1 : Int32)) hx hb d_C_set_63 (by decide) ?_
                refine lv_goto (tgt := 69) hx hb d_C_set_64 (by decide) ?_
                refine lv_icmp_le (tgt := 75) hx hb d_C_set_69 (by decide) (fun c_69 => ?_) (fun c_69 => ?_)
                · refine lv_aload_n hx hb d_C_set_75 rfl (lv_at hl 1 rfl) ?_
                  refine va_get (D := D) (ci := 0) (v := .ref (a 3)) (C := R_C) (T := F_C) (N := 9) hx hb hts i_C hown hK hP 0 rfl rfl 3 (by decide) (hts _ fl_C_22) (fun _ h9 => h9) rfl d_C_set_76 ?_
                  refine lv_iload_n hx hb d_C_set_79 rfl (lv_at hl 3 rfl) ?_
                  refine x_ald4 hx hb hK hP (in4 c_45 c_50) d_C_set_80 ?_
                  refine lv_iload_n hx hb d_C_set_81 rfl (lv_at hl 2 rfl) ?_
                  refine va_iald (n := 30) hx hb hK hP (4 + what.toNatClampNeg) 0 (wC_row4 (vp_lt (in4 c_45 c_50))) rfl (in_isThing hN c_5) d_C_set_82 ?_
                  refine lv_istore (lv' := [(5, .int (A (2 + what.toNatClampNeg) x.toNatClampNeg)), (4, .int (1 : Int32)), (0, .ref (a 0)), (1, .int x), (2, .int what), (3, .int v)]) hx hb d_C_set_83 hl (by decide) rfl (fun ls hl => ?_)
                  refine lv_aload_n hx hb d_C_set_85 rfl (lv_at hl 2 rfl) ?_
                  refine va_get (D := D) (ci := 0) (v := .ref (a 3)) (C := R_C) (T := F_C) (N := 9) hx hb hts i_C hown hK hP 0 rfl rfl 3 (by decide) (hts _ fl_C_22) (fun _ h9 => h9) rfl d_C_set_86 ?_
                  refine lv_iload_n hx hb d_C_set_89 rfl (lv_at hl 4 rfl) ?_
                  refine x_ald4 hx hb hK hP (in4 c_45 c_50) d_C_set_90 ?_
                  refine lv_iload_n hx hb d_C_set_91 rfl (lv_at hl 3 rfl) ?_
                  refine lv_iload_n hx hb d_C_set_92 rfl (lv_at hl 5 rfl) ?_
                  refine va_iast (n := 30) hx hb hK hP (wC_D hD) hS (4 + what.toNatClampNeg) 0 (wC_row4 (vp_lt (in4 c_45 c_50))) rfl (in_isThing hN c_5) d_C_set_93 (fun H locs hP _ hS => ?_)
                  have hP : va_P D classes (wC a cI cII (nI N) (nI K) (sU A (2 + what.toNatClampNeg) x.toNatClampNeg v)) H := by have h9 := hP; rw [wC_set4 (j := what.toNatClampNeg) (vp_lt (in4 c_45 c_50))] at h9; exact h9
                  refine lv_iload hx hb d_C_set_94 (lv_at hl 0 rfl) ?_
                  exact wRet (u := sU A (2 + what.toNatClampNeg) x.toNatClampNeg v) hx hb hr rfl hlk (show A (2 + what.toNatClampNeg) x.toNatClampNeg = (k_set N K A x what v).1 ∧ sU A (2 + what.toNatClampNeg) x.toNatClampNeg v = (k_set N K A x what v).2 from by rw [k_set, if_neg c_5, if_neg c_12, if_pos c_17, if_pos c_38, if_neg c_45, if_neg c_50, if_neg c_54, if_pos c_69]; exact ⟨rfl, rfl⟩) hP hK hS d_C_set_96
                · refine lv_bipush (v := (-3 : Int32)) hx hb d_C_set_72 (by decide) ?_
                  exact wRet (u := A) hx hb hr rfl hlk (show (-3 : Int32) = (k_set N K A x what v).1 ∧ A = (k_set N K A x what v).2 from by rw [k_set, if_neg c_5, if_neg c_12, if_pos c_17, if_pos c_38, if_neg c_45, if_neg c_50, if_neg c_54, if_neg c_69]; exact ⟨rfl, rfl⟩) hP hK hS d_C_set_74
        · refine lv_bipush (v := (-2 : Int32)) hx hb d_C_set_41 (by decide) ?_
          exact wRet (u := A) hx hb hr rfl hlk (show (-2 : Int32) = (k_set N K A x what v).1 ∧ A = (k_set N K A x what v).2 from by rw [k_set, if_neg c_5, if_neg c_12, if_pos c_17, if_neg c_38]; exact ⟨rfl, rfl⟩) hP hK hS d_C_set_43
  · refine lv_bipush (v := (-2 : Int32)) hx hb d_C_set_8 (by decide) ?_
    exact wRet (u := A) hx hb hr rfl hlk (show (-2 : Int32) = (k_set N K A x what v).1 ∧ A = (k_set N K A x what v).2 from by rw [k_set, if_pos c_5]; exact ⟨rfl, rfl⟩) hP hK hS d_C_set_10
end
section
def k_door_71 (N K : Nat) (u3 : Int32) : Nat → Nat → (Nat → Nat → Int32) → Int32 × Nat × Nat × (Nat → Nat → Int32)
  | 0, i, A1 => (u3, (N, K, A1))
  | k + 1, i, A1 => k_door_71 N K u3 k (i + 1) (sU A1 (8 + (nI i).toNatClampNeg) u3.toNatClampNeg (0 : Int32))
theorem k_door_71_0 (N K : Nat) (u3 : Int32) (i : Nat) (A1 : (Nat → Nat → Int32)) : k_door_71 N K u3 0 i A1 = (u3, (N, K, A1)) := rfl
theorem k_door_71_S (N K : Nat) (u3 : Int32) (k i : Nat) (A1 : (Nat → Nat → Int32)) : k_door_71 N K u3 (k + 1) i A1 = k_door_71 N K u3 k (i + 1) (sU A1 (8 + (nI i).toNatClampNeg) u3.toNatClampNeg (0 : Int32)) := rfl
set_option maxHeartbeats 4000000 in
set_option maxRecDepth 100000 in
theorem wk_door_71 (l : Launch) (D : va_G) (a : Nat → Nat) (cI cII : ClassId) (N K : Nat) (A : Nat → Nat → Int32) (hN : N ≤ 30) (hKK : K ≤ 10) (Z : Nat → Prop) (x y u3 : Int32) (hu3 : vp_in u3 10) {p : Program} {e : Env} {s : State} {m : MethodId} {below : List Frame} {meth : Method} {c : Code} (Sx : CallFix p m c b_C_door 5 s ([.ref (a 0), .int x, .int y] : List Value).toArray BW R_C) (hr : meth.sig.returnType = (some .int)) (hlk : meth.locks = false) (hD : va_D Z (wC a cI cII (nI N) (nI K) A)) (hK : va_K D classes (tC cI cII) s) : ∀ (k i : Nat), i + k = 2 → ∀ (A1 : (Nat → Nat → Int32)) (H : Heap) (locs : List Loc) (ls : Array Slot), va_P D classes (wC a cI cII (nI N) (nI K) A1) H → va_S Z s.heap H locs → lv_has ls 5 [(0, .ref (a 0)), (1, .int x), (2, .int y), (3, .int u3), (4, .int (nI i))] → W p l e ({ frames := 2, cells := 0, slots := 0, locals := 42 } : Room) s m ([.ref (a 0), .int x, .int y] : List Value).toArray below meth c H locs 0 0 (MQ below (va_Qi (fun r u => r = (k_door_71 N K u3 k i A1).1 ∧ u = (k_door_71 N K u3 k i A1).2) (atW D (fun u => wC a cI cII (nI u.1) (nI u.2.1) u.2.2) (tC cI cII)) Z) ([.ref (a 0), .int x, .int y] : List Value).toArray s 0 0 Z) (F0 m 71 ls []) := by
  obtain ⟨hx, hb, hml, hown, hts⟩ := id Sx
  intro k
  induction k with
  | zero =>
    intro i hi A1 H locs ls hP hS hl
    refine lv_iload hx hb d_C_door_71 (lv_at hl 4 rfl) ?_
    refine lv_iconst (v := (2 : Int32)) hx hb d_C_door_73 (by decide) ?_
    refine lv_icmp_ge (tgt := 93) hx hb d_C_door_74 (by decide) (fun c_74 => ?_) (fun c_74 => absurd (nI_le (a := 2) (b := i) (by omega) (by omega)) c_74)
    refine lv_iload_n hx hb d_C_door_93 rfl (lv_at hl 3 rfl) ?_
    exact wRet (u := (N, K, A1)) hx hb hr rfl hlk (show u3 = (k_door_71 N K u3 0 i A1).1 ∧ (N, K, A1) = (k_door_71 N K u3 0 i A1).2 from by rw [k_door_71_0]; exact ⟨rfl, rfl⟩) hP hK hS d_C_door_94
  | succ k ih =>
    intro i hi A1 H locs ls hP hS hl
    refine lv_iload hx hb d_C_door_71 (lv_at hl 4 rfl) ?_
    refine lv_iconst (v := (2 : Int32)) hx hb d_C_door_73 (by decide) ?_
    refine lv_icmp_ge (tgt := 93) hx hb d_C_door_74 (by decide) (fun c_74 => absurd c_74 (nI_ge (a := i) (b := 2) (by omega) (by omega))) (fun c_74 => ?_)
    refine lv_aload_n hx hb d_C_door_77 rfl (lv_at hl 0 rfl) ?_
    refine va_get (D := D) (ci := 0) (v := .ref (a 10)) (C := R_C) (T := F_C) (N := 9) hx hb hts i_C hown hK hP 0 rfl rfl 7 (by decide) (hts _ fl_C_34) (fun _ h9 => h9) rfl d_C_door_78 ?_
    refine lv_iload hx hb d_C_door_81 (lv_at hl 4 rfl) ?_
    refine x_ald2 hx hb hK hP (vp_in_nI (by omega) (by omega)) d_C_door_83 ?_
    refine lv_iload_n hx hb d_C_door_84 rfl (lv_at hl 3 rfl) ?_
    refine lv_iconst (v := (0 : Int32)) hx hb d_C_door_85 (by decide) ?_
    refine va_iast (n := 10) hx hb hK hP (wC_D hD) hS (11 + (nI i).toNatClampNeg) 0 (wC_row2 (vp_lt (vp_in_nI (by omega) (by omega)))) rfl (hu3) d_C_door_86 (fun H locs hP _ hS => ?_)
    have hP : va_P D classes (wC a cI cII (nI N) (nI K) (sU A1 (8 + (nI i).toNatClampNeg) u3.toNatClampNeg (0 : Int32))) H := by have h9 := hP; rw [wC_set2 (j := (nI i).toNatClampNeg) (vp_lt (vp_in_nI (by omega) (by omega)))] at h9; exact h9
    refine lv_iinc (v := nI (i + 1)) (lv' := [(4, .int (nI (i + 1))), (0, .ref (a 0)), (1, .int x), (2, .int y), (3, .int u3)]) hx hb d_C_door_87 hl (k := 4) rfl (nI_1 i) (by decide) rfl (fun ls hl => ?_)
    refine lv_goto (tgt := 71) hx hb d_C_door_90 (by decide) ?_
    have e_b : k_door_71 N K u3 (k + 1) i A1 = k_door_71 N K u3 k (i + 1) (sU A1 (8 + (nI i).toNatClampNeg) u3.toNatClampNeg (0 : Int32)) := by rw [k_door_71_S]
    rw [e_b]
    exact ih (i + 1) (by omega) (sU A1 (8 + (nI i).toNatClampNeg) u3.toNatClampNeg (0 : Int32)) _ _ ls hP hS (lv_sub hl [1, 2, 3, 4, 0] rfl)
def k_door (N K : Nat) (A : Nat → Nat → Int32) (x y : Int32) : Int32 × Nat × Nat × (Nat → Nat → Int32) := (if (k_sortOf N K A x) = (0 : Int32) then (if (k_sortOf N K A y) = (0 : Int32) then (if x = y then ((-3 : Int32), (N, K, A)) else (if (nI K) < (10 : Int32) then k_door_71 N (K + 1) (nI K) 2 0 (sU (sU A 6 (nI K).toNatClampNeg x) 7 (nI K).toNatClampNeg y) else ((-7 : Int32), (N, K, A)))) else ((-2 : Int32), (N, K, A))) else ((-2 : Int32), (N, K, A)))
set_option maxHeartbeats 4000000 in
set_option maxRecDepth 100000 in
theorem ck_door (l : Launch) (D : va_G) (a : Nat → Nat) (cI cII : ClassId) (N K : Nat) (A : Nat → Nat → Int32) (hN : N ≤ 30) (hKK : K ≤ 10) (Z : Nat → Prop) (x y : Int32) : Met l y_C_door (Cond.code y_C_door b_C_door 5 (some .int) :: BW) ({ frames := 2, cells := 0, slots := 0, locals := 42 } : Room) (PcW D Z (wC a cI cII (nI N) (nI K) A) (tC cI cII) [.ref (a 0), .int x, .int y]) (va_Qi (fun r u => r = (k_door N K A x y).1 ∧ u = (k_door N K A x y).2) (atW D (fun u => wC a cI cII (nI u.1) (nI u.2.1) u.2.2) (tC cI cII)) Z) 0 0 Z := by
  refine wStart (by decide) rfl (Nat.le_of_ble_eq_true rfl) (fun p e s m below meth c Sx hr hlk hP hK hD hS ls hl => ?_)
  obtain ⟨hx, hb, hml, hown, hts⟩ := id Sx
  have hl : lv_has ls 5 [(0, .ref (a 0)), (1, .int x), (2, .int y)] := hl
  refine lv_aload_n hx hb d_C_door_0 rfl (lv_at hl 0 rfl) ?_
  refine lv_iload_n hx hb d_C_door_1 rfl (lv_at hl 1 rfl) ?_
  refine xro (As := [.int x]) (rest := []) Sx (ck_sortOf l D a cI cII N K A hN hKK x) v_C_sortOf ⟨rfl, rfl, Nat.le_of_ble_eq_true rfl, Nat.le_of_ble_eq_true rfl⟩ hK hP (ci := 0) (q0 := 0) rfl rfl rfl hl.1 rfl (Nat.le_of_ble_eq_true rfl) d_C_door_2 ⟨Nat.le_of_ble_eq_true rfl, Nat.le_of_ble_eq_true rfl⟩ (fun r hq => ?_)
  subst hq
  refine lv_if_ne (tgt := 16) hx hb d_C_door_5 (by decide) (fun c_5 => ?_) (fun c_5 => ?_)
  · refine lv_bipush (v := (-2 : Int32)) hx hb d_C_door_16 (by decide) ?_
    exact wRet (u := (N, K, A)) hx hb hr rfl hlk (show (-2 : Int32) = (k_door N K A x y).1 ∧ (N, K, A) = (k_door N K A x y).2 from by rw [k_door, if_neg c_5]; exact ⟨rfl, rfl⟩) hP hK hS d_C_door_18
  · refine lv_aload_n hx hb d_C_door_8 rfl (lv_at hl 0 rfl) ?_
    refine lv_iload_n hx hb d_C_door_9 rfl (lv_at hl 2 rfl) ?_
    refine xro (As := [.int y]) (rest := []) Sx (ck_sortOf l D a cI cII N K A hN hKK y) v_C_sortOf ⟨rfl, rfl, Nat.le_of_ble_eq_true rfl, Nat.le_of_ble_eq_true rfl⟩ hK hP (ci := 0) (q0 := 0) rfl rfl rfl hl.1 rfl (Nat.le_of_ble_eq_true rfl) d_C_door_10 ⟨Nat.le_of_ble_eq_true rfl, Nat.le_of_ble_eq_true rfl⟩ (fun r hq => ?_)
    subst hq
    refine lv_if_eq (tgt := 19) hx hb d_C_door_13 (by decide) (fun c_13 => ?_) (fun c_13 => ?_)
    · refine lv_iload_n hx hb d_C_door_19 rfl (lv_at hl 1 rfl) ?_
      refine lv_iload_n hx hb d_C_door_20 rfl (lv_at hl 2 rfl) ?_
      refine lv_icmp_ne (tgt := 27) hx hb d_C_door_21 (by decide) (fun c_21 => ?_) (fun c_21 => ?_)
      · refine lv_aload_n hx hb d_C_door_27 rfl (lv_at hl 0 rfl) ?_
        refine va_get (D := D) (ci := 0) (v := .int (nI K)) (C := R_C) (T := F_C) (N := 9) hx hb hts i_C hown hK hP 0 rfl rfl 4 (by decide) (hts _ fl_C_25) (fun _ h9 => h9) rfl d_C_door_28 ?_
        refine lv_bipush (v := (10 : Int32)) hx hb d_C_door_31 (by decide) ?_
        refine lv_icmp_lt (tgt := 39) hx hb d_C_door_33 (by decide) (fun c_33 => ?_) (fun c_33 => ?_)
        · refine lv_aload_n hx hb d_C_door_39 rfl (lv_at hl 0 rfl) ?_
          refine va_get (D := D) (ci := 0) (v := .int (nI K)) (C := R_C) (T := F_C) (N := 9) hx hb hts i_C hown hK hP 0 rfl rfl 4 (by decide) (hts _ fl_C_25) (fun _ h9 => h9) rfl d_C_door_40 ?_
          refine lv_istore_n (lv' := [(3, .int (nI K)), (0, .ref (a 0)), (1, .int x), (2, .int y)]) hx hb d_C_door_43 rfl hl (by decide) rfl (fun ls hl => ?_)
          refine lv_aload_n hx hb d_C_door_44 rfl (lv_at hl 1 rfl) ?_
          refine lv_dup hx hb d_C_door_45 rfl ?_
          refine va_get (D := D) (ci := 0) (v := .int (nI K)) (C := R_C) (T := F_C) (N := 9) hx hb hts i_C hown hK hP 0 rfl rfl 4 (by decide) (hts _ fl_C_25) (fun _ h9 => h9) rfl d_C_door_46 ?_
          refine lv_iconst (v := (1 : Int32)) hx hb d_C_door_49 (by decide) ?_
          refine x_iadd1 hx hb d_C_door_50 ?_
          refine va_put (D := D) (ci := 0) (v := .int (nI (K + 1))) (ty := .int) (C := R_C) (T := F_C) (N := 9) hx hb hts i_C t_C t_C_ok n_C hown hK hP (wC_D hD) hS 0 rfl rfl 4 (by decide) (hts _ fl_C_25) (fun _ h9 => h9) rfl (by decide +kernel) rfl rfl (Nat.le_of_ble_eq_true rfl) d_C_door_51 (fun H locs hP _ hS => ?_)
          have hP : va_P D classes (wC a cI cII (nI N) (nI (K + 1)) A) H := hP
          refine lv_aload_n hx hb d_C_door_54 rfl (lv_at hl 1 rfl) ?_
          refine va_get (D := D) (ci := 0) (v := .ref (a 8)) (C := R_C) (T := F_C) (N := 9) hx hb hts i_C hown hK hP 0 rfl rfl 5 (by decide) (hts _ fl_C_28) (fun _ h9 => h9) rfl d_C_door_55 ?_
          refine lv_iload_n hx hb d_C_door_58 rfl (lv_at hl 0 rfl) ?_
          refine lv_iload_n hx hb d_C_door_59 rfl (lv_at hl 2 rfl) ?_
          refine va_iast (n := 10) hx hb hK hP (wC_D hD) hS 8 0 rfl rfl (vp_in_nI ((nI_ltI (a := K) (b := 10) (by omega) (by omega)).mp c_33) (by omega)) d_C_door_60 (fun H locs hP _ hS => ?_)
          have hP : va_P D classes (wC a cI cII (nI N) (nI (K + 1)) (sU A 6 (nI K).toNatClampNeg x)) H := hP
          refine lv_aload_n hx hb d_C_door_61 rfl (lv_at hl 1 rfl) ?_
          refine va_get (D := D) (ci := 0) (v := .ref (a 9)) (C := R_C) (T := F_C) (N := 9) hx hb hts i_C hown hK hP 0 rfl rfl 6 (by decide) (hts _ fl_C_31) (fun _ h9 => h9) rfl d_C_door_62 ?_
          refine lv_iload_n hx hb d_C_door_65 rfl (lv_at hl 0 rfl) ?_
          refine lv_iload_n hx hb d_C_door_66 rfl (lv_at hl 3 rfl) ?_
          refine va_iast (n := 10) hx hb hK hP (wC_D hD) hS 9 0 rfl rfl (vp_in_nI ((nI_ltI (a := K) (b := 10) (by omega) (by omega)).mp c_33) (by omega)) d_C_door_67 (fun H locs hP _ hS => ?_)
          have hP : va_P D classes (wC a cI cII (nI N) (nI (K + 1)) (sU (sU A 6 (nI K).toNatClampNeg x) 7 (nI K).toNatClampNeg y)) H := hP
          refine lv_iconst (v := (0 : Int32)) hx hb d_C_door_68 (by decide) ?_
          refine lv_istore (lv' := [(4, .int (0 : Int32)), (3, .int (nI K)), (0, .ref (a 0)), (1, .int x), (2, .int y)]) hx hb d_C_door_69 hl (by decide) rfl (fun ls hl => ?_)
          have e_71 : k_door N K A x y = k_door_71 N (K + 1) (nI K) 2 0 (sU (sU A 6 (nI K).toNatClampNeg x) 7 (nI K).toNatClampNeg y) := by rw [k_door, if_pos c_5, if_pos c_13, if_neg c_21, if_pos c_33]
          rw [e_71]
          exact wk_door_71 l D a cI cII N (K + 1) (sU (sU A 6 (nI K).toNatClampNeg x) 7 (nI K).toNatClampNeg y) hN ((nI_ltI (a := K) (b := 10) (by omega) (by omega)).mp c_33) Z x y (nI K) (vp_in_nI ((nI_ltI (a := K) (b := 10) (by omega) (by omega)).mp c_33) (by omega)) Sx hr hlk (wC_D hD) hK 2 0 (by omega) (sU (sU A 6 (nI K).toNatClampNeg x) 7 (nI K).toNatClampNeg y) _ _ ls hP hS (lv_sub hl [2, 3, 4, 1, 0] rfl)
        · refine lv_bipush (v := (-7 : Int32)) hx hb d_C_door_36 (by decide) ?_
          exact wRet (u := (N, K, A)) hx hb hr rfl hlk (show (-7 : Int32) = (k_door N K A x y).1 ∧ (N, K, A) = (k_door N K A x y).2 from by rw [k_door, if_pos c_5, if_pos c_13, if_neg c_21, if_neg c_33]; exact ⟨rfl, rfl⟩) hP hK hS d_C_door_38
      · refine lv_bipush (v := (-3 : Int32)) hx hb d_C_door_24 (by decide) ?_
        exact wRet (u := (N, K, A)) hx hb hr rfl hlk (show (-3 : Int32) = (k_door N K A x y).1 ∧ (N, K, A) = (k_door N K A x y).2 from by rw [k_door, if_pos c_5, if_pos c_13, if_pos c_21]; exact ⟨rfl, rfl⟩) hP hK hS d_C_door_26
    · refine lv_bipush (v := (-2 : Int32)) hx hb d_C_door_16 (by decide) ?_
      exact wRet (u := (N, K, A)) hx hb hr rfl hlk (show (-2 : Int32) = (k_door N K A x y).1 ∧ (N, K, A) = (k_door N K A x y).2 from by rw [k_door, if_pos c_5, if_neg c_13]; exact ⟨rfl, rfl⟩) hP hK hS d_C_door_18

def k_turn (N K : Nat) (A : Nat → Nat → Int32) (dr what v : Int32) : Int32 × (Nat → Nat → Int32) := (if (k_isDoor N K A dr) = (0 : Int32) then ((-2 : Int32), A) else (if what < (0 : Int32) then ((-3 : Int32), A) else (if (2 : Int32) ≤ what then ((-3 : Int32), A) else (if v < (0 : Int32) then ((-3 : Int32), A) else (if v ≤ (1 : Int32) then (A (8 + what.toNatClampNeg) dr.toNatClampNeg, sU A (8 + what.toNatClampNeg) dr.toNatClampNeg v) else ((-3 : Int32), A))))))
set_option maxHeartbeats 4000000 in
set_option maxRecDepth 100000 in
theorem ck_turn (l : Launch) (D : va_G) (a : Nat → Nat) (cI cII : ClassId) (N K : Nat) (A : Nat → Nat → Int32) (hN : N ≤ 30) (hKK : K ≤ 10) (Z : Nat → Prop) (dr what v : Int32) : Met l y_C_turn (Cond.code y_C_turn b_C_turn 5 (some .int) :: BW) ({ frames := 1, cells := 0, slots := 0, locals := 21 } : Room) (PcW D Z (wC a cI cII (nI N) (nI K) A) (tC cI cII) [.ref (a 0), .int dr, .int what, .int v]) (va_Qi (fun r u => r = (k_turn N K A dr what v).1 ∧ u = (k_turn N K A dr what v).2) (atW D (fun u => wC a cI cII (nI N) (nI K) u) (tC cI cII)) Z) 0 0 Z := by
  refine wStart (by decide) rfl (Nat.le_of_ble_eq_true rfl) (fun p e s m below meth c Sx hr hlk hP hK hD hS ls hl => ?_)
  obtain ⟨hx, hb, hml, hown, hts⟩ := id Sx
  have hl : lv_has ls 5 [(0, .ref (a 0)), (1, .int dr), (2, .int what), (3, .int v)] := hl
  refine lv_aload_n hx hb d_C_turn_0 rfl (lv_at hl 0 rfl) ?_
  refine lv_iload_n hx hb d_C_turn_1 rfl (lv_at hl 1 rfl) ?_
  refine xro (As := [.int dr]) (rest := []) Sx (ck_isDoor l D a cI cII N K A hN hKK dr) v_C_isDoor ⟨rfl, rfl, Nat.le_of_ble_eq_true rfl, Nat.le_of_ble_eq_true rfl⟩ hK hP (ci := 0) (q0 := 0) rfl rfl rfl hl.1 rfl (Nat.le_of_ble_eq_true rfl) d_C_turn_2 ⟨Nat.le_of_ble_eq_true rfl, Nat.le_of_ble_eq_true rfl⟩ (fun r hq => ?_)
  subst hq
  refine lv_if_ne (tgt := 11) hx hb d_C_turn_5 (by decide) (fun c_5 => ?_) (fun c_5 => ?_)
  · refine lv_iload_n hx hb d_C_turn_11 rfl (lv_at hl 2 rfl) ?_
    refine lv_if_lt (tgt := 29) hx hb d_C_turn_12 (by decide) (fun c_12 => ?_) (fun c_12 => ?_)
    · refine lv_bipush (v := (-3 : Int32)) hx hb d_C_turn_29 (by decide) ?_
      exact wRet (u := A) hx hb hr rfl hlk (show (-3 : Int32) = (k_turn N K A dr what v).1 ∧ A = (k_turn N K A dr what v).2 from by rw [k_turn, if_neg c_5, if_pos c_12]; exact ⟨rfl, rfl⟩) hP hK hS d_C_turn_31
    · refine lv_iload_n hx hb d_C_turn_15 rfl (lv_at hl 2 rfl) ?_
      refine lv_iconst (v := (2 : Int32)) hx hb d_C_turn_16 (by decide) ?_
      refine lv_icmp_ge (tgt := 29) hx hb d_C_turn_17 (by decide) (fun c_17 => ?_) (fun c_17 => ?_)
      · refine lv_bipush (v := (-3 : Int32)) hx hb d_C_turn_29 (by decide) ?_
        exact wRet (u := A) hx hb hr rfl hlk (show (-3 : Int32) = (k_turn N K A dr what v).1 ∧ A = (k_turn N K A dr what v).2 from by rw [k_turn, if_neg c_5, if_neg c_12, if_pos c_17]; exact ⟨rfl, rfl⟩) hP hK hS d_C_turn_31
      · refine lv_iload_n hx hb d_C_turn_20 rfl (lv_at hl 3 rfl) ?_
        refine lv_if_lt (tgt := 29) hx hb d_C_turn_21 (by decide) (fun c_21 => ?_) (fun c_21 => ?_)
        · refine lv_bipush (v := (-3 : Int32)) hx hb d_C_turn_29 (by decide) ?_
          exact wRet (u := A) hx hb hr rfl hlk (show (-3 : Int32) = (k_turn N K A dr what v).1 ∧ A = (k_turn N K A dr what v).2 from by rw [k_turn, if_neg c_5, if_neg c_12, if_neg c_17, if_pos c_21]; exact ⟨rfl, rfl⟩) hP hK hS d_C_turn_31
        · refine lv_iload_n hx hb d_C_turn_24 rfl (lv_at hl 3 rfl) ?_
          refine lv_iconst (v := (1 : Int32)) hx hb d_C_turn_25 (by decide) ?_
          refine lv_icmp_le (tgt := 32) hx hb d_C_turn_26 (by decide) (fun c_26 => ?_) (fun c_26 => ?_)
          · refine lv_aload_n hx hb d_C_turn_32 rfl (lv_at hl 0 rfl) ?_
            refine va_get (D := D) (ci := 0) (v := .ref (a 10)) (C := R_C) (T := F_C) (N := 9) hx hb hts i_C hown hK hP 0 rfl rfl 7 (by decide) (hts _ fl_C_34) (fun _ h9 => h9) rfl d_C_turn_33 ?_
            refine lv_iload_n hx hb d_C_turn_36 rfl (lv_at hl 2 rfl) ?_
            refine x_ald2 hx hb hK hP (in2 c_12 c_17) d_C_turn_37 ?_
            refine lv_iload_n hx hb d_C_turn_38 rfl (lv_at hl 1 rfl) ?_
            refine va_iald (n := 10) hx hb hK hP (11 + what.toNatClampNeg) 0 (wC_row2 (vp_lt (in2 c_12 c_17))) rfl (in_isDoor hKK c_5) d_C_turn_39 ?_
            refine lv_istore (lv' := [(4, .int (A (8 + what.toNatClampNeg) dr.toNatClampNeg)), (0, .ref (a 0)), (1, .int dr), (2, .int what), (3, .int v)]) hx hb d_C_turn_40 hl (by decide) rfl (fun ls hl => ?_)
            refine lv_aload_n hx hb d_C_turn_42 rfl (lv_at hl 1 rfl) ?_
            refine va_get (D := D) (ci := 0) (v := .ref (a 10)) (C := R_C) (T := F_C) (N := 9) hx hb hts i_C hown hK hP 0 rfl rfl 7 (by decide) (hts _ fl_C_34) (fun _ h9 => h9) rfl d_C_turn_43 ?_
            refine lv_iload_n hx hb d_C_turn_46 rfl (lv_at hl 3 rfl) ?_
            refine x_ald2 hx hb hK hP (in2 c_12 c_17) d_C_turn_47 ?_
            refine lv_iload_n hx hb d_C_turn_48 rfl (lv_at hl 2 rfl) ?_
            refine lv_iload_n hx hb d_C_turn_49 rfl (lv_at hl 4 rfl) ?_
            refine va_iast (n := 10) hx hb hK hP (wC_D hD) hS (11 + what.toNatClampNeg) 0 (wC_row2 (vp_lt (in2 c_12 c_17))) rfl (in_isDoor hKK c_5) d_C_turn_50 (fun H locs hP _ hS => ?_)
            have hP : va_P D classes (wC a cI cII (nI N) (nI K) (sU A (8 + what.toNatClampNeg) dr.toNatClampNeg v)) H := by have h9 := hP; rw [wC_set2 (j := what.toNatClampNeg) (vp_lt (in2 c_12 c_17))] at h9; exact h9
            refine lv_iload hx hb d_C_turn_51 (lv_at hl 0 rfl) ?_
            exact wRet (u := sU A (8 + what.toNatClampNeg) dr.toNatClampNeg v) hx hb hr rfl hlk (show A (8 + what.toNatClampNeg) dr.toNatClampNeg = (k_turn N K A dr what v).1 ∧ sU A (8 + what.toNatClampNeg) dr.toNatClampNeg v = (k_turn N K A dr what v).2 from by rw [k_turn, if_neg c_5, if_neg c_12, if_neg c_17, if_neg c_21, if_pos c_26]; exact ⟨rfl, rfl⟩) hP hK hS d_C_turn_53
          · refine lv_bipush (v := (-3 : Int32)) hx hb d_C_turn_29 (by decide) ?_
            exact wRet (u := A) hx hb hr rfl hlk (show (-3 : Int32) = (k_turn N K A dr what v).1 ∧ A = (k_turn N K A dr what v).2 from by rw [k_turn, if_neg c_5, if_neg c_12, if_neg c_17, if_neg c_21, if_neg c_26]; exact ⟨rfl, rfl⟩) hP hK hS d_C_turn_31
  · refine lv_bipush (v := (-2 : Int32)) hx hb d_C_turn_8 (by decide) ?_
    exact wRet (u := A) hx hb hr rfl hlk (show (-2 : Int32) = (k_turn N K A dr what v).1 ∧ A = (k_turn N K A dr what v).2 from by rw [k_turn, if_pos c_5]; exact ⟨rfl, rfl⟩) hP hK hS d_C_turn_10

def k_take (N K : Nat) (A : Nat → Nat → Int32) (who x : Int32) : Int32 × (Nat → Nat → Int32) := (if (k_isPerson N K A who) = (0 : Int32) then ((-2 : Int32), A) else (if (k_isThing N K A x) = (0 : Int32) then ((-2 : Int32), A) else (if (k_sortOf N K A x) = (0 : Int32) then ((-2 : Int32), A) else (if (k_isPerson N K A x) = (0 : Int32) then (if (k_isWithin N K A who x) = (0 : Int32) then (if (k_firstBarrier N K A who x) = (-5 : Int32) then ((-5 : Int32), A) else (if (k_firstBarrier N K A who x) = (-1 : Int32) then (if (A 1 x.toNatClampNeg) = who then ((0 : Int32), A) else (if (k_isFull N K A who) = (0 : Int32) then ((1 : Int32), sU A 1 x.toNatClampNeg who) else ((-7 : Int32), A))) else ((-6 : Int32), A))) else ((-4 : Int32), A)) else ((-2 : Int32), A)))))
set_option maxHeartbeats 4000000 in
set_option maxRecDepth 100000 in
theorem ck_take (l : Launch) (D : va_G) (a : Nat → Nat) (cI cII : ClassId) (N K : Nat) (A : Nat → Nat → Int32) (hN : N ≤ 30) (hKK : K ≤ 10) (Z : Nat → Prop) (who x : Int32) : Met l y_C_take (Cond.code y_C_take b_C_take 4 (some .int) :: BW) ({ frames := 5, cells := 0, slots := 0, locals := 114 } : Room) (PcW D Z (wC a cI cII (nI N) (nI K) A) (tC cI cII) [.ref (a 0), .int who, .int x]) (va_Qi (fun r u => r = (k_take N K A who x).1 ∧ u = (k_take N K A who x).2) (atW D (fun u => wC a cI cII (nI N) (nI K) u) (tC cI cII)) Z) 0 0 Z := by
  refine wStart (by decide) rfl (Nat.le_of_ble_eq_true rfl) (fun p e s m below meth c Sx hr hlk hP hK hD hS ls hl => ?_)
  obtain ⟨hx, hb, hml, hown, hts⟩ := id Sx
  have hl : lv_has ls 4 [(0, .ref (a 0)), (1, .int who), (2, .int x)] := hl
  refine lv_aload_n hx hb d_C_take_0 rfl (lv_at hl 0 rfl) ?_
  refine lv_iload_n hx hb d_C_take_1 rfl (lv_at hl 1 rfl) ?_
  refine xro (As := [.int who]) (rest := []) Sx (ck_isPerson l D a cI cII N K A hN hKK who) v_C_isPerson ⟨rfl, rfl, Nat.le_of_ble_eq_true rfl, Nat.le_of_ble_eq_true rfl⟩ hK hP (ci := 0) (q0 := 0) rfl rfl rfl hl.1 rfl (Nat.le_of_ble_eq_true rfl) d_C_take_2 ⟨Nat.le_of_ble_eq_true rfl, Nat.le_of_ble_eq_true rfl⟩ (fun r hq => ?_)
  subst hq
  refine lv_if_eq (tgt := 32) hx hb d_C_take_5 (by decide) (fun c_5 => ?_) (fun c_5 => ?_)
  · refine lv_bipush (v := (-2 : Int32)) hx hb d_C_take_32 (by decide) ?_
    exact wRet (u := A) hx hb hr rfl hlk (show (-2 : Int32) = (k_take N K A who x).1 ∧ A = (k_take N K A who x).2 from by rw [k_take, if_pos c_5]; exact ⟨rfl, rfl⟩) hP hK hS d_C_take_34
  · refine lv_aload_n hx hb d_C_take_8 rfl (lv_at hl 0 rfl) ?_
    refine lv_iload_n hx hb d_C_take_9 rfl (lv_at hl 2 rfl) ?_
    refine xro (As := [.int x]) (rest := []) Sx (ck_isThing l D a cI cII N K A hN hKK x) v_C_isThing ⟨rfl, rfl, Nat.le_of_ble_eq_true rfl, Nat.le_of_ble_eq_true rfl⟩ hK hP (ci := 0) (q0 := 0) rfl rfl rfl hl.1 rfl (Nat.le_of_ble_eq_true rfl) d_C_take_10 ⟨Nat.le_of_ble_eq_true rfl, Nat.le_of_ble_eq_true rfl⟩ (fun r hq => ?_)
    subst hq
    refine lv_if_eq (tgt := 32) hx hb d_C_take_13 (by decide) (fun c_13 => ?_) (fun c_13 => ?_)
    · refine lv_bipush (v := (-2 : Int32)) hx hb d_C_take_32 (by decide) ?_
      exact wRet (u := A) hx hb hr rfl hlk (show (-2 : Int32) = (k_take N K A who x).1 ∧ A = (k_take N K A who x).2 from by rw [k_take, if_neg c_5, if_pos c_13]; exact ⟨rfl, rfl⟩) hP hK hS d_C_take_34
    · refine lv_aload_n hx hb d_C_take_16 rfl (lv_at hl 0 rfl) ?_
      refine lv_iload_n hx hb d_C_take_17 rfl (lv_at hl 2 rfl) ?_
      refine xro (As := [.int x]) (rest := []) Sx (ck_sortOf l D a cI cII N K A hN hKK x) v_C_sortOf ⟨rfl, rfl, Nat.le_of_ble_eq_true rfl, Nat.le_of_ble_eq_true rfl⟩ hK hP (ci := 0) (q0 := 0) rfl rfl rfl hl.1 rfl (Nat.le_of_ble_eq_true rfl) d_C_take_18 ⟨Nat.le_of_ble_eq_true rfl, Nat.le_of_ble_eq_true rfl⟩ (fun r hq => ?_)
      subst hq
      refine lv_if_eq (tgt := 32) hx hb d_C_take_21 (by decide) (fun c_21 => ?_) (fun c_21 => ?_)
      · refine lv_bipush (v := (-2 : Int32)) hx hb d_C_take_32 (by decide) ?_
        exact wRet (u := A) hx hb hr rfl hlk (show (-2 : Int32) = (k_take N K A who x).1 ∧ A = (k_take N K A who x).2 from by rw [k_take, if_neg c_5, if_neg c_13, if_pos c_21]; exact ⟨rfl, rfl⟩) hP hK hS d_C_take_34
      · refine lv_aload_n hx hb d_C_take_24 rfl (lv_at hl 0 rfl) ?_
        refine lv_iload_n hx hb d_C_take_25 rfl (lv_at hl 2 rfl) ?_
        refine xro (As := [.int x]) (rest := []) Sx (ck_isPerson l D a cI cII N K A hN hKK x) v_C_isPerson ⟨rfl, rfl, Nat.le_of_ble_eq_true rfl, Nat.le_of_ble_eq_true rfl⟩ hK hP (ci := 0) (q0 := 0) rfl rfl rfl hl.1 rfl (Nat.le_of_ble_eq_true rfl) d_C_take_26 ⟨Nat.le_of_ble_eq_true rfl, Nat.le_of_ble_eq_true rfl⟩ (fun r hq => ?_)
        subst hq
        refine lv_if_eq (tgt := 35) hx hb d_C_take_29 (by decide) (fun c_29 => ?_) (fun c_29 => ?_)
        · refine lv_aload_n hx hb d_C_take_35 rfl (lv_at hl 0 rfl) ?_
          refine lv_iload_n hx hb d_C_take_36 rfl (lv_at hl 1 rfl) ?_
          refine lv_iload_n hx hb d_C_take_37 rfl (lv_at hl 2 rfl) ?_
          refine xro (As := [.int who, .int x]) (rest := []) Sx (ck_isWithin l D a cI cII N K A hN hKK who x) v_C_isWithin ⟨rfl, rfl, Nat.le_of_ble_eq_true rfl, Nat.le_of_ble_eq_true rfl⟩ hK hP (ci := 0) (q0 := 0) rfl rfl rfl hl.1 rfl (Nat.le_of_ble_eq_true rfl) d_C_take_38 ⟨Nat.le_of_ble_eq_true rfl, Nat.le_of_ble_eq_true rfl⟩ (fun r hq => ?_)
          subst hq
          refine lv_if_eq (tgt := 47) hx hb d_C_take_41 (by decide) (fun c_41 => ?_) (fun c_41 => ?_)
          · refine lv_aload_n hx hb d_C_take_47 rfl (lv_at hl 0 rfl) ?_
            refine lv_iload_n hx hb d_C_take_48 rfl (lv_at hl 1 rfl) ?_
            refine lv_iload_n hx hb d_C_take_49 rfl (lv_at hl 2 rfl) ?_
            refine xro (As := [.int who, .int x]) (rest := []) Sx (ck_firstBarrier l D a cI cII N K A hN hKK who x) v_C_firstBarrier ⟨rfl, rfl, Nat.le_of_ble_eq_true rfl, Nat.le_of_ble_eq_true rfl⟩ hK hP (ci := 0) (q0 := 0) rfl rfl rfl hl.1 rfl (Nat.le_of_ble_eq_true rfl) d_C_take_50 ⟨Nat.le_of_ble_eq_true rfl, Nat.le_of_ble_eq_true rfl⟩ (fun r hq => ?_)
            subst hq
            refine lv_istore_n (lv' := [(3, .int (k_firstBarrier N K A who x)), (0, .ref (a 0)), (1, .int who), (2, .int x)]) hx hb d_C_take_53 rfl hl (by decide) rfl (fun ls hl => ?_)
            refine lv_iload_n hx hb d_C_take_54 rfl (lv_at hl 0 rfl) ?_
            refine lv_bipush (v := (-5 : Int32)) hx hb d_C_take_55 (by decide) ?_
            refine lv_icmp_ne (tgt := 63) hx hb d_C_take_57 (by decide) (fun c_57 => ?_) (fun c_57 => ?_)
            · refine lv_iload_n hx hb d_C_take_63 rfl (lv_at hl 0 rfl) ?_
              refine lv_iconst (v := (-1 : Int32)) hx hb d_C_take_64 (by decide) ?_
              refine lv_icmp_eq (tgt := 71) hx hb d_C_take_65 (by decide) (fun c_65 => ?_) (fun c_65 => ?_)
              · refine lv_aload_n hx hb d_C_take_71 rfl (lv_at hl 1 rfl) ?_
                refine va_get (D := D) (ci := 0) (v := .ref (a 2)) (C := R_C) (T := F_C) (N := 9) hx hb hts i_C hown hK hP 0 rfl rfl 2 (by decide) (hts _ fl_C_17) (fun _ h9 => h9) rfl d_C_take_72 ?_
                refine lv_iload_n hx hb d_C_take_75 rfl (lv_at hl 3 rfl) ?_
                refine va_iald (n := 30) hx hb hK hP 2 0 rfl rfl (in_isThing hN c_13) d_C_take_76 ?_
                refine lv_iload_n hx hb d_C_take_77 rfl (lv_at hl 2 rfl) ?_
                refine lv_icmp_ne (tgt := 83) hx hb d_C_take_78 (by decide) (fun c_78 => ?_) (fun c_78 => ?_)
                · refine lv_aload_n hx hb d_C_take_83 rfl (lv_at hl 1 rfl) ?_
                  refine lv_iload_n hx hb d_C_take_84 rfl (lv_at hl 2 rfl) ?_
                  refine xro (As := [.int who]) (rest := []) Sx (ck_isFull l D a cI cII N K A hN hKK who) v_C_isFull ⟨rfl, rfl, Nat.le_of_ble_eq_true rfl, Nat.le_of_ble_eq_true rfl⟩ hK hP (ci := 0) (q0 := 0) rfl rfl rfl hl.1 rfl (Nat.le_of_ble_eq_true rfl) d_C_take_85 ⟨Nat.le_of_ble_eq_true rfl, Nat.le_of_ble_eq_true rfl⟩ (fun r hq => ?_)
                  subst hq
                  refine lv_if_eq (tgt := 94) hx hb d_C_take_88 (by decide) (fun c_88 => ?_) (fun c_88 => ?_)
                  · refine lv_aload_n hx hb d_C_take_94 rfl (lv_at hl 1 rfl) ?_
                    refine va_get (D := D) (ci := 0) (v := .ref (a 2)) (C := R_C) (T := F_C) (N := 9) hx hb hts i_C hown hK hP 0 rfl rfl 2 (by decide) (hts _ fl_C_17) (fun _ h9 => h9) rfl d_C_take_95 ?_
                    refine lv_iload_n hx hb d_C_take_98 rfl (lv_at hl 3 rfl) ?_
                    refine lv_iload_n hx hb d_C_take_99 rfl (lv_at hl 2 rfl) ?_
                    refine va_iast (n := 30) hx hb hK hP (wC_D hD) hS 2 0 rfl rfl (in_isThing hN c_13) d_C_take_100 (fun H locs hP _ hS => ?_)
                    have hP : va_P D classes (wC a cI cII (nI N) (nI K) (sU A 1 x.toNatClampNeg who)) H := hP
                    refine lv_iconst (v := (1 : Int32)) hx hb d_C_take_101 (by decide) ?_
                    exact wRet (u := sU A 1 x.toNatClampNeg who) hx hb hr rfl hlk (show (1 : Int32) = (k_take N K A who x).1 ∧ sU A 1 x.toNatClampNeg who = (k_take N K A who x).2 from by rw [k_take, if_neg c_5, if_neg c_13, if_neg c_21, if_pos c_29, if_pos c_41, if_neg c_57, if_pos c_65, if_neg c_78, if_pos c_88]; exact ⟨rfl, rfl⟩) hP hK hS d_C_take_102
                  · refine lv_bipush (v := (-7 : Int32)) hx hb d_C_take_91 (by decide) ?_
                    exact wRet (u := A) hx hb hr rfl hlk (show (-7 : Int32) = (k_take N K A who x).1 ∧ A = (k_take N K A who x).2 from by rw [k_take, if_neg c_5, if_neg c_13, if_neg c_21, if_pos c_29, if_pos c_41, if_neg c_57, if_pos c_65, if_neg c_78, if_neg c_88]; exact ⟨rfl, rfl⟩) hP hK hS d_C_take_93
                · refine lv_iconst (v := (0 : Int32)) hx hb d_C_take_81 (by decide) ?_
                  exact wRet (u := A) hx hb hr rfl hlk (show (0 : Int32) = (k_take N K A who x).1 ∧ A = (k_take N K A who x).2 from by rw [k_take, if_neg c_5, if_neg c_13, if_neg c_21, if_pos c_29, if_pos c_41, if_neg c_57, if_pos c_65, if_pos c_78]; exact ⟨rfl, rfl⟩) hP hK hS d_C_take_82
              · refine lv_bipush (v := (-6 : Int32)) hx hb d_C_take_68 (by decide) ?_
                exact wRet (u := A) hx hb hr rfl hlk (show (-6 : Int32) = (k_take N K A who x).1 ∧ A = (k_take N K A who x).2 from by rw [k_take, if_neg c_5, if_neg c_13, if_neg c_21, if_pos c_29, if_pos c_41, if_neg c_57, if_neg c_65]; exact ⟨rfl, rfl⟩) hP hK hS d_C_take_70
            · refine lv_bipush (v := (-5 : Int32)) hx hb d_C_take_60 (by decide) ?_
              exact wRet (u := A) hx hb hr rfl hlk (show (-5 : Int32) = (k_take N K A who x).1 ∧ A = (k_take N K A who x).2 from by rw [k_take, if_neg c_5, if_neg c_13, if_neg c_21, if_pos c_29, if_pos c_41, if_pos c_57]; exact ⟨rfl, rfl⟩) hP hK hS d_C_take_62
          · refine lv_bipush (v := (-4 : Int32)) hx hb d_C_take_44 (by decide) ?_
            exact wRet (u := A) hx hb hr rfl hlk (show (-4 : Int32) = (k_take N K A who x).1 ∧ A = (k_take N K A who x).2 from by rw [k_take, if_neg c_5, if_neg c_13, if_neg c_21, if_pos c_29, if_neg c_41]; exact ⟨rfl, rfl⟩) hP hK hS d_C_take_46
        · refine lv_bipush (v := (-2 : Int32)) hx hb d_C_take_32 (by decide) ?_
          exact wRet (u := A) hx hb hr rfl hlk (show (-2 : Int32) = (k_take N K A who x).1 ∧ A = (k_take N K A who x).2 from by rw [k_take, if_neg c_5, if_neg c_13, if_neg c_21, if_neg c_29]; exact ⟨rfl, rfl⟩) hP hK hS d_C_take_34

def k_give (N K : Nat) (A : Nat → Nat → Int32) (who x t : Int32) : Int32 × (Nat → Nat → Int32) := (if (k_hasInHands N K A who x) = (0 : Int32) then ((-2 : Int32), A) else (if t = who then ((-2 : Int32), A) else (if (k_mayBeGivenTo N K A t) = (0 : Int32) then ((-2 : Int32), A) else (if t = x then ((-4 : Int32), A) else (if (k_isWithin N K A t x) = (0 : Int32) then (if (k_firstBarrier N K A who t) = (-5 : Int32) then ((-5 : Int32), A) else (if (k_firstBarrier N K A who t) = (-1 : Int32) then (if (k_isShutBox N K A t) = (0 : Int32) then (if (k_isFull N K A t) = (0 : Int32) then ((1 : Int32), sU A 1 x.toNatClampNeg t) else ((-7 : Int32), A)) else ((-6 : Int32), A)) else ((-6 : Int32), A))) else ((-4 : Int32), A))))))
set_option maxHeartbeats 4000000 in
set_option maxRecDepth 100000 in
theorem ck_give (l : Launch) (D : va_G) (a : Nat → Nat) (cI cII : ClassId) (N K : Nat) (A : Nat → Nat → Int32) (hN : N ≤ 30) (hKK : K ≤ 10) (Z : Nat → Prop) (who x t : Int32) : Met l y_C_give (Cond.code y_C_give b_C_give 5 (some .int) :: BW) ({ frames := 5, cells := 0, slots := 0, locals := 114 } : Room) (PcW D Z (wC a cI cII (nI N) (nI K) A) (tC cI cII) [.ref (a 0), .int who, .int x, .int t]) (va_Qi (fun r u => r = (k_give N K A who x t).1 ∧ u = (k_give N K A who x t).2) (atW D (fun u => wC a cI cII (nI N) (nI K) u) (tC cI cII)) Z) 0 0 Z := by
  refine wStart (by decide) rfl (Nat.le_of_ble_eq_true rfl) (fun p e s m below meth c Sx hr hlk hP hK hD hS ls hl => ?_)
  obtain ⟨hx, hb, hml, hown, hts⟩ := id Sx
  have hl : lv_has ls 5 [(0, .ref (a 0)), (1, .int who), (2, .int x), (3, .int t)] := hl
  refine lv_aload_n hx hb d_C_give_0 rfl (lv_at hl 0 rfl) ?_
  refine lv_iload_n hx hb d_C_give_1 rfl (lv_at hl 1 rfl) ?_
  refine lv_iload_n hx hb d_C_give_2 rfl (lv_at hl 2 rfl) ?_
  refine xro (As := [.int who, .int x]) (rest := []) Sx (ck_hasInHands l D a cI cII N K A hN hKK who x) v_C_hasInHands ⟨rfl, rfl, Nat.le_of_ble_eq_true rfl, Nat.le_of_ble_eq_true rfl⟩ hK hP (ci := 0) (q0 := 0) rfl rfl rfl hl.1 rfl (Nat.le_of_ble_eq_true rfl) d_C_give_3 ⟨Nat.le_of_ble_eq_true rfl, Nat.le_of_ble_eq_true rfl⟩ (fun r hq => ?_)
  subst hq
  refine lv_if_eq (tgt := 22) hx hb d_C_give_6 (by decide) (fun c_6 => ?_) (fun c_6 => ?_)
  · refine lv_bipush (v := (-2 : Int32)) hx hb d_C_give_22 (by decide) ?_
    exact wRet (u := A) hx hb hr rfl hlk (show (-2 : Int32) = (k_give N K A who x t).1 ∧ A = (k_give N K A who x t).2 from by rw [k_give, if_pos c_6]; exact ⟨rfl, rfl⟩) hP hK hS d_C_give_24
  · refine lv_iload_n hx hb d_C_give_9 rfl (lv_at hl 3 rfl) ?_
    refine lv_iload_n hx hb d_C_give_10 rfl (lv_at hl 1 rfl) ?_
    refine lv_icmp_eq (tgt := 22) hx hb d_C_give_11 (by decide) (fun c_11 => ?_) (fun c_11 => ?_)
    · refine lv_bipush (v := (-2 : Int32)) hx hb d_C_give_22 (by decide) ?_
      exact wRet (u := A) hx hb hr rfl hlk (show (-2 : Int32) = (k_give N K A who x t).1 ∧ A = (k_give N K A who x t).2 from by rw [k_give, if_neg c_6, if_pos c_11]; exact ⟨rfl, rfl⟩) hP hK hS d_C_give_24
    · refine lv_aload_n hx hb d_C_give_14 rfl (lv_at hl 0 rfl) ?_
      refine lv_iload_n hx hb d_C_give_15 rfl (lv_at hl 3 rfl) ?_
      refine xro (As := [.int t]) (rest := []) Sx (ck_mayBeGivenTo l D a cI cII N K A hN hKK t) v_C_mayBeGivenTo ⟨rfl, rfl, Nat.le_of_ble_eq_true rfl, Nat.le_of_ble_eq_true rfl⟩ hK hP (ci := 0) (q0 := 0) rfl rfl rfl hl.1 rfl (Nat.le_of_ble_eq_true rfl) d_C_give_16 ⟨Nat.le_of_ble_eq_true rfl, Nat.le_of_ble_eq_true rfl⟩ (fun r hq => ?_)
      subst hq
      refine lv_if_ne (tgt := 25) hx hb d_C_give_19 (by decide) (fun c_19 => ?_) (fun c_19 => ?_)
      · refine lv_iload_n hx hb d_C_give_25 rfl (lv_at hl 3 rfl) ?_
        refine lv_iload_n hx hb d_C_give_26 rfl (lv_at hl 2 rfl) ?_
        refine lv_icmp_eq (tgt := 39) hx hb d_C_give_27 (by decide) (fun c_27 => ?_) (fun c_27 => ?_)
        · refine lv_bipush (v := (-4 : Int32)) hx hb d_C_give_39 (by decide) ?_
          exact wRet (u := A) hx hb hr rfl hlk (show (-4 : Int32) = (k_give N K A who x t).1 ∧ A = (k_give N K A who x t).2 from by rw [k_give, if_neg c_6, if_neg c_11, if_neg c_19, if_pos c_27]; exact ⟨rfl, rfl⟩) hP hK hS d_C_give_41
        · refine lv_aload_n hx hb d_C_give_30 rfl (lv_at hl 0 rfl) ?_
          refine lv_iload_n hx hb d_C_give_31 rfl (lv_at hl 3 rfl) ?_
          refine lv_iload_n hx hb d_C_give_32 rfl (lv_at hl 2 rfl) ?_
          refine xro (As := [.int t, .int x]) (rest := []) Sx (ck_isWithin l D a cI cII N K A hN hKK t x) v_C_isWithin ⟨rfl, rfl, Nat.le_of_ble_eq_true rfl, Nat.le_of_ble_eq_true rfl⟩ hK hP (ci := 0) (q0 := 0) rfl rfl rfl hl.1 rfl (Nat.le_of_ble_eq_true rfl) d_C_give_33 ⟨Nat.le_of_ble_eq_true rfl, Nat.le_of_ble_eq_true rfl⟩ (fun r hq => ?_)
          subst hq
          refine lv_if_eq (tgt := 42) hx hb d_C_give_36 (by decide) (fun c_36 => ?_) (fun c_36 => ?_)
          · refine lv_aload_n hx hb d_C_give_42 rfl (lv_at hl 0 rfl) ?_
            refine lv_iload_n hx hb d_C_give_43 rfl (lv_at hl 1 rfl) ?_
            refine lv_iload_n hx hb d_C_give_44 rfl (lv_at hl 3 rfl) ?_
            refine xro (As := [.int who, .int t]) (rest := []) Sx (ck_firstBarrier l D a cI cII N K A hN hKK who t) v_C_firstBarrier ⟨rfl, rfl, Nat.le_of_ble_eq_true rfl, Nat.le_of_ble_eq_true rfl⟩ hK hP (ci := 0) (q0 := 0) rfl rfl rfl hl.1 rfl (Nat.le_of_ble_eq_true rfl) d_C_give_45 ⟨Nat.le_of_ble_eq_true rfl, Nat.le_of_ble_eq_true rfl⟩ (fun r hq => ?_)
            subst hq
            refine lv_istore (lv' := [(4, .int (k_firstBarrier N K A who t)), (0, .ref (a 0)), (1, .int who), (2, .int x), (3, .int t)]) hx hb d_C_give_48 hl (by decide) rfl (fun ls hl => ?_)
            refine lv_iload hx hb d_C_give_50 (lv_at hl 0 rfl) ?_
            refine lv_bipush (v := (-5 : Int32)) hx hb d_C_give_52 (by decide) ?_
            refine lv_icmp_ne (tgt := 60) hx hb d_C_give_54 (by decide) (fun c_54 => ?_) (fun c_54 => ?_)
            · refine lv_iload hx hb d_C_give_60 (lv_at hl 0 rfl) ?_
              refine lv_iconst (v := (-1 : Int32)) hx hb d_C_give_62 (by decide) ?_
              refine lv_icmp_ne (tgt := 74) hx hb d_C_give_63 (by decide) (fun c_63 => ?_) (fun c_63 => ?_)
              · refine lv_bipush (v := (-6 : Int32)) hx hb d_C_give_74 (by decide) ?_
                exact wRet (u := A) hx hb hr rfl hlk (show (-6 : Int32) = (k_give N K A who x t).1 ∧ A = (k_give N K A who x t).2 from by rw [k_give, if_neg c_6, if_neg c_11, if_neg c_19, if_neg c_27, if_pos c_36, if_neg c_54, if_neg c_63]; exact ⟨rfl, rfl⟩) hP hK hS d_C_give_76
              · refine lv_aload_n hx hb d_C_give_66 rfl (lv_at hl 1 rfl) ?_
                refine lv_iload_n hx hb d_C_give_67 rfl (lv_at hl 4 rfl) ?_
                refine xro (As := [.int t]) (rest := []) Sx (ck_isShutBox l D a cI cII N K A hN hKK t) v_C_isShutBox ⟨rfl, rfl, Nat.le_of_ble_eq_true rfl, Nat.le_of_ble_eq_true rfl⟩ hK hP (ci := 0) (q0 := 0) rfl rfl rfl hl.1 rfl (Nat.le_of_ble_eq_true rfl) d_C_give_68 ⟨Nat.le_of_ble_eq_true rfl, Nat.le_of_ble_eq_true rfl⟩ (fun r hq => ?_)
                subst hq
                refine lv_if_eq (tgt := 77) hx hb d_C_give_71 (by decide) (fun c_71 => ?_) (fun c_71 => ?_)
                · refine lv_aload_n hx hb d_C_give_77 rfl (lv_at hl 1 rfl) ?_
                  refine lv_iload_n hx hb d_C_give_78 rfl (lv_at hl 4 rfl) ?_
                  refine xro (As := [.int t]) (rest := []) Sx (ck_isFull l D a cI cII N K A hN hKK t) v_C_isFull ⟨rfl, rfl, Nat.le_of_ble_eq_true rfl, Nat.le_of_ble_eq_true rfl⟩ hK hP (ci := 0) (q0 := 0) rfl rfl rfl hl.1 rfl (Nat.le_of_ble_eq_true rfl) d_C_give_79 ⟨Nat.le_of_ble_eq_true rfl, Nat.le_of_ble_eq_true rfl⟩ (fun r hq => ?_)
                  subst hq
                  refine lv_if_eq (tgt := 88) hx hb d_C_give_82 (by decide) (fun c_82 => ?_) (fun c_82 => ?_)
                  · refine lv_aload_n hx hb d_C_give_88 rfl (lv_at hl 1 rfl) ?_
                    refine va_get (D := D) (ci := 0) (v := .ref (a 2)) (C := R_C) (T := F_C) (N := 9) hx hb hts i_C hown hK hP 0 rfl rfl 2 (by decide) (hts _ fl_C_17) (fun _ h9 => h9) rfl d_C_give_89 ?_
                    refine lv_iload_n hx hb d_C_give_92 rfl (lv_at hl 3 rfl) ?_
                    refine lv_iload_n hx hb d_C_give_93 rfl (lv_at hl 4 rfl) ?_
                    refine va_iast (n := 30) hx hb hK hP (wC_D hD) hS 2 0 rfl rfl (in_hasInHands hN c_6) d_C_give_94 (fun H locs hP _ hS => ?_)
                    have hP : va_P D classes (wC a cI cII (nI N) (nI K) (sU A 1 x.toNatClampNeg t)) H := hP
                    refine lv_iconst (v := (1 : Int32)) hx hb d_C_give_95 (by decide) ?_
                    exact wRet (u := sU A 1 x.toNatClampNeg t) hx hb hr rfl hlk (show (1 : Int32) = (k_give N K A who x t).1 ∧ sU A 1 x.toNatClampNeg t = (k_give N K A who x t).2 from by rw [k_give, if_neg c_6, if_neg c_11, if_neg c_19, if_neg c_27, if_pos c_36, if_neg c_54, if_pos c_63, if_pos c_71, if_pos c_82]; exact ⟨rfl, rfl⟩) hP hK hS d_C_give_96
                  · refine lv_bipush (v := (-7 : Int32)) hx hb d_C_give_85 (by decide) ?_
                    exact wRet (u := A) hx hb hr rfl hlk (show (-7 : Int32) = (k_give N K A who x t).1 ∧ A = (k_give N K A who x t).2 from by rw [k_give, if_neg c_6, if_neg c_11, if_neg c_19, if_neg c_27, if_pos c_36, if_neg c_54, if_pos c_63, if_pos c_71, if_neg c_82]; exact ⟨rfl, rfl⟩) hP hK hS d_C_give_87
                · refine lv_bipush (v := (-6 : Int32)) hx hb d_C_give_74 (by decide) ?_
                  exact wRet (u := A) hx hb hr rfl hlk (show (-6 : Int32) = (k_give N K A who x t).1 ∧ A = (k_give N K A who x t).2 from by rw [k_give, if_neg c_6, if_neg c_11, if_neg c_19, if_neg c_27, if_pos c_36, if_neg c_54, if_pos c_63, if_neg c_71]; exact ⟨rfl, rfl⟩) hP hK hS d_C_give_76
            · refine lv_bipush (v := (-5 : Int32)) hx hb d_C_give_57 (by decide) ?_
              exact wRet (u := A) hx hb hr rfl hlk (show (-5 : Int32) = (k_give N K A who x t).1 ∧ A = (k_give N K A who x t).2 from by rw [k_give, if_neg c_6, if_neg c_11, if_neg c_19, if_neg c_27, if_pos c_36, if_pos c_54]; exact ⟨rfl, rfl⟩) hP hK hS d_C_give_59
          · refine lv_bipush (v := (-4 : Int32)) hx hb d_C_give_39 (by decide) ?_
            exact wRet (u := A) hx hb hr rfl hlk (show (-4 : Int32) = (k_give N K A who x t).1 ∧ A = (k_give N K A who x t).2 from by rw [k_give, if_neg c_6, if_neg c_11, if_neg c_19, if_neg c_27, if_neg c_36]; exact ⟨rfl, rfl⟩) hP hK hS d_C_give_41
      · refine lv_bipush (v := (-2 : Int32)) hx hb d_C_give_22 (by decide) ?_
        exact wRet (u := A) hx hb hr rfl hlk (show (-2 : Int32) = (k_give N K A who x t).1 ∧ A = (k_give N K A who x t).2 from by rw [k_give, if_neg c_6, if_neg c_11, if_pos c_19]; exact ⟨rfl, rfl⟩) hP hK hS d_C_give_24

def k_drop (N K : Nat) (A : Nat → Nat → Int32) (who x : Int32) : Int32 × (Nat → Nat → Int32) := (if (k_hasInHands N K A who x) = (0 : Int32) then ((-2 : Int32), A) else (if (k_holderOf N K A who) = (-1 : Int32) then ((-5 : Int32), A) else (if (k_isFull N K A (k_holderOf N K A who)) = (0 : Int32) then ((1 : Int32), sU A 1 x.toNatClampNeg (k_holderOf N K A who)) else ((-7 : Int32), A))))
set_option maxHeartbeats 4000000 in
set_option maxRecDepth 100000 in
theorem ck_drop (l : Launch) (D : va_G) (a : Nat → Nat) (cI cII : ClassId) (N K : Nat) (A : Nat → Nat → Int32) (hN : N ≤ 30) (hKK : K ≤ 10) (Z : Nat → Prop) (who x : Int32) : Met l y_C_drop (Cond.code y_C_drop b_C_drop 4 (some .int) :: BW) ({ frames := 4, cells := 0, slots := 0, locals := 85 } : Room) (PcW D Z (wC a cI cII (nI N) (nI K) A) (tC cI cII) [.ref (a 0), .int who, .int x]) (va_Qi (fun r u => r = (k_drop N K A who x).1 ∧ u = (k_drop N K A who x).2) (atW D (fun u => wC a cI cII (nI N) (nI K) u) (tC cI cII)) Z) 0 0 Z := by
  refine wStart (by decide) rfl (Nat.le_of_ble_eq_true rfl) (fun p e s m below meth c Sx hr hlk hP hK hD hS ls hl => ?_)
  obtain ⟨hx, hb, hml, hown, hts⟩ := id Sx
  have hl : lv_has ls 4 [(0, .ref (a 0)), (1, .int who), (2, .int x)] := hl
  refine lv_aload_n hx hb d_C_drop_0 rfl (lv_at hl 0 rfl) ?_
  refine lv_iload_n hx hb d_C_drop_1 rfl (lv_at hl 1 rfl) ?_
  refine lv_iload_n hx hb d_C_drop_2 rfl (lv_at hl 2 rfl) ?_
  refine xro (As := [.int who, .int x]) (rest := []) Sx (ck_hasInHands l D a cI cII N K A hN hKK who x) v_C_hasInHands ⟨rfl, rfl, Nat.le_of_ble_eq_true rfl, Nat.le_of_ble_eq_true rfl⟩ hK hP (ci := 0) (q0 := 0) rfl rfl rfl hl.1 rfl (Nat.le_of_ble_eq_true rfl) d_C_drop_3 ⟨Nat.le_of_ble_eq_true rfl, Nat.le_of_ble_eq_true rfl⟩ (fun r hq => ?_)
  subst hq
  refine lv_if_ne (tgt := 12) hx hb d_C_drop_6 (by decide) (fun c_6 => ?_) (fun c_6 => ?_)
  · refine lv_aload_n hx hb d_C_drop_12 rfl (lv_at hl 0 rfl) ?_
    refine lv_iload_n hx hb d_C_drop_13 rfl (lv_at hl 1 rfl) ?_
    refine xro (As := [.int who]) (rest := []) Sx (ck_holderOf l D a cI cII N K A hN hKK who) v_C_holderOf ⟨rfl, rfl, Nat.le_of_ble_eq_true rfl, Nat.le_of_ble_eq_true rfl⟩ hK hP (ci := 0) (q0 := 0) rfl rfl rfl hl.1 rfl (Nat.le_of_ble_eq_true rfl) d_C_drop_14 ⟨Nat.le_of_ble_eq_true rfl, Nat.le_of_ble_eq_true rfl⟩ (fun r hq => ?_)
    subst hq
    refine lv_istore_n (lv' := [(3, .int (k_holderOf N K A who)), (0, .ref (a 0)), (1, .int who), (2, .int x)]) hx hb d_C_drop_17 rfl hl (by decide) rfl (fun ls hl => ?_)
    refine lv_iload_n hx hb d_C_drop_18 rfl (lv_at hl 0 rfl) ?_
    refine lv_iconst (v := (-1 : Int32)) hx hb d_C_drop_19 (by decide) ?_
    refine lv_icmp_ne (tgt := 26) hx hb d_C_drop_20 (by decide) (fun c_20 => ?_) (fun c_20 => ?_)
    · refine lv_aload_n hx hb d_C_drop_26 rfl (lv_at hl 1 rfl) ?_
      refine lv_iload_n hx hb d_C_drop_27 rfl (lv_at hl 0 rfl) ?_
      refine xro (As := [.int (k_holderOf N K A who)]) (rest := []) Sx (ck_isFull l D a cI cII N K A hN hKK (k_holderOf N K A who)) v_C_isFull ⟨rfl, rfl, Nat.le_of_ble_eq_true rfl, Nat.le_of_ble_eq_true rfl⟩ hK hP (ci := 0) (q0 := 0) rfl rfl rfl hl.1 rfl (Nat.le_of_ble_eq_true rfl) d_C_drop_28 ⟨Nat.le_of_ble_eq_true rfl, Nat.le_of_ble_eq_true rfl⟩ (fun r hq => ?_)
      subst hq
      refine lv_if_eq (tgt := 37) hx hb d_C_drop_31 (by decide) (fun c_31 => ?_) (fun c_31 => ?_)
      · refine lv_aload_n hx hb d_C_drop_37 rfl (lv_at hl 1 rfl) ?_
        refine va_get (D := D) (ci := 0) (v := .ref (a 2)) (C := R_C) (T := F_C) (N := 9) hx hb hts i_C hown hK hP 0 rfl rfl 2 (by decide) (hts _ fl_C_17) (fun _ h9 => h9) rfl d_C_drop_38 ?_
        refine lv_iload_n hx hb d_C_drop_41 rfl (lv_at hl 3 rfl) ?_
        refine lv_iload_n hx hb d_C_drop_42 rfl (lv_at hl 0 rfl) ?_
        refine va_iast (n := 30) hx hb hK hP (wC_D hD) hS 2 0 rfl rfl (in_hasInHands hN c_6) d_C_drop_43 (fun H locs hP _ hS => ?_)
        have hP : va_P D classes (wC a cI cII (nI N) (nI K) (sU A 1 x.toNatClampNeg (k_holderOf N K A who))) H := hP
        refine lv_iconst (v := (1 : Int32)) hx hb d_C_drop_44 (by decide) ?_
        exact wRet (u := sU A 1 x.toNatClampNeg (k_holderOf N K A who)) hx hb hr rfl hlk (show (1 : Int32) = (k_drop N K A who x).1 ∧ sU A 1 x.toNatClampNeg (k_holderOf N K A who) = (k_drop N K A who x).2 from by rw [k_drop, if_neg c_6, if_neg c_20, if_pos c_31]; exact ⟨rfl, rfl⟩) hP hK hS d_C_drop_45
      · refine lv_bipush (v := (-7 : Int32)) hx hb d_C_drop_34 (by decide) ?_
        exact wRet (u := A) hx hb hr rfl hlk (show (-7 : Int32) = (k_drop N K A who x).1 ∧ A = (k_drop N K A who x).2 from by rw [k_drop, if_neg c_6, if_neg c_20, if_neg c_31]; exact ⟨rfl, rfl⟩) hP hK hS d_C_drop_36
    · refine lv_bipush (v := (-5 : Int32)) hx hb d_C_drop_23 (by decide) ?_
      exact wRet (u := A) hx hb hr rfl hlk (show (-5 : Int32) = (k_drop N K A who x).1 ∧ A = (k_drop N K A who x).2 from by rw [k_drop, if_neg c_6, if_pos c_20]; exact ⟨rfl, rfl⟩) hP hK hS d_C_drop_25
  · refine lv_bipush (v := (-2 : Int32)) hx hb d_C_drop_9 (by decide) ?_
    exact wRet (u := A) hx hb hr rfl hlk (show (-2 : Int32) = (k_drop N K A who x).1 ∧ A = (k_drop N K A who x).2 from by rw [k_drop, if_pos c_6]; exact ⟨rfl, rfl⟩) hP hK hS d_C_drop_11

def k_go (N K : Nat) (A : Nat → Nat → Int32) (who dr : Int32) : Int32 × (Nat → Nat → Int32) := (if (k_isPerson N K A who) = (0 : Int32) then ((-2 : Int32), A) else (if (k_isDoor N K A dr) = (0 : Int32) then ((-2 : Int32), A) else (if (A 1 who.toNatClampNeg) = (A 6 dr.toNatClampNeg) then (if (A (8 + (0 : Int32).toNatClampNeg) dr.toNatClampNeg) = (0 : Int32) then ((-6 : Int32), A) else (if (A 1 who.toNatClampNeg) = (A 6 dr.toNatClampNeg) then (A 7 dr.toNatClampNeg, sU A 1 who.toNatClampNeg (A 7 dr.toNatClampNeg)) else (A 6 dr.toNatClampNeg, sU A 1 who.toNatClampNeg (A 6 dr.toNatClampNeg)))) else (if (A 1 who.toNatClampNeg) = (A 7 dr.toNatClampNeg) then (if (A (8 + (0 : Int32).toNatClampNeg) dr.toNatClampNeg) = (0 : Int32) then ((-6 : Int32), A) else (if (A 1 who.toNatClampNeg) = (A 6 dr.toNatClampNeg) then (A 7 dr.toNatClampNeg, sU A 1 who.toNatClampNeg (A 7 dr.toNatClampNeg)) else (A 6 dr.toNatClampNeg, sU A 1 who.toNatClampNeg (A 6 dr.toNatClampNeg)))) else ((-5 : Int32), A)))))
set_option maxHeartbeats 4000000 in
set_option maxRecDepth 100000 in
theorem ck_go (l : Launch) (D : va_G) (a : Nat → Nat) (cI cII : ClassId) (N K : Nat) (A : Nat → Nat → Int32) (hN : N ≤ 30) (hKK : K ≤ 10) (Z : Nat → Prop) (who dr : Int32) : Met l y_C_go (Cond.code y_C_go b_C_go 5 (some .int) :: BW) ({ frames := 3, cells := 0, slots := 0, locals := 63 } : Room) (PcW D Z (wC a cI cII (nI N) (nI K) A) (tC cI cII) [.ref (a 0), .int who, .int dr]) (va_Qi (fun r u => r = (k_go N K A who dr).1 ∧ u = (k_go N K A who dr).2) (atW D (fun u => wC a cI cII (nI N) (nI K) u) (tC cI cII)) Z) 0 0 Z := by
  refine wStart (by decide) rfl (Nat.le_of_ble_eq_true rfl) (fun p e s m below meth c Sx hr hlk hP hK hD hS ls hl => ?_)
  obtain ⟨hx, hb, hml, hown, hts⟩ := id Sx
  have hl : lv_has ls 5 [(0, .ref (a 0)), (1, .int who), (2, .int dr)] := hl
  refine lv_aload_n hx hb d_C_go_0 rfl (lv_at hl 0 rfl) ?_
  refine lv_iload_n hx hb d_C_go_1 rfl (lv_at hl 1 rfl) ?_
  refine xro (As := [.int who]) (rest := []) Sx (ck_isPerson l D a cI cII N K A hN hKK who) v_C_isPerson ⟨rfl, rfl, Nat.le_of_ble_eq_true rfl, Nat.le_of_ble_eq_true rfl⟩ hK hP (ci := 0) (q0 := 0) rfl rfl rfl hl.1 rfl (Nat.le_of_ble_eq_true rfl) d_C_go_2 ⟨Nat.le_of_ble_eq_true rfl, Nat.le_of_ble_eq_true rfl⟩ (fun r hq => ?_)
  subst hq
  refine lv_if_eq (tgt := 16) hx hb d_C_go_5 (by decide) (fun c_5 => ?_) (fun c_5 => ?_)
  · refine lv_bipush (v := (-2 : Int32)) hx hb d_C_go_16 (by decide) ?_
    exact wRet (u := A) hx hb hr rfl hlk (show (-2 : Int32) = (k_go N K A who dr).1 ∧ A = (k_go N K A who dr).2 from by rw [k_go, if_pos c_5]; exact ⟨rfl, rfl⟩) hP hK hS d_C_go_18
  · refine lv_aload_n hx hb d_C_go_8 rfl (lv_at hl 0 rfl) ?_
    refine lv_iload_n hx hb d_C_go_9 rfl (lv_at hl 2 rfl) ?_
    refine xro (As := [.int dr]) (rest := []) Sx (ck_isDoor l D a cI cII N K A hN hKK dr) v_C_isDoor ⟨rfl, rfl, Nat.le_of_ble_eq_true rfl, Nat.le_of_ble_eq_true rfl⟩ hK hP (ci := 0) (q0 := 0) rfl rfl rfl hl.1 rfl (Nat.le_of_ble_eq_true rfl) d_C_go_10 ⟨Nat.le_of_ble_eq_true rfl, Nat.le_of_ble_eq_true rfl⟩ (fun r hq => ?_)
    subst hq
    refine lv_if_ne (tgt := 19) hx hb d_C_go_13 (by decide) (fun c_13 => ?_) (fun c_13 => ?_)
    · refine lv_aload_n hx hb d_C_go_19 rfl (lv_at hl 0 rfl) ?_
      refine va_get (D := D) (ci := 0) (v := .ref (a 2)) (C := R_C) (T := F_C) (N := 9) hx hb hts i_C hown hK hP 0 rfl rfl 2 (by decide) (hts _ fl_C_17) (fun _ h9 => h9) rfl d_C_go_20 ?_
      refine lv_iload_n hx hb d_C_go_23 rfl (lv_at hl 1 rfl) ?_
      refine va_iald (n := 30) hx hb hK hP 2 0 rfl rfl (in_isPerson hN c_5) d_C_go_24 ?_
      refine lv_istore_n (lv' := [(3, .int (A 1 who.toNatClampNeg)), (0, .ref (a 0)), (1, .int who), (2, .int dr)]) hx hb d_C_go_25 rfl hl (by decide) rfl (fun ls hl => ?_)
      refine lv_iload_n hx hb d_C_go_26 rfl (lv_at hl 0 rfl) ?_
      refine lv_aload_n hx hb d_C_go_27 rfl (lv_at hl 1 rfl) ?_
      refine va_get (D := D) (ci := 0) (v := .ref (a 8)) (C := R_C) (T := F_C) (N := 9) hx hb hts i_C hown hK hP 0 rfl rfl 5 (by decide) (hts _ fl_C_28) (fun _ h9 => h9) rfl d_C_go_28 ?_
      refine lv_iload_n hx hb d_C_go_31 rfl (lv_at hl 3 rfl) ?_
      refine va_iald (n := 10) hx hb hK hP 8 0 rfl rfl (in_isDoor hKK c_13) d_C_go_32 ?_
      refine lv_icmp_eq (tgt := 49) hx hb d_C_go_33 (by decide) (fun c_33 => ?_) (fun c_33 => ?_)
      · refine lv_aload_n hx hb d_C_go_49 rfl (lv_at hl 1 rfl) ?_
        refine va_get (D := D) (ci := 0) (v := .ref (a 10)) (C := R_C) (T := F_C) (N := 9) hx hb hts i_C hown hK hP 0 rfl rfl 7 (by decide) (hts _ fl_C_34) (fun _ h9 => h9) rfl d_C_go_50 ?_
        refine lv_iconst (v := (0 : Int32)) hx hb d_C_go_53 (by decide) ?_
        refine x_ald2 hx hb hK hP (by unfold vp_in; decide) d_C_go_54 ?_
        refine lv_iload_n hx hb d_C_go_55 rfl (lv_at hl 3 rfl) ?_
        refine va_iald (n := 10) hx hb hK hP (11 + (0 : Int32).toNatClampNeg) 0 (wC_row2 (vp_lt (by unfold vp_in; decide))) rfl (in_isDoor hKK c_13) d_C_go_56 ?_
        refine lv_if_ne (tgt := 63) hx hb d_C_go_57 (by decide) (fun c_57 => ?_) (fun c_57 => ?_)
        · refine lv_iload_n hx hb d_C_go_63 rfl (lv_at hl 0 rfl) ?_
          refine lv_aload_n hx hb d_C_go_64 rfl (lv_at hl 1 rfl) ?_
          refine va_get (D := D) (ci := 0) (v := .ref (a 8)) (C := R_C) (T := F_C) (N := 9) hx hb hts i_C hown hK hP 0 rfl rfl 5 (by decide) (hts _ fl_C_28) (fun _ h9 => h9) rfl d_C_go_65 ?_
          refine lv_iload_n hx hb d_C_go_68 rfl (lv_at hl 3 rfl) ?_
          refine va_iald (n := 10) hx hb hK hP 8 0 rfl rfl (in_isDoor hKK c_13) d_C_go_69 ?_
          refine lv_icmp_ne (tgt := 82) hx hb d_C_go_70 (by decide) (fun c_70 => ?_) (fun c_70 => ?_)
          · refine lv_aload_n hx hb d_C_go_82 rfl (lv_at hl 1 rfl) ?_
            refine va_get (D := D) (ci := 0) (v := .ref (a 8)) (C := R_C) (T := F_C) (N := 9) hx hb hts i_C hown hK hP 0 rfl rfl 5 (by decide) (hts _ fl_C_28) (fun _ h9 => h9) rfl d_C_go_83 ?_
            refine lv_iload_n hx hb d_C_go_86 rfl (lv_at hl 3 rfl) ?_
            refine va_iald (n := 10) hx hb hK hP 8 0 rfl rfl (in_isDoor hKK c_13) d_C_go_87 ?_
            refine lv_istore (lv' := [(4, .int (A 6 dr.toNatClampNeg)), (3, .int (A 1 who.toNatClampNeg)), (0, .ref (a 0)), (1, .int who), (2, .int dr)]) hx hb d_C_go_88 hl (by decide) rfl (fun ls hl => ?_)
            refine lv_aload_n hx hb d_C_go_90 rfl (lv_at hl 2 rfl) ?_
            refine va_get (D := D) (ci := 0) (v := .ref (a 2)) (C := R_C) (T := F_C) (N := 9) hx hb hts i_C hown hK hP 0 rfl rfl 2 (by decide) (hts _ fl_C_17) (fun _ h9 => h9) rfl d_C_go_91 ?_
            refine lv_iload_n hx hb d_C_go_94 rfl (lv_at hl 3 rfl) ?_
            refine lv_iload hx hb d_C_go_95 (lv_at hl 0 rfl) ?_
            refine va_iast (n := 30) hx hb hK hP (wC_D hD) hS 2 0 rfl rfl (in_isPerson hN c_5) d_C_go_97 (fun H locs hP _ hS => ?_)
            have hP : va_P D classes (wC a cI cII (nI N) (nI K) (sU A 1 who.toNatClampNeg (A 6 dr.toNatClampNeg))) H := hP
            refine lv_iload hx hb d_C_go_98 (lv_at hl 0 rfl) ?_
            exact wRet (u := sU A 1 who.toNatClampNeg (A 6 dr.toNatClampNeg)) hx hb hr rfl hlk (show A 6 dr.toNatClampNeg = (k_go N K A who dr).1 ∧ sU A 1 who.toNatClampNeg (A 6 dr.toNatClampNeg) = (k_go N K A who dr).2 from by rw [k_go, if_neg c_5, if_neg c_13, if_pos c_33, if_neg c_57, if_neg c_70]; exact ⟨rfl, rfl⟩) hP hK hS d_C_go_100
          · refine lv_aload_n hx hb d_C_go_73 rfl (lv_at hl 1 rfl) ?_
            refine va_get (D := D) (ci := 0) (v := .ref (a 9)) (C := R_C) (T := F_C) (N := 9) hx hb hts i_C hown hK hP 0 rfl rfl 6 (by decide) (hts _ fl_C_31) (fun _ h9 => h9) rfl d_C_go_74 ?_
            refine lv_iload_n hx hb d_C_go_77 rfl (lv_at hl 3 rfl) ?_
            refine va_iald (n := 10) hx hb hK hP 9 0 rfl rfl (in_isDoor hKK c_13) d_C_go_78 ?_
            refine lv_goto (tgt := 88) hx hb d_C_go_79 (by decide) ?_
            refine lv_istore (lv' := [(4, .int (A 7 dr.toNatClampNeg)), (3, .int (A 1 who.toNatClampNeg)), (0, .ref (a 0)), (1, .int who), (2, .int dr)]) hx hb d_C_go_88 hl (by decide) rfl (fun ls hl => ?_)
            refine lv_aload_n hx hb d_C_go_90 rfl (lv_at hl 2 rfl) ?_
            refine va_get (D := D) (ci := 0) (v := .ref (a 2)) (C := R_C) (T := F_C) (N := 9) hx hb hts i_C hown hK hP 0 rfl rfl 2 (by decide) (hts _ fl_C_17) (fun _ h9 => h9) rfl d_C_go_91 ?_
            refine lv_iload_n hx hb d_C_go_94 rfl (lv_at hl 3 rfl) ?_
            refine lv_iload hx hb d_C_go_95 (lv_at hl 0 rfl) ?_
            refine va_iast (n := 30) hx hb hK hP (wC_D hD) hS 2 0 rfl rfl (in_isPerson hN c_5) d_C_go_97 (fun H locs hP _ hS => ?_)
            have hP : va_P D classes (wC a cI cII (nI N) (nI K) (sU A 1 who.toNatClampNeg (A 7 dr.toNatClampNeg))) H := hP
            refine lv_iload hx hb d_C_go_98 (lv_at hl 0 rfl) ?_
            exact wRet (u := sU A 1 who.toNatClampNeg (A 7 dr.toNatClampNeg)) hx hb hr rfl hlk (show A 7 dr.toNatClampNeg = (k_go N K A who dr).1 ∧ sU A 1 who.toNatClampNeg (A 7 dr.toNatClampNeg) = (k_go N K A who dr).2 from by rw [k_go, if_neg c_5, if_neg c_13, if_pos c_33, if_neg c_57, if_pos c_70]; exact ⟨rfl, rfl⟩) hP hK hS d_C_go_100
        · refine lv_bipush (v := (-6 : Int32)) hx hb d_C_go_60 (by decide) ?_
          exact wRet (u := A) hx hb hr rfl hlk (show (-6 : Int32) = (k_go N K A who dr).1 ∧ A = (k_go N K A who dr).2 from by rw [k_go, if_neg c_5, if_neg c_13, if_pos c_33, if_pos c_57]; exact ⟨rfl, rfl⟩) hP hK hS d_C_go_62
      · refine lv_iload_n hx hb d_C_go_36 rfl (lv_at hl 0 rfl) ?_
        refine lv_aload_n hx hb d_C_go_37 rfl (lv_at hl 1 rfl) ?_
        refine va_get (D := D) (ci := 0) (v := .ref (a 9)) (C := R_C) (T := F_C) (N := 9) hx hb hts i_C hown hK hP 0 rfl rfl 6 (by decide) (hts _ fl_C_31) (fun _ h9 => h9) rfl d_C_go_38 ?_
        refine lv_iload_n hx hb d_C_go_41 rfl (lv_at hl 3 rfl) ?_
        refine va_iald (n := 10) hx hb hK hP 9 0 rfl rfl (in_isDoor hKK c_13) d_C_go_42 ?_
        refine lv_icmp_eq (tgt := 49) hx hb d_C_go_43 (by decide) (fun c_43 => ?_) (fun c_43 => ?_)
        · refine lv_aload_n hx hb d_C_go_49 rfl (lv_at hl 1 rfl) ?_
          refine va_get (D := D) (ci := 0) (v := .ref (a 10)) (C := R_C) (T := F_C) (N := 9) hx hb hts i_C hown hK hP 0 rfl rfl 7 (by decide) (hts _ fl_C_34) (fun _ h9 => h9) rfl d_C_go_50 ?_
          refine lv_iconst (v := (0 : Int32)) hx hb d_C_go_53 (by decide) ?_
          refine x_ald2 hx hb hK hP (by unfold vp_in; decide) d_C_go_54 ?_
          refine lv_iload_n hx hb d_C_go_55 rfl (lv_at hl 3 rfl) ?_
          refine va_iald (n := 10) hx hb hK hP (11 + (0 : Int32).toNatClampNeg) 0 (wC_row2 (vp_lt (by unfold vp_in; decide))) rfl (in_isDoor hKK c_13) d_C_go_56 ?_
          refine lv_if_ne (tgt := 63) hx hb d_C_go_57 (by decide) (fun c_57 => ?_) (fun c_57 => ?_)
          · refine lv_iload_n hx hb d_C_go_63 rfl (lv_at hl 0 rfl) ?_
            refine lv_aload_n hx hb d_C_go_64 rfl (lv_at hl 1 rfl) ?_
            refine va_get (D := D) (ci := 0) (v := .ref (a 8)) (C := R_C) (T := F_C) (N := 9) hx hb hts i_C hown hK hP 0 rfl rfl 5 (by decide) (hts _ fl_C_28) (fun _ h9 => h9) rfl d_C_go_65 ?_
            refine lv_iload_n hx hb d_C_go_68 rfl (lv_at hl 3 rfl) ?_
            refine va_iald (n := 10) hx hb hK hP 8 0 rfl rfl (in_isDoor hKK c_13) d_C_go_69 ?_
            refine lv_icmp_ne (tgt := 82) hx hb d_C_go_70 (by decide) (fun c_70 => ?_) (fun c_70 => ?_)
            · refine lv_aload_n hx hb d_C_go_82 rfl (lv_at hl 1 rfl) ?_
              refine va_get (D := D) (ci := 0) (v := .ref (a 8)) (C := R_C) (T := F_C) (N := 9) hx hb hts i_C hown hK hP 0 rfl rfl 5 (by decide) (hts _ fl_C_28) (fun _ h9 => h9) rfl d_C_go_83 ?_
              refine lv_iload_n hx hb d_C_go_86 rfl (lv_at hl 3 rfl) ?_
              refine va_iald (n := 10) hx hb hK hP 8 0 rfl rfl (in_isDoor hKK c_13) d_C_go_87 ?_
              refine lv_istore (lv' := [(4, .int (A 6 dr.toNatClampNeg)), (3, .int (A 1 who.toNatClampNeg)), (0, .ref (a 0)), (1, .int who), (2, .int dr)]) hx hb d_C_go_88 hl (by decide) rfl (fun ls hl => ?_)
              refine lv_aload_n hx hb d_C_go_90 rfl (lv_at hl 2 rfl) ?_
              refine va_get (D := D) (ci := 0) (v := .ref (a 2)) (C := R_C) (T := F_C) (N := 9) hx hb hts i_C hown hK hP 0 rfl rfl 2 (by decide) (hts _ fl_C_17) (fun _ h9 => h9) rfl d_C_go_91 ?_
              refine lv_iload_n hx hb d_C_go_94 rfl (lv_at hl 3 rfl) ?_
              refine lv_iload hx hb d_C_go_95 (lv_at hl 0 rfl) ?_
              refine va_iast (n := 30) hx hb hK hP (wC_D hD) hS 2 0 rfl rfl (in_isPerson hN c_5) d_C_go_97 (fun H locs hP _ hS => ?_)
              have hP : va_P D classes (wC a cI cII (nI N) (nI K) (sU A 1 who.toNatClampNeg (A 6 dr.toNatClampNeg))) H := hP
              refine lv_iload hx hb d_C_go_98 (lv_at hl 0 rfl) ?_
              exact wRet (u := sU A 1 who.toNatClampNeg (A 6 dr.toNatClampNeg)) hx hb hr rfl hlk (show A 6 dr.toNatClampNeg = (k_go N K A who dr).1 ∧ sU A 1 who.toNatClampNeg (A 6 dr.toNatClampNeg) = (k_go N K A who dr).2 from by rw [k_go, if_neg c_5, if_neg c_13, if_neg c_33, if_pos c_43, if_neg c_57, if_neg c_70]; exact ⟨rfl, rfl⟩) hP hK hS d_C_go_100
            · refine lv_aload_n hx hb d_C_go_73 rfl (lv_at hl 1 rfl) ?_
              refine va_get (D := D) (ci := 0) (v := .ref (a 9)) (C := R_C) (T := F_C) (N := 9) hx hb hts i_C hown hK hP 0 rfl rfl 6 (by decide) (hts _ fl_C_31) (fun _ h9 => h9) rfl d_C_go_74 ?_
              refine lv_iload_n hx hb d_C_go_77 rfl (lv_at hl 3 rfl) ?_
              refine va_iald (n := 10) hx hb hK hP 9 0 rfl rfl (in_isDoor hKK c_13) d_C_go_78 ?_
              refine lv_goto (tgt := 88) hx hb d_C_go_79 (by decide) ?_
              refine lv_istore (lv' := [(4, .int (A 7 dr.toNatClampNeg)), (3, .int (A 1 who.toNatClampNeg)), (0, .ref (a 0)), (1, .int who), (2, .int dr)]) hx hb d_C_go_88 hl (by decide) rfl (fun ls hl => ?_)
              refine lv_aload_n hx hb d_C_go_90 rfl (lv_at hl 2 rfl) ?_
              refine va_get (D := D) (ci := 0) (v := .ref (a 2)) (C := R_C) (T := F_C) (N := 9) hx hb hts i_C hown hK hP 0 rfl rfl 2 (by decide) (hts _ fl_C_17) (fun _ h9 => h9) rfl d_C_go_91 ?_
              refine lv_iload_n hx hb d_C_go_94 rfl (lv_at hl 3 rfl) ?_
              refine lv_iload hx hb d_C_go_95 (lv_at hl 0 rfl) ?_
              refine va_iast (n := 30) hx hb hK hP (wC_D hD) hS 2 0 rfl rfl (in_isPerson hN c_5) d_C_go_97 (fun H locs hP _ hS => ?_)
              have hP : va_P D classes (wC a cI cII (nI N) (nI K) (sU A 1 who.toNatClampNeg (A 7 dr.toNatClampNeg))) H := hP
              refine lv_iload hx hb d_C_go_98 (lv_at hl 0 rfl) ?_
              exact wRet (u := sU A 1 who.toNatClampNeg (A 7 dr.toNatClampNeg)) hx hb hr rfl hlk (show A 7 dr.toNatClampNeg = (k_go N K A who dr).1 ∧ sU A 1 who.toNatClampNeg (A 7 dr.toNatClampNeg) = (k_go N K A who dr).2 from by rw [k_go, if_neg c_5, if_neg c_13, if_neg c_33, if_pos c_43, if_neg c_57, if_pos c_70]; exact ⟨rfl, rfl⟩) hP hK hS d_C_go_100
          · refine lv_bipush (v := (-6 : Int32)) hx hb d_C_go_60 (by decide) ?_
            exact wRet (u := A) hx hb hr rfl hlk (show (-6 : Int32) = (k_go N K A who dr).1 ∧ A = (k_go N K A who dr).2 from by rw [k_go, if_neg c_5, if_neg c_13, if_neg c_33, if_pos c_43, if_pos c_57]; exact ⟨rfl, rfl⟩) hP hK hS d_C_go_62
        · refine lv_bipush (v := (-5 : Int32)) hx hb d_C_go_46 (by decide) ?_
          exact wRet (u := A) hx hb hr rfl hlk (show (-5 : Int32) = (k_go N K A who dr).1 ∧ A = (k_go N K A who dr).2 from by rw [k_go, if_neg c_5, if_neg c_13, if_neg c_33, if_neg c_43]; exact ⟨rfl, rfl⟩) hP hK hS d_C_go_48
    · refine lv_bipush (v := (-2 : Int32)) hx hb d_C_go_16 (by decide) ?_
      exact wRet (u := A) hx hb hr rfl hlk (show (-2 : Int32) = (k_go N K A who dr).1 ∧ A = (k_go N K A who dr).2 from by rw [k_go, if_neg c_5, if_pos c_13]; exact ⟨rfl, rfl⟩) hP hK hS d_C_go_18

def k_space (N K : Nat) (A : Nat → Nat → Int32) (x what : Int32) : Int32 × (Nat → Nat → Int32) := (if (k_isSpace N K A x) = (0 : Int32) then ((-2 : Int32), A) else (if what < (0 : Int32) then ((-3 : Int32), A) else (if what ≤ (1 : Int32) then ((k_fillFromAllThings N K A ((2 : Int32) + what)) 10 x.toNatClampNeg, k_fillFromAllThings N K A ((2 : Int32) + what)) else ((-3 : Int32), A))))
set_option maxHeartbeats 4000000 in
set_option maxRecDepth 100000 in
theorem ck_space (l : Launch) (D : va_G) (a : Nat → Nat) (cI cII : ClassId) (N K : Nat) (A : Nat → Nat → Int32) (hN : N ≤ 30) (hKK : K ≤ 10) (Z : Nat → Prop) (x what : Int32) : Met l y_C_space (Cond.code y_C_space b_C_space 3 (some .int) :: BW) ({ frames := 6, cells := 0, slots := 0, locals := 135 } : Room) (PcW D Z (wC a cI cII (nI N) (nI K) A) (tC cI cII) [.ref (a 0), .int x, .int what]) (va_Qi (fun r u => r = (k_space N K A x what).1 ∧ u = (k_space N K A x what).2) (atW D (fun u => wC a cI cII (nI N) (nI K) u) (tC cI cII)) Z) 0 0 Z := by
  refine wStart (by decide) rfl (Nat.le_of_ble_eq_true rfl) (fun p e s m below meth c Sx hr hlk hP hK hD hS ls hl => ?_)
  obtain ⟨hx, hb, hml, hown, hts⟩ := id Sx
  have hl : lv_has ls 3 [(0, .ref (a 0)), (1, .int x), (2, .int what)] := hl
  refine lv_aload_n hx hb d_C_space_0 rfl (lv_at hl 0 rfl) ?_
  refine lv_iload_n hx hb d_C_space_1 rfl (lv_at hl 1 rfl) ?_
  refine xro (As := [.int x]) (rest := []) Sx (ck_isSpace l D a cI cII N K A hN hKK x) v_C_isSpace ⟨rfl, rfl, Nat.le_of_ble_eq_true rfl, Nat.le_of_ble_eq_true rfl⟩ hK hP (ci := 0) (q0 := 0) rfl rfl rfl hl.1 rfl (Nat.le_of_ble_eq_true rfl) d_C_space_2 ⟨Nat.le_of_ble_eq_true rfl, Nat.le_of_ble_eq_true rfl⟩ (fun r hq => ?_)
  subst hq
  refine lv_if_ne (tgt := 11) hx hb d_C_space_5 (by decide) (fun c_5 => ?_) (fun c_5 => ?_)
  · refine lv_iload_n hx hb d_C_space_11 rfl (lv_at hl 2 rfl) ?_
    refine lv_if_lt (tgt := 20) hx hb d_C_space_12 (by decide) (fun c_12 => ?_) (fun c_12 => ?_)
    · refine lv_bipush (v := (-3 : Int32)) hx hb d_C_space_20 (by decide) ?_
      exact wRet (u := A) hx hb hr rfl hlk (show (-3 : Int32) = (k_space N K A x what).1 ∧ A = (k_space N K A x what).2 from by rw [k_space, if_neg c_5, if_pos c_12]; exact ⟨rfl, rfl⟩) hP hK hS d_C_space_22
    · refine lv_iload_n hx hb d_C_space_15 rfl (lv_at hl 2 rfl) ?_
      refine lv_iconst (v := (1 : Int32)) hx hb d_C_space_16 (by decide) ?_
      refine lv_icmp_le (tgt := 23) hx hb d_C_space_17 (by decide) (fun c_17 => ?_) (fun c_17 => ?_)
      · refine lv_aload_n hx hb d_C_space_23 rfl (lv_at hl 0 rfl) ?_
        refine lv_iconst (v := (2 : Int32)) hx hb d_C_space_24 (by decide) ?_
        refine lv_iload_n hx hb d_C_space_25 rfl (lv_at hl 2 rfl) ?_
        refine lv_iadd hx hb d_C_space_26 ?_
        refine xwv (As := [.int ((2 : Int32) + what)]) (rest := []) Sx (ck_fillFromAllThings l D a cI cII N K A hN hKK Z ((2 : Int32) + what)) v_C_fillFromAllThings ⟨rfl, rfl, Nat.le_of_ble_eq_true rfl, Nat.le_of_ble_eq_true rfl⟩ hK hP (ci := 0) (q0 := 0) rfl rfl (wC_D hD) hS (fun _ h => h) rfl hl.1 rfl (Nat.le_of_ble_eq_true rfl) d_C_space_27 ⟨Nat.le_of_ble_eq_true rfl, Nat.le_of_ble_eq_true rfl⟩ (fun u H locs hu hP hS => ?_)
        subst hu
        have hP : va_P D classes (wC a cI cII (nI N) (nI K) (k_fillFromAllThings N K A ((2 : Int32) + what))) H := hP
        refine lv_aload_n hx hb d_C_space_30 rfl (lv_at hl 0 rfl) ?_
        refine va_get (D := D) (ci := 0) (v := .ref (a 13)) (C := R_C) (T := F_C) (N := 9) hx hb hts i_C hown hK hP 0 rfl rfl 8 (by decide) (hts _ fl_C_37) (fun _ h9 => h9) rfl d_C_space_31 ?_
        refine lv_iload_n hx hb d_C_space_34 rfl (lv_at hl 1 rfl) ?_
        refine va_iald (n := 30) hx hb hK hP 13 0 rfl rfl (in_isSpace hN c_5) d_C_space_35 ?_
        exact wRet (u := k_fillFromAllThings N K A ((2 : Int32) + what)) hx hb hr rfl hlk (show (k_fillFromAllThings N K A ((2 : Int32) + what)) 10 x.toNatClampNeg = (k_space N K A x what).1 ∧ k_fillFromAllThings N K A ((2 : Int32) + what) = (k_space N K A x what).2 from by rw [k_space, if_neg c_5, if_neg c_12, if_pos c_17]; exact ⟨rfl, rfl⟩) hP hK hS d_C_space_36
      · refine lv_bipush (v := (-3 : Int32)) hx hb d_C_space_20 (by decide) ?_
        exact wRet (u := A) hx hb hr rfl hlk (show (-3 : Int32) = (k_space N K A x what).1 ∧ A = (k_space N K A x what).2 from by rw [k_space, if_neg c_5, if_neg c_12, if_neg c_17]; exact ⟨rfl, rfl⟩) hP hK hS d_C_space_22
  · refine lv_bipush (v := (-2 : Int32)) hx hb d_C_space_8 (by decide) ?_
    exact wRet (u := A) hx hb hr rfl hlk (show (-2 : Int32) = (k_space N K A x what).1 ∧ A = (k_space N K A x what).2 from by rw [k_space, if_pos c_5]; exact ⟨rfl, rfl⟩) hP hK hS d_C_space_10

def k_loses (N K : Nat) (A : Nat → Nat → Int32) (src t what : Int32) : Int32 × (Nat → Nat → Int32) := (if (k_isSpace N K A src) = (0 : Int32) then ((-2 : Int32), A) else (if (k_isSpace N K A t) = (0 : Int32) then ((-2 : Int32), A) else (if what < (0 : Int32) then ((-3 : Int32), A) else (if what ≤ (1 : Int32) then (k_lossAt N K (k_fillFromOneSpace N K A src ((2 : Int32) + what)) t, k_fillFromOneSpace N K A src ((2 : Int32) + what)) else ((-3 : Int32), A)))))
set_option maxHeartbeats 4000000 in
set_option maxRecDepth 100000 in
theorem ck_loses (l : Launch) (D : va_G) (a : Nat → Nat) (cI cII : ClassId) (N K : Nat) (A : Nat → Nat → Int32) (hN : N ≤ 30) (hKK : K ≤ 10) (Z : Nat → Prop) (src t what : Int32) : Met l y_C_loses (Cond.code y_C_loses b_C_loses 4 (some .int) :: BW) ({ frames := 6, cells := 0, slots := 0, locals := 134 } : Room) (PcW D Z (wC a cI cII (nI N) (nI K) A) (tC cI cII) [.ref (a 0), .int src, .int t, .int what]) (va_Qi (fun r u => r = (k_loses N K A src t what).1 ∧ u = (k_loses N K A src t what).2) (atW D (fun u => wC a cI cII (nI N) (nI K) u) (tC cI cII)) Z) 0 0 Z := by
  refine wStart (by decide) rfl (Nat.le_of_ble_eq_true rfl) (fun p e s m below meth c Sx hr hlk hP hK hD hS ls hl => ?_)
  obtain ⟨hx, hb, hml, hown, hts⟩ := id Sx
  have hl : lv_has ls 4 [(0, .ref (a 0)), (1, .int src), (2, .int t), (3, .int what)] := hl
  refine lv_aload_n hx hb d_C_loses_0 rfl (lv_at hl 0 rfl) ?_
  refine lv_iload_n hx hb d_C_loses_1 rfl (lv_at hl 1 rfl) ?_
  refine xro (As := [.int src]) (rest := []) Sx (ck_isSpace l D a cI cII N K A hN hKK src) v_C_isSpace ⟨rfl, rfl, Nat.le_of_ble_eq_true rfl, Nat.le_of_ble_eq_true rfl⟩ hK hP (ci := 0) (q0 := 0) rfl rfl rfl hl.1 rfl (Nat.le_of_ble_eq_true rfl) d_C_loses_2 ⟨Nat.le_of_ble_eq_true rfl, Nat.le_of_ble_eq_true rfl⟩ (fun r hq => ?_)
  subst hq
  refine lv_if_eq (tgt := 16) hx hb d_C_loses_5 (by decide) (fun c_5 => ?_) (fun c_5 => ?_)
  · refine lv_bipush (v := (-2 : Int32)) hx hb d_C_loses_16 (by decide) ?_
    exact wRet (u := A) hx hb hr rfl hlk (show (-2 : Int32) = (k_loses N K A src t what).1 ∧ A = (k_loses N K A src t what).2 from by rw [k_loses, if_pos c_5]; exact ⟨rfl, rfl⟩) hP hK hS d_C_loses_18
  · refine lv_aload_n hx hb d_C_loses_8 rfl (lv_at hl 0 rfl) ?_
    refine lv_iload_n hx hb d_C_loses_9 rfl (lv_at hl 2 rfl) ?_
    refine xro (As := [.int t]) (rest := []) Sx (ck_isSpace l D a cI cII N K A hN hKK t) v_C_isSpace ⟨rfl, rfl, Nat.le_of_ble_eq_true rfl, Nat.le_of_ble_eq_true rfl⟩ hK hP (ci := 0) (q0 := 0) rfl rfl rfl hl.1 rfl (Nat.le_of_ble_eq_true rfl) d_C_loses_10 ⟨Nat.le_of_ble_eq_true rfl, Nat.le_of_ble_eq_true rfl⟩ (fun r hq => ?_)
    subst hq
    refine lv_if_ne (tgt := 19) hx hb d_C_loses_13 (by decide) (fun c_13 => ?_) (fun c_13 => ?_)
    · refine lv_iload_n hx hb d_C_loses_19 rfl (lv_at hl 3 rfl) ?_
      refine lv_if_lt (tgt := 28) hx hb d_C_loses_20 (by decide) (fun c_20 => ?_) (fun c_20 => ?_)
      · refine lv_bipush (v := (-3 : Int32)) hx hb d_C_loses_28 (by decide) ?_
        exact wRet (u := A) hx hb hr rfl hlk (show (-3 : Int32) = (k_loses N K A src t what).1 ∧ A = (k_loses N K A src t what).2 from by rw [k_loses, if_neg c_5, if_neg c_13, if_pos c_20]; exact ⟨rfl, rfl⟩) hP hK hS d_C_loses_30
      · refine lv_iload_n hx hb d_C_loses_23 rfl (lv_at hl 3 rfl) ?_
        refine lv_iconst (v := (1 : Int32)) hx hb d_C_loses_24 (by decide) ?_
        refine lv_icmp_le (tgt := 31) hx hb d_C_loses_25 (by decide) (fun c_25 => ?_) (fun c_25 => ?_)
        · refine lv_aload_n hx hb d_C_loses_31 rfl (lv_at hl 0 rfl) ?_
          refine lv_iload_n hx hb d_C_loses_32 rfl (lv_at hl 1 rfl) ?_
          refine lv_iconst (v := (2 : Int32)) hx hb d_C_loses_33 (by decide) ?_
          refine lv_iload_n hx hb d_C_loses_34 rfl (lv_at hl 3 rfl) ?_
          refine lv_iadd hx hb d_C_loses_35 ?_
          refine xwv (As := [.int src, .int ((2 : Int32) + what)]) (rest := []) Sx (ck_fillFromOneSpace l D a cI cII N K A hN hKK Z src ((2 : Int32) + what)) v_C_fillFromOneSpace ⟨rfl, rfl, Nat.le_of_ble_eq_true rfl, Nat.le_of_ble_eq_true rfl⟩ hK hP (ci := 0) (q0 := 0) rfl rfl (wC_D hD) hS (fun _ h => h) rfl hl.1 rfl (Nat.le_of_ble_eq_true rfl) d_C_loses_36 ⟨Nat.le_of_ble_eq_true rfl, Nat.le_of_ble_eq_true rfl⟩ (fun u H locs hu hP hS => ?_)
          subst hu
          have hP : va_P D classes (wC a cI cII (nI N) (nI K) (k_fillFromOneSpace N K A src ((2 : Int32) + what))) H := hP
          refine lv_aload_n hx hb d_C_loses_39 rfl (lv_at hl 0 rfl) ?_
          refine lv_iload_n hx hb d_C_loses_40 rfl (lv_at hl 2 rfl) ?_
          refine xro (As := [.int t]) (rest := []) Sx (ck_lossAt l D a cI cII N K (k_fillFromOneSpace N K A src ((2 : Int32) + what)) hN hKK t) v_C_lossAt ⟨rfl, rfl, Nat.le_of_ble_eq_true rfl, Nat.le_of_ble_eq_true rfl⟩ hK hP (ci := 0) (q0 := 0) rfl rfl rfl hl.1 rfl (Nat.le_of_ble_eq_true rfl) d_C_loses_41 ⟨Nat.le_of_ble_eq_true rfl, Nat.le_of_ble_eq_true rfl⟩ (fun r hq => ?_)
          subst hq
          exact wRet (u := k_fillFromOneSpace N K A src ((2 : Int32) + what)) hx hb hr rfl hlk (show k_lossAt N K (k_fillFromOneSpace N K A src ((2 : Int32) + what)) t = (k_loses N K A src t what).1 ∧ k_fillFromOneSpace N K A src ((2 : Int32) + what) = (k_loses N K A src t what).2 from by rw [k_loses, if_neg c_5, if_neg c_13, if_neg c_20, if_pos c_25]; exact ⟨rfl, rfl⟩) hP hK hS d_C_loses_44
        · refine lv_bipush (v := (-3 : Int32)) hx hb d_C_loses_28 (by decide) ?_
          exact wRet (u := A) hx hb hr rfl hlk (show (-3 : Int32) = (k_loses N K A src t what).1 ∧ A = (k_loses N K A src t what).2 from by rw [k_loses, if_neg c_5, if_neg c_13, if_neg c_20, if_neg c_25]; exact ⟨rfl, rfl⟩) hP hK hS d_C_loses_30
    · refine lv_bipush (v := (-2 : Int32)) hx hb d_C_loses_16 (by decide) ?_
      exact wRet (u := A) hx hb hr rfl hlk (show (-2 : Int32) = (k_loses N K A src t what).1 ∧ A = (k_loses N K A src t what).2 from by rw [k_loses, if_neg c_5, if_pos c_13]; exact ⟨rfl, rfl⟩) hP hK hS d_C_loses_18

def k_sees (N K : Nat) (A : Nat → Nat → Int32) (who x : Int32) : Int32 × (Nat → Nat → Int32) := (if (k_isPerson N K A who) = (0 : Int32) then ((-2 : Int32), A) else (if (k_isThing N K A x) = (0 : Int32) then ((-2 : Int32), A) else (if who = x then ((0 : Int32), A) else (if (k_isSeen N K (k_fillFromAllThings N K A (2 : Int32)) x (k_viewOf N K (k_fillFromAllThings N K A (2 : Int32)) who)) = (0 : Int32) then ((0 : Int32), k_fillFromAllThings N K A (2 : Int32)) else ((1 : Int32), k_fillFromAllThings N K A (2 : Int32))))))
set_option maxHeartbeats 4000000 in
set_option maxRecDepth 100000 in
theorem ck_sees (l : Launch) (D : va_G) (a : Nat → Nat) (cI cII : ClassId) (N K : Nat) (A : Nat → Nat → Int32) (hN : N ≤ 30) (hKK : K ≤ 10) (Z : Nat → Prop) (who x : Int32) : Met l y_C_sees (Cond.code y_C_sees b_C_sees 3 (some .int) :: BW) ({ frames := 6, cells := 0, slots := 0, locals := 136 } : Room) (PcW D Z (wC a cI cII (nI N) (nI K) A) (tC cI cII) [.ref (a 0), .int who, .int x]) (va_Qi (fun r u => r = (k_sees N K A who x).1 ∧ u = (k_sees N K A who x).2) (atW D (fun u => wC a cI cII (nI N) (nI K) u) (tC cI cII)) Z) 0 0 Z := by
  refine wStart (by decide) rfl (Nat.le_of_ble_eq_true rfl) (fun p e s m below meth c Sx hr hlk hP hK hD hS ls hl => ?_)
  obtain ⟨hx, hb, hml, hown, hts⟩ := id Sx
  have hl : lv_has ls 3 [(0, .ref (a 0)), (1, .int who), (2, .int x)] := hl
  refine lv_aload_n hx hb d_C_sees_0 rfl (lv_at hl 0 rfl) ?_
  refine lv_iload_n hx hb d_C_sees_1 rfl (lv_at hl 1 rfl) ?_
  refine xro (As := [.int who]) (rest := []) Sx (ck_isPerson l D a cI cII N K A hN hKK who) v_C_isPerson ⟨rfl, rfl, Nat.le_of_ble_eq_true rfl, Nat.le_of_ble_eq_true rfl⟩ hK hP (ci := 0) (q0 := 0) rfl rfl rfl hl.1 rfl (Nat.le_of_ble_eq_true rfl) d_C_sees_2 ⟨Nat.le_of_ble_eq_true rfl, Nat.le_of_ble_eq_true rfl⟩ (fun r hq => ?_)
  subst hq
  refine lv_if_eq (tgt := 16) hx hb d_C_sees_5 (by decide) (fun c_5 => ?_) (fun c_5 => ?_)
  · refine lv_bipush (v := (-2 : Int32)) hx hb d_C_sees_16 (by decide) ?_
    exact wRet (u := A) hx hb hr rfl hlk (show (-2 : Int32) = (k_sees N K A who x).1 ∧ A = (k_sees N K A who x).2 from by rw [k_sees, if_pos c_5]; exact ⟨rfl, rfl⟩) hP hK hS d_C_sees_18
  · refine lv_aload_n hx hb d_C_sees_8 rfl (lv_at hl 0 rfl) ?_
    refine lv_iload_n hx hb d_C_sees_9 rfl (lv_at hl 2 rfl) ?_
    refine xro (As := [.int x]) (rest := []) Sx (ck_isThing l D a cI cII N K A hN hKK x) v_C_isThing ⟨rfl, rfl, Nat.le_of_ble_eq_true rfl, Nat.le_of_ble_eq_true rfl⟩ hK hP (ci := 0) (q0 := 0) rfl rfl rfl hl.1 rfl (Nat.le_of_ble_eq_true rfl) d_C_sees_10 ⟨Nat.le_of_ble_eq_true rfl, Nat.le_of_ble_eq_true rfl⟩ (fun r hq => ?_)
    subst hq
    refine lv_if_ne (tgt := 19) hx hb d_C_sees_13 (by decide) (fun c_13 => ?_) (fun c_13 => ?_)
    · refine lv_iload_n hx hb d_C_sees_19 rfl (lv_at hl 1 rfl) ?_
      refine lv_iload_n hx hb d_C_sees_20 rfl (lv_at hl 2 rfl) ?_
      refine lv_icmp_ne (tgt := 26) hx hb d_C_sees_21 (by decide) (fun c_21 => ?_) (fun c_21 => ?_)
      · refine lv_aload_n hx hb d_C_sees_26 rfl (lv_at hl 0 rfl) ?_
        refine lv_iconst (v := (2 : Int32)) hx hb d_C_sees_27 (by decide) ?_
        refine xwv (As := [.int (2 : Int32)]) (rest := []) Sx (ck_fillFromAllThings l D a cI cII N K A hN hKK Z (2 : Int32)) v_C_fillFromAllThings ⟨rfl, rfl, Nat.le_of_ble_eq_true rfl, Nat.le_of_ble_eq_true rfl⟩ hK hP (ci := 0) (q0 := 0) rfl rfl (wC_D hD) hS (fun _ h => h) rfl hl.1 rfl (Nat.le_of_ble_eq_true rfl) d_C_sees_28 ⟨Nat.le_of_ble_eq_true rfl, Nat.le_of_ble_eq_true rfl⟩ (fun u H locs hu hP hS => ?_)
        subst hu
        have hP : va_P D classes (wC a cI cII (nI N) (nI K) (k_fillFromAllThings N K A (2 : Int32))) H := hP
        refine lv_aload_n hx hb d_C_sees_31 rfl (lv_at hl 0 rfl) ?_
        refine lv_iload_n hx hb d_C_sees_32 rfl (lv_at hl 2 rfl) ?_
        refine lv_aload_n hx hb d_C_sees_33 rfl (lv_at hl 0 rfl) ?_
        refine lv_iload_n hx hb d_C_sees_34 rfl (lv_at hl 1 rfl) ?_
        refine xro (As := [.int who]) (rest := [.int x, .ref (a 0)]) Sx (ck_viewOf l D a cI cII N K (k_fillFromAllThings N K A (2 : Int32)) hN hKK who) v_C_viewOf ⟨rfl, rfl, Nat.le_of_ble_eq_true rfl, Nat.le_of_ble_eq_true rfl⟩ hK hP (ci := 0) (q0 := 0) rfl rfl rfl hl.1 rfl (Nat.le_of_ble_eq_true rfl) d_C_sees_35 ⟨Nat.le_of_ble_eq_true rfl, Nat.le_of_ble_eq_true rfl⟩ (fun r hq => ?_)
        subst hq
        refine xro (As := [.int x, .int (k_viewOf N K (k_fillFromAllThings N K A (2 : Int32)) who)]) (rest := []) Sx (ck_isSeen l D a cI cII N K (k_fillFromAllThings N K A (2 : Int32)) hN hKK x (k_viewOf N K (k_fillFromAllThings N K A (2 : Int32)) who)) v_C_isSeen ⟨rfl, rfl, Nat.le_of_ble_eq_true rfl, Nat.le_of_ble_eq_true rfl⟩ hK hP (ci := 0) (q0 := 0) rfl rfl rfl hl.1 rfl (Nat.le_of_ble_eq_true rfl) d_C_sees_38 ⟨Nat.le_of_ble_eq_true rfl, Nat.le_of_ble_eq_true rfl⟩ (fun r hq => ?_)
        subst hq
        refine lv_if_eq (tgt := 48) hx hb d_C_sees_41 (by decide) (fun c_41 => ?_) (fun c_41 => ?_)
        · refine lv_iconst (v := (0 : Int32)) hx hb d_C_sees_48 (by decide) ?_
          exact wRet (u := k_fillFromAllThings N K A (2 : Int32)) hx hb hr rfl hlk (show (0 : Int32) = (k_sees N K A who x).1 ∧ k_fillFromAllThings N K A (2 : Int32) = (k_sees N K A who x).2 from by rw [k_sees, if_neg c_5, if_neg c_13, if_neg c_21, if_pos c_41]; exact ⟨rfl, rfl⟩) hP hK hS d_C_sees_49
        · refine lv_iconst (v := (1 : Int32)) hx hb d_C_sees_44 (by decide) ?_
          refine lv_goto (tgt := 49) hx hb d_C_sees_45 (by decide) ?_
          exact wRet (u := k_fillFromAllThings N K A (2 : Int32)) hx hb hr rfl hlk (show (1 : Int32) = (k_sees N K A who x).1 ∧ k_fillFromAllThings N K A (2 : Int32) = (k_sees N K A who x).2 from by rw [k_sees, if_neg c_5, if_neg c_13, if_neg c_21, if_neg c_41]; exact ⟨rfl, rfl⟩) hP hK hS d_C_sees_49
      · refine lv_iconst (v := (0 : Int32)) hx hb d_C_sees_24 (by decide) ?_
        exact wRet (u := A) hx hb hr rfl hlk (show (0 : Int32) = (k_sees N K A who x).1 ∧ A = (k_sees N K A who x).2 from by rw [k_sees, if_neg c_5, if_neg c_13, if_pos c_21]; exact ⟨rfl, rfl⟩) hP hK hS d_C_sees_25
    · refine lv_bipush (v := (-2 : Int32)) hx hb d_C_sees_16 (by decide) ?_
      exact wRet (u := A) hx hb hr rfl hlk (show (-2 : Int32) = (k_sees N K A who x).1 ∧ A = (k_sees N K A who x).2 from by rw [k_sees, if_neg c_5, if_pos c_13]; exact ⟨rfl, rfl⟩) hP hK hS d_C_sees_18

def k_scope_28 (N K : Nat) (who ix u3 : Int32) : Nat → Nat → (Nat → Nat → Int32) → Int32 → Int32 × (Nat → Nat → Int32)
  | 0, i, A1, v4 => ((-1 : Int32), A1)
  | k + 1, i, A1, v4 => (if (nI i) = who then k_scope_28 N K who ix u3 k (i + 1) A1 v4 else (if (k_isSeen N K A1 (nI i) u3) = (0 : Int32) then (if (k_firstBarrier N K A1 who (nI i)) = (-1 : Int32) then (if v4 = ix then (nI i, A1) else k_scope_28 N K who ix u3 k (i + 1) A1 (v4 + 1)) else k_scope_28 N K who ix u3 k (i + 1) A1 v4) else (if v4 = ix then (nI i, A1) else k_scope_28 N K who ix u3 k (i + 1) A1 (v4 + 1))))
theorem k_scope_28_0 (N K : Nat) (who ix u3 : Int32) (i : Nat) (A1 : (Nat → Nat → Int32)) (v4 : Int32) : k_scope_28 N K who ix u3 0 i A1 v4 = ((-1 : Int32), A1) := rfl
theorem k_scope_28_S (N K : Nat) (who ix u3 : Int32) (k i : Nat) (A1 : (Nat → Nat → Int32)) (v4 : Int32) : k_scope_28 N K who ix u3 (k + 1) i A1 v4 = (if (nI i) = who then k_scope_28 N K who ix u3 k (i + 1) A1 v4 else (if (k_isSeen N K A1 (nI i) u3) = (0 : Int32) then (if (k_firstBarrier N K A1 who (nI i)) = (-1 : Int32) then (if v4 = ix then (nI i, A1) else k_scope_28 N K who ix u3 k (i + 1) A1 (v4 + 1)) else k_scope_28 N K who ix u3 k (i + 1) A1 v4) else (if v4 = ix then (nI i, A1) else k_scope_28 N K who ix u3 k (i + 1) A1 (v4 + 1)))) := rfl
set_option maxHeartbeats 4000000 in
set_option maxRecDepth 100000 in
theorem wk_scope_28 (l : Launch) (D : va_G) (a : Nat → Nat) (cI cII : ClassId) (N K : Nat) (A : Nat → Nat → Int32) (hN : N ≤ 30) (hKK : K ≤ 10) (Z : Nat → Prop) (who ix u3 : Int32) {p : Program} {e : Env} {s : State} {m : MethodId} {below : List Frame} {meth : Method} {c : Code} (Sx : CallFix p m c b_C_scope 6 s ([.ref (a 0), .int who, .int ix] : List Value).toArray BW R_C) (hr : meth.sig.returnType = (some .int)) (hlk : meth.locks = false) (hD : va_D Z (wC a cI cII (nI N) (nI K) A)) (hK : va_K D classes (tC cI cII) s) : ∀ (k i : Nat), i + k = N → ∀ (A1 : (Nat → Nat → Int32)) (v4 : Int32) (H : Heap) (locs : List Loc) (ls : Array Slot), va_P D classes (wC a cI cII (nI N) (nI K) A1) H → va_S Z s.heap H locs → lv_has ls 6 [(0, .ref (a 0)), (1, .int who), (2, .int ix), (3, .int u3), (4, .int v4), (5, .int (nI i))] → W p l e ({ frames := 6, cells := 0, slots := 0, locals := 136 } : Room) s m ([.ref (a 0), .int who, .int ix] : List Value).toArray below meth c H locs 0 0 (MQ below (va_Qi (fun r u => r = (k_scope_28 N K who ix u3 k i A1 v4).1 ∧ u = (k_scope_28 N K who ix u3 k i A1 v4).2) (atW D (fun u => wC a cI cII (nI N) (nI K) u) (tC cI cII)) Z) ([.ref (a 0), .int who, .int ix] : List Value).toArray s 0 0 Z) (F0 m 28 ls []) := by
  obtain ⟨hx, hb, hml, hown, hts⟩ := id Sx
  intro k
  induction k with
  | zero =>
    intro i hi A1 v4 H locs ls hP hS hl
    refine lv_iload hx hb d_C_scope_28 (lv_at hl 5 rfl) ?_
    refine lv_aload_n hx hb d_C_scope_30 rfl (lv_at hl 0 rfl) ?_
    refine va_get (D := D) (ci := 0) (v := .int (nI N)) (C := R_C) (T := F_C) (N := 9) hx hb hts i_C hown hK hP 0 rfl rfl 0 (by decide) (hts _ fl_C_7) (fun _ h9 => h9) rfl d_C_scope_31 ?_
    refine lv_icmp_ge (tgt := 82) hx hb d_C_scope_34 (by decide) (fun c_34 => ?_) (fun c_34 => absurd (nI_le (a := N) (b := i) (by omega) (by omega)) c_34)
    refine lv_iconst (v := (-1 : Int32)) hx hb d_C_scope_82 (by decide) ?_
    exact wRet (u := A1) hx hb hr rfl hlk (show (-1 : Int32) = (k_scope_28 N K who ix u3 0 i A1 v4).1 ∧ A1 = (k_scope_28 N K who ix u3 0 i A1 v4).2 from by rw [k_scope_28_0]; exact ⟨rfl, rfl⟩) hP hK hS d_C_scope_83
  | succ k ih =>
    intro i hi A1 v4 H locs ls hP hS hl
    refine lv_iload hx hb d_C_scope_28 (lv_at hl 5 rfl) ?_
    refine lv_aload_n hx hb d_C_scope_30 rfl (lv_at hl 0 rfl) ?_
    refine va_get (D := D) (ci := 0) (v := .int (nI N)) (C := R_C) (T := F_C) (N := 9) hx hb hts i_C hown hK hP 0 rfl rfl 0 (by decide) (hts _ fl_C_7) (fun _ h9 => h9) rfl d_C_scope_31 ?_
    refine lv_icmp_ge (tgt := 82) hx hb d_C_scope_34 (by decide) (fun c_34 => absurd c_34 (nI_ge (a := i) (b := N) (by omega) (by omega))) (fun c_34 => ?_)
    refine lv_iload hx hb d_C_scope_37 (lv_at hl 5 rfl) ?_
    refine lv_iload_n hx hb d_C_scope_39 rfl (lv_at hl 1 rfl) ?_
    refine lv_icmp_eq (tgt := 76) hx hb d_C_scope_40 (by decide) (fun c_40 => ?_) (fun c_40 => ?_)
    · refine lv_iinc (v := nI (i + 1)) (lv' := [(5, .int (nI (i + 1))), (0, .ref (a 0)), (1, .int who), (2, .int ix), (3, .int u3), (4, .int v4)]) hx hb d_C_scope_76 hl (k := 5) rfl (nI_1 i) (by decide) rfl (fun ls hl => ?_)
      refine lv_goto (tgt := 28) hx hb d_C_scope_79 (by decide) ?_
      have e_b : k_scope_28 N K who ix u3 (k + 1) i A1 v4 = k_scope_28 N K who ix u3 k (i + 1) A1 v4 := by rw [k_scope_28_S, if_pos c_40]
      rw [e_b]
      exact ih (i + 1) (by omega) A1 v4 _ _ ls hP hS (lv_sub hl [1, 2, 3, 4, 5, 0] rfl)
    · refine lv_aload_n hx hb d_C_scope_43 rfl (lv_at hl 0 rfl) ?_
      refine lv_iload hx hb d_C_scope_44 (lv_at hl 5 rfl) ?_
      refine lv_iload_n hx hb d_C_scope_46 rfl (lv_at hl 3 rfl) ?_
      refine xro (As := [.int (nI i), .int u3]) (rest := []) Sx (ck_isSeen l D a cI cII N K A1 hN hKK (nI i) u3) v_C_isSeen ⟨rfl, rfl, Nat.le_of_ble_eq_true rfl, Nat.le_of_ble_eq_true rfl⟩ hK hP (ci := 0) (q0 := 0) rfl rfl rfl hl.1 rfl (Nat.le_of_ble_eq_true rfl) d_C_scope_47 ⟨Nat.le_of_ble_eq_true rfl, Nat.le_of_ble_eq_true rfl⟩ (fun r hq => ?_)
      subst hq
      refine lv_if_ne (tgt := 64) hx hb d_C_scope_50 (by decide) (fun c_50 => ?_) (fun c_50 => ?_)
      · refine lv_iload hx hb d_C_scope_64 (lv_at hl 4 rfl) ?_
        refine lv_iload_n hx hb d_C_scope_66 rfl (lv_at hl 2 rfl) ?_
        refine lv_icmp_ne (tgt := 73) hx hb d_C_scope_67 (by decide) (fun c_67 => ?_) (fun c_67 => ?_)
        · refine lv_iinc (v := v4 + 1) (lv' := [(4, .int (v4 + 1)), (0, .ref (a 0)), (1, .int who), (2, .int ix), (3, .int u3), (5, .int (nI i))]) hx hb d_C_scope_73 hl (k := 4) rfl (rfl) (by decide) rfl (fun ls hl => ?_)
          refine lv_iinc (v := nI (i + 1)) (lv' := [(5, .int (nI (i + 1))), (4, .int (v4 + 1)), (0, .ref (a 0)), (1, .int who), (2, .int ix), (3, .int u3)]) hx hb d_C_scope_76 hl (k := 5) rfl (nI_1 i) (by decide) rfl (fun ls hl => ?_)
          refine lv_goto (tgt := 28) hx hb d_C_scope_79 (by decide) ?_
          have e_b : k_scope_28 N K who ix u3 (k + 1) i A1 v4 = k_scope_28 N K who ix u3 k (i + 1) A1 (v4 + 1) := by rw [k_scope_28_S, if_neg c_40, if_neg c_50, if_neg c_67]
          rw [e_b]
          exact ih (i + 1) (by omega) A1 (v4 + 1) _ _ ls hP hS (lv_sub hl [2, 3, 4, 5, 1, 0] rfl)
        · refine lv_iload hx hb d_C_scope_70 (lv_at hl 5 rfl) ?_
          exact wRet (u := A1) hx hb hr rfl hlk (show nI i = (k_scope_28 N K who ix u3 (k + 1) i A1 v4).1 ∧ A1 = (k_scope_28 N K who ix u3 (k + 1) i A1 v4).2 from by rw [k_scope_28_S, if_neg c_40, if_neg c_50, if_pos c_67]; exact ⟨rfl, rfl⟩) hP hK hS d_C_scope_72
      · refine lv_aload_n hx hb d_C_scope_53 rfl (lv_at hl 0 rfl) ?_
        refine lv_iload_n hx hb d_C_scope_54 rfl (lv_at hl 1 rfl) ?_
        refine lv_iload hx hb d_C_scope_55 (lv_at hl 5 rfl) ?_
        refine xro (As := [.int who, .int (nI i)]) (rest := []) Sx (ck_firstBarrier l D a cI cII N K A1 hN hKK who (nI i)) v_C_firstBarrier ⟨rfl, rfl, Nat.le_of_ble_eq_true rfl, Nat.le_of_ble_eq_true rfl⟩ hK hP (ci := 0) (q0 := 0) rfl rfl rfl hl.1 rfl (Nat.le_of_ble_eq_true rfl) d_C_scope_57 ⟨Nat.le_of_ble_eq_true rfl, Nat.le_of_ble_eq_true rfl⟩ (fun r hq => ?_)
        subst hq
        refine lv_iconst (v := (-1 : Int32)) hx hb d_C_scope_60 (by decide) ?_
        refine lv_icmp_ne (tgt := 76) hx hb d_C_scope_61 (by decide) (fun c_61 => ?_) (fun c_61 => ?_)
        · refine lv_iinc (v := nI (i + 1)) (lv' := [(5, .int (nI (i + 1))), (0, .ref (a 0)), (1, .int who), (2, .int ix), (3, .int u3), (4, .int v4)]) hx hb d_C_scope_76 hl (k := 5) rfl (nI_1 i) (by decide) rfl (fun ls hl => ?_)
          refine lv_goto (tgt := 28) hx hb d_C_scope_79 (by decide) ?_
          have e_b : k_scope_28 N K who ix u3 (k + 1) i A1 v4 = k_scope_28 N K who ix u3 k (i + 1) A1 v4 := by rw [k_scope_28_S, if_neg c_40, if_pos c_50, if_neg c_61]
          rw [e_b]
          exact ih (i + 1) (by omega) A1 v4 _ _ ls hP hS (lv_sub hl [1, 2, 3, 4, 5, 0] rfl)
        · refine lv_iload hx hb d_C_scope_64 (lv_at hl 4 rfl) ?_
          refine lv_iload_n hx hb d_C_scope_66 rfl (lv_at hl 2 rfl) ?_
          refine lv_icmp_ne (tgt := 73) hx hb d_C_scope_67 (by decide) (fun c_67 => ?_) (fun c_67 => ?_)
          · refine lv_iinc (v := v4 + 1) (lv' := [(4, .int (v4 + 1)), (0, .ref (a 0)), (1, .int who), (2, .int ix), (3, .int u3), (5, .int (nI i))]) hx hb d_C_scope_73 hl (k := 4) rfl (rfl) (by decide) rfl (fun ls hl => ?_)
            refine lv_iinc (v := nI (i + 1)) (lv' := [(5, .int (nI (i + 1))), (4, .int (v4 + 1)), (0, .ref (a 0)), (1, .int who), (2, .int ix), (3, .int u3)]) hx hb d_C_scope_76 hl (k := 5) rfl (nI_1 i) (by decide) rfl (fun ls hl => ?_)
            refine lv_goto (tgt := 28) hx hb d_C_scope_79 (by decide) ?_
            have e_b : k_scope_28 N K who ix u3 (k + 1) i A1 v4 = k_scope_28 N K who ix u3 k (i + 1) A1 (v4 + 1) := by rw [k_scope_28_S, if_neg c_40, if_pos c_50, if_pos c_61, if_neg c_67]
            rw [e_b]
            exact ih (i + 1) (by omega) A1 (v4 + 1) _ _ ls hP hS (lv_sub hl [2, 3, 4, 5, 1, 0] rfl)
          · refine lv_iload hx hb d_C_scope_70 (lv_at hl 5 rfl) ?_
            exact wRet (u := A1) hx hb hr rfl hlk (show nI i = (k_scope_28 N K who ix u3 (k + 1) i A1 v4).1 ∧ A1 = (k_scope_28 N K who ix u3 (k + 1) i A1 v4).2 from by rw [k_scope_28_S, if_neg c_40, if_pos c_50, if_pos c_61, if_pos c_67]; exact ⟨rfl, rfl⟩) hP hK hS d_C_scope_72
def k_scope (N K : Nat) (A : Nat → Nat → Int32) (who ix : Int32) : Int32 × (Nat → Nat → Int32) := (if (k_isPerson N K A who) = (0 : Int32) then ((-2 : Int32), A) else k_scope_28 N K who ix (k_viewOf N K (k_fillFromAllThings N K A (2 : Int32)) who) N 0 (k_fillFromAllThings N K A (2 : Int32)) (0 : Int32))
set_option maxHeartbeats 4000000 in
set_option maxRecDepth 100000 in
theorem ck_scope (l : Launch) (D : va_G) (a : Nat → Nat) (cI cII : ClassId) (N K : Nat) (A : Nat → Nat → Int32) (hN : N ≤ 30) (hKK : K ≤ 10) (Z : Nat → Prop) (who ix : Int32) : Met l y_C_scope (Cond.code y_C_scope b_C_scope 6 (some .int) :: BW) ({ frames := 6, cells := 0, slots := 0, locals := 136 } : Room) (PcW D Z (wC a cI cII (nI N) (nI K) A) (tC cI cII) [.ref (a 0), .int who, .int ix]) (va_Qi (fun r u => r = (k_scope N K A who ix).1 ∧ u = (k_scope N K A who ix).2) (atW D (fun u => wC a cI cII (nI N) (nI K) u) (tC cI cII)) Z) 0 0 Z := by
  refine wStart (by decide) rfl (Nat.le_of_ble_eq_true rfl) (fun p e s m below meth c Sx hr hlk hP hK hD hS ls hl => ?_)
  obtain ⟨hx, hb, hml, hown, hts⟩ := id Sx
  have hl : lv_has ls 6 [(0, .ref (a 0)), (1, .int who), (2, .int ix)] := hl
  refine lv_aload_n hx hb d_C_scope_0 rfl (lv_at hl 0 rfl) ?_
  refine lv_iload_n hx hb d_C_scope_1 rfl (lv_at hl 1 rfl) ?_
  refine xro (As := [.int who]) (rest := []) Sx (ck_isPerson l D a cI cII N K A hN hKK who) v_C_isPerson ⟨rfl, rfl, Nat.le_of_ble_eq_true rfl, Nat.le_of_ble_eq_true rfl⟩ hK hP (ci := 0) (q0 := 0) rfl rfl rfl hl.1 rfl (Nat.le_of_ble_eq_true rfl) d_C_scope_2 ⟨Nat.le_of_ble_eq_true rfl, Nat.le_of_ble_eq_true rfl⟩ (fun r hq => ?_)
  subst hq
  refine lv_if_ne (tgt := 11) hx hb d_C_scope_5 (by decide) (fun c_5 => ?_) (fun c_5 => ?_)
  · refine lv_aload_n hx hb d_C_scope_11 rfl (lv_at hl 0 rfl) ?_
    refine lv_iconst (v := (2 : Int32)) hx hb d_C_scope_12 (by decide) ?_
    refine xwv (As := [.int (2 : Int32)]) (rest := []) Sx (ck_fillFromAllThings l D a cI cII N K A hN hKK Z (2 : Int32)) v_C_fillFromAllThings ⟨rfl, rfl, Nat.le_of_ble_eq_true rfl, Nat.le_of_ble_eq_true rfl⟩ hK hP (ci := 0) (q0 := 0) rfl rfl (wC_D hD) hS (fun _ h => h) rfl hl.1 rfl (Nat.le_of_ble_eq_true rfl) d_C_scope_13 ⟨Nat.le_of_ble_eq_true rfl, Nat.le_of_ble_eq_true rfl⟩ (fun u H locs hu hP hS => ?_)
    subst hu
    have hP : va_P D classes (wC a cI cII (nI N) (nI K) (k_fillFromAllThings N K A (2 : Int32))) H := hP
    refine lv_aload_n hx hb d_C_scope_16 rfl (lv_at hl 0 rfl) ?_
    refine lv_iload_n hx hb d_C_scope_17 rfl (lv_at hl 1 rfl) ?_
    refine xro (As := [.int who]) (rest := []) Sx (ck_viewOf l D a cI cII N K (k_fillFromAllThings N K A (2 : Int32)) hN hKK who) v_C_viewOf ⟨rfl, rfl, Nat.le_of_ble_eq_true rfl, Nat.le_of_ble_eq_true rfl⟩ hK hP (ci := 0) (q0 := 0) rfl rfl rfl hl.1 rfl (Nat.le_of_ble_eq_true rfl) d_C_scope_18 ⟨Nat.le_of_ble_eq_true rfl, Nat.le_of_ble_eq_true rfl⟩ (fun r hq => ?_)
    subst hq
    refine lv_istore_n (lv' := [(3, .int (k_viewOf N K (k_fillFromAllThings N K A (2 : Int32)) who)), (0, .ref (a 0)), (1, .int who), (2, .int ix)]) hx hb d_C_scope_21 rfl hl (by decide) rfl (fun ls hl => ?_)
    refine lv_iconst (v := (0 : Int32)) hx hb d_C_scope_22 (by decide) ?_
    refine lv_istore (lv' := [(4, .int (0 : Int32)), (3, .int (k_viewOf N K (k_fillFromAllThings N K A (2 : Int32)) who)), (0, .ref (a 0)), (1, .int who), (2, .int ix)]) hx hb d_C_scope_23 hl (by decide) rfl (fun ls hl => ?_)
    refine lv_iconst (v := (0 : Int32)) hx hb d_C_scope_25 (by decide) ?_
    refine lv_istore (lv' := [(5, .int (0 : Int32)), (4, .int (0 : Int32)), (3, .int (k_viewOf N K (k_fillFromAllThings N K A (2 : Int32)) who)), (0, .ref (a 0)), (1, .int who), (2, .int ix)]) hx hb d_C_scope_26 hl (by decide) rfl (fun ls hl => ?_)
    have e_28 : k_scope N K A who ix = k_scope_28 N K who ix (k_viewOf N K (k_fillFromAllThings N K A (2 : Int32)) who) N 0 (k_fillFromAllThings N K A (2 : Int32)) (0 : Int32) := by rw [k_scope, if_neg c_5]
    rw [e_28]
    exact wk_scope_28 l D a cI cII N K (k_fillFromAllThings N K A (2 : Int32)) hN hKK Z who ix (k_viewOf N K (k_fillFromAllThings N K A (2 : Int32)) who) Sx hr hlk (wC_D hD) hK N 0 (by omega) (k_fillFromAllThings N K A (2 : Int32)) (0 : Int32) _ _ ls hP hS (lv_sub hl [3, 4, 5, 2, 1, 0] rfl)
  · refine lv_bipush (v := (-2 : Int32)) hx hb d_C_scope_8 (by decide) ?_
    exact wRet (u := A) hx hb hr rfl hlk (show (-2 : Int32) = (k_scope N K A who ix).1 ∧ A = (k_scope N K A who ix).2 from by rw [k_scope, if_pos c_5]; exact ⟨rfl, rfl⟩) hP hK hS d_C_scope_10

def k_hears_38 (N K : Nat) (who : Int32) : Nat → Nat → (Nat → Nat → Int32) → Int32 → Int32 → Int32 × (Nat → Nat → Int32)
  | 0, i, A1, v3, v4 => (v3, A1)
  | k + 1, i, A1, v3, v4 => (if (nI i) = who then (if (0 : Int32) ≤ v4 then k_hears_38 N K who k (i + 1) A1 v3 v4 else k_hears_38 N K who k (i + 1) A1 (nI i) (0 : Int32)) else (if (k_partHeardOf N K A1 (nI i)) ≤ v4 then k_hears_38 N K who k (i + 1) A1 v3 v4 else k_hears_38 N K who k (i + 1) A1 (nI i) (k_partHeardOf N K A1 (nI i))))
theorem k_hears_38_0 (N K : Nat) (who : Int32) (i : Nat) (A1 : (Nat → Nat → Int32)) (v3 v4 : Int32) : k_hears_38 N K who 0 i A1 v3 v4 = (v3, A1) := rfl
theorem k_hears_38_S (N K : Nat) (who : Int32) (k i : Nat) (A1 : (Nat → Nat → Int32)) (v3 v4 : Int32) : k_hears_38 N K who (k + 1) i A1 v3 v4 = (if (nI i) = who then (if (0 : Int32) ≤ v4 then k_hears_38 N K who k (i + 1) A1 v3 v4 else k_hears_38 N K who k (i + 1) A1 (nI i) (0 : Int32)) else (if (k_partHeardOf N K A1 (nI i)) ≤ v4 then k_hears_38 N K who k (i + 1) A1 v3 v4 else k_hears_38 N K who k (i + 1) A1 (nI i) (k_partHeardOf N K A1 (nI i)))) := rfl
set_option maxHeartbeats 4000000 in
set_option maxRecDepth 100000 in
theorem wk_hears_38 (l : Launch) (D : va_G) (a : Nat → Nat) (cI cII : ClassId) (N K : Nat) (A : Nat → Nat → Int32) (hN : N ≤ 30) (hKK : K ≤ 10) (Z : Nat → Prop) (who u2 : Int32) {p : Program} {e : Env} {s : State} {m : MethodId} {below : List Frame} {meth : Method} {c : Code} (Sx : CallFix p m c b_C_hears 7 s ([.ref (a 0), .int who] : List Value).toArray BW R_C) (hr : meth.sig.returnType = (some .int)) (hlk : meth.locks = false) (hD : va_D Z (wC a cI cII (nI N) (nI K) A)) (hK : va_K D classes (tC cI cII) s) : ∀ (k i : Nat), i + k = N → ∀ (A1 : (Nat → Nat → Int32)) (v3 v4 : Int32) (H : Heap) (locs : List Loc) (ls : Array Slot), va_P D classes (wC a cI cII (nI N) (nI K) A1) H → va_S Z s.heap H locs → lv_has ls 7 [(0, .ref (a 0)), (1, .int who), (2, .int u2), (3, .int v3), (4, .int v4), (5, .int (nI i))] → W p l e ({ frames := 6, cells := 0, slots := 0, locals := 134 } : Room) s m ([.ref (a 0), .int who] : List Value).toArray below meth c H locs 0 0 (MQ below (va_Qi (fun r u => r = (k_hears_38 N K who k i A1 v3 v4).1 ∧ u = (k_hears_38 N K who k i A1 v3 v4).2) (atW D (fun u => wC a cI cII (nI N) (nI K) u) (tC cI cII)) Z) ([.ref (a 0), .int who] : List Value).toArray s 0 0 Z) (F0 m 38 ls []) := by
  obtain ⟨hx, hb, hml, hown, hts⟩ := id Sx
  intro k
  induction k with
  | zero =>
    intro i hi A1 v3 v4 H locs ls hP hS hl
    refine lv_iload hx hb d_C_hears_38 (lv_at hl 5 rfl) ?_
    refine lv_aload_n hx hb d_C_hears_40 rfl (lv_at hl 0 rfl) ?_
    refine va_get (D := D) (ci := 0) (v := .int (nI N)) (C := R_C) (T := F_C) (N := 9) hx hb hts i_C hown hK hP 0 rfl rfl 0 (by decide) (hts _ fl_C_7) (fun _ h9 => h9) rfl d_C_hears_41 ?_
    refine lv_icmp_ge (tgt := 85) hx hb d_C_hears_44 (by decide) (fun c_44 => ?_) (fun c_44 => absurd (nI_le (a := N) (b := i) (by omega) (by omega)) c_44)
    refine lv_iload_n hx hb d_C_hears_85 rfl (lv_at hl 3 rfl) ?_
    exact wRet (u := A1) hx hb hr rfl hlk (show v3 = (k_hears_38 N K who 0 i A1 v3 v4).1 ∧ A1 = (k_hears_38 N K who 0 i A1 v3 v4).2 from by rw [k_hears_38_0]; exact ⟨rfl, rfl⟩) hP hK hS d_C_hears_86
  | succ k ih =>
    intro i hi A1 v3 v4 H locs ls hP hS hl
    refine lv_iload hx hb d_C_hears_38 (lv_at hl 5 rfl) ?_
    refine lv_aload_n hx hb d_C_hears_40 rfl (lv_at hl 0 rfl) ?_
    refine va_get (D := D) (ci := 0) (v := .int (nI N)) (C := R_C) (T := F_C) (N := 9) hx hb hts i_C hown hK hP 0 rfl rfl 0 (by decide) (hts _ fl_C_7) (fun _ h9 => h9) rfl d_C_hears_41 ?_
    refine lv_icmp_ge (tgt := 85) hx hb d_C_hears_44 (by decide) (fun c_44 => absurd c_44 (nI_ge (a := i) (b := N) (by omega) (by omega))) (fun c_44 => ?_)
    refine lv_iload hx hb d_C_hears_47 (lv_at hl 5 rfl) ?_
    refine lv_iload_n hx hb d_C_hears_49 rfl (lv_at hl 1 rfl) ?_
    refine lv_icmp_ne (tgt := 57) hx hb d_C_hears_50 (by decide) (fun c_50 => ?_) (fun c_50 => ?_)
    · refine lv_aload_n hx hb d_C_hears_57 rfl (lv_at hl 0 rfl) ?_
      refine lv_iload hx hb d_C_hears_58 (lv_at hl 5 rfl) ?_
      refine xro (As := [.int (nI i)]) (rest := []) Sx (ck_partHeardOf l D a cI cII N K A1 hN hKK (nI i)) v_C_partHeardOf ⟨rfl, rfl, Nat.le_of_ble_eq_true rfl, Nat.le_of_ble_eq_true rfl⟩ hK hP (ci := 0) (q0 := 0) rfl rfl rfl hl.1 rfl (Nat.le_of_ble_eq_true rfl) d_C_hears_60 ⟨Nat.le_of_ble_eq_true rfl, Nat.le_of_ble_eq_true rfl⟩ (fun r hq => ?_)
      subst hq
      refine lv_istore (lv' := [(6, .int (k_partHeardOf N K A1 (nI i))), (0, .ref (a 0)), (1, .int who), (2, .int u2), (3, .int v3), (4, .int v4), (5, .int (nI i))]) hx hb d_C_hears_63 hl (by decide) rfl (fun ls hl => ?_)
      refine lv_iload hx hb d_C_hears_65 (lv_at hl 0 rfl) ?_
      refine lv_iload hx hb d_C_hears_67 (lv_at hl 5 rfl) ?_
      refine lv_icmp_le (tgt := 79) hx hb d_C_hears_69 (by decide) (fun c_69 => ?_) (fun c_69 => ?_)
      · refine lv_iinc (v := nI (i + 1)) (lv' := [(5, .int (nI (i + 1))), (6, .int (k_partHeardOf N K A1 (nI i))), (0, .ref (a 0)), (1, .int who), (2, .int u2), (3, .int v3), (4, .int v4)]) hx hb d_C_hears_79 hl (k := 6) rfl (nI_1 i) (by decide) rfl (fun ls hl => ?_)
        refine lv_goto (tgt := 38) hx hb d_C_hears_82 (by decide) ?_
        have e_b : k_hears_38 N K who (k + 1) i A1 v3 v4 = k_hears_38 N K who k (i + 1) A1 v3 v4 := by rw [k_hears_38_S, if_neg c_50, if_pos c_69]
        rw [e_b]
        exact ih (i + 1) (by omega) A1 v3 v4 _ _ ls hP hS (lv_sub hl [2, 3, 4, 5, 6, 0] rfl)
      · refine lv_iload hx hb d_C_hears_72 (lv_at hl 0 rfl) ?_
        refine lv_istore (lv' := [(4, .int (k_partHeardOf N K A1 (nI i))), (6, .int (k_partHeardOf N K A1 (nI i))), (0, .ref (a 0)), (1, .int who), (2, .int u2), (3, .int v3), (5, .int (nI i))]) hx hb d_C_hears_74 hl (by decide) rfl (fun ls hl => ?_)
        refine lv_iload hx hb d_C_hears_76 (lv_at hl 6 rfl) ?_
        refine lv_istore_n (lv' := [(3, .int (nI i)), (4, .int (k_partHeardOf N K A1 (nI i))), (6, .int (k_partHeardOf N K A1 (nI i))), (0, .ref (a 0)), (1, .int who), (2, .int u2), (5, .int (nI i))]) hx hb d_C_hears_78 rfl hl (by decide) rfl (fun ls hl => ?_)
        refine lv_iinc (v := nI (i + 1)) (lv' := [(5, .int (nI (i + 1))), (3, .int (nI i)), (4, .int (k_partHeardOf N K A1 (nI i))), (6, .int (k_partHeardOf N K A1 (nI i))), (0, .ref (a 0)), (1, .int who), (2, .int u2)]) hx hb d_C_hears_79 hl (k := 6) rfl (nI_1 i) (by decide) rfl (fun ls hl => ?_)
        refine lv_goto (tgt := 38) hx hb d_C_hears_82 (by decide) ?_
        have e_b : k_hears_38 N K who (k + 1) i A1 v3 v4 = k_hears_38 N K who k (i + 1) A1 (nI i) (k_partHeardOf N K A1 (nI i)) := by rw [k_hears_38_S, if_neg c_50, if_neg c_69]
        rw [e_b]
        exact ih (i + 1) (by omega) A1 (nI i) (k_partHeardOf N K A1 (nI i)) _ _ ls hP hS (lv_sub hl [4, 5, 6, 1, 2, 0] rfl)
    · refine lv_iconst (v := (0 : Int32)) hx hb d_C_hears_53 (by decide) ?_
      refine lv_goto (tgt := 63) hx hb d_C_hears_54 (by decide) ?_
      refine lv_istore (lv' := [(6, .int (0 : Int32)), (0, .ref (a 0)), (1, .int who), (2, .int u2), (3, .int v3), (4, .int v4), (5, .int (nI i))]) hx hb d_C_hears_63 hl (by decide) rfl (fun ls hl => ?_)
      refine lv_iload hx hb d_C_hears_65 (lv_at hl 0 rfl) ?_
      refine lv_iload hx hb d_C_hears_67 (lv_at hl 5 rfl) ?_
      refine lv_icmp_le (tgt := 79) hx hb d_C_hears_69 (by decide) (fun c_69 => ?_) (fun c_69 => ?_)
      · refine lv_iinc (v := nI (i + 1)) (lv' := [(5, .int (nI (i + 1))), (6, .int (0 : Int32)), (0, .ref (a 0)), (1, .int who), (2, .int u2), (3, .int v3), (4, .int v4)]) hx hb d_C_hears_79 hl (k := 6) rfl (nI_1 i) (by decide) rfl (fun ls hl => ?_)
        refine lv_goto (tgt := 38) hx hb d_C_hears_82 (by decide) ?_
        have e_b : k_hears_38 N K who (k + 1) i A1 v3 v4 = k_hears_38 N K who k (i + 1) A1 v3 v4 := by rw [k_hears_38_S, if_pos c_50, if_pos c_69]
        rw [e_b]
        exact ih (i + 1) (by omega) A1 v3 v4 _ _ ls hP hS (lv_sub hl [2, 3, 4, 5, 6, 0] rfl)
      · refine lv_iload hx hb d_C_hears_72 (lv_at hl 0 rfl) ?_
        refine lv_istore (lv' := [(4, .int (0 : Int32)), (6, .int (0 : Int32)), (0, .ref (a 0)), (1, .int who), (2, .int u2), (3, .int v3), (5, .int (nI i))]) hx hb d_C_hears_74 hl (by decide) rfl (fun ls hl => ?_)
        refine lv_iload hx hb d_C_hears_76 (lv_at hl 6 rfl) ?_
        refine lv_istore_n (lv' := [(3, .int (nI i)), (4, .int (0 : Int32)), (6, .int (0 : Int32)), (0, .ref (a 0)), (1, .int who), (2, .int u2), (5, .int (nI i))]) hx hb d_C_hears_78 rfl hl (by decide) rfl (fun ls hl => ?_)
        refine lv_iinc (v := nI (i + 1)) (lv' := [(5, .int (nI (i + 1))), (3, .int (nI i)), (4, .int (0 : Int32)), (6, .int (0 : Int32)), (0, .ref (a 0)), (1, .int who), (2, .int u2)]) hx hb d_C_hears_79 hl (k := 6) rfl (nI_1 i) (by decide) rfl (fun ls hl => ?_)
        refine lv_goto (tgt := 38) hx hb d_C_hears_82 (by decide) ?_
        have e_b : k_hears_38 N K who (k + 1) i A1 v3 v4 = k_hears_38 N K who k (i + 1) A1 (nI i) (0 : Int32) := by rw [k_hears_38_S, if_pos c_50, if_neg c_69]
        rw [e_b]
        exact ih (i + 1) (by omega) A1 (nI i) (0 : Int32) _ _ ls hP hS (lv_sub hl [4, 5, 6, 1, 2, 0] rfl)
def k_hears (N K : Nat) (A : Nat → Nat → Int32) (who : Int32) : Int32 × (Nat → Nat → Int32) := (if (k_isPerson N K A who) = (0 : Int32) then ((-2 : Int32), A) else (if (k_spaceOf N K A who) = (-1 : Int32) then ((-1 : Int32), A) else k_hears_38 N K who N 0 (k_fillFromOneSpace N K A (k_spaceOf N K A who) (3 : Int32)) (-1 : Int32) (0 : Int32)))
set_option maxHeartbeats 4000000 in
set_option maxRecDepth 100000 in
theorem ck_hears (l : Launch) (D : va_G) (a : Nat → Nat) (cI cII : ClassId) (N K : Nat) (A : Nat → Nat → Int32) (hN : N ≤ 30) (hKK : K ≤ 10) (Z : Nat → Prop) (who : Int32) : Met l y_C_hears (Cond.code y_C_hears b_C_hears 7 (some .int) :: BW) ({ frames := 6, cells := 0, slots := 0, locals := 134 } : Room) (PcW D Z (wC a cI cII (nI N) (nI K) A) (tC cI cII) [.ref (a 0), .int who]) (va_Qi (fun r u => r = (k_hears N K A who).1 ∧ u = (k_hears N K A who).2) (atW D (fun u => wC a cI cII (nI N) (nI K) u) (tC cI cII)) Z) 0 0 Z := by
  refine wStart (by decide) rfl (Nat.le_of_ble_eq_true rfl) (fun p e s m below meth c Sx hr hlk hP hK hD hS ls hl => ?_)
  obtain ⟨hx, hb, hml, hown, hts⟩ := id Sx
  have hl : lv_has ls 7 [(0, .ref (a 0)), (1, .int who)] := hl
  refine lv_aload_n hx hb d_C_hears_0 rfl (lv_at hl 0 rfl) ?_
  refine lv_iload_n hx hb d_C_hears_1 rfl (lv_at hl 1 rfl) ?_
  refine xro (As := [.int who]) (rest := []) Sx (ck_isPerson l D a cI cII N K A hN hKK who) v_C_isPerson ⟨rfl, rfl, Nat.le_of_ble_eq_true rfl, Nat.le_of_ble_eq_true rfl⟩ hK hP (ci := 0) (q0 := 0) rfl rfl rfl hl.1 rfl (Nat.le_of_ble_eq_true rfl) d_C_hears_2 ⟨Nat.le_of_ble_eq_true rfl, Nat.le_of_ble_eq_true rfl⟩ (fun r hq => ?_)
  subst hq
  refine lv_if_ne (tgt := 11) hx hb d_C_hears_5 (by decide) (fun c_5 => ?_) (fun c_5 => ?_)
  · refine lv_aload_n hx hb d_C_hears_11 rfl (lv_at hl 0 rfl) ?_
    refine lv_iload_n hx hb d_C_hears_12 rfl (lv_at hl 1 rfl) ?_
    refine xro (As := [.int who]) (rest := []) Sx (ck_spaceOf l D a cI cII N K A hN hKK who) v_C_spaceOf ⟨rfl, rfl, Nat.le_of_ble_eq_true rfl, Nat.le_of_ble_eq_true rfl⟩ hK hP (ci := 0) (q0 := 0) rfl rfl rfl hl.1 rfl (Nat.le_of_ble_eq_true rfl) d_C_hears_13 ⟨Nat.le_of_ble_eq_true rfl, Nat.le_of_ble_eq_true rfl⟩ (fun r hq => ?_)
    subst hq
    refine lv_istore_n (lv' := [(2, .int (k_spaceOf N K A who)), (0, .ref (a 0)), (1, .int who)]) hx hb d_C_hears_16 rfl hl (by decide) rfl (fun ls hl => ?_)
    refine lv_iload_n hx hb d_C_hears_17 rfl (lv_at hl 0 rfl) ?_
    refine lv_iconst (v := (-1 : Int32)) hx hb d_C_hears_18 (by decide) ?_
    refine lv_icmp_ne (tgt := 24) hx hb d_C_hears_19 (by decide) (fun c_19 => ?_) (fun c_19 => ?_)
    · refine lv_aload_n hx hb d_C_hears_24 rfl (lv_at hl 1 rfl) ?_
      refine lv_iload_n hx hb d_C_hears_25 rfl (lv_at hl 0 rfl) ?_
      refine lv_iconst (v := (3 : Int32)) hx hb d_C_hears_26 (by decide) ?_
      refine xwv (As := [.int (k_spaceOf N K A who), .int (3 : Int32)]) (rest := []) Sx (ck_fillFromOneSpace l D a cI cII N K A hN hKK Z (k_spaceOf N K A who) (3 : Int32)) v_C_fillFromOneSpace ⟨rfl, rfl, Nat.le_of_ble_eq_true rfl, Nat.le_of_ble_eq_true rfl⟩ hK hP (ci := 0) (q0 := 0) rfl rfl (wC_D hD) hS (fun _ h => h) rfl hl.1 rfl (Nat.le_of_ble_eq_true rfl) d_C_hears_27 ⟨Nat.le_of_ble_eq_true rfl, Nat.le_of_ble_eq_true rfl⟩ (fun u H locs hu hP hS => ?_)
      subst hu
      have hP : va_P D classes (wC a cI cII (nI N) (nI K) (k_fillFromOneSpace N K A (k_spaceOf N K A who) (3 : Int32))) H := hP
      refine lv_iconst (v := (-1 : Int32)) hx hb d_C_hears_30 (by decide) ?_
      refine lv_istore_n (lv' := [(3, .int (-1 : Int32)), (2, .int (k_spaceOf N K A who)), (0, .ref (a 0)), (1, .int who)]) hx hb d_C_hears_31 rfl hl (by decide) rfl (fun ls hl => ?_)
      refine lv_iconst (v := (0 : Int32)) hx hb d_C_hears_32 (by decide) ?_
      refine lv_istore (lv' := [(4, .int (0 : Int32)), (3, .int (-1 : Int32)), (2, .int (k_spaceOf N K A who)), (0, .ref (a 0)), (1, .int who)]) hx hb d_C_hears_33 hl (by decide) rfl (fun ls hl => ?_)
      refine lv_iconst (v := (0 : Int32)) hx hb d_C_hears_35 (by decide) ?_
      refine lv_istore (lv' := [(5, .int (0 : Int32)), (4, .int (0 : Int32)), (3, .int (-1 : Int32)), (2, .int (k_spaceOf N K A who)), (0, .ref (a 0)), (1, .int who)]) hx hb d_C_hears_36 hl (by decide) rfl (fun ls hl => ?_)
      have e_38 : k_hears N K A who = k_hears_38 N K who N 0 (k_fillFromOneSpace N K A (k_spaceOf N K A who) (3 : Int32)) (-1 : Int32) (0 : Int32) := by rw [k_hears, if_neg c_5, if_neg c_19]
      rw [e_38]
      exact wk_hears_38 l D a cI cII N K (k_fillFromOneSpace N K A (k_spaceOf N K A who) (3 : Int32)) hN hKK Z who (k_spaceOf N K A who) Sx hr hlk (wC_D hD) hK N 0 (by omega) (k_fillFromOneSpace N K A (k_spaceOf N K A who) (3 : Int32)) (-1 : Int32) (0 : Int32) _ _ ls hP hS (lv_sub hl [4, 5, 3, 2, 1, 0] rfl)
    · refine lv_iconst (v := (-1 : Int32)) hx hb d_C_hears_22 (by decide) ?_
      exact wRet (u := A) hx hb hr rfl hlk (show (-1 : Int32) = (k_hears N K A who).1 ∧ A = (k_hears N K A who).2 from by rw [k_hears, if_neg c_5, if_pos c_19]; exact ⟨rfl, rfl⟩) hP hK hS d_C_hears_23
  · refine lv_bipush (v := (-2 : Int32)) hx hb d_C_hears_8 (by decide) ?_
    exact wRet (u := A) hx hb hr rfl hlk (show (-2 : Int32) = (k_hears N K A who).1 ∧ A = (k_hears N K A who).2 from by rw [k_hears, if_pos c_5]; exact ⟨rfl, rfl⟩) hP hK hS d_C_hears_10
end
section
/-! Levels on a graph: what is attained over at most k steps; no more steps are needed than there are places, less one. -/
def gA (E : Nat → Nat → Nat → Prop) (L0 : Nat → Nat) (P : Nat → Bool) : Nat → Nat → Nat → Prop
  | 0, x, v => P x = true ∧ v = L0 x
  | k + 1, x, v => gA E L0 P k x v ∨ (P x = true ∧ ∃ y w u, E y x w ∧ gA E L0 P k y u ∧ v = u - w)
def gM (P : Nat → Bool) (x : Nat) : Nat → Bool := fun i => P i && !(i == x)
def gC (P : Nat → Bool) : Nat → Nat
  | 0 => 0
  | n + 1 => gC P n + (if P n = true then 1 else 0)
section GR
variable {E : Nat → Nat → Nat → Prop} {L0 : Nat → Nat}
theorem gA_mono {P : Nat → Bool} {k j x v : Nat} (h : gA E L0 P k x v) (hkj : k ≤ j) : gA E L0 P j x v := by
  induction j with
  | zero => obtain rfl : k = 0 := by omega
            exact h
  | succ j ih =>
    by_cases e : k = j + 1
    · subst e; exact h
    · exact Or.inl (ih (by omega))
theorem gA_P {P : Nat → Bool} : ∀ {k x v : Nat}, gA E L0 P k x v → P x = true := by
  intro k
  induction k with
  | zero => intro x v h; exact h.1
  | succ k ih =>
    intro x v h
    rcases h with h | h
    · exact ih h
    · exact h.1
theorem gA_weak {P P' : Nat → Bool} (hP : ∀ i, P i = true → P' i = true) : ∀ {k x v : Nat}, gA E L0 P k x v → gA E L0 P' k x v := by
  intro k
  induction k with
  | zero => intro x v h; exact ⟨hP _ h.1, h.2⟩
  | succ k ih =>
    intro x v h
    rcases h with h | ⟨h1, y, w, u, h2, h3, h4⟩
    · exact Or.inl (ih h)
    · exact Or.inr ⟨hP _ h1, y, w, u, h2, ih h3, h4⟩
theorem gM_in {P : Nat → Bool} {x i : Nat} (h : gM P x i = true) : P i = true ∧ i ≠ x := by
  unfold gM at h
  rw [Bool.and_eq_true] at h
  refine ⟨h.1, fun e => ?_⟩
  subst e
  simp at h
theorem gM_of {P : Nat → Bool} {x i : Nat} (h : P i = true) (hx : i ≠ x) : gM P x i = true := by
  unfold gM
  rw [Bool.and_eq_true]
  exact ⟨h, by simp [hx]⟩
theorem gA_avoid {P : Nat → Bool} (x : Nat) : ∀ (k y u : Nat), gA E L0 P k y u → gA E L0 (gM P x) k y u ∨ ∃ u', u ≤ u' ∧ gA E L0 P k x u' := by
  intro k
  induction k with
  | zero =>
    intro y u h
    by_cases e : y = x
    · subst e; exact Or.inr ⟨u, Nat.le_refl _, h⟩
    · exact Or.inl ⟨gM_of h.1 e, h.2⟩
  | succ k ih =>
    intro y u h
    by_cases e : y = x
    · subst e; exact Or.inr ⟨u, Nat.le_refl _, h⟩
    · rcases h with h | ⟨h1, z, w, u0, h2, h3, h4⟩
      · rcases ih y u h with h | ⟨u', h5, h6⟩
        · exact Or.inl (Or.inl h)
        · exact Or.inr ⟨u', h5, Or.inl h6⟩
      · rcases ih z u0 h3 with h | ⟨u', h5, h6⟩
        · exact Or.inl (Or.inr ⟨gM_of h1 e, z, w, u0, h2, h, h4⟩)
        · exact Or.inr ⟨u', by omega, Or.inl h6⟩
theorem gA_step {P : Nat → Bool} (x : Nat) : ∀ (k v : Nat), gA E L0 P k x v → v ≤ L0 x ∨ ∃ y w u, E y x w ∧ gA E L0 (gM P x) k y u ∧ v ≤ u - w := by
  intro k
  induction k with
  | zero => intro v h; exact Or.inl (Nat.le_of_eq h.2)
  | succ k ih =>
    intro v h
    rcases h with h | ⟨h1, y, w, u, h2, h3, h4⟩
    · rcases ih v h with h | ⟨y, w, u, h2, h3, h4⟩
      · exact Or.inl h
      · exact Or.inr ⟨y, w, u, h2, Or.inl h3, h4⟩
    · rcases gA_avoid x k y u h3 with h | ⟨u', h5, h6⟩
      · exact Or.inr ⟨y, w, u, h2, Or.inl h, Nat.le_of_eq h4⟩
      · rcases ih u' h6 with h | ⟨y', w', u2, h7, h8, h9⟩
        · exact Or.inl (by omega)
        · exact Or.inr ⟨y', w', u2, h7, Or.inl h8, by omega⟩
end GR
theorem gC_eq {P P' : Nat → Bool} : ∀ {n : Nat}, (∀ i, i < n → P i = P' i) → gC P n = gC P' n := by
  intro n
  induction n with
  | zero => intro _; rfl
  | succ n ih =>
    intro h
    rw [gC, gC, ih (fun i hi => h i (by omega)), h n (by omega)]
theorem gC_out {P : Nat → Bool} {x : Nat} (hx : P x = true) : ∀ {n : Nat}, x < n → gC (gM P x) n + 1 = gC P n := by
  intro n
  induction n with
  | zero => intro h; omega
  | succ n ih =>
    intro h
    rw [gC, gC]
    by_cases e : x = n
    · subst e
      have h1 : gC (gM P x) x = gC P x := gC_eq (fun i hi => by
        unfold gM
        simp [show ¬ i = x by omega])
      have h2 : gM P x x = false := by unfold gM; simp
      rw [h1, h2, hx]
      simp
    · have h1 := ih (by omega)
      have h2 : gM P x n = P n := by unfold gM; simp [show ¬ n = x by omega]
      rw [h2]
      omega
theorem gC_pos {P : Nat → Bool} {x n : Nat} (hx : P x = true) (h : x < n) : 1 ≤ gC P n := by
  have := gC_out hx h
  omega
theorem gC_le (P : Nat → Bool) : ∀ n : Nat, gC P n ≤ n := by
  intro n
  induction n with
  | zero => exact Nat.le_refl _
  | succ n ih =>
    rw [gC]
    by_cases h : P n = true
    · rw [if_pos h]; omega
    · rw [if_neg h]; omega
theorem gA_short {E : Nat → Nat → Nat → Prop} {L0 : Nat → Nat} {N : Nat} : ∀ (m : Nat) (P : Nat → Bool), gC P N ≤ m + 1 → (∀ i, P i = true → i < N) → ∀ (k x v : Nat), gA E L0 P k x v → ∃ v', v ≤ v' ∧ gA E L0 P m x v' := by
  intro m
  induction m with
  | zero =>
    intro P hc hN k x v h
    have hx := gA_P h
    rcases gA_step x k v h with h | ⟨y, w, u, h1, h2, h3⟩
    · exact ⟨L0 x, h, hx, rfl⟩
    · have h4 := gC_out hx (hN x hx)
      have hy := gA_P h2
      have h5 := gC_pos hy (hN y (gM_in hy).1)
      omega
  | succ m ih =>
    intro P hc hN k x v h
    have hx := gA_P h
    rcases gA_step x k v h with h | ⟨y, w, u, h1, h2, h3⟩
    · exact ⟨L0 x, h, gA_mono (k := 0) ⟨hx, rfl⟩ (by omega)⟩
    · have h4 := gC_out hx (hN x hx)
      obtain ⟨u', h5, h6⟩ := ih (gM P x) (by omega) (fun i hi => hN i (gM_in hi).1) k y u h2
      exact ⟨u' - w, by omega, Or.inr ⟨hx, y, w, u', h1, gA_weak (fun i hi => (gM_in hi).1) h6, rfl⟩⟩
/-- what the levels must be: attained, not under the start, and no step would raise one -/
def gOK (E : Nat → Nat → Nat → Prop) (L0 : Nat → Nat) (P : Nat → Bool) (L : Nat → Nat) : Prop :=
  (∀ x, P x = true → ∃ k, gA E L0 P k x (L x)) ∧ (∀ x, P x = true → L0 x ≤ L x) ∧ ∀ y x w, P y = true → P x = true → E y x w → L y - w ≤ L x
theorem gA_ub {E : Nat → Nat → Nat → Prop} {L0 : Nat → Nat} {P : Nat → Bool} {L : Nat → Nat} (h0 : ∀ x, P x = true → L0 x ≤ L x) (hc : ∀ y x w, P y = true → P x = true → E y x w → L y - w ≤ L x) : ∀ (k x v : Nat), gA E L0 P k x v → v ≤ L x := by
  intro k
  induction k with
  | zero => intro x v h; rw [h.2]; exact h0 x h.1
  | succ k ih =>
    intro x v h
    rcases h with h | ⟨h1, y, w, u, h2, h3, h4⟩
    · exact ih x v h
    · have h5 := ih y u h3
      have h6 := hc y x w (gA_P h3) h1 h2
      omega
theorem gOK_uniq {E : Nat → Nat → Nat → Prop} {L0 : Nat → Nat} {P : Nat → Bool} {L L' : Nat → Nat} (h : gOK E L0 P L) (h' : gOK E L0 P L') {x : Nat} (hx : P x = true) : L x = L' x := by
  obtain ⟨k, hk⟩ := h.1 x hx
  obtain ⟨j, hj⟩ := h'.1 x hx
  exact Nat.le_antisymm (gA_ub h'.2.1 h'.2.2 k x _ hk) (gA_ub h.2.1 h.2.2 j x _ hj)
/-- attained, not under the start, and at least all that r steps attain: with r + 1 at least the number of places, these are the levels -/
theorem gOK_of {E : Nat → Nat → Nat → Prop} {L0 : Nat → Nat} {P : Nat → Bool} {L : Nat → Nat} {N r : Nat} (hN : ∀ i, P i = true → i < N) (hr : N ≤ r + 1) (ha : ∀ x, P x = true → ∃ k, gA E L0 P k x (L x)) (hb : ∀ x v, gA E L0 P r x v → v ≤ L x) : gOK E L0 P L := by
  refine ⟨ha, fun x hx => hb x _ (gA_mono (k := 0) ⟨hx, rfl⟩ (Nat.zero_le _)), fun y x w hy hx he => ?_⟩
  obtain ⟨k, hk⟩ := ha y hy
  obtain ⟨v', h1, h2⟩ := gA_short r P (Nat.le_trans (gC_le P N) hr) hN (k + 1) x (L y - w) (Or.inr ⟨hx, y, w, L y, he, hk, rfl⟩)
  exact Nat.le_trans h1 (hb x v' h2)
/-! Relaxing edges one after another. -/
def rx (L : Nat → Nat) (i j w : Nat) : (Nat → Nat) := if L i - w ≤ L j then (if L j - w ≤ L i then L else va_up L i (L j - w)) else va_up L j (L i - w)
def rxc (L : Nat → Nat) (i j w : Nat) : Bool := if L i - w ≤ L j then (if L j - w ≤ L i then false else true) else true
def rxs : List (Nat × Nat × Nat) → (Nat → Nat) → (Nat → Nat)
  | [], L => L
  | q :: es, L => rxs es (rx L q.1 q.2.1 q.2.2)
def rxsc : List (Nat × Nat × Nat) → (Nat → Nat) → Bool → Bool
  | [], _, c => c
  | q :: es, L, c => rxsc es (rx L q.1 q.2.1 q.2.2) (c || rxc L q.1 q.2.1 q.2.2)
theorem rx_le (L : Nat → Nat) (i j w x : Nat) : L x ≤ rx L i j w x := by
  unfold rx
  by_cases h1 : L i - w ≤ L j
  · rw [if_pos h1]
    by_cases h2 : L j - w ≤ L i
    · rw [if_pos h2]; exact Nat.le_refl _
    · rw [if_neg h2]
      by_cases e : x = i
      · subst e; rw [va_up_self]; omega
      · rw [va_up_ne _ _ e]; exact Nat.le_refl _
  · rw [if_neg h1]
    by_cases e : x = j
    · subst e; rw [va_up_self]; omega
    · rw [va_up_ne _ _ e]; exact Nat.le_refl _
theorem rx_j (L : Nat → Nat) (i j w : Nat) : L i - w ≤ rx L i j w j ∧ L j - w ≤ rx L i j w i := by
  unfold rx
  by_cases h1 : L i - w ≤ L j
  · rw [if_pos h1]
    by_cases h2 : L j - w ≤ L i
    · rw [if_pos h2]; exact ⟨h1, h2⟩
    · rw [if_neg h2]
      refine ⟨?_, by rw [va_up_self]; exact Nat.le_refl _⟩
      by_cases e : j = i
      · subst e; rw [va_up_self]; omega
      · rw [va_up_ne _ _ e]; exact h1
  · rw [if_neg h1]
    refine ⟨by rw [va_up_self]; exact Nat.le_refl _, ?_⟩
    by_cases e : i = j
    · subst e; rw [va_up_self]; omega
    · rw [va_up_ne _ _ e]; omega
theorem rx_c {L : Nat → Nat} {i j w : Nat} (h : rxc L i j w = false) : rx L i j w = L := by
  unfold rxc at h
  unfold rx
  by_cases h1 : L i - w ≤ L j
  · rw [if_pos h1] at h ⊢
    by_cases h2 : L j - w ≤ L i
    · rw [if_pos h2]
    · rw [if_neg h2] at h; cases h
  · rw [if_neg h1] at h; cases h
theorem rxs_le : ∀ (es : List (Nat × Nat × Nat)) (L : Nat → Nat) (x : Nat), L x ≤ rxs es L x := by
  intro es
  induction es with
  | nil => intro L x; exact Nat.le_refl _
  | cons q es ih => intro L x; exact Nat.le_trans (rx_le L _ _ _ x) (ih _ x)
theorem rxs_j : ∀ (es : List (Nat × Nat × Nat)) (L : Nat → Nat) (q : Nat × Nat × Nat), q ∈ es → L q.1 - q.2.2 ≤ rxs es L q.2.1 ∧ L q.2.1 - q.2.2 ≤ rxs es L q.1 := by
  intro es
  induction es with
  | nil => intro L q h; cases h
  | cons p es ih =>
    intro L q h
    rcases List.mem_cons.mp h with rfl | h
    · have h1 := rx_j L q.1 q.2.1 q.2.2
      exact ⟨Nat.le_trans h1.1 (rxs_le es _ _), Nat.le_trans h1.2 (rxs_le es _ _)⟩
    · have h1 := ih (rx L p.1 p.2.1 p.2.2) q h
      have h2 := rx_le L p.1 p.2.1 p.2.2 q.1
      have h3 := rx_le L p.1 p.2.1 p.2.2 q.2.1
      have h4 : L q.1 - q.2.2 ≤ rx L p.1 p.2.1 p.2.2 q.1 - q.2.2 := Nat.sub_le_sub_right h2 _
      have h5 : L q.2.1 - q.2.2 ≤ rx L p.1 p.2.1 p.2.2 q.2.1 - q.2.2 := Nat.sub_le_sub_right h3 _
      exact ⟨Nat.le_trans h4 h1.1, Nat.le_trans h5 h1.2⟩
theorem rxsc_t : ∀ (es : List (Nat × Nat × Nat)) (L : Nat → Nat), rxsc es L true = true := by
  intro es
  induction es with
  | nil => intro L; rfl
  | cons q es ih => intro L; exact ih _
theorem rxsc_f : ∀ (es : List (Nat × Nat × Nat)) (L : Nat → Nat) (c : Bool), rxsc es L c = false → c = false ∧ rxs es L = L := by
  intro es
  induction es with
  | nil => intro L c h; exact ⟨h, rfl⟩
  | cons q es ih =>
    intro L c h
    obtain ⟨h1, h2⟩ := ih _ _ h
    rw [Bool.or_eq_false_iff] at h1
    have h3 := rx_c h1.2
    refine ⟨h1.1, ?_⟩
    show rxs es (rx L q.1 q.2.1 q.2.2) = L
    rw [h2, h3]
theorem rx_att {E : Nat → Nat → Nat → Prop} {L0 : Nat → Nat} {P : Nat → Bool} {L : Nat → Nat} {i j w : Nat} (hL : ∀ x, P x = true → ∃ k, gA E L0 P k x (L x)) (hi : P i = true) (hj : P j = true) (h1 : E i j w) (h2 : E j i w) : ∀ x, P x = true → ∃ k, gA E L0 P k x (rx L i j w x) := by
  intro x hx
  unfold rx
  by_cases c1 : L i - w ≤ L j
  · rw [if_pos c1]
    by_cases c2 : L j - w ≤ L i
    · rw [if_pos c2]; exact hL x hx
    · rw [if_neg c2]
      by_cases e : x = i
      · subst e
        rw [va_up_self]
        obtain ⟨k, hk⟩ := hL j hj
        exact ⟨k + 1, Or.inr ⟨hx, j, w, L j, h2, hk, rfl⟩⟩
      · rw [va_up_ne _ _ e]; exact hL x hx
  · rw [if_neg c1]
    by_cases e : x = j
    · subst e
      rw [va_up_self]
      obtain ⟨k, hk⟩ := hL i hi
      exact ⟨k + 1, Or.inr ⟨hx, i, w, L i, h1, hk, rfl⟩⟩
    · rw [va_up_ne _ _ e]; exact hL x hx
theorem rxs_att {E : Nat → Nat → Nat → Prop} {L0 : Nat → Nat} {P : Nat → Bool} : ∀ (es : List (Nat × Nat × Nat)) (L : Nat → Nat), (∀ x, P x = true → ∃ k, gA E L0 P k x (L x)) → (∀ q ∈ es, P q.1 = true ∧ P q.2.1 = true ∧ E q.1 q.2.1 q.2.2 ∧ E q.2.1 q.1 q.2.2) → ∀ x, P x = true → ∃ k, gA E L0 P k x (rxs es L x) := by
  intro es
  induction es with
  | nil => intro L hL _; exact hL
  | cons q es ih =>
    intro L hL h
    obtain ⟨h1, h2, h3, h4⟩ := h q List.mem_cons_self
    exact ih _ (rx_att hL h1 h2 h3 h4) (fun r hr => h r (List.mem_cons_of_mem _ hr))
/-- k passes more, ended by a pass that changes nothing -/
def rxr (es : List (Nat × Nat × Nat)) : Nat → (Nat → Nat) → Bool → (Nat → Nat)
  | 0, L, _ => L
  | k + 1, L, c => if c = false then L else rxr es k (rxs es L) (rxsc es L false)
theorem rxr_ok {E : Nat → Nat → Nat → Prop} {L0 : Nat → Nat} {P : Nat → Bool} {N : Nat} (hN : ∀ i, P i = true → i < N) {es : List (Nat × Nat × Nat)} (hE : ∀ y x w, P y = true → P x = true → E y x w → ∃ q ∈ es, q.2.2 = w ∧ ((q.1 = y ∧ q.2.1 = x) ∨ (q.1 = x ∧ q.2.1 = y))) (hes : ∀ q ∈ es, P q.1 = true ∧ P q.2.1 = true ∧ E q.1 q.2.1 q.2.2 ∧ E q.2.1 q.1 q.2.2) :
    ∀ (k r : Nat) (L : Nat → Nat) (c : Bool), N ≤ r + k + 1 → (∀ x, P x = true → ∃ k, gA E L0 P k x (L x)) → (∀ x v, gA E L0 P r x v → v ≤ L x) → (c = false → ∀ y x w, P y = true → P x = true → E y x w → L y - w ≤ L x) → gOK E L0 P (rxr es k L c) := by
  have step : ∀ (L : Nat → Nat) (y x w : Nat), P y = true → P x = true → E y x w → L y - w ≤ rxs es L x := by
    intro L y x w hy hx he
    obtain ⟨q, hq, e1, e2⟩ := hE y x w hy hx he
    have h := rxs_j es L q hq
    rw [e1] at h
    rcases e2 with ⟨e2, e3⟩ | ⟨e2, e3⟩
    · rw [e2, e3] at h; exact h.1
    · rw [e2, e3] at h; exact h.2
  intro k
  induction k with
  | zero => intro r L c hr ha hb _; exact gOK_of hN (by omega) ha hb
  | succ k ih =>
    intro r L c hr ha hb hc
    rw [rxr]
    by_cases e : c = false
    · rw [if_pos e]
      exact ⟨ha, fun x hx => hb x _ (gA_mono (k := 0) ⟨hx, rfl⟩ (Nat.zero_le _)), hc e⟩
    · rw [if_neg e]
      refine ih (r + 1) _ _ (by omega) (rxs_att es L ha hes) (fun x v h => ?_) (fun e2 => ?_)
      · rcases h with h | ⟨h1, y, w, u, h2, h3, h4⟩
        · exact Nat.le_trans (hb x v h) (rxs_le es L x)
        · have h5 := hb y u h3
          have h6 := step L y x w (gA_P h3) h1 h2
          omega
      · intro y x w hy hx he
        have h7 := step L y x w hy hx he
        rw [(rxsc_f es L false e2).2] at h7 ⊢
        exact h7
end
section
/-! The class's levels: what spread does, in words of relaxed edges. -/
theorem sU_same (A : Nat → Nat → Int32) (k j : Nat) (v : Int32) : sU A k j v k = upd (A k) j v := va_up_self _ _ _
theorem sU_ne (A : Nat → Nat → Int32) {k k' : Nat} (j : Nat) (v : Int32) (h : k' ≠ k) : sU A k j v k' = A k' := va_up_ne _ _ h
def eqv (A A' : Nat → Nat → Int32) : Prop := ∀ k, k ≠ 10 → A' k = A k
theorem eqv.rf {A : Nat → Nat → Int32} : eqv A A := fun _ _ => rfl
theorem eqv.tr {A A' A'' : Nat → Nat → Int32} (h : eqv A A') (h' : eqv A' A'') : eqv A A'' := fun k hk => (h' k hk).trans (h k hk)
theorem eqv_sU (A : Nat → Nat → Int32) (j : Nat) (v : Int32) : eqv A (sU A 10 j v) := fun _ hk => sU_ne A j v hk
section EV
variable {N K : Nat} {A A' : Nat → Nat → Int32}
theorem ev_isThing (x : Int32) : k_isThing N K A' x = k_isThing N K A x := rfl
theorem ev_isDoor (x : Int32) : k_isDoor N K A' x = k_isDoor N K A x := rfl
theorem ev_sortOf (h : eqv A A') (x : Int32) : k_sortOf N K A' x = k_sortOf N K A x := by
  rw [k_sortOf, k_sortOf, h 0 (by decide), ev_isThing (A := A) (A' := A')]
theorem ev_holderOf (h : eqv A A') (x : Int32) : k_holderOf N K A' x = k_holderOf N K A x := by
  rw [k_holderOf, k_holderOf, h 1 (by decide), ev_isThing (A := A) (A' := A')]
theorem ev_markOf (h : eqv A A') (x mk : Int32) : k_markOf N K A' x mk = k_markOf N K A x mk := by
  rw [k_markOf, k_markOf, ev_isThing (A := A) (A' := A')]
  by_cases c1 : mk < (0 : Int32)
  · rw [if_pos c1, if_pos c1]
  · rw [if_neg c1, if_neg c1]
    by_cases c2 : (4 : Int32) ≤ mk
    · rw [if_pos c2, if_pos c2]
    · have h4 := vp_lt (in4 c1 c2)
      rw [if_neg c2, if_neg c2, h (2 + mk.toNatClampNeg) (by omega)]
theorem ev_isSpace (h : eqv A A') (x : Int32) : k_isSpace N K A' x = k_isSpace N K A x := by
  rw [k_isSpace, k_isSpace, ev_sortOf h]
theorem ev_spaceOf_18 (h : eqv A A') : ∀ (k i : Nat) (v : Int32), k_spaceOf_18 N K A' k i v = k_spaceOf_18 N K A k i v := by
  intro k
  induction k with
  | zero => intro i v; rfl
  | succ k ih =>
    intro i v
    rw [k_spaceOf_18_S, k_spaceOf_18_S, ev_isSpace h, ev_holderOf h, ih]
theorem ev_spaceOf (h : eqv A A') (x : Int32) : k_spaceOf N K A' x = k_spaceOf N K A x := by
  rw [k_spaceOf, k_spaceOf, ev_sortOf h, ev_holderOf h, ev_spaceOf_18 h]
theorem ev_wallLoss (h : eqv A A') (x mk : Int32) : k_wallLoss N K A' x mk = k_wallLoss N K A x mk := by
  rw [k_wallLoss, k_wallLoss, ev_sortOf h, ev_markOf h, ev_markOf h]
theorem ev_doorLoss (h : eqv A A') (x mk : Int32) : k_doorLoss N K A' x mk = k_doorLoss N K A x mk := by
  rw [k_doorLoss, k_doorLoss, h (8 + (0 : Int32).toNatClampNeg) (by decide), h (8 + (1 : Int32).toNatClampNeg) (by decide), ev_isDoor (A := A) (A' := A')]
end EV
theorem isThing_1 {N K : Nat} {A : Nat → Nat → Int32} {j : Nat} (hN : N ≤ 30) (h : j < N) : k_isThing N K A (nI j) = (1 : Int32) := by
  rw [k_isThing, if_neg (nI_pos (by omega)), if_neg (nI_ge h (by omega))]
theorem isThing_n0 {N K : Nat} {A : Nat → Nat → Int32} {j : Nat} (hN : N ≤ 30) (h : j < N) : ¬ k_isThing N K A (nI j) = (0 : Int32) := by
  rw [isThing_1 hN h]; decide
theorem isThing_m1 {N K : Nat} {A : Nat → Nat → Int32} : k_isThing N K A (-1 : Int32) = (0 : Int32) := by
  rw [k_isThing, if_pos (by decide)]
theorem wallLoss_v {N K : Nat} {A : Nat → Nat → Int32} (x mk : Int32) : k_wallLoss N K A x mk = (-1 : Int32) ∨ ∃ w : Nat, w ≤ 2 ∧ k_wallLoss N K A x mk = nI w := by
  rw [k_wallLoss]
  by_cases c1 : k_sortOf N K A x = (1 : Int32)
  · rw [if_pos c1]
    by_cases c2 : k_markOf N K A x (0 : Int32) = (1 : Int32)
    · rw [if_pos c2]; exact Or.inr ⟨0, by decide, rfl⟩
    · rw [if_neg c2]
      by_cases c3 : mk = (3 : Int32)
      · rw [if_pos c3]; exact Or.inr ⟨2, by decide, rfl⟩
      · rw [if_neg c3]
        by_cases c4 : k_markOf N K A x (1 : Int32) = (1 : Int32)
        · rw [if_pos c4]; exact Or.inr ⟨1, by decide, rfl⟩
        · rw [if_neg c4]; exact Or.inl rfl
  · rw [if_neg c1]; exact Or.inl rfl
theorem doorLoss_v {N K : Nat} {A : Nat → Nat → Int32} (x mk : Int32) : k_doorLoss N K A x mk = (-1 : Int32) ∨ ∃ w : Nat, w ≤ 3 ∧ k_doorLoss N K A x mk = nI w := by
  rw [k_doorLoss]
  by_cases c1 : k_isDoor N K A x = (0 : Int32)
  · rw [if_pos c1]; exact Or.inl rfl
  · rw [if_neg c1]
    by_cases c2 : A (8 + (0 : Int32).toNatClampNeg) x.toNatClampNeg = (1 : Int32)
    · rw [if_pos c2]
      by_cases c3 : mk = (3 : Int32)
      · rw [if_pos c3]; exact Or.inr ⟨1, by decide, rfl⟩
      · rw [if_neg c3]; exact Or.inr ⟨2, by decide, rfl⟩
    · rw [if_neg c2]
      by_cases c3 : mk = (3 : Int32)
      · rw [if_pos c3]; exact Or.inr ⟨3, by decide, rfl⟩
      · rw [if_neg c3]
        by_cases c4 : A (8 + (1 : Int32).toNatClampNeg) x.toNatClampNeg = (1 : Int32)
        · rw [if_pos c4]; exact Or.inr ⟨3, by decide, rfl⟩
        · rw [if_neg c4]; exact Or.inl rfl
theorem spaceOf_v {N K : Nat} {A : Nat → Nat → Int32} (hN : N ≤ 30) (x : Int32) : k_spaceOf N K A x = (-1 : Int32) ∨ ∃ t : Nat, t < N ∧ k_spaceOf N K A x = nI t := by
  by_cases c : k_spaceOf N K A x = (-1 : Int32)
  · exact Or.inl c
  · exact Or.inr (isThing_j hN (isSpace_T (spaceOf_S c)))
/-- the levels are these numbers -/
def lvs (N : Nat) (A : Nat → Nat → Int32) (L : Nat → Nat) : Prop := ∀ x, x < N → A 10 x = nI (L x) ∧ L x ≤ 1000
theorem nI_subLe {a w c : Nat} (ha : a ≤ 1000) (hw : w ≤ 3) (hc : c ≤ 1000) : nI a - nI w ≤ nI c ↔ a - w ≤ c := by
  rw [Int32.le_iff_toInt_le, pk_sub_toInt (by omega) (by omega), nI_toInt (by omega)]
  omega
theorem lvs_up {N : Nat} {A : Nat → Nat → Int32} {L : Nat → Nat} (h : lvs N A L) (j v : Nat) (hv : v ≤ 1000) : lvs N (sU A 10 j (nI v)) (va_up L j v) := by
  intro x hx
  rw [sU_same]
  by_cases e : x = j
  · subst e
    rw [pk_us, va_up_self]
    exact ⟨rfl, hv⟩
  · rw [pk_un e, va_up_ne _ _ e]
    exact h x hx
theorem spreadOver_rx {N K : Nat} {A : Nat → Nat → Int32} {L : Nat → Nat} (hN : N ≤ 30) (h : lvs N A L) {i j w : Nat} (hi : i < N) (hj : j < N) (hw : w ≤ 3) :
    (k_spreadOver N K A (nI i) (nI j) (nI w)).1 = (if rxc L i j w = true then (1 : Int32) else (0 : Int32)) ∧ eqv A (k_spreadOver N K A (nI i) (nI j) (nI w)).2 ∧ lvs N (k_spreadOver N K A (nI i) (nI j) (nI w)).2 (rx L i j w) := by
  rw [k_spreadOver, if_neg (isThing_n0 hN hi), if_neg (isThing_n0 hN hj), nI_clamp (by omega), nI_clamp (by omega), (h i hi).1, (h j hj).1]
  unfold rxc rx
  by_cases c1 : L i - w ≤ L j
  · rw [if_pos ((nI_subLe (h i hi).2 hw (h j hj).2).mpr c1), if_pos c1, if_pos c1]
    by_cases c2 : L j - w ≤ L i
    · rw [if_pos ((nI_subLe (h j hj).2 hw (h i hi).2).mpr c2), if_pos c2, if_pos c2]
      exact ⟨rfl, eqv.rf, h⟩
    · rw [if_neg (fun q => c2 ((nI_subLe (h j hj).2 hw (h i hi).2).mp q)), if_neg c2, if_neg c2, pk_sub (by omega)]
      exact ⟨rfl, eqv_sU _ _ _, lvs_up h _ _ (by have := (h j hj).2; omega)⟩
  · rw [if_neg (fun q => c1 ((nI_subLe (h i hi).2 hw (h j hj).2).mp q)), if_neg c1, if_neg c1, pk_sub (by omega)]
    exact ⟨rfl, eqv_sU _ _ _, lvs_up h _ _ (by have := (h i hi).2; omega)⟩
theorem spreadOver_m1 {N K : Nat} {A : Nat → Nat → Int32} (x w : Int32) : k_spreadOver N K A x (-1 : Int32) w = ((0 : Int32), A) := by
  rw [k_spreadOver]
  by_cases c : k_isThing N K A x = (0 : Int32)
  · rw [if_pos c]
  · rw [if_neg c, if_pos isThing_m1]
/-- the edge of a wall; of a door -/
def kw1 (N K : Nat) (A : Nat → Nat → Int32) (mk : Int32) (i : Nat) : List (Nat × Nat × Nat) := if k_wallLoss N K A (nI i) mk = (-1 : Int32) then [] else if k_spaceOf N K A (nI i) = (-1 : Int32) then [] else [(i, (k_spaceOf N K A (nI i)).toNatClampNeg, (k_wallLoss N K A (nI i) mk).toNatClampNeg)]
def kd1 (N K : Nat) (A : Nat → Nat → Int32) (mk : Int32) (i : Nat) : List (Nat × Nat × Nat) := if k_doorLoss N K A (nI i) mk = (-1 : Int32) then [] else [((A 6 i).toNatClampNeg, (A 7 i).toNatClampNeg, (k_doorLoss N K A (nI i) mk).toNatClampNeg)]
def kwl (N K : Nat) (A : Nat → Nat → Int32) (mk : Int32) : Nat → Nat → List (Nat × Nat × Nat)
  | 0, _ => []
  | k + 1, i => kw1 N K A mk i ++ kwl N K A mk k (i + 1)
def kdl (N K : Nat) (A : Nat → Nat → Int32) (mk : Int32) : Nat → Nat → List (Nat × Nat × Nat)
  | 0, _ => []
  | k + 1, i => kd1 N K A mk i ++ kdl N K A mk k (i + 1)
theorem rxs_app : ∀ (es fs : List (Nat × Nat × Nat)) (L : Nat → Nat), rxs (es ++ fs) L = rxs fs (rxs es L) := by
  intro es
  induction es with
  | nil => intro fs L; rfl
  | cons q es ih => intro fs L; exact ih fs _
theorem rxsc_app : ∀ (es fs : List (Nat × Nat × Nat)) (L : Nat → Nat) (c : Bool), rxsc (es ++ fs) L c = rxsc fs (rxs es L) (rxsc es L c) := by
  intro es
  induction es with
  | nil => intro fs L c; rfl
  | cons q es ih => intro fs L c; exact ih fs _ _
def b01 (c : Bool) : Int32 := if c = true then (1 : Int32) else (0 : Int32)
theorem b01_0 {c : Bool} : b01 c = (0 : Int32) ↔ c = false := by cases c <;> decide
theorem spread_19_rx {N K : Nat} {A0 : Nat → Nat → Int32} {mk : Int32} (hN : N ≤ 30) : ∀ (k i : Nat) (A : Nat → Nat → Int32) (L : Nat → Nat) (c : Bool), i + k = N → eqv A0 A → lvs N A L →
    eqv A0 (k_spread_19 N K mk k i A (b01 c)).1 ∧ lvs N (k_spread_19 N K mk k i A (b01 c)).1 (rxs (kwl N K A0 mk k i) L) ∧ (k_spread_19 N K mk k i A (b01 c)).2 = b01 (rxsc (kwl N K A0 mk k i) L c) := by
  intro k
  induction k with
  | zero => intro i A L c _ he hl; exact ⟨he, hl, rfl⟩
  | succ k ih =>
    intro i A L c hi he hl
    rw [k_spread_19_S, kwl, rxs_app, rxsc_app, kw1, ev_wallLoss he, ev_spaceOf he]
    by_cases c1 : k_wallLoss N K A0 (nI i) mk = (-1 : Int32)
    · rw [if_pos c1, if_pos c1]
      exact ih (i + 1) A L c (by omega) he hl
    · rw [if_neg c1, if_neg c1]
      rcases wallLoss_v (N := N) (K := K) (A := A0) (nI i) mk with e | ⟨w, hw, ew⟩
      · exact absurd e c1
      · rcases spaceOf_v (N := N) (K := K) (A := A0) hN (nI i) with e | ⟨t, ht, et⟩
        · rw [e, spreadOver_m1, if_pos rfl, if_pos rfl]
          exact ih (i + 1) A L c (by omega) he hl
        · have h0 : ¬ nI t = (-1 : Int32) := fun q => nI_pos (n := t) (by omega) (by rw [q]; decide)
          obtain ⟨h1, h2, h3⟩ := spreadOver_rx (K := K) hN hl (i := i) (j := t) (w := w) (by omega) ht (by omega)
          rw [et, ew, if_neg h0, nI_clamp (by omega), nI_clamp (by omega), h1]
          show _ ∧ _ ∧ _
          by_cases c2 : rxc L i t w = true
          · have e1 : rxsc [(i, t, w)] L c = true := by show (c || rxc L i t w) = true; rw [c2, Bool.or_true]
            rw [if_pos c2, if_neg (by decide), e1]
            exact ih (i + 1) _ _ true (by omega) (he.tr h2) h3
          · have c3 : rxc L i t w = false := by cases h : rxc L i t w with | true => exact absurd h c2 | false => rfl
            have e1 : rxsc [(i, t, w)] L c = c := by show (c || rxc L i t w) = c; rw [c3, Bool.or_false]
            rw [if_neg c2, if_pos rfl, e1]
            exact ih (i + 1) _ _ c (by omega) (he.tr h2) h3
/-- the doors lead from room to room -/
def drs (N K : Nat) (A : Nat → Nat → Int32) : Prop := ∀ d, d < K → ∃ f t : Nat, f < N ∧ t < N ∧ A 6 d = nI f ∧ A 7 d = nI t
theorem spread_71_rx {N K : Nat} {A0 : Nat → Nat → Int32} {mk : Int32} (hN : N ≤ 30) (hK : K ≤ 10) (hd : drs N K A0) : ∀ (k i : Nat) (A : Nat → Nat → Int32) (L : Nat → Nat) (c : Bool), i + k = K → eqv A0 A → lvs N A L →
    eqv A0 (k_spread_71 N K mk k i A (b01 c)).1 ∧ lvs N (k_spread_71 N K mk k i A (b01 c)).1 (rxs (kdl N K A0 mk k i) L) ∧ (k_spread_71 N K mk k i A (b01 c)).2 = b01 (rxsc (kdl N K A0 mk k i) L c) := by
  intro k
  induction k with
  | zero => intro i A L c _ he hl; exact ⟨he, hl, rfl⟩
  | succ k ih =>
    intro i A L c hi he hl
    rw [k_spread_71_S, kdl, rxs_app, rxsc_app, kd1, ev_doorLoss he, he 6 (by decide), he 7 (by decide), nI_clamp (n := i) (by omega)]
    by_cases c1 : k_doorLoss N K A0 (nI i) mk = (-1 : Int32)
    · rw [if_pos c1, if_pos c1]
      exact ih (i + 1) A L c (by omega) he hl
    · rw [if_neg c1, if_neg c1]
      rcases doorLoss_v (N := N) (K := K) (A := A0) (nI i) mk with e | ⟨w, hw, ew⟩
      · exact absurd e c1
      · obtain ⟨f, t, hf, ht, ef, et⟩ := hd i (by omega)
        obtain ⟨h1, h2, h3⟩ := spreadOver_rx (K := K) hN hl (i := f) (j := t) (w := w) hf ht hw
        rw [ef, et, ew, nI_clamp (by omega), nI_clamp (by omega), nI_clamp (by omega), h1]
        show _ ∧ _ ∧ _
        by_cases c2 : rxc L f t w = true
        · have e1 : rxsc [(f, t, w)] L c = true := by show (c || rxc L f t w) = true; rw [c2, Bool.or_true]
          rw [if_pos c2, if_neg (by decide), e1]
          exact ih (i + 1) _ _ true (by omega) (he.tr h2) h3
        · have c3 : rxc L f t w = false := by cases h : rxc L f t w with | true => exact absurd h c2 | false => rfl
          have e1 : rxsc [(f, t, w)] L c = c := by show (c || rxc L f t w) = c; rw [c3, Bool.or_false]
          rw [if_neg c2, if_pos rfl, e1]
          exact ih (i + 1) _ _ c (by omega) (he.tr h2) h3
theorem spread_4_rx {N K : Nat} {A0 : Nat → Nat → Int32} {mk : Int32} (hN : N ≤ 30) (hK : K ≤ 10) (hd : drs N K A0) : ∀ (k i : Nat) (A : Nat → Nat → Int32) (L : Nat → Nat) (c : Bool), eqv A0 A → lvs N A L →
    eqv A0 (k_spread_4 N K mk k i A (b01 c)) ∧ lvs N (k_spread_4 N K mk k i A (b01 c)) (rxr (kwl N K A0 mk N 0 ++ kdl N K A0 mk K 0) k L c) := by
  intro k
  induction k with
  | zero => intro i A L c he hl; exact ⟨he, hl⟩
  | succ k ih =>
    intro i A L c he hl
    rw [k_spread_4_S, rxr]
    by_cases c1 : c = false
    · rw [if_pos (b01_0.mpr c1), if_pos c1]
      exact ⟨he, hl⟩
    · obtain ⟨h1, h2, h3⟩ := spread_19_rx (mk := mk) hN N 0 A L false (by omega) he hl
      obtain ⟨h4, h5, h6⟩ := spread_71_rx (mk := mk) hN hK hd K 0 _ _ (rxsc (kwl N K A0 mk N 0) L false) (by omega) h1 h2
      rw [if_neg (fun q => c1 (b01_0.mp q)), if_neg c1, show (0 : Int32) = b01 false from rfl, h3, h6, rxs_app, rxsc_app]
      exact ih (i + 1) _ _ _ h4 h5
theorem spread_rx {N K : Nat} {A : Nat → Nat → Int32} {L : Nat → Nat} {mk : Int32} (hN : N ≤ 30) (hK : K ≤ 10) (hd : drs N K A) (hl : lvs N A L) :
    eqv A (k_spread N K A mk) ∧ lvs N (k_spread N K A mk) (rxr (kwl N K A mk N 0 ++ kdl N K A mk K 0) 30 L true) := spread_4_rx hN hK hd 30 0 A L true eqv.rf hl
end
section
theorem d_M_init_0 : decode b_M_init 0 = .ok (.aload_n 0, 1) := by decide +kernel
theorem d_M_init_1 : decode b_M_init 1 = .ok (.invokespecial 1, 3) := by decide +kernel
theorem d_M_init_4 : decode b_M_init 4 = .ok (.aload_n 0, 1) := by decide +kernel
theorem d_M_init_5 : decode b_M_init 5 = .ok (.bipush 30, 2) := by decide +kernel
theorem d_M_init_7 : decode b_M_init 7 = .ok (.newarray .int, 2) := by decide +kernel
theorem d_M_init_9 : decode b_M_init 9 = .ok (.putfield 7, 3) := by decide +kernel
theorem d_M_init_12 : decode b_M_init 12 = .ok (.aload_n 0, 1) := by decide +kernel
theorem d_M_init_13 : decode b_M_init 13 = .ok (.bipush 30, 2) := by decide +kernel
theorem d_M_init_15 : decode b_M_init 15 = .ok (.newarray .int, 2) := by decide +kernel
theorem d_M_init_17 : decode b_M_init 17 = .ok (.putfield 13, 3) := by decide +kernel
theorem d_M_init_20 : decode b_M_init 20 = .ok (.aload_n 0, 1) := by decide +kernel
theorem d_M_init_21 : decode b_M_init 21 = .ok (.bipush 120, 2) := by decide +kernel
theorem d_M_init_23 : decode b_M_init 23 = .ok (.newarray .int, 2) := by decide +kernel
theorem d_M_init_25 : decode b_M_init 25 = .ok (.putfield 16, 3) := by decide +kernel
theorem d_M_init_28 : decode b_M_init 28 = .ok (.aload_n 0, 1) := by decide +kernel
theorem d_M_init_29 : decode b_M_init 29 = .ok (.bipush 10, 2) := by decide +kernel
theorem d_M_init_31 : decode b_M_init 31 = .ok (.newarray .int, 2) := by decide +kernel
theorem d_M_init_33 : decode b_M_init 33 = .ok (.putfield 19, 3) := by decide +kernel
theorem d_M_init_36 : decode b_M_init 36 = .ok (.aload_n 0, 1) := by decide +kernel
theorem d_M_init_37 : decode b_M_init 37 = .ok (.bipush 10, 2) := by decide +kernel
theorem d_M_init_39 : decode b_M_init 39 = .ok (.newarray .int, 2) := by decide +kernel
theorem d_M_init_41 : decode b_M_init 41 = .ok (.putfield 22, 3) := by decide +kernel
theorem d_M_init_44 : decode b_M_init 44 = .ok (.aload_n 0, 1) := by decide +kernel
theorem d_M_init_45 : decode b_M_init 45 = .ok (.bipush 10, 2) := by decide +kernel
theorem d_M_init_47 : decode b_M_init 47 = .ok (.newarray .int, 2) := by decide +kernel
theorem d_M_init_49 : decode b_M_init 49 = .ok (.putfield 25, 3) := by decide +kernel
theorem d_M_init_52 : decode b_M_init 52 = .ok (.aload_n 0, 1) := by decide +kernel
theorem d_M_init_53 : decode b_M_init 53 = .ok (.bipush 10, 2) := by decide +kernel
theorem d_M_init_55 : decode b_M_init 55 = .ok (.newarray .int, 2) := by decide +kernel
theorem d_M_init_57 : decode b_M_init 57 = .ok (.putfield 28, 3) := by decide +kernel
theorem d_M_init_60 : decode b_M_init 60 = .ok (.aload_n 0, 1) := by decide +kernel
theorem d_M_init_61 : decode b_M_init 61 = .ok (.bipush 30, 2) := by decide +kernel
theorem d_M_init_63 : decode b_M_init 63 = .ok (.newarray .int, 2) := by decide +kernel
theorem d_M_init_65 : decode b_M_init 65 = .ok (.putfield 31, 3) := by decide +kernel
theorem d_M_init_68 : decode b_M_init 68 = .ok (.aload_n 0, 1) := by decide +kernel
theorem d_M_init_69 : decode b_M_init 69 = .ok (.bipush 30, 2) := by decide +kernel
theorem d_M_init_71 : decode b_M_init 71 = .ok (.newarray .int, 2) := by decide +kernel
theorem d_M_init_73 : decode b_M_init 73 = .ok (.putfield 34, 3) := by decide +kernel
theorem d_M_init_76 : decode b_M_init 76 = .ok (.aload_n 0, 1) := by decide +kernel
theorem d_M_init_77 : decode b_M_init 77 = .ok (.sipush 900, 3) := by decide +kernel
theorem d_M_init_80 : decode b_M_init 80 = .ok (.newarray .int, 2) := by decide +kernel
theorem d_M_init_82 : decode b_M_init 82 = .ok (.putfield 37, 3) := by decide +kernel
theorem d_M_init_85 : decode b_M_init 85 = .ok (.aload_n 0, 1) := by decide +kernel
theorem d_M_init_86 : decode b_M_init 86 = .ok (.sipush 900, 3) := by decide +kernel
theorem d_M_init_89 : decode b_M_init 89 = .ok (.newarray .boolean, 2) := by decide +kernel
theorem d_M_init_91 : decode b_M_init 91 = .ok (.putfield 40, 3) := by decide +kernel
theorem d_M_init_94 : decode b_M_init 94 = .ok (.aload_n 0, 1) := by decide +kernel
theorem d_M_init_95 : decode b_M_init 95 = .ok (.bipush 30, 2) := by decide +kernel
theorem d_M_init_97 : decode b_M_init 97 = .ok (.newarray .boolean, 2) := by decide +kernel
theorem d_M_init_99 : decode b_M_init 99 = .ok (.putfield 44, 3) := by decide +kernel
theorem d_M_init_102 : decode b_M_init 102 = .ok (.aload_n 0, 1) := by decide +kernel
theorem d_M_init_103 : decode b_M_init 103 = .ok (.iconst 0, 1) := by decide +kernel
theorem d_M_init_104 : decode b_M_init 104 = .ok (.putfield 47, 3) := by decide +kernel
theorem d_M_init_107 : decode b_M_init 107 = .ok (.return_, 1) := by decide +kernel
theorem d_M_in_0 : decode b_M_in 0 = .ok (.iload_n 0, 1) := by decide +kernel
theorem d_M_in_1 : decode b_M_in 1 = .ok (.iload_n 1, 1) := by decide +kernel
theorem d_M_in_2 : decode b_M_in 2 = .ok (.if_icmp .lt 12, 3) := by decide +kernel
theorem d_M_in_5 : decode b_M_in 5 = .ok (.iload_n 0, 1) := by decide +kernel
theorem d_M_in_6 : decode b_M_in 6 = .ok (.iload_n 2, 1) := by decide +kernel
theorem d_M_in_7 : decode b_M_in 7 = .ok (.if_icmp .gt 7, 3) := by decide +kernel
theorem d_M_in_10 : decode b_M_in 10 = .ok (.iconst 1, 1) := by decide +kernel
theorem d_M_in_11 : decode b_M_in 11 = .ok (.goto 4, 3) := by decide +kernel
theorem d_M_in_14 : decode b_M_in 14 = .ok (.iconst 0, 1) := by decide +kernel
theorem d_M_in_15 : decode b_M_in 15 = .ok (.ireturn, 1) := by decide +kernel
theorem d_M_isThing_0 : decode b_M_isThing 0 = .ok (.iload_n 1, 1) := by decide +kernel
theorem d_M_isThing_1 : decode b_M_isThing 1 = .ok (.iconst 0, 1) := by decide +kernel
theorem d_M_isThing_2 : decode b_M_isThing 2 = .ok (.aload_n 0, 1) := by decide +kernel
theorem d_M_isThing_3 : decode b_M_isThing 3 = .ok (.getfield 47, 3) := by decide +kernel
theorem d_M_isThing_6 : decode b_M_isThing 6 = .ok (.iconst 1, 1) := by decide +kernel
theorem d_M_isThing_7 : decode b_M_isThing 7 = .ok (.isub, 1) := by decide +kernel
theorem d_M_isThing_8 : decode b_M_isThing 8 = .ok (.invokestatic 51, 3) := by decide +kernel
theorem d_M_isThing_11 : decode b_M_isThing 11 = .ok (.ireturn, 1) := by decide +kernel
theorem d_M_isOf_0 : decode b_M_isOf 0 = .ok (.aload_n 0, 1) := by decide +kernel
theorem d_M_isOf_1 : decode b_M_isOf 1 = .ok (.iload_n 1, 1) := by decide +kernel
theorem d_M_isOf_2 : decode b_M_isOf 2 = .ok (.invokevirtual 55, 3) := by decide +kernel
theorem d_M_isOf_5 : decode b_M_isOf 5 = .ok (.ifCond .eq 17, 3) := by decide +kernel
theorem d_M_isOf_8 : decode b_M_isOf 8 = .ok (.aload_n 0, 1) := by decide +kernel
theorem d_M_isOf_9 : decode b_M_isOf 9 = .ok (.getfield 7, 3) := by decide +kernel
theorem d_M_isOf_12 : decode b_M_isOf 12 = .ok (.iload_n 1, 1) := by decide +kernel
theorem d_M_isOf_13 : decode b_M_isOf 13 = .ok (.iaload, 1) := by decide +kernel
theorem d_M_isOf_14 : decode b_M_isOf 14 = .ok (.iload_n 2, 1) := by decide +kernel
theorem d_M_isOf_15 : decode b_M_isOf 15 = .ok (.if_icmp .ne 7, 3) := by decide +kernel
theorem d_M_isOf_18 : decode b_M_isOf 18 = .ok (.iconst 1, 1) := by decide +kernel
theorem d_M_isOf_19 : decode b_M_isOf 19 = .ok (.goto 4, 3) := by decide +kernel
theorem d_M_isOf_22 : decode b_M_isOf 22 = .ok (.iconst 0, 1) := by decide +kernel
theorem d_M_isOf_23 : decode b_M_isOf 23 = .ok (.ireturn, 1) := by decide +kernel
theorem d_M_isSpace_0 : decode b_M_isSpace 0 = .ok (.aload_n 0, 1) := by decide +kernel
theorem d_M_isSpace_1 : decode b_M_isSpace 1 = .ok (.iload_n 1, 1) := by decide +kernel
theorem d_M_isSpace_2 : decode b_M_isSpace 2 = .ok (.iconst 0, 1) := by decide +kernel
theorem d_M_isSpace_3 : decode b_M_isSpace 3 = .ok (.invokevirtual 59, 3) := by decide +kernel
theorem d_M_isSpace_6 : decode b_M_isSpace 6 = .ok (.ifCond .ne 12, 3) := by decide +kernel
theorem d_M_isSpace_9 : decode b_M_isSpace 9 = .ok (.aload_n 0, 1) := by decide +kernel
theorem d_M_isSpace_10 : decode b_M_isSpace 10 = .ok (.iload_n 1, 1) := by decide +kernel
theorem d_M_isSpace_11 : decode b_M_isSpace 11 = .ok (.iconst 1, 1) := by decide +kernel
theorem d_M_isSpace_12 : decode b_M_isSpace 12 = .ok (.invokevirtual 59, 3) := by decide +kernel
theorem d_M_isSpace_15 : decode b_M_isSpace 15 = .ok (.ifCond .eq 7, 3) := by decide +kernel
theorem d_M_isSpace_18 : decode b_M_isSpace 18 = .ok (.iconst 1, 1) := by decide +kernel
theorem d_M_isSpace_19 : decode b_M_isSpace 19 = .ok (.goto 4, 3) := by decide +kernel
theorem d_M_isSpace_22 : decode b_M_isSpace 22 = .ok (.iconst 0, 1) := by decide +kernel
theorem d_M_isSpace_23 : decode b_M_isSpace 23 = .ok (.ireturn, 1) := by decide +kernel
theorem d_M_isDoor_0 : decode b_M_isDoor 0 = .ok (.iload_n 1, 1) := by decide +kernel
theorem d_M_isDoor_1 : decode b_M_isDoor 1 = .ok (.iconst 0, 1) := by decide +kernel
theorem d_M_isDoor_2 : decode b_M_isDoor 2 = .ok (.aload_n 0, 1) := by decide +kernel
theorem d_M_isDoor_3 : decode b_M_isDoor 3 = .ok (.getfield 63, 3) := by decide +kernel
theorem d_M_isDoor_6 : decode b_M_isDoor 6 = .ok (.iconst 1, 1) := by decide +kernel
theorem d_M_isDoor_7 : decode b_M_isDoor 7 = .ok (.isub, 1) := by decide +kernel
theorem d_M_isDoor_8 : decode b_M_isDoor 8 = .ok (.invokestatic 51, 3) := by decide +kernel
theorem d_M_isDoor_11 : decode b_M_isDoor 11 = .ok (.ireturn, 1) := by decide +kernel
theorem d_M_thing_0 : decode b_M_thing 0 = .ok (.iload_n 1, 1) := by decide +kernel
theorem d_M_thing_1 : decode b_M_thing 1 = .ok (.iconst 0, 1) := by decide +kernel
theorem d_M_thing_2 : decode b_M_thing 2 = .ok (.iconst 4, 1) := by decide +kernel
theorem d_M_thing_3 : decode b_M_thing 3 = .ok (.invokestatic 51, 3) := by decide +kernel
theorem d_M_thing_6 : decode b_M_thing 6 = .ok (.ifCond .ne 6, 3) := by decide +kernel
theorem d_M_thing_9 : decode b_M_thing 9 = .ok (.bipush (-3), 2) := by decide +kernel
theorem d_M_thing_11 : decode b_M_thing 11 = .ok (.ireturn, 1) := by decide +kernel
theorem d_M_thing_12 : decode b_M_thing 12 = .ok (.aload_n 0, 1) := by decide +kernel
theorem d_M_thing_13 : decode b_M_thing 13 = .ok (.getfield 47, 3) := by decide +kernel
theorem d_M_thing_16 : decode b_M_thing 16 = .ok (.bipush 30, 2) := by decide +kernel
theorem d_M_thing_18 : decode b_M_thing 18 = .ok (.if_icmp .ne 6, 3) := by decide +kernel
theorem d_M_thing_21 : decode b_M_thing 21 = .ok (.bipush (-7), 2) := by decide +kernel
theorem d_M_thing_23 : decode b_M_thing 23 = .ok (.ireturn, 1) := by decide +kernel
theorem d_M_thing_24 : decode b_M_thing 24 = .ok (.aload_n 0, 1) := by decide +kernel
theorem d_M_thing_25 : decode b_M_thing 25 = .ok (.getfield 7, 3) := by decide +kernel
theorem d_M_thing_28 : decode b_M_thing 28 = .ok (.aload_n 0, 1) := by decide +kernel
theorem d_M_thing_29 : decode b_M_thing 29 = .ok (.getfield 47, 3) := by decide +kernel
theorem d_M_thing_32 : decode b_M_thing 32 = .ok (.iload_n 1, 1) := by decide +kernel
theorem d_M_thing_33 : decode b_M_thing 33 = .ok (.iastore, 1) := by decide +kernel
theorem d_M_thing_34 : decode b_M_thing 34 = .ok (.aload_n 0, 1) := by decide +kernel
theorem d_M_thing_35 : decode b_M_thing 35 = .ok (.getfield 13, 3) := by decide +kernel
theorem d_M_thing_38 : decode b_M_thing 38 = .ok (.aload_n 0, 1) := by decide +kernel
theorem d_M_thing_39 : decode b_M_thing 39 = .ok (.getfield 47, 3) := by decide +kernel
theorem d_M_thing_42 : decode b_M_thing 42 = .ok (.iconst (-1), 1) := by decide +kernel
theorem d_M_thing_43 : decode b_M_thing 43 = .ok (.iastore, 1) := by decide +kernel
theorem d_M_thing_44 : decode b_M_thing 44 = .ok (.iconst 0, 1) := by decide +kernel
theorem d_M_thing_45 : decode b_M_thing 45 = .ok (.istore_n 2, 1) := by decide +kernel
theorem d_M_thing_46 : decode b_M_thing 46 = .ok (.iload_n 2, 1) := by decide +kernel
theorem d_M_thing_47 : decode b_M_thing 47 = .ok (.iconst 4, 1) := by decide +kernel
theorem d_M_thing_48 : decode b_M_thing 48 = .ok (.if_icmp .ge 23, 3) := by decide +kernel
theorem d_M_thing_51 : decode b_M_thing 51 = .ok (.aload_n 0, 1) := by decide +kernel
theorem d_M_thing_52 : decode b_M_thing 52 = .ok (.getfield 16, 3) := by decide +kernel
theorem d_M_thing_55 : decode b_M_thing 55 = .ok (.iconst 4, 1) := by decide +kernel
theorem d_M_thing_56 : decode b_M_thing 56 = .ok (.aload_n 0, 1) := by decide +kernel
theorem d_M_thing_57 : decode b_M_thing 57 = .ok (.getfield 47, 3) := by decide +kernel
theorem d_M_thing_60 : decode b_M_thing 60 = .ok (.imul, 1) := by decide +kernel
theorem d_M_thing_61 : decode b_M_thing 61 = .ok (.iload_n 2, 1) := by decide +kernel
theorem d_M_thing_62 : decode b_M_thing 62 = .ok (.iadd, 1) := by decide +kernel
theorem d_M_thing_63 : decode b_M_thing 63 = .ok (.iconst 0, 1) := by decide +kernel
theorem d_M_thing_64 : decode b_M_thing 64 = .ok (.iastore, 1) := by decide +kernel
theorem d_M_thing_65 : decode b_M_thing 65 = .ok (.iinc 2 1, 3) := by decide +kernel
theorem d_M_thing_68 : decode b_M_thing 68 = .ok (.goto (-22), 3) := by decide +kernel
theorem d_M_thing_71 : decode b_M_thing 71 = .ok (.aload_n 0, 1) := by decide +kernel
theorem d_M_thing_72 : decode b_M_thing 72 = .ok (.dup, 1) := by decide +kernel
theorem d_M_thing_73 : decode b_M_thing 73 = .ok (.getfield 47, 3) := by decide +kernel
theorem d_M_thing_76 : decode b_M_thing 76 = .ok (.iconst 1, 1) := by decide +kernel
theorem d_M_thing_77 : decode b_M_thing 77 = .ok (.iadd, 1) := by decide +kernel
theorem d_M_thing_78 : decode b_M_thing 78 = .ok (.putfield 47, 3) := by decide +kernel
theorem d_M_thing_81 : decode b_M_thing 81 = .ok (.aload_n 0, 1) := by decide +kernel
theorem d_M_thing_82 : decode b_M_thing 82 = .ok (.getfield 47, 3) := by decide +kernel
theorem d_M_thing_85 : decode b_M_thing 85 = .ok (.iconst 1, 1) := by decide +kernel
theorem d_M_thing_86 : decode b_M_thing 86 = .ok (.isub, 1) := by decide +kernel
theorem d_M_thing_87 : decode b_M_thing 87 = .ok (.ireturn, 1) := by decide +kernel
theorem d_M_clear_0 : decode b_M_clear 0 = .ok (.aload_n 0, 1) := by decide +kernel
theorem d_M_clear_1 : decode b_M_clear 1 = .ok (.getfield 47, 3) := by decide +kernel
theorem d_M_clear_4 : decode b_M_clear 4 = .ok (.istore_n 1, 1) := by decide +kernel
theorem d_M_clear_5 : decode b_M_clear 5 = .ok (.aload_n 0, 1) := by decide +kernel
theorem d_M_clear_6 : decode b_M_clear 6 = .ok (.iconst 0, 1) := by decide +kernel
theorem d_M_clear_7 : decode b_M_clear 7 = .ok (.putfield 47, 3) := by decide +kernel
theorem d_M_clear_10 : decode b_M_clear 10 = .ok (.aload_n 0, 1) := by decide +kernel
theorem d_M_clear_11 : decode b_M_clear 11 = .ok (.iconst 0, 1) := by decide +kernel
theorem d_M_clear_12 : decode b_M_clear 12 = .ok (.putfield 63, 3) := by decide +kernel
theorem d_M_clear_15 : decode b_M_clear 15 = .ok (.iload_n 1, 1) := by decide +kernel
theorem d_M_clear_16 : decode b_M_clear 16 = .ok (.ireturn, 1) := by decide +kernel
theorem d_M_isWithin_0 : decode b_M_isWithin 0 = .ok (.aload_n 0, 1) := by decide +kernel
theorem d_M_isWithin_1 : decode b_M_isWithin 1 = .ok (.getfield 13, 3) := by decide +kernel
theorem d_M_isWithin_4 : decode b_M_isWithin 4 = .ok (.iload_n 1, 1) := by decide +kernel
theorem d_M_isWithin_5 : decode b_M_isWithin 5 = .ok (.iaload, 1) := by decide +kernel
theorem d_M_isWithin_6 : decode b_M_isWithin 6 = .ok (.istore_n 3, 1) := by decide +kernel
theorem d_M_isWithin_7 : decode b_M_isWithin 7 = .ok (.iload_n 3, 1) := by decide +kernel
theorem d_M_isWithin_8 : decode b_M_isWithin 8 = .ok (.iconst (-1), 1) := by decide +kernel
theorem d_M_isWithin_9 : decode b_M_isWithin 9 = .ok (.if_icmp .eq 18, 3) := by decide +kernel
theorem d_M_isWithin_12 : decode b_M_isWithin 12 = .ok (.iload_n 3, 1) := by decide +kernel
theorem d_M_isWithin_13 : decode b_M_isWithin 13 = .ok (.iload_n 2, 1) := by decide +kernel
theorem d_M_isWithin_14 : decode b_M_isWithin 14 = .ok (.if_icmp .eq 13, 3) := by decide +kernel
theorem d_M_isWithin_17 : decode b_M_isWithin 17 = .ok (.aload_n 0, 1) := by decide +kernel
theorem d_M_isWithin_18 : decode b_M_isWithin 18 = .ok (.getfield 13, 3) := by decide +kernel
theorem d_M_isWithin_21 : decode b_M_isWithin 21 = .ok (.iload_n 3, 1) := by decide +kernel
theorem d_M_isWithin_22 : decode b_M_isWithin 22 = .ok (.iaload, 1) := by decide +kernel
theorem d_M_isWithin_23 : decode b_M_isWithin 23 = .ok (.istore_n 3, 1) := by decide +kernel
theorem d_M_isWithin_24 : decode b_M_isWithin 24 = .ok (.goto (-17), 3) := by decide +kernel
theorem d_M_isWithin_27 : decode b_M_isWithin 27 = .ok (.iload_n 3, 1) := by decide +kernel
theorem d_M_isWithin_28 : decode b_M_isWithin 28 = .ok (.iload_n 2, 1) := by decide +kernel
theorem d_M_isWithin_29 : decode b_M_isWithin 29 = .ok (.if_icmp .ne 12, 3) := by decide +kernel
theorem d_M_isWithin_32 : decode b_M_isWithin 32 = .ok (.iload_n 2, 1) := by decide +kernel
theorem d_M_isWithin_33 : decode b_M_isWithin 33 = .ok (.iconst (-1), 1) := by decide +kernel
theorem d_M_isWithin_34 : decode b_M_isWithin 34 = .ok (.if_icmp .eq 7, 3) := by decide +kernel
theorem d_M_isWithin_37 : decode b_M_isWithin 37 = .ok (.iconst 1, 1) := by decide +kernel
theorem d_M_isWithin_38 : decode b_M_isWithin 38 = .ok (.goto 4, 3) := by decide +kernel
theorem d_M_isWithin_41 : decode b_M_isWithin 41 = .ok (.iconst 0, 1) := by decide +kernel
theorem d_M_isWithin_42 : decode b_M_isWithin 42 = .ok (.ireturn, 1) := by decide +kernel
theorem d_M_heldBy_0 : decode b_M_heldBy 0 = .ok (.iconst 0, 1) := by decide +kernel
theorem d_M_heldBy_1 : decode b_M_heldBy 1 = .ok (.istore_n 2, 1) := by decide +kernel
theorem d_M_heldBy_2 : decode b_M_heldBy 2 = .ok (.iconst 0, 1) := by decide +kernel
theorem d_M_heldBy_3 : decode b_M_heldBy 3 = .ok (.istore_n 3, 1) := by decide +kernel
theorem d_M_heldBy_4 : decode b_M_heldBy 4 = .ok (.iload_n 3, 1) := by decide +kernel
theorem d_M_heldBy_5 : decode b_M_heldBy 5 = .ok (.aload_n 0, 1) := by decide +kernel
theorem d_M_heldBy_6 : decode b_M_heldBy 6 = .ok (.getfield 47, 3) := by decide +kernel
theorem d_M_heldBy_9 : decode b_M_heldBy 9 = .ok (.if_icmp .ge 27, 3) := by decide +kernel
theorem d_M_heldBy_12 : decode b_M_heldBy 12 = .ok (.iload_n 2, 1) := by decide +kernel
theorem d_M_heldBy_13 : decode b_M_heldBy 13 = .ok (.aload_n 0, 1) := by decide +kernel
theorem d_M_heldBy_14 : decode b_M_heldBy 14 = .ok (.getfield 13, 3) := by decide +kernel
theorem d_M_heldBy_17 : decode b_M_heldBy 17 = .ok (.iload_n 3, 1) := by decide +kernel
theorem d_M_heldBy_18 : decode b_M_heldBy 18 = .ok (.iaload, 1) := by decide +kernel
theorem d_M_heldBy_19 : decode b_M_heldBy 19 = .ok (.iload_n 1, 1) := by decide +kernel
theorem d_M_heldBy_20 : decode b_M_heldBy 20 = .ok (.if_icmp .ne 7, 3) := by decide +kernel
theorem d_M_heldBy_23 : decode b_M_heldBy 23 = .ok (.iconst 1, 1) := by decide +kernel
theorem d_M_heldBy_24 : decode b_M_heldBy 24 = .ok (.goto 4, 3) := by decide +kernel
theorem d_M_heldBy_27 : decode b_M_heldBy 27 = .ok (.iconst 0, 1) := by decide +kernel
theorem d_M_heldBy_28 : decode b_M_heldBy 28 = .ok (.iadd, 1) := by decide +kernel
theorem d_M_heldBy_29 : decode b_M_heldBy 29 = .ok (.istore_n 2, 1) := by decide +kernel
theorem d_M_heldBy_30 : decode b_M_heldBy 30 = .ok (.iinc 3 1, 3) := by decide +kernel
theorem d_M_heldBy_33 : decode b_M_heldBy 33 = .ok (.goto (-29), 3) := by decide +kernel
theorem d_M_heldBy_36 : decode b_M_heldBy 36 = .ok (.iload_n 2, 1) := by decide +kernel
theorem d_M_heldBy_37 : decode b_M_heldBy 37 = .ok (.ireturn, 1) := by decide +kernel
theorem d_M_hasRoom_0 : decode b_M_hasRoom 0 = .ok (.aload_n 0, 1) := by decide +kernel
theorem d_M_hasRoom_1 : decode b_M_hasRoom 1 = .ok (.getfield 7, 3) := by decide +kernel
theorem d_M_hasRoom_4 : decode b_M_hasRoom 4 = .ok (.iload_n 1, 1) := by decide +kernel
theorem d_M_hasRoom_5 : decode b_M_hasRoom 5 = .ok (.iaload, 1) := by decide +kernel
theorem d_M_hasRoom_6 : decode b_M_hasRoom 6 = .ok (.ifCond .eq 13, 3) := by decide +kernel
theorem d_M_hasRoom_9 : decode b_M_hasRoom 9 = .ok (.aload_n 0, 1) := by decide +kernel
theorem d_M_hasRoom_10 : decode b_M_hasRoom 10 = .ok (.iload_n 1, 1) := by decide +kernel
theorem d_M_hasRoom_11 : decode b_M_hasRoom 11 = .ok (.invokevirtual 66, 3) := by decide +kernel
theorem d_M_hasRoom_14 : decode b_M_hasRoom 14 = .ok (.bipush 8, 2) := by decide +kernel
theorem d_M_hasRoom_16 : decode b_M_hasRoom 16 = .ok (.if_icmp .ge 7, 3) := by decide +kernel
theorem d_M_hasRoom_19 : decode b_M_hasRoom 19 = .ok (.iconst 1, 1) := by decide +kernel
theorem d_M_hasRoom_20 : decode b_M_hasRoom 20 = .ok (.goto 4, 3) := by decide +kernel
theorem d_M_hasRoom_23 : decode b_M_hasRoom 23 = .ok (.iconst 0, 1) := by decide +kernel
theorem d_M_hasRoom_24 : decode b_M_hasRoom 24 = .ok (.ireturn, 1) := by decide +kernel
theorem d_M_put_0 : decode b_M_put 0 = .ok (.aload_n 0, 1) := by decide +kernel
theorem d_M_put_1 : decode b_M_put 1 = .ok (.iload_n 1, 1) := by decide +kernel
theorem d_M_put_2 : decode b_M_put 2 = .ok (.invokevirtual 55, 3) := by decide +kernel
theorem d_M_put_5 : decode b_M_put 5 = .ok (.ifCond .eq 35, 3) := by decide +kernel
theorem d_M_put_8 : decode b_M_put 8 = .ok (.aload_n 0, 1) := by decide +kernel
theorem d_M_put_9 : decode b_M_put 9 = .ok (.getfield 7, 3) := by decide +kernel
theorem d_M_put_12 : decode b_M_put 12 = .ok (.iload_n 1, 1) := by decide +kernel
theorem d_M_put_13 : decode b_M_put 13 = .ok (.iaload, 1) := by decide +kernel
theorem d_M_put_14 : decode b_M_put 14 = .ok (.ifCond .eq 26, 3) := by decide +kernel
theorem d_M_put_17 : decode b_M_put 17 = .ok (.iload_n 2, 1) := by decide +kernel
theorem d_M_put_18 : decode b_M_put 18 = .ok (.iconst (-1), 1) := by decide +kernel
theorem d_M_put_19 : decode b_M_put 19 = .ok (.if_icmp .eq 24, 3) := by decide +kernel
theorem d_M_put_22 : decode b_M_put 22 = .ok (.aload_n 0, 1) := by decide +kernel
theorem d_M_put_23 : decode b_M_put 23 = .ok (.iload_n 2, 1) := by decide +kernel
theorem d_M_put_24 : decode b_M_put 24 = .ok (.invokevirtual 55, 3) := by decide +kernel
theorem d_M_put_27 : decode b_M_put 27 = .ok (.ifCond .eq 13, 3) := by decide +kernel
theorem d_M_put_30 : decode b_M_put 30 = .ok (.aload_n 0, 1) := by decide +kernel
theorem d_M_put_31 : decode b_M_put 31 = .ok (.getfield 7, 3) := by decide +kernel
theorem d_M_put_34 : decode b_M_put 34 = .ok (.iload_n 2, 1) := by decide +kernel
theorem d_M_put_35 : decode b_M_put 35 = .ok (.iaload, 1) := by decide +kernel
theorem d_M_put_36 : decode b_M_put 36 = .ok (.iconst 4, 1) := by decide +kernel
theorem d_M_put_37 : decode b_M_put 37 = .ok (.if_icmp .ne 6, 3) := by decide +kernel
theorem d_M_put_40 : decode b_M_put 40 = .ok (.bipush (-2), 2) := by decide +kernel
theorem d_M_put_42 : decode b_M_put 42 = .ok (.ireturn, 1) := by decide +kernel
theorem d_M_put_43 : decode b_M_put 43 = .ok (.iload_n 2, 1) := by decide +kernel
theorem d_M_put_44 : decode b_M_put 44 = .ok (.iload_n 1, 1) := by decide +kernel
theorem d_M_put_45 : decode b_M_put 45 = .ok (.if_icmp .eq 17, 3) := by decide +kernel
theorem d_M_put_48 : decode b_M_put 48 = .ok (.iload_n 2, 1) := by decide +kernel
theorem d_M_put_49 : decode b_M_put 49 = .ok (.iconst (-1), 1) := by decide +kernel
theorem d_M_put_50 : decode b_M_put 50 = .ok (.if_icmp .eq 15, 3) := by decide +kernel
theorem d_M_put_53 : decode b_M_put 53 = .ok (.aload_n 0, 1) := by decide +kernel
theorem d_M_put_54 : decode b_M_put 54 = .ok (.iload_n 2, 1) := by decide +kernel
theorem d_M_put_55 : decode b_M_put 55 = .ok (.iload_n 1, 1) := by decide +kernel
theorem d_M_put_56 : decode b_M_put 56 = .ok (.invokevirtual 70, 3) := by decide +kernel
theorem d_M_put_59 : decode b_M_put 59 = .ok (.ifCond .eq 6, 3) := by decide +kernel
theorem d_M_put_62 : decode b_M_put 62 = .ok (.bipush (-4), 2) := by decide +kernel
theorem d_M_put_64 : decode b_M_put 64 = .ok (.ireturn, 1) := by decide +kernel
theorem d_M_put_65 : decode b_M_put 65 = .ok (.iload_n 2, 1) := by decide +kernel
theorem d_M_put_66 : decode b_M_put 66 = .ok (.iconst (-1), 1) := by decide +kernel
theorem d_M_put_67 : decode b_M_put 67 = .ok (.if_icmp .eq 24, 3) := by decide +kernel
theorem d_M_put_70 : decode b_M_put 70 = .ok (.aload_n 0, 1) := by decide +kernel
theorem d_M_put_71 : decode b_M_put 71 = .ok (.getfield 13, 3) := by decide +kernel
theorem d_M_put_74 : decode b_M_put 74 = .ok (.iload_n 1, 1) := by decide +kernel
theorem d_M_put_75 : decode b_M_put 75 = .ok (.iaload, 1) := by decide +kernel
theorem d_M_put_76 : decode b_M_put 76 = .ok (.iload_n 2, 1) := by decide +kernel
theorem d_M_put_77 : decode b_M_put 77 = .ok (.if_icmp .eq 14, 3) := by decide +kernel
theorem d_M_put_80 : decode b_M_put 80 = .ok (.aload_n 0, 1) := by decide +kernel
theorem d_M_put_81 : decode b_M_put 81 = .ok (.iload_n 2, 1) := by decide +kernel
theorem d_M_put_82 : decode b_M_put 82 = .ok (.invokevirtual 73, 3) := by decide +kernel
theorem d_M_put_85 : decode b_M_put 85 = .ok (.ifCond .ne 6, 3) := by decide +kernel
theorem d_M_put_88 : decode b_M_put 88 = .ok (.bipush (-7), 2) := by decide +kernel
theorem d_M_put_90 : decode b_M_put 90 = .ok (.ireturn, 1) := by decide +kernel
theorem d_M_put_91 : decode b_M_put 91 = .ok (.aload_n 0, 1) := by decide +kernel
theorem d_M_put_92 : decode b_M_put 92 = .ok (.getfield 13, 3) := by decide +kernel
theorem d_M_put_95 : decode b_M_put 95 = .ok (.iload_n 1, 1) := by decide +kernel
theorem d_M_put_96 : decode b_M_put 96 = .ok (.iaload, 1) := by decide +kernel
theorem d_M_put_97 : decode b_M_put 97 = .ok (.istore_n 3, 1) := by decide +kernel
theorem d_M_put_98 : decode b_M_put 98 = .ok (.aload_n 0, 1) := by decide +kernel
theorem d_M_put_99 : decode b_M_put 99 = .ok (.getfield 13, 3) := by decide +kernel
theorem d_M_put_102 : decode b_M_put 102 = .ok (.iload_n 1, 1) := by decide +kernel
theorem d_M_put_103 : decode b_M_put 103 = .ok (.iload_n 2, 1) := by decide +kernel
theorem d_M_put_104 : decode b_M_put 104 = .ok (.iastore, 1) := by decide +kernel
theorem d_M_put_105 : decode b_M_put 105 = .ok (.iload_n 3, 1) := by decide +kernel
theorem d_M_put_106 : decode b_M_put 106 = .ok (.ireturn, 1) := by decide +kernel
theorem d_M_set_0 : decode b_M_set 0 = .ok (.aload_n 0, 1) := by decide +kernel
theorem d_M_set_1 : decode b_M_set 1 = .ok (.iload_n 1, 1) := by decide +kernel
theorem d_M_set_2 : decode b_M_set 2 = .ok (.invokevirtual 55, 3) := by decide +kernel
theorem d_M_set_5 : decode b_M_set 5 = .ok (.ifCond .eq 22, 3) := by decide +kernel
theorem d_M_set_8 : decode b_M_set 8 = .ok (.iload_n 2, 1) := by decide +kernel
theorem d_M_set_9 : decode b_M_set 9 = .ok (.iconst 0, 1) := by decide +kernel
theorem d_M_set_10 : decode b_M_set 10 = .ok (.iconst 1, 1) := by decide +kernel
theorem d_M_set_11 : decode b_M_set 11 = .ok (.invokestatic 51, 3) := by decide +kernel
theorem d_M_set_14 : decode b_M_set 14 = .ok (.ifCond .eq 16, 3) := by decide +kernel
theorem d_M_set_17 : decode b_M_set 17 = .ok (.aload_n 0, 1) := by decide +kernel
theorem d_M_set_18 : decode b_M_set 18 = .ok (.getfield 7, 3) := by decide +kernel
theorem d_M_set_21 : decode b_M_set 21 = .ok (.iload_n 1, 1) := by decide +kernel
theorem d_M_set_22 : decode b_M_set 22 = .ok (.iaload, 1) := by decide +kernel
theorem d_M_set_23 : decode b_M_set 23 = .ok (.iconst 1, 1) := by decide +kernel
theorem d_M_set_24 : decode b_M_set 24 = .ok (.if_icmp .eq 6, 3) := by decide +kernel
theorem d_M_set_27 : decode b_M_set 27 = .ok (.bipush (-2), 2) := by decide +kernel
theorem d_M_set_29 : decode b_M_set 29 = .ok (.ireturn, 1) := by decide +kernel
theorem d_M_set_30 : decode b_M_set 30 = .ok (.iload_n 2, 1) := by decide +kernel
theorem d_M_set_31 : decode b_M_set 31 = .ok (.iconst 0, 1) := by decide +kernel
theorem d_M_set_32 : decode b_M_set 32 = .ok (.iconst 3, 1) := by decide +kernel
theorem d_M_set_33 : decode b_M_set 33 = .ok (.invokestatic 51, 3) := by decide +kernel
theorem d_M_set_36 : decode b_M_set 36 = .ok (.ifCond .eq 22, 3) := by decide +kernel
theorem d_M_set_39 : decode b_M_set 39 = .ok (.iload_n 3, 1) := by decide +kernel
theorem d_M_set_40 : decode b_M_set 40 = .ok (.iconst 0, 1) := by decide +kernel
theorem d_M_set_41 : decode b_M_set 41 = .ok (.iload_n 2, 1) := by decide +kernel
theorem d_M_set_42 : decode b_M_set 42 = .ok (.iconst 2, 1) := by decide +kernel
theorem d_M_set_43 : decode b_M_set 43 = .ok (.if_icmp .ge 7, 3) := by decide +kernel
theorem d_M_set_46 : decode b_M_set 46 = .ok (.iconst 1, 1) := by decide +kernel
theorem d_M_set_47 : decode b_M_set 47 = .ok (.goto 5, 3) := by decide +kernel
theorem d_M_set_50 : decode b_M_set 50 = .ok (.bipush 9, 2) := by decide +kernel
theorem d_M_set_52 : decode b_M_set 52 = .ok (.invokestatic 51, 3) := by decide +kernel
theorem d_M_set_55 : decode b_M_set 55 = .ok (.ifCond .ne 6, 3) := by decide +kernel
theorem d_M_set_58 : decode b_M_set 58 = .ok (.bipush (-3), 2) := by decide +kernel
theorem d_M_set_60 : decode b_M_set 60 = .ok (.ireturn, 1) := by decide +kernel
theorem d_M_set_61 : decode b_M_set 61 = .ok (.aload_n 0, 1) := by decide +kernel
theorem d_M_set_62 : decode b_M_set 62 = .ok (.getfield 16, 3) := by decide +kernel
theorem d_M_set_65 : decode b_M_set 65 = .ok (.iconst 4, 1) := by decide +kernel
theorem d_M_set_66 : decode b_M_set 66 = .ok (.iload_n 1, 1) := by decide +kernel
theorem d_M_set_67 : decode b_M_set 67 = .ok (.imul, 1) := by decide +kernel
theorem d_M_set_68 : decode b_M_set 68 = .ok (.iload_n 2, 1) := by decide +kernel
theorem d_M_set_69 : decode b_M_set 69 = .ok (.iadd, 1) := by decide +kernel
theorem d_M_set_70 : decode b_M_set 70 = .ok (.iaload, 1) := by decide +kernel
theorem d_M_set_71 : decode b_M_set 71 = .ok (.istore 4, 2) := by decide +kernel
theorem d_M_set_73 : decode b_M_set 73 = .ok (.aload_n 0, 1) := by decide +kernel
theorem d_M_set_74 : decode b_M_set 74 = .ok (.getfield 16, 3) := by decide +kernel
theorem d_M_set_77 : decode b_M_set 77 = .ok (.iconst 4, 1) := by decide +kernel
theorem d_M_set_78 : decode b_M_set 78 = .ok (.iload_n 1, 1) := by decide +kernel
theorem d_M_set_79 : decode b_M_set 79 = .ok (.imul, 1) := by decide +kernel
theorem d_M_set_80 : decode b_M_set 80 = .ok (.iload_n 2, 1) := by decide +kernel
theorem d_M_set_81 : decode b_M_set 81 = .ok (.iadd, 1) := by decide +kernel
theorem d_M_set_82 : decode b_M_set 82 = .ok (.iload_n 3, 1) := by decide +kernel
theorem d_M_set_83 : decode b_M_set 83 = .ok (.iastore, 1) := by decide +kernel
theorem d_M_set_84 : decode b_M_set 84 = .ok (.iload 4, 2) := by decide +kernel
theorem d_M_set_86 : decode b_M_set 86 = .ok (.ireturn, 1) := by decide +kernel
theorem d_M_door_0 : decode b_M_door 0 = .ok (.aload_n 0, 1) := by decide +kernel
theorem d_M_door_1 : decode b_M_door 1 = .ok (.iload_n 1, 1) := by decide +kernel
theorem d_M_door_2 : decode b_M_door 2 = .ok (.iconst 0, 1) := by decide +kernel
theorem d_M_door_3 : decode b_M_door 3 = .ok (.invokevirtual 59, 3) := by decide +kernel
theorem d_M_door_6 : decode b_M_door 6 = .ok (.ifCond .eq 12, 3) := by decide +kernel
theorem d_M_door_9 : decode b_M_door 9 = .ok (.aload_n 0, 1) := by decide +kernel
theorem d_M_door_10 : decode b_M_door 10 = .ok (.iload_n 2, 1) := by decide +kernel
theorem d_M_door_11 : decode b_M_door 11 = .ok (.iconst 0, 1) := by decide +kernel
theorem d_M_door_12 : decode b_M_door 12 = .ok (.invokevirtual 59, 3) := by decide +kernel
theorem d_M_door_15 : decode b_M_door 15 = .ok (.ifCond .ne 6, 3) := by decide +kernel
theorem d_M_door_18 : decode b_M_door 18 = .ok (.bipush (-2), 2) := by decide +kernel
theorem d_M_door_20 : decode b_M_door 20 = .ok (.ireturn, 1) := by decide +kernel
theorem d_M_door_21 : decode b_M_door 21 = .ok (.iload_n 1, 1) := by decide +kernel
theorem d_M_door_22 : decode b_M_door 22 = .ok (.iload_n 2, 1) := by decide +kernel
theorem d_M_door_23 : decode b_M_door 23 = .ok (.if_icmp .ne 6, 3) := by decide +kernel
theorem d_M_door_26 : decode b_M_door 26 = .ok (.bipush (-3), 2) := by decide +kernel
theorem d_M_door_28 : decode b_M_door 28 = .ok (.ireturn, 1) := by decide +kernel
theorem d_M_door_29 : decode b_M_door 29 = .ok (.aload_n 0, 1) := by decide +kernel
theorem d_M_door_30 : decode b_M_door 30 = .ok (.getfield 63, 3) := by decide +kernel
theorem d_M_door_33 : decode b_M_door 33 = .ok (.bipush 10, 2) := by decide +kernel
theorem d_M_door_35 : decode b_M_door 35 = .ok (.if_icmp .ne 6, 3) := by decide +kernel
theorem d_M_door_38 : decode b_M_door 38 = .ok (.bipush (-7), 2) := by decide +kernel
theorem d_M_door_40 : decode b_M_door 40 = .ok (.ireturn, 1) := by decide +kernel
theorem d_M_door_41 : decode b_M_door 41 = .ok (.aload_n 0, 1) := by decide +kernel
theorem d_M_door_42 : decode b_M_door 42 = .ok (.getfield 19, 3) := by decide +kernel
theorem d_M_door_45 : decode b_M_door 45 = .ok (.aload_n 0, 1) := by decide +kernel
theorem d_M_door_46 : decode b_M_door 46 = .ok (.getfield 63, 3) := by decide +kernel
theorem d_M_door_49 : decode b_M_door 49 = .ok (.iload_n 1, 1) := by decide +kernel
theorem d_M_door_50 : decode b_M_door 50 = .ok (.iastore, 1) := by decide +kernel
theorem d_M_door_51 : decode b_M_door 51 = .ok (.aload_n 0, 1) := by decide +kernel
theorem d_M_door_52 : decode b_M_door 52 = .ok (.getfield 22, 3) := by decide +kernel
theorem d_M_door_55 : decode b_M_door 55 = .ok (.aload_n 0, 1) := by decide +kernel
theorem d_M_door_56 : decode b_M_door 56 = .ok (.getfield 63, 3) := by decide +kernel
theorem d_M_door_59 : decode b_M_door 59 = .ok (.iload_n 2, 1) := by decide +kernel
theorem d_M_door_60 : decode b_M_door 60 = .ok (.iastore, 1) := by decide +kernel
theorem d_M_door_61 : decode b_M_door 61 = .ok (.aload_n 0, 1) := by decide +kernel
theorem d_M_door_62 : decode b_M_door 62 = .ok (.getfield 25, 3) := by decide +kernel
theorem d_M_door_65 : decode b_M_door 65 = .ok (.aload_n 0, 1) := by decide +kernel
theorem d_M_door_66 : decode b_M_door 66 = .ok (.getfield 63, 3) := by decide +kernel
theorem d_M_door_69 : decode b_M_door 69 = .ok (.iconst 0, 1) := by decide +kernel
theorem d_M_door_70 : decode b_M_door 70 = .ok (.iastore, 1) := by decide +kernel
theorem d_M_door_71 : decode b_M_door 71 = .ok (.aload_n 0, 1) := by decide +kernel
theorem d_M_door_72 : decode b_M_door 72 = .ok (.getfield 28, 3) := by decide +kernel
theorem d_M_door_75 : decode b_M_door 75 = .ok (.aload_n 0, 1) := by decide +kernel
theorem d_M_door_76 : decode b_M_door 76 = .ok (.getfield 63, 3) := by decide +kernel
theorem d_M_door_79 : decode b_M_door 79 = .ok (.iconst 0, 1) := by decide +kernel
theorem d_M_door_80 : decode b_M_door 80 = .ok (.iastore, 1) := by decide +kernel
theorem d_M_door_81 : decode b_M_door 81 = .ok (.aload_n 0, 1) := by decide +kernel
theorem d_M_door_82 : decode b_M_door 82 = .ok (.dup, 1) := by decide +kernel
theorem d_M_door_83 : decode b_M_door 83 = .ok (.getfield 63, 3) := by decide +kernel
theorem d_M_door_86 : decode b_M_door 86 = .ok (.iconst 1, 1) := by decide +kernel
theorem d_M_door_87 : decode b_M_door 87 = .ok (.iadd, 1) := by decide +kernel
theorem d_M_door_88 : decode b_M_door 88 = .ok (.putfield 63, 3) := by decide +kernel
theorem d_M_door_91 : decode b_M_door 91 = .ok (.aload_n 0, 1) := by decide +kernel
theorem d_M_door_92 : decode b_M_door 92 = .ok (.getfield 63, 3) := by decide +kernel
theorem d_M_door_95 : decode b_M_door 95 = .ok (.iconst 1, 1) := by decide +kernel
theorem d_M_door_96 : decode b_M_door 96 = .ok (.isub, 1) := by decide +kernel
theorem d_M_door_97 : decode b_M_door 97 = .ok (.ireturn, 1) := by decide +kernel
theorem d_M_turn_0 : decode b_M_turn 0 = .ok (.aload_n 0, 1) := by decide +kernel
theorem d_M_turn_1 : decode b_M_turn 1 = .ok (.iload_n 1, 1) := by decide +kernel
theorem d_M_turn_2 : decode b_M_turn 2 = .ok (.invokevirtual 76, 3) := by decide +kernel
theorem d_M_turn_5 : decode b_M_turn 5 = .ok (.ifCond .ne 6, 3) := by decide +kernel
theorem d_M_turn_8 : decode b_M_turn 8 = .ok (.bipush (-2), 2) := by decide +kernel
theorem d_M_turn_10 : decode b_M_turn 10 = .ok (.ireturn, 1) := by decide +kernel
theorem d_M_turn_11 : decode b_M_turn 11 = .ok (.iload_n 2, 1) := by decide +kernel
theorem d_M_turn_12 : decode b_M_turn 12 = .ok (.iconst 0, 1) := by decide +kernel
theorem d_M_turn_13 : decode b_M_turn 13 = .ok (.iconst 1, 1) := by decide +kernel
theorem d_M_turn_14 : decode b_M_turn 14 = .ok (.invokestatic 51, 3) := by decide +kernel
theorem d_M_turn_17 : decode b_M_turn 17 = .ok (.ifCond .eq 12, 3) := by decide +kernel
theorem d_M_turn_20 : decode b_M_turn 20 = .ok (.iload_n 3, 1) := by decide +kernel
theorem d_M_turn_21 : decode b_M_turn 21 = .ok (.iconst 0, 1) := by decide +kernel
theorem d_M_turn_22 : decode b_M_turn 22 = .ok (.iconst 1, 1) := by decide +kernel
theorem d_M_turn_23 : decode b_M_turn 23 = .ok (.invokestatic 51, 3) := by decide +kernel
theorem d_M_turn_26 : decode b_M_turn 26 = .ok (.ifCond .ne 6, 3) := by decide +kernel
theorem d_M_turn_29 : decode b_M_turn 29 = .ok (.bipush (-3), 2) := by decide +kernel
theorem d_M_turn_31 : decode b_M_turn 31 = .ok (.ireturn, 1) := by decide +kernel
theorem d_M_turn_32 : decode b_M_turn 32 = .ok (.iload_n 2, 1) := by decide +kernel
theorem d_M_turn_33 : decode b_M_turn 33 = .ok (.ifCond .ne 12, 3) := by decide +kernel
theorem d_M_turn_36 : decode b_M_turn 36 = .ok (.aload_n 0, 1) := by decide +kernel
theorem d_M_turn_37 : decode b_M_turn 37 = .ok (.getfield 25, 3) := by decide +kernel
theorem d_M_turn_40 : decode b_M_turn 40 = .ok (.iload_n 1, 1) := by decide +kernel
theorem d_M_turn_41 : decode b_M_turn 41 = .ok (.iaload, 1) := by decide +kernel
theorem d_M_turn_42 : decode b_M_turn 42 = .ok (.goto 9, 3) := by decide +kernel
theorem d_M_turn_45 : decode b_M_turn 45 = .ok (.aload_n 0, 1) := by decide +kernel
theorem d_M_turn_46 : decode b_M_turn 46 = .ok (.getfield 28, 3) := by decide +kernel
theorem d_M_turn_49 : decode b_M_turn 49 = .ok (.iload_n 1, 1) := by decide +kernel
theorem d_M_turn_50 : decode b_M_turn 50 = .ok (.iaload, 1) := by decide +kernel
theorem d_M_turn_51 : decode b_M_turn 51 = .ok (.istore 4, 2) := by decide +kernel
theorem d_M_turn_53 : decode b_M_turn 53 = .ok (.iload_n 2, 1) := by decide +kernel
theorem d_M_turn_54 : decode b_M_turn 54 = .ok (.ifCond .ne 13, 3) := by decide +kernel
theorem d_M_turn_57 : decode b_M_turn 57 = .ok (.aload_n 0, 1) := by decide +kernel
theorem d_M_turn_58 : decode b_M_turn 58 = .ok (.getfield 25, 3) := by decide +kernel
theorem d_M_turn_61 : decode b_M_turn 61 = .ok (.iload_n 1, 1) := by decide +kernel
theorem d_M_turn_62 : decode b_M_turn 62 = .ok (.iload_n 3, 1) := by decide +kernel
theorem d_M_turn_63 : decode b_M_turn 63 = .ok (.iastore, 1) := by decide +kernel
theorem d_M_turn_64 : decode b_M_turn 64 = .ok (.goto 10, 3) := by decide +kernel
theorem d_M_turn_67 : decode b_M_turn 67 = .ok (.aload_n 0, 1) := by decide +kernel
theorem d_M_turn_68 : decode b_M_turn 68 = .ok (.getfield 28, 3) := by decide +kernel
theorem d_M_turn_71 : decode b_M_turn 71 = .ok (.iload_n 1, 1) := by decide +kernel
theorem d_M_turn_72 : decode b_M_turn 72 = .ok (.iload_n 3, 1) := by decide +kernel
theorem d_M_turn_73 : decode b_M_turn 73 = .ok (.iastore, 1) := by decide +kernel
theorem d_M_turn_74 : decode b_M_turn 74 = .ok (.iload 4, 2) := by decide +kernel
theorem d_M_turn_76 : decode b_M_turn 76 = .ok (.ireturn, 1) := by decide +kernel
theorem d_M_findWay_0 : decode b_M_findWay 0 = .ok (.aload_n 0, 1) := by decide +kernel
theorem d_M_findWay_1 : decode b_M_findWay 1 = .ok (.iconst 0, 1) := by decide +kernel
theorem d_M_findWay_2 : decode b_M_findWay 2 = .ok (.putfield 79, 3) := by decide +kernel
theorem d_M_findWay_5 : decode b_M_findWay 5 = .ok (.aload_n 0, 1) := by decide +kernel
theorem d_M_findWay_6 : decode b_M_findWay 6 = .ok (.iconst 0, 1) := by decide +kernel
theorem d_M_findWay_7 : decode b_M_findWay 7 = .ok (.putfield 82, 3) := by decide +kernel
theorem d_M_findWay_10 : decode b_M_findWay 10 = .ok (.iload_n 1, 1) := by decide +kernel
theorem d_M_findWay_11 : decode b_M_findWay 11 = .ok (.istore_n 3, 1) := by decide +kernel
theorem d_M_findWay_12 : decode b_M_findWay 12 = .ok (.iload_n 3, 1) := by decide +kernel
theorem d_M_findWay_13 : decode b_M_findWay 13 = .ok (.iconst (-1), 1) := by decide +kernel
theorem d_M_findWay_14 : decode b_M_findWay 14 = .ok (.if_icmp .eq 52, 3) := by decide +kernel
theorem d_M_findWay_17 : decode b_M_findWay 17 = .ok (.iload_n 3, 1) := by decide +kernel
theorem d_M_findWay_18 : decode b_M_findWay 18 = .ok (.iload_n 2, 1) := by decide +kernel
theorem d_M_findWay_19 : decode b_M_findWay 19 = .ok (.if_icmp .eq 47, 3) := by decide +kernel
theorem d_M_findWay_22 : decode b_M_findWay 22 = .ok (.aload_n 0, 1) := by decide +kernel
theorem d_M_findWay_23 : decode b_M_findWay 23 = .ok (.iload_n 2, 1) := by decide +kernel
theorem d_M_findWay_24 : decode b_M_findWay 24 = .ok (.iload_n 3, 1) := by decide +kernel
theorem d_M_findWay_25 : decode b_M_findWay 25 = .ok (.invokevirtual 70, 3) := by decide +kernel
theorem d_M_findWay_28 : decode b_M_findWay 28 = .ok (.ifCond .ne 38, 3) := by decide +kernel
theorem d_M_findWay_31 : decode b_M_findWay 31 = .ok (.iload_n 3, 1) := by decide +kernel
theorem d_M_findWay_32 : decode b_M_findWay 32 = .ok (.iload_n 1, 1) := by decide +kernel
theorem d_M_findWay_33 : decode b_M_findWay 33 = .ok (.if_icmp .eq 23, 3) := by decide +kernel
theorem d_M_findWay_36 : decode b_M_findWay 36 = .ok (.aload_n 0, 1) := by decide +kernel
theorem d_M_findWay_37 : decode b_M_findWay 37 = .ok (.getfield 31, 3) := by decide +kernel
theorem d_M_findWay_40 : decode b_M_findWay 40 = .ok (.aload_n 0, 1) := by decide +kernel
theorem d_M_findWay_41 : decode b_M_findWay 41 = .ok (.getfield 79, 3) := by decide +kernel
theorem d_M_findWay_44 : decode b_M_findWay 44 = .ok (.iload_n 3, 1) := by decide +kernel
theorem d_M_findWay_45 : decode b_M_findWay 45 = .ok (.iastore, 1) := by decide +kernel
theorem d_M_findWay_46 : decode b_M_findWay 46 = .ok (.aload_n 0, 1) := by decide +kernel
theorem d_M_findWay_47 : decode b_M_findWay 47 = .ok (.dup, 1) := by decide +kernel
theorem d_M_findWay_48 : decode b_M_findWay 48 = .ok (.getfield 79, 3) := by decide +kernel
theorem d_M_findWay_51 : decode b_M_findWay 51 = .ok (.iconst 1, 1) := by decide +kernel
theorem d_M_findWay_52 : decode b_M_findWay 52 = .ok (.iadd, 1) := by decide +kernel
theorem d_M_findWay_53 : decode b_M_findWay 53 = .ok (.putfield 79, 3) := by decide +kernel
theorem d_M_findWay_56 : decode b_M_findWay 56 = .ok (.aload_n 0, 1) := by decide +kernel
theorem d_M_findWay_57 : decode b_M_findWay 57 = .ok (.getfield 13, 3) := by decide +kernel
theorem d_M_findWay_60 : decode b_M_findWay 60 = .ok (.iload_n 3, 1) := by decide +kernel
theorem d_M_findWay_61 : decode b_M_findWay 61 = .ok (.iaload, 1) := by decide +kernel
theorem d_M_findWay_62 : decode b_M_findWay 62 = .ok (.istore_n 3, 1) := by decide +kernel
theorem d_M_findWay_63 : decode b_M_findWay 63 = .ok (.goto (-51), 3) := by decide +kernel
theorem d_M_findWay_66 : decode b_M_findWay 66 = .ok (.iload_n 3, 1) := by decide +kernel
theorem d_M_findWay_67 : decode b_M_findWay 67 = .ok (.iconst (-1), 1) := by decide +kernel
theorem d_M_findWay_68 : decode b_M_findWay 68 = .ok (.if_icmp .ne 5, 3) := by decide +kernel
theorem d_M_findWay_71 : decode b_M_findWay 71 = .ok (.iconst 0, 1) := by decide +kernel
theorem d_M_findWay_72 : decode b_M_findWay 72 = .ok (.ireturn, 1) := by decide +kernel
theorem d_M_findWay_73 : decode b_M_findWay 73 = .ok (.iload_n 3, 1) := by decide +kernel
theorem d_M_findWay_74 : decode b_M_findWay 74 = .ok (.iload_n 2, 1) := by decide +kernel
theorem d_M_findWay_75 : decode b_M_findWay 75 = .ok (.if_icmp .ne 7, 3) := by decide +kernel
theorem d_M_findWay_78 : decode b_M_findWay 78 = .ok (.iload_n 3, 1) := by decide +kernel
theorem d_M_findWay_79 : decode b_M_findWay 79 = .ok (.goto 9, 3) := by decide +kernel
theorem d_M_findWay_82 : decode b_M_findWay 82 = .ok (.aload_n 0, 1) := by decide +kernel
theorem d_M_findWay_83 : decode b_M_findWay 83 = .ok (.getfield 13, 3) := by decide +kernel
theorem d_M_findWay_86 : decode b_M_findWay 86 = .ok (.iload_n 2, 1) := by decide +kernel
theorem d_M_findWay_87 : decode b_M_findWay 87 = .ok (.iaload, 1) := by decide +kernel
theorem d_M_findWay_88 : decode b_M_findWay 88 = .ok (.istore 4, 2) := by decide +kernel
theorem d_M_findWay_90 : decode b_M_findWay 90 = .ok (.iload 4, 2) := by decide +kernel
theorem d_M_findWay_92 : decode b_M_findWay 92 = .ok (.iload_n 3, 1) := by decide +kernel
theorem d_M_findWay_93 : decode b_M_findWay 93 = .ok (.if_icmp .eq 36, 3) := by decide +kernel
theorem d_M_findWay_96 : decode b_M_findWay 96 = .ok (.aload_n 0, 1) := by decide +kernel
theorem d_M_findWay_97 : decode b_M_findWay 97 = .ok (.getfield 34, 3) := by decide +kernel
theorem d_M_findWay_100 : decode b_M_findWay 100 = .ok (.aload_n 0, 1) := by decide +kernel
theorem d_M_findWay_101 : decode b_M_findWay 101 = .ok (.getfield 82, 3) := by decide +kernel
theorem d_M_findWay_104 : decode b_M_findWay 104 = .ok (.iload 4, 2) := by decide +kernel
theorem d_M_findWay_106 : decode b_M_findWay 106 = .ok (.iastore, 1) := by decide +kernel
theorem d_M_findWay_107 : decode b_M_findWay 107 = .ok (.aload_n 0, 1) := by decide +kernel
theorem d_M_findWay_108 : decode b_M_findWay 108 = .ok (.dup, 1) := by decide +kernel
theorem d_M_findWay_109 : decode b_M_findWay 109 = .ok (.getfield 82, 3) := by decide +kernel
theorem d_M_findWay_112 : decode b_M_findWay 112 = .ok (.iconst 1, 1) := by decide +kernel
theorem d_M_findWay_113 : decode b_M_findWay 113 = .ok (.iadd, 1) := by decide +kernel
theorem d_M_findWay_114 : decode b_M_findWay 114 = .ok (.putfield 82, 3) := by decide +kernel
theorem d_M_findWay_117 : decode b_M_findWay 117 = .ok (.aload_n 0, 1) := by decide +kernel
theorem d_M_findWay_118 : decode b_M_findWay 118 = .ok (.getfield 13, 3) := by decide +kernel
theorem d_M_findWay_121 : decode b_M_findWay 121 = .ok (.iload 4, 2) := by decide +kernel
theorem d_M_findWay_123 : decode b_M_findWay 123 = .ok (.iaload, 1) := by decide +kernel
theorem d_M_findWay_124 : decode b_M_findWay 124 = .ok (.istore 4, 2) := by decide +kernel
theorem d_M_findWay_126 : decode b_M_findWay 126 = .ok (.goto (-36), 3) := by decide +kernel
theorem d_M_findWay_129 : decode b_M_findWay 129 = .ok (.iconst 1, 1) := by decide +kernel
theorem d_M_findWay_130 : decode b_M_findWay 130 = .ok (.ireturn, 1) := by decide +kernel
theorem d_M_isShut_0 : decode b_M_isShut 0 = .ok (.aload_n 0, 1) := by decide +kernel
theorem d_M_isShut_1 : decode b_M_isShut 1 = .ok (.getfield 7, 3) := by decide +kernel
theorem d_M_isShut_4 : decode b_M_isShut 4 = .ok (.iload_n 1, 1) := by decide +kernel
theorem d_M_isShut_5 : decode b_M_isShut 5 = .ok (.iaload, 1) := by decide +kernel
theorem d_M_isShut_6 : decode b_M_isShut 6 = .ok (.iconst 1, 1) := by decide +kernel
theorem d_M_isShut_7 : decode b_M_isShut 7 = .ok (.if_icmp .ne 18, 3) := by decide +kernel
theorem d_M_isShut_10 : decode b_M_isShut 10 = .ok (.aload_n 0, 1) := by decide +kernel
theorem d_M_isShut_11 : decode b_M_isShut 11 = .ok (.getfield 16, 3) := by decide +kernel
theorem d_M_isShut_14 : decode b_M_isShut 14 = .ok (.iconst 4, 1) := by decide +kernel
theorem d_M_isShut_15 : decode b_M_isShut 15 = .ok (.iload_n 1, 1) := by decide +kernel
theorem d_M_isShut_16 : decode b_M_isShut 16 = .ok (.imul, 1) := by decide +kernel
theorem d_M_isShut_17 : decode b_M_isShut 17 = .ok (.iaload, 1) := by decide +kernel
theorem d_M_isShut_18 : decode b_M_isShut 18 = .ok (.ifCond .ne 7, 3) := by decide +kernel
theorem d_M_isShut_21 : decode b_M_isShut 21 = .ok (.iconst 1, 1) := by decide +kernel
theorem d_M_isShut_22 : decode b_M_isShut 22 = .ok (.goto 4, 3) := by decide +kernel
theorem d_M_isShut_25 : decode b_M_isShut 25 = .ok (.iconst 0, 1) := by decide +kernel
theorem d_M_isShut_26 : decode b_M_isShut 26 = .ok (.ireturn, 1) := by decide +kernel
theorem d_M_firstBarrier_0 : decode b_M_firstBarrier 0 = .ok (.iconst 0, 1) := by decide +kernel
theorem d_M_firstBarrier_1 : decode b_M_firstBarrier 1 = .ok (.istore_n 1, 1) := by decide +kernel
theorem d_M_firstBarrier_2 : decode b_M_firstBarrier 2 = .ok (.iload_n 1, 1) := by decide +kernel
theorem d_M_firstBarrier_3 : decode b_M_firstBarrier 3 = .ok (.aload_n 0, 1) := by decide +kernel
theorem d_M_firstBarrier_4 : decode b_M_firstBarrier 4 = .ok (.getfield 79, 3) := by decide +kernel
theorem d_M_firstBarrier_7 : decode b_M_firstBarrier 7 = .ok (.if_icmp .ge 29, 3) := by decide +kernel
theorem d_M_firstBarrier_10 : decode b_M_firstBarrier 10 = .ok (.aload_n 0, 1) := by decide +kernel
theorem d_M_firstBarrier_11 : decode b_M_firstBarrier 11 = .ok (.aload_n 0, 1) := by decide +kernel
theorem d_M_firstBarrier_12 : decode b_M_firstBarrier 12 = .ok (.getfield 31, 3) := by decide +kernel
theorem d_M_firstBarrier_15 : decode b_M_firstBarrier 15 = .ok (.iload_n 1, 1) := by decide +kernel
theorem d_M_firstBarrier_16 : decode b_M_firstBarrier 16 = .ok (.iaload, 1) := by decide +kernel
theorem d_M_firstBarrier_17 : decode b_M_firstBarrier 17 = .ok (.invokevirtual 85, 3) := by decide +kernel
theorem d_M_firstBarrier_20 : decode b_M_firstBarrier 20 = .ok (.ifCond .eq 10, 3) := by decide +kernel
theorem d_M_firstBarrier_23 : decode b_M_firstBarrier 23 = .ok (.aload_n 0, 1) := by decide +kernel
theorem d_M_firstBarrier_24 : decode b_M_firstBarrier 24 = .ok (.getfield 31, 3) := by decide +kernel
theorem d_M_firstBarrier_27 : decode b_M_firstBarrier 27 = .ok (.iload_n 1, 1) := by decide +kernel
theorem d_M_firstBarrier_28 : decode b_M_firstBarrier 28 = .ok (.iaload, 1) := by decide +kernel
theorem d_M_firstBarrier_29 : decode b_M_firstBarrier 29 = .ok (.ireturn, 1) := by decide +kernel
theorem d_M_firstBarrier_30 : decode b_M_firstBarrier 30 = .ok (.iinc 1 1, 3) := by decide +kernel
theorem d_M_firstBarrier_33 : decode b_M_firstBarrier 33 = .ok (.goto (-31), 3) := by decide +kernel
theorem d_M_firstBarrier_36 : decode b_M_firstBarrier 36 = .ok (.aload_n 0, 1) := by decide +kernel
theorem d_M_firstBarrier_37 : decode b_M_firstBarrier 37 = .ok (.getfield 82, 3) := by decide +kernel
theorem d_M_firstBarrier_40 : decode b_M_firstBarrier 40 = .ok (.iconst 1, 1) := by decide +kernel
theorem d_M_firstBarrier_41 : decode b_M_firstBarrier 41 = .ok (.isub, 1) := by decide +kernel
theorem d_M_firstBarrier_42 : decode b_M_firstBarrier 42 = .ok (.istore_n 1, 1) := by decide +kernel
theorem d_M_firstBarrier_43 : decode b_M_firstBarrier 43 = .ok (.iload_n 1, 1) := by decide +kernel
theorem d_M_firstBarrier_44 : decode b_M_firstBarrier 44 = .ok (.ifCond .lt 44, 3) := by decide +kernel
theorem d_M_firstBarrier_47 : decode b_M_firstBarrier 47 = .ok (.aload_n 0, 1) := by decide +kernel
theorem d_M_firstBarrier_48 : decode b_M_firstBarrier 48 = .ok (.aload_n 0, 1) := by decide +kernel
theorem d_M_firstBarrier_49 : decode b_M_firstBarrier 49 = .ok (.getfield 34, 3) := by decide +kernel
theorem d_M_firstBarrier_52 : decode b_M_firstBarrier 52 = .ok (.iload_n 1, 1) := by decide +kernel
theorem d_M_firstBarrier_53 : decode b_M_firstBarrier 53 = .ok (.iaload, 1) := by decide +kernel
theorem d_M_firstBarrier_54 : decode b_M_firstBarrier 54 = .ok (.invokevirtual 85, 3) := by decide +kernel
theorem d_M_firstBarrier_57 : decode b_M_firstBarrier 57 = .ok (.ifCond .ne 18, 3) := by decide +kernel
theorem d_M_firstBarrier_60 : decode b_M_firstBarrier 60 = .ok (.aload_n 0, 1) := by decide +kernel
theorem d_M_firstBarrier_61 : decode b_M_firstBarrier 61 = .ok (.getfield 7, 3) := by decide +kernel
theorem d_M_firstBarrier_64 : decode b_M_firstBarrier 64 = .ok (.aload_n 0, 1) := by decide +kernel
theorem d_M_firstBarrier_65 : decode b_M_firstBarrier 65 = .ok (.getfield 34, 3) := by decide +kernel
theorem d_M_firstBarrier_68 : decode b_M_firstBarrier 68 = .ok (.iload_n 1, 1) := by decide +kernel
theorem d_M_firstBarrier_69 : decode b_M_firstBarrier 69 = .ok (.iaload, 1) := by decide +kernel
theorem d_M_firstBarrier_70 : decode b_M_firstBarrier 70 = .ok (.iaload, 1) := by decide +kernel
theorem d_M_firstBarrier_71 : decode b_M_firstBarrier 71 = .ok (.iconst 3, 1) := by decide +kernel
theorem d_M_firstBarrier_72 : decode b_M_firstBarrier 72 = .ok (.if_icmp .ne 10, 3) := by decide +kernel
theorem d_M_firstBarrier_75 : decode b_M_firstBarrier 75 = .ok (.aload_n 0, 1) := by decide +kernel
theorem d_M_firstBarrier_76 : decode b_M_firstBarrier 76 = .ok (.getfield 34, 3) := by decide +kernel
theorem d_M_firstBarrier_79 : decode b_M_firstBarrier 79 = .ok (.iload_n 1, 1) := by decide +kernel
theorem d_M_firstBarrier_80 : decode b_M_firstBarrier 80 = .ok (.iaload, 1) := by decide +kernel
theorem d_M_firstBarrier_81 : decode b_M_firstBarrier 81 = .ok (.ireturn, 1) := by decide +kernel
theorem d_M_firstBarrier_82 : decode b_M_firstBarrier 82 = .ok (.iinc 1 (-1), 3) := by decide +kernel
theorem d_M_firstBarrier_85 : decode b_M_firstBarrier 85 = .ok (.goto (-42), 3) := by decide +kernel
theorem d_M_firstBarrier_88 : decode b_M_firstBarrier 88 = .ok (.iconst (-1), 1) := by decide +kernel
theorem d_M_firstBarrier_89 : decode b_M_firstBarrier 89 = .ok (.ireturn, 1) := by decide +kernel
theorem d_M_isReached_0 : decode b_M_isReached 0 = .ok (.aload_n 0, 1) := by decide +kernel
theorem d_M_isReached_1 : decode b_M_isReached 1 = .ok (.iload_n 1, 1) := by decide +kernel
theorem d_M_isReached_2 : decode b_M_isReached 2 = .ok (.iload_n 2, 1) := by decide +kernel
theorem d_M_isReached_3 : decode b_M_isReached 3 = .ok (.invokevirtual 88, 3) := by decide +kernel
theorem d_M_isReached_6 : decode b_M_isReached 6 = .ok (.ifCond .eq 15, 3) := by decide +kernel
theorem d_M_isReached_9 : decode b_M_isReached 9 = .ok (.aload_n 0, 1) := by decide +kernel
theorem d_M_isReached_10 : decode b_M_isReached 10 = .ok (.invokevirtual 91, 3) := by decide +kernel
theorem d_M_isReached_13 : decode b_M_isReached 13 = .ok (.iconst (-1), 1) := by decide +kernel
theorem d_M_isReached_14 : decode b_M_isReached 14 = .ok (.if_icmp .ne 7, 3) := by decide +kernel
theorem d_M_isReached_17 : decode b_M_isReached 17 = .ok (.iconst 1, 1) := by decide +kernel
theorem d_M_isReached_18 : decode b_M_isReached 18 = .ok (.goto 4, 3) := by decide +kernel
theorem d_M_isReached_21 : decode b_M_isReached 21 = .ok (.iconst 0, 1) := by decide +kernel
theorem d_M_isReached_22 : decode b_M_isReached 22 = .ok (.ireturn, 1) := by decide +kernel
theorem d_M_take_0 : decode b_M_take 0 = .ok (.aload_n 0, 1) := by decide +kernel
theorem d_M_take_1 : decode b_M_take 1 = .ok (.iload_n 1, 1) := by decide +kernel
theorem d_M_take_2 : decode b_M_take 2 = .ok (.iconst 3, 1) := by decide +kernel
theorem d_M_take_3 : decode b_M_take 3 = .ok (.invokevirtual 59, 3) := by decide +kernel
theorem d_M_take_6 : decode b_M_take 6 = .ok (.ifCond .eq 30, 3) := by decide +kernel
theorem d_M_take_9 : decode b_M_take 9 = .ok (.aload_n 0, 1) := by decide +kernel
theorem d_M_take_10 : decode b_M_take 10 = .ok (.iload_n 2, 1) := by decide +kernel
theorem d_M_take_11 : decode b_M_take 11 = .ok (.invokevirtual 55, 3) := by decide +kernel
theorem d_M_take_14 : decode b_M_take 14 = .ok (.ifCond .eq 22, 3) := by decide +kernel
theorem d_M_take_17 : decode b_M_take 17 = .ok (.aload_n 0, 1) := by decide +kernel
theorem d_M_take_18 : decode b_M_take 18 = .ok (.getfield 7, 3) := by decide +kernel
theorem d_M_take_21 : decode b_M_take 21 = .ok (.iload_n 2, 1) := by decide +kernel
theorem d_M_take_22 : decode b_M_take 22 = .ok (.iaload, 1) := by decide +kernel
theorem d_M_take_23 : decode b_M_take 23 = .ok (.ifCond .eq 13, 3) := by decide +kernel
theorem d_M_take_26 : decode b_M_take 26 = .ok (.aload_n 0, 1) := by decide +kernel
theorem d_M_take_27 : decode b_M_take 27 = .ok (.getfield 7, 3) := by decide +kernel
theorem d_M_take_30 : decode b_M_take 30 = .ok (.iload_n 2, 1) := by decide +kernel
theorem d_M_take_31 : decode b_M_take 31 = .ok (.iaload, 1) := by decide +kernel
theorem d_M_take_32 : decode b_M_take 32 = .ok (.iconst 3, 1) := by decide +kernel
theorem d_M_take_33 : decode b_M_take 33 = .ok (.if_icmp .ne 6, 3) := by decide +kernel
theorem d_M_take_36 : decode b_M_take 36 = .ok (.bipush (-2), 2) := by decide +kernel
theorem d_M_take_38 : decode b_M_take 38 = .ok (.ireturn, 1) := by decide +kernel
theorem d_M_take_39 : decode b_M_take 39 = .ok (.aload_n 0, 1) := by decide +kernel
theorem d_M_take_40 : decode b_M_take 40 = .ok (.getfield 13, 3) := by decide +kernel
theorem d_M_take_43 : decode b_M_take 43 = .ok (.iload_n 2, 1) := by decide +kernel
theorem d_M_take_44 : decode b_M_take 44 = .ok (.iaload, 1) := by decide +kernel
theorem d_M_take_45 : decode b_M_take 45 = .ok (.iload_n 1, 1) := by decide +kernel
theorem d_M_take_46 : decode b_M_take 46 = .ok (.if_icmp .ne 5, 3) := by decide +kernel
theorem d_M_take_49 : decode b_M_take 49 = .ok (.iconst 0, 1) := by decide +kernel
theorem d_M_take_50 : decode b_M_take 50 = .ok (.ireturn, 1) := by decide +kernel
theorem d_M_take_51 : decode b_M_take 51 = .ok (.aload_n 0, 1) := by decide +kernel
theorem d_M_take_52 : decode b_M_take 52 = .ok (.iload_n 1, 1) := by decide +kernel
theorem d_M_take_53 : decode b_M_take 53 = .ok (.iload_n 2, 1) := by decide +kernel
theorem d_M_take_54 : decode b_M_take 54 = .ok (.invokevirtual 70, 3) := by decide +kernel
theorem d_M_take_57 : decode b_M_take 57 = .ok (.ifCond .eq 6, 3) := by decide +kernel
theorem d_M_take_60 : decode b_M_take 60 = .ok (.bipush (-4), 2) := by decide +kernel
theorem d_M_take_62 : decode b_M_take 62 = .ok (.ireturn, 1) := by decide +kernel
theorem d_M_take_63 : decode b_M_take 63 = .ok (.aload_n 0, 1) := by decide +kernel
theorem d_M_take_64 : decode b_M_take 64 = .ok (.iload_n 1, 1) := by decide +kernel
theorem d_M_take_65 : decode b_M_take 65 = .ok (.iload_n 2, 1) := by decide +kernel
theorem d_M_take_66 : decode b_M_take 66 = .ok (.invokevirtual 88, 3) := by decide +kernel
theorem d_M_take_69 : decode b_M_take 69 = .ok (.ifCond .ne 6, 3) := by decide +kernel
theorem d_M_take_72 : decode b_M_take 72 = .ok (.bipush (-5), 2) := by decide +kernel
theorem d_M_take_74 : decode b_M_take 74 = .ok (.ireturn, 1) := by decide +kernel
theorem d_M_take_75 : decode b_M_take 75 = .ok (.aload_n 0, 1) := by decide +kernel
theorem d_M_take_76 : decode b_M_take 76 = .ok (.invokevirtual 91, 3) := by decide +kernel
theorem d_M_take_79 : decode b_M_take 79 = .ok (.iconst (-1), 1) := by decide +kernel
theorem d_M_take_80 : decode b_M_take 80 = .ok (.if_icmp .eq 6, 3) := by decide +kernel
theorem d_M_take_83 : decode b_M_take 83 = .ok (.bipush (-6), 2) := by decide +kernel
theorem d_M_take_85 : decode b_M_take 85 = .ok (.ireturn, 1) := by decide +kernel
theorem d_M_take_86 : decode b_M_take 86 = .ok (.aload_n 0, 1) := by decide +kernel
theorem d_M_take_87 : decode b_M_take 87 = .ok (.iload_n 1, 1) := by decide +kernel
theorem d_M_take_88 : decode b_M_take 88 = .ok (.invokevirtual 73, 3) := by decide +kernel
theorem d_M_take_91 : decode b_M_take 91 = .ok (.ifCond .ne 6, 3) := by decide +kernel
theorem d_M_take_94 : decode b_M_take 94 = .ok (.bipush (-7), 2) := by decide +kernel
theorem d_M_take_96 : decode b_M_take 96 = .ok (.ireturn, 1) := by decide +kernel
theorem d_M_take_97 : decode b_M_take 97 = .ok (.aload_n 0, 1) := by decide +kernel
theorem d_M_take_98 : decode b_M_take 98 = .ok (.getfield 13, 3) := by decide +kernel
theorem d_M_take_101 : decode b_M_take 101 = .ok (.iload_n 2, 1) := by decide +kernel
theorem d_M_take_102 : decode b_M_take 102 = .ok (.iload_n 1, 1) := by decide +kernel
theorem d_M_take_103 : decode b_M_take 103 = .ok (.iastore, 1) := by decide +kernel
theorem d_M_take_104 : decode b_M_take 104 = .ok (.iconst 1, 1) := by decide +kernel
theorem d_M_take_105 : decode b_M_take 105 = .ok (.ireturn, 1) := by decide +kernel
theorem d_M_give_0 : decode b_M_give 0 = .ok (.aload_n 0, 1) := by decide +kernel
theorem d_M_give_1 : decode b_M_give 1 = .ok (.iload_n 1, 1) := by decide +kernel
theorem d_M_give_2 : decode b_M_give 2 = .ok (.iconst 3, 1) := by decide +kernel
theorem d_M_give_3 : decode b_M_give 3 = .ok (.invokevirtual 59, 3) := by decide +kernel
theorem d_M_give_6 : decode b_M_give 6 = .ok (.ifCond .eq 23, 3) := by decide +kernel
theorem d_M_give_9 : decode b_M_give 9 = .ok (.aload_n 0, 1) := by decide +kernel
theorem d_M_give_10 : decode b_M_give 10 = .ok (.iload_n 2, 1) := by decide +kernel
theorem d_M_give_11 : decode b_M_give 11 = .ok (.invokevirtual 55, 3) := by decide +kernel
theorem d_M_give_14 : decode b_M_give 14 = .ok (.ifCond .eq 15, 3) := by decide +kernel
theorem d_M_give_17 : decode b_M_give 17 = .ok (.aload_n 0, 1) := by decide +kernel
theorem d_M_give_18 : decode b_M_give 18 = .ok (.iload_n 3, 1) := by decide +kernel
theorem d_M_give_19 : decode b_M_give 19 = .ok (.invokevirtual 55, 3) := by decide +kernel
theorem d_M_give_22 : decode b_M_give 22 = .ok (.ifCond .eq 7, 3) := by decide +kernel
theorem d_M_give_25 : decode b_M_give 25 = .ok (.iconst 1, 1) := by decide +kernel
theorem d_M_give_26 : decode b_M_give 26 = .ok (.goto 4, 3) := by decide +kernel
theorem d_M_give_29 : decode b_M_give 29 = .ok (.iconst 0, 1) := by decide +kernel
theorem d_M_give_30 : decode b_M_give 30 = .ok (.istore 4, 2) := by decide +kernel
theorem d_M_give_32 : decode b_M_give 32 = .ok (.iload 4, 2) := by decide +kernel
theorem d_M_give_34 : decode b_M_give 34 = .ok (.ifCond .eq 32, 3) := by decide +kernel
theorem d_M_give_37 : decode b_M_give 37 = .ok (.aload_n 0, 1) := by decide +kernel
theorem d_M_give_38 : decode b_M_give 38 = .ok (.getfield 13, 3) := by decide +kernel
theorem d_M_give_41 : decode b_M_give 41 = .ok (.iload_n 2, 1) := by decide +kernel
theorem d_M_give_42 : decode b_M_give 42 = .ok (.iaload, 1) := by decide +kernel
theorem d_M_give_43 : decode b_M_give 43 = .ok (.iload_n 1, 1) := by decide +kernel
theorem d_M_give_44 : decode b_M_give 44 = .ok (.if_icmp .ne 22, 3) := by decide +kernel
theorem d_M_give_47 : decode b_M_give 47 = .ok (.aload_n 0, 1) := by decide +kernel
theorem d_M_give_48 : decode b_M_give 48 = .ok (.getfield 7, 3) := by decide +kernel
theorem d_M_give_51 : decode b_M_give 51 = .ok (.iload_n 3, 1) := by decide +kernel
theorem d_M_give_52 : decode b_M_give 52 = .ok (.iaload, 1) := by decide +kernel
theorem d_M_give_53 : decode b_M_give 53 = .ok (.iconst 1, 1) := by decide +kernel
theorem d_M_give_54 : decode b_M_give 54 = .ok (.iconst 3, 1) := by decide +kernel
theorem d_M_give_55 : decode b_M_give 55 = .ok (.invokestatic 51, 3) := by decide +kernel
theorem d_M_give_58 : decode b_M_give 58 = .ok (.ifCond .eq 8, 3) := by decide +kernel
theorem d_M_give_61 : decode b_M_give 61 = .ok (.iload_n 3, 1) := by decide +kernel
theorem d_M_give_62 : decode b_M_give 62 = .ok (.iload_n 1, 1) := by decide +kernel
theorem d_M_give_63 : decode b_M_give 63 = .ok (.if_icmp .ne 6, 3) := by decide +kernel
theorem d_M_give_66 : decode b_M_give 66 = .ok (.bipush (-2), 2) := by decide +kernel
theorem d_M_give_68 : decode b_M_give 68 = .ok (.ireturn, 1) := by decide +kernel
theorem d_M_give_69 : decode b_M_give 69 = .ok (.iload_n 3, 1) := by decide +kernel
theorem d_M_give_70 : decode b_M_give 70 = .ok (.iload_n 2, 1) := by decide +kernel
theorem d_M_give_71 : decode b_M_give 71 = .ok (.if_icmp .eq 12, 3) := by decide +kernel
theorem d_M_give_74 : decode b_M_give 74 = .ok (.aload_n 0, 1) := by decide +kernel
theorem d_M_give_75 : decode b_M_give 75 = .ok (.iload_n 3, 1) := by decide +kernel
theorem d_M_give_76 : decode b_M_give 76 = .ok (.iload_n 2, 1) := by decide +kernel
theorem d_M_give_77 : decode b_M_give 77 = .ok (.invokevirtual 70, 3) := by decide +kernel
theorem d_M_give_80 : decode b_M_give 80 = .ok (.ifCond .eq 6, 3) := by decide +kernel
theorem d_M_give_83 : decode b_M_give 83 = .ok (.bipush (-4), 2) := by decide +kernel
theorem d_M_give_85 : decode b_M_give 85 = .ok (.ireturn, 1) := by decide +kernel
theorem d_M_give_86 : decode b_M_give 86 = .ok (.aload_n 0, 1) := by decide +kernel
theorem d_M_give_87 : decode b_M_give 87 = .ok (.iload_n 1, 1) := by decide +kernel
theorem d_M_give_88 : decode b_M_give 88 = .ok (.iload_n 3, 1) := by decide +kernel
theorem d_M_give_89 : decode b_M_give 89 = .ok (.invokevirtual 88, 3) := by decide +kernel
theorem d_M_give_92 : decode b_M_give 92 = .ok (.ifCond .ne 6, 3) := by decide +kernel
theorem d_M_give_95 : decode b_M_give 95 = .ok (.bipush (-5), 2) := by decide +kernel
theorem d_M_give_97 : decode b_M_give 97 = .ok (.ireturn, 1) := by decide +kernel
theorem d_M_give_98 : decode b_M_give 98 = .ok (.aload_n 0, 1) := by decide +kernel
theorem d_M_give_99 : decode b_M_give 99 = .ok (.invokevirtual 91, 3) := by decide +kernel
theorem d_M_give_102 : decode b_M_give 102 = .ok (.iconst (-1), 1) := by decide +kernel
theorem d_M_give_103 : decode b_M_give 103 = .ok (.if_icmp .ne 11, 3) := by decide +kernel
theorem d_M_give_106 : decode b_M_give 106 = .ok (.aload_n 0, 1) := by decide +kernel
theorem d_M_give_107 : decode b_M_give 107 = .ok (.iload_n 3, 1) := by decide +kernel
theorem d_M_give_108 : decode b_M_give 108 = .ok (.invokevirtual 85, 3) := by decide +kernel
theorem d_M_give_111 : decode b_M_give 111 = .ok (.ifCond .eq 6, 3) := by decide +kernel
theorem d_M_give_114 : decode b_M_give 114 = .ok (.bipush (-6), 2) := by decide +kernel
theorem d_M_give_116 : decode b_M_give 116 = .ok (.ireturn, 1) := by decide +kernel
theorem d_M_give_117 : decode b_M_give 117 = .ok (.aload_n 0, 1) := by decide +kernel
theorem d_M_give_118 : decode b_M_give 118 = .ok (.iload_n 3, 1) := by decide +kernel
theorem d_M_give_119 : decode b_M_give 119 = .ok (.invokevirtual 73, 3) := by decide +kernel
theorem d_M_give_122 : decode b_M_give 122 = .ok (.ifCond .ne 6, 3) := by decide +kernel
theorem d_M_give_125 : decode b_M_give 125 = .ok (.bipush (-7), 2) := by decide +kernel
theorem d_M_give_127 : decode b_M_give 127 = .ok (.ireturn, 1) := by decide +kernel
theorem d_M_give_128 : decode b_M_give 128 = .ok (.aload_n 0, 1) := by decide +kernel
theorem d_M_give_129 : decode b_M_give 129 = .ok (.getfield 13, 3) := by decide +kernel
theorem d_M_give_132 : decode b_M_give 132 = .ok (.iload_n 2, 1) := by decide +kernel
theorem d_M_give_133 : decode b_M_give 133 = .ok (.iload_n 3, 1) := by decide +kernel
theorem d_M_give_134 : decode b_M_give 134 = .ok (.iastore, 1) := by decide +kernel
theorem d_M_give_135 : decode b_M_give 135 = .ok (.iconst 1, 1) := by decide +kernel
theorem d_M_give_136 : decode b_M_give 136 = .ok (.ireturn, 1) := by decide +kernel
theorem d_M_drop_0 : decode b_M_drop 0 = .ok (.aload_n 0, 1) := by decide +kernel
theorem d_M_drop_1 : decode b_M_drop 1 = .ok (.iload_n 1, 1) := by decide +kernel
theorem d_M_drop_2 : decode b_M_drop 2 = .ok (.iconst 3, 1) := by decide +kernel
theorem d_M_drop_3 : decode b_M_drop 3 = .ok (.invokevirtual 59, 3) := by decide +kernel
theorem d_M_drop_6 : decode b_M_drop 6 = .ok (.ifCond .eq 21, 3) := by decide +kernel
theorem d_M_drop_9 : decode b_M_drop 9 = .ok (.aload_n 0, 1) := by decide +kernel
theorem d_M_drop_10 : decode b_M_drop 10 = .ok (.iload_n 2, 1) := by decide +kernel
theorem d_M_drop_11 : decode b_M_drop 11 = .ok (.invokevirtual 55, 3) := by decide +kernel
theorem d_M_drop_14 : decode b_M_drop 14 = .ok (.ifCond .eq 13, 3) := by decide +kernel
theorem d_M_drop_17 : decode b_M_drop 17 = .ok (.aload_n 0, 1) := by decide +kernel
theorem d_M_drop_18 : decode b_M_drop 18 = .ok (.getfield 13, 3) := by decide +kernel
theorem d_M_drop_21 : decode b_M_drop 21 = .ok (.iload_n 2, 1) := by decide +kernel
theorem d_M_drop_22 : decode b_M_drop 22 = .ok (.iaload, 1) := by decide +kernel
theorem d_M_drop_23 : decode b_M_drop 23 = .ok (.iload_n 1, 1) := by decide +kernel
theorem d_M_drop_24 : decode b_M_drop 24 = .ok (.if_icmp .eq 6, 3) := by decide +kernel
theorem d_M_drop_27 : decode b_M_drop 27 = .ok (.bipush (-2), 2) := by decide +kernel
theorem d_M_drop_29 : decode b_M_drop 29 = .ok (.ireturn, 1) := by decide +kernel
theorem d_M_drop_30 : decode b_M_drop 30 = .ok (.aload_n 0, 1) := by decide +kernel
theorem d_M_drop_31 : decode b_M_drop 31 = .ok (.getfield 13, 3) := by decide +kernel
theorem d_M_drop_34 : decode b_M_drop 34 = .ok (.iload_n 1, 1) := by decide +kernel
theorem d_M_drop_35 : decode b_M_drop 35 = .ok (.iaload, 1) := by decide +kernel
theorem d_M_drop_36 : decode b_M_drop 36 = .ok (.iconst (-1), 1) := by decide +kernel
theorem d_M_drop_37 : decode b_M_drop 37 = .ok (.if_icmp .ne 6, 3) := by decide +kernel
theorem d_M_drop_40 : decode b_M_drop 40 = .ok (.bipush (-5), 2) := by decide +kernel
theorem d_M_drop_42 : decode b_M_drop 42 = .ok (.ireturn, 1) := by decide +kernel
theorem d_M_drop_43 : decode b_M_drop 43 = .ok (.aload_n 0, 1) := by decide +kernel
theorem d_M_drop_44 : decode b_M_drop 44 = .ok (.aload_n 0, 1) := by decide +kernel
theorem d_M_drop_45 : decode b_M_drop 45 = .ok (.getfield 13, 3) := by decide +kernel
theorem d_M_drop_48 : decode b_M_drop 48 = .ok (.iload_n 1, 1) := by decide +kernel
theorem d_M_drop_49 : decode b_M_drop 49 = .ok (.iaload, 1) := by decide +kernel
theorem d_M_drop_50 : decode b_M_drop 50 = .ok (.invokevirtual 73, 3) := by decide +kernel
theorem d_M_drop_53 : decode b_M_drop 53 = .ok (.ifCond .ne 6, 3) := by decide +kernel
theorem d_M_drop_56 : decode b_M_drop 56 = .ok (.bipush (-7), 2) := by decide +kernel
theorem d_M_drop_58 : decode b_M_drop 58 = .ok (.ireturn, 1) := by decide +kernel
theorem d_M_drop_59 : decode b_M_drop 59 = .ok (.aload_n 0, 1) := by decide +kernel
theorem d_M_drop_60 : decode b_M_drop 60 = .ok (.getfield 13, 3) := by decide +kernel
theorem d_M_drop_63 : decode b_M_drop 63 = .ok (.iload_n 2, 1) := by decide +kernel
theorem d_M_drop_64 : decode b_M_drop 64 = .ok (.aload_n 0, 1) := by decide +kernel
theorem d_M_drop_65 : decode b_M_drop 65 = .ok (.getfield 13, 3) := by decide +kernel
theorem d_M_drop_68 : decode b_M_drop 68 = .ok (.iload_n 1, 1) := by decide +kernel
theorem d_M_drop_69 : decode b_M_drop 69 = .ok (.iaload, 1) := by decide +kernel
theorem d_M_drop_70 : decode b_M_drop 70 = .ok (.iastore, 1) := by decide +kernel
theorem d_M_drop_71 : decode b_M_drop 71 = .ok (.iconst 1, 1) := by decide +kernel
theorem d_M_drop_72 : decode b_M_drop 72 = .ok (.ireturn, 1) := by decide +kernel
theorem d_M_go_0 : decode b_M_go 0 = .ok (.aload_n 0, 1) := by decide +kernel
theorem d_M_go_1 : decode b_M_go 1 = .ok (.iload_n 1, 1) := by decide +kernel
theorem d_M_go_2 : decode b_M_go 2 = .ok (.iconst 3, 1) := by decide +kernel
theorem d_M_go_3 : decode b_M_go 3 = .ok (.invokevirtual 59, 3) := by decide +kernel
theorem d_M_go_6 : decode b_M_go 6 = .ok (.ifCond .eq 11, 3) := by decide +kernel
theorem d_M_go_9 : decode b_M_go 9 = .ok (.aload_n 0, 1) := by decide +kernel
theorem d_M_go_10 : decode b_M_go 10 = .ok (.iload_n 2, 1) := by decide +kernel
theorem d_M_go_11 : decode b_M_go 11 = .ok (.invokevirtual 76, 3) := by decide +kernel
theorem d_M_go_14 : decode b_M_go 14 = .ok (.ifCond .ne 6, 3) := by decide +kernel
theorem d_M_go_17 : decode b_M_go 17 = .ok (.bipush (-2), 2) := by decide +kernel
theorem d_M_go_19 : decode b_M_go 19 = .ok (.ireturn, 1) := by decide +kernel
theorem d_M_go_20 : decode b_M_go 20 = .ok (.aload_n 0, 1) := by decide +kernel
theorem d_M_go_21 : decode b_M_go 21 = .ok (.getfield 13, 3) := by decide +kernel
theorem d_M_go_24 : decode b_M_go 24 = .ok (.iload_n 1, 1) := by decide +kernel
theorem d_M_go_25 : decode b_M_go 25 = .ok (.iaload, 1) := by decide +kernel
theorem d_M_go_26 : decode b_M_go 26 = .ok (.istore_n 3, 1) := by decide +kernel
theorem d_M_go_27 : decode b_M_go 27 = .ok (.iload_n 3, 1) := by decide +kernel
theorem d_M_go_28 : decode b_M_go 28 = .ok (.iconst (-1), 1) := by decide +kernel
theorem d_M_go_29 : decode b_M_go 29 = .ok (.if_icmp .eq 23, 3) := by decide +kernel
theorem d_M_go_32 : decode b_M_go 32 = .ok (.iload_n 3, 1) := by decide +kernel
theorem d_M_go_33 : decode b_M_go 33 = .ok (.aload_n 0, 1) := by decide +kernel
theorem d_M_go_34 : decode b_M_go 34 = .ok (.getfield 19, 3) := by decide +kernel
theorem d_M_go_37 : decode b_M_go 37 = .ok (.iload_n 2, 1) := by decide +kernel
theorem d_M_go_38 : decode b_M_go 38 = .ok (.iaload, 1) := by decide +kernel
theorem d_M_go_39 : decode b_M_go 39 = .ok (.if_icmp .eq 16, 3) := by decide +kernel
theorem d_M_go_42 : decode b_M_go 42 = .ok (.iload_n 3, 1) := by decide +kernel
theorem d_M_go_43 : decode b_M_go 43 = .ok (.aload_n 0, 1) := by decide +kernel
theorem d_M_go_44 : decode b_M_go 44 = .ok (.getfield 22, 3) := by decide +kernel
theorem d_M_go_47 : decode b_M_go 47 = .ok (.iload_n 2, 1) := by decide +kernel
theorem d_M_go_48 : decode b_M_go 48 = .ok (.iaload, 1) := by decide +kernel
theorem d_M_go_49 : decode b_M_go 49 = .ok (.if_icmp .eq 6, 3) := by decide +kernel
theorem d_M_go_52 : decode b_M_go 52 = .ok (.bipush (-5), 2) := by decide +kernel
theorem d_M_go_54 : decode b_M_go 54 = .ok (.ireturn, 1) := by decide +kernel
theorem d_M_go_55 : decode b_M_go 55 = .ok (.aload_n 0, 1) := by decide +kernel
theorem d_M_go_56 : decode b_M_go 56 = .ok (.getfield 25, 3) := by decide +kernel
theorem d_M_go_59 : decode b_M_go 59 = .ok (.iload_n 2, 1) := by decide +kernel
theorem d_M_go_60 : decode b_M_go 60 = .ok (.iaload, 1) := by decide +kernel
theorem d_M_go_61 : decode b_M_go 61 = .ok (.ifCond .ne 6, 3) := by decide +kernel
theorem d_M_go_64 : decode b_M_go 64 = .ok (.bipush (-6), 2) := by decide +kernel
theorem d_M_go_66 : decode b_M_go 66 = .ok (.ireturn, 1) := by decide +kernel
theorem d_M_go_67 : decode b_M_go 67 = .ok (.aload_n 0, 1) := by decide +kernel
theorem d_M_go_68 : decode b_M_go 68 = .ok (.getfield 13, 3) := by decide +kernel
theorem d_M_go_71 : decode b_M_go 71 = .ok (.iload_n 1, 1) := by decide +kernel
theorem d_M_go_72 : decode b_M_go 72 = .ok (.iload_n 3, 1) := by decide +kernel
theorem d_M_go_73 : decode b_M_go 73 = .ok (.aload_n 0, 1) := by decide +kernel
theorem d_M_go_74 : decode b_M_go 74 = .ok (.getfield 19, 3) := by decide +kernel
theorem d_M_go_77 : decode b_M_go 77 = .ok (.iload_n 2, 1) := by decide +kernel
theorem d_M_go_78 : decode b_M_go 78 = .ok (.iaload, 1) := by decide +kernel
theorem d_M_go_79 : decode b_M_go 79 = .ok (.if_icmp .ne 12, 3) := by decide +kernel
theorem d_M_go_82 : decode b_M_go 82 = .ok (.aload_n 0, 1) := by decide +kernel
theorem d_M_go_83 : decode b_M_go 83 = .ok (.getfield 22, 3) := by decide +kernel
theorem d_M_go_86 : decode b_M_go 86 = .ok (.iload_n 2, 1) := by decide +kernel
theorem d_M_go_87 : decode b_M_go 87 = .ok (.iaload, 1) := by decide +kernel
theorem d_M_go_88 : decode b_M_go 88 = .ok (.goto 9, 3) := by decide +kernel
theorem d_M_go_91 : decode b_M_go 91 = .ok (.aload_n 0, 1) := by decide +kernel
theorem d_M_go_92 : decode b_M_go 92 = .ok (.getfield 19, 3) := by decide +kernel
theorem d_M_go_95 : decode b_M_go 95 = .ok (.iload_n 2, 1) := by decide +kernel
theorem d_M_go_96 : decode b_M_go 96 = .ok (.iaload, 1) := by decide +kernel
theorem d_M_go_97 : decode b_M_go 97 = .ok (.iastore, 1) := by decide +kernel
theorem d_M_go_98 : decode b_M_go 98 = .ok (.aload_n 0, 1) := by decide +kernel
theorem d_M_go_99 : decode b_M_go 99 = .ok (.getfield 13, 3) := by decide +kernel
theorem d_M_go_102 : decode b_M_go 102 = .ok (.iload_n 1, 1) := by decide +kernel
theorem d_M_go_103 : decode b_M_go 103 = .ok (.iaload, 1) := by decide +kernel
theorem d_M_go_104 : decode b_M_go 104 = .ok (.ireturn, 1) := by decide +kernel
theorem d_M_spaceOf_0 : decode b_M_spaceOf 0 = .ok (.aload_n 0, 1) := by decide +kernel
theorem d_M_spaceOf_1 : decode b_M_spaceOf 1 = .ok (.getfield 7, 3) := by decide +kernel
theorem d_M_spaceOf_4 : decode b_M_spaceOf 4 = .ok (.iload_n 1, 1) := by decide +kernel
theorem d_M_spaceOf_5 : decode b_M_spaceOf 5 = .ok (.iaload, 1) := by decide +kernel
theorem d_M_spaceOf_6 : decode b_M_spaceOf 6 = .ok (.ifCond .ne 5, 3) := by decide +kernel
theorem d_M_spaceOf_9 : decode b_M_spaceOf 9 = .ok (.iload_n 1, 1) := by decide +kernel
theorem d_M_spaceOf_10 : decode b_M_spaceOf 10 = .ok (.ireturn, 1) := by decide +kernel
theorem d_M_spaceOf_11 : decode b_M_spaceOf 11 = .ok (.aload_n 0, 1) := by decide +kernel
theorem d_M_spaceOf_12 : decode b_M_spaceOf 12 = .ok (.getfield 13, 3) := by decide +kernel
theorem d_M_spaceOf_15 : decode b_M_spaceOf 15 = .ok (.iload_n 1, 1) := by decide +kernel
theorem d_M_spaceOf_16 : decode b_M_spaceOf 16 = .ok (.iaload, 1) := by decide +kernel
theorem d_M_spaceOf_17 : decode b_M_spaceOf 17 = .ok (.istore_n 2, 1) := by decide +kernel
theorem d_M_spaceOf_18 : decode b_M_spaceOf 18 = .ok (.iload_n 2, 1) := by decide +kernel
theorem d_M_spaceOf_19 : decode b_M_spaceOf 19 = .ok (.iconst (-1), 1) := by decide +kernel
theorem d_M_spaceOf_20 : decode b_M_spaceOf 20 = .ok (.if_icmp .eq 21, 3) := by decide +kernel
theorem d_M_spaceOf_23 : decode b_M_spaceOf 23 = .ok (.aload_n 0, 1) := by decide +kernel
theorem d_M_spaceOf_24 : decode b_M_spaceOf 24 = .ok (.iload_n 2, 1) := by decide +kernel
theorem d_M_spaceOf_25 : decode b_M_spaceOf 25 = .ok (.invokevirtual 95, 3) := by decide +kernel
theorem d_M_spaceOf_28 : decode b_M_spaceOf 28 = .ok (.ifCond .ne 13, 3) := by decide +kernel
theorem d_M_spaceOf_31 : decode b_M_spaceOf 31 = .ok (.aload_n 0, 1) := by decide +kernel
theorem d_M_spaceOf_32 : decode b_M_spaceOf 32 = .ok (.getfield 13, 3) := by decide +kernel
theorem d_M_spaceOf_35 : decode b_M_spaceOf 35 = .ok (.iload_n 2, 1) := by decide +kernel
theorem d_M_spaceOf_36 : decode b_M_spaceOf 36 = .ok (.iaload, 1) := by decide +kernel
theorem d_M_spaceOf_37 : decode b_M_spaceOf 37 = .ok (.istore_n 2, 1) := by decide +kernel
theorem d_M_spaceOf_38 : decode b_M_spaceOf 38 = .ok (.goto (-20), 3) := by decide +kernel
theorem d_M_spaceOf_41 : decode b_M_spaceOf 41 = .ok (.iload_n 2, 1) := by decide +kernel
theorem d_M_spaceOf_42 : decode b_M_spaceOf 42 = .ok (.ireturn, 1) := by decide +kernel
theorem d_M_joins_0 : decode b_M_joins 0 = .ok (.aload_n 0, 1) := by decide +kernel
theorem d_M_joins_1 : decode b_M_joins 1 = .ok (.getfield 37, 3) := by decide +kernel
theorem d_M_joins_4 : decode b_M_joins 4 = .ok (.bipush 30, 2) := by decide +kernel
theorem d_M_joins_6 : decode b_M_joins 6 = .ok (.iload_n 1, 1) := by decide +kernel
theorem d_M_joins_7 : decode b_M_joins 7 = .ok (.imul, 1) := by decide +kernel
theorem d_M_joins_8 : decode b_M_joins 8 = .ok (.iload_n 2, 1) := by decide +kernel
theorem d_M_joins_9 : decode b_M_joins 9 = .ok (.iadd, 1) := by decide +kernel
theorem d_M_joins_10 : decode b_M_joins 10 = .ok (.iload_n 3, 1) := by decide +kernel
theorem d_M_joins_11 : decode b_M_joins 11 = .ok (.aload_n 0, 1) := by decide +kernel
theorem d_M_joins_12 : decode b_M_joins 12 = .ok (.getfield 37, 3) := by decide +kernel
theorem d_M_joins_15 : decode b_M_joins 15 = .ok (.bipush 30, 2) := by decide +kernel
theorem d_M_joins_17 : decode b_M_joins 17 = .ok (.iload_n 1, 1) := by decide +kernel
theorem d_M_joins_18 : decode b_M_joins 18 = .ok (.imul, 1) := by decide +kernel
theorem d_M_joins_19 : decode b_M_joins 19 = .ok (.iload_n 2, 1) := by decide +kernel
theorem d_M_joins_20 : decode b_M_joins 20 = .ok (.iadd, 1) := by decide +kernel
theorem d_M_joins_21 : decode b_M_joins 21 = .ok (.iaload, 1) := by decide +kernel
theorem d_M_joins_22 : decode b_M_joins 22 = .ok (.if_icmp .ge 7, 3) := by decide +kernel
theorem d_M_joins_25 : decode b_M_joins 25 = .ok (.iload_n 3, 1) := by decide +kernel
theorem d_M_joins_26 : decode b_M_joins 26 = .ok (.goto 14, 3) := by decide +kernel
theorem d_M_joins_29 : decode b_M_joins 29 = .ok (.aload_n 0, 1) := by decide +kernel
theorem d_M_joins_30 : decode b_M_joins 30 = .ok (.getfield 37, 3) := by decide +kernel
theorem d_M_joins_33 : decode b_M_joins 33 = .ok (.bipush 30, 2) := by decide +kernel
theorem d_M_joins_35 : decode b_M_joins 35 = .ok (.iload_n 1, 1) := by decide +kernel
theorem d_M_joins_36 : decode b_M_joins 36 = .ok (.imul, 1) := by decide +kernel
theorem d_M_joins_37 : decode b_M_joins 37 = .ok (.iload_n 2, 1) := by decide +kernel
theorem d_M_joins_38 : decode b_M_joins 38 = .ok (.iadd, 1) := by decide +kernel
theorem d_M_joins_39 : decode b_M_joins 39 = .ok (.iaload, 1) := by decide +kernel
theorem d_M_joins_40 : decode b_M_joins 40 = .ok (.iastore, 1) := by decide +kernel
theorem d_M_joins_41 : decode b_M_joins 41 = .ok (.aload_n 0, 1) := by decide +kernel
theorem d_M_joins_42 : decode b_M_joins 42 = .ok (.getfield 37, 3) := by decide +kernel
theorem d_M_joins_45 : decode b_M_joins 45 = .ok (.bipush 30, 2) := by decide +kernel
theorem d_M_joins_47 : decode b_M_joins 47 = .ok (.iload_n 2, 1) := by decide +kernel
theorem d_M_joins_48 : decode b_M_joins 48 = .ok (.imul, 1) := by decide +kernel
theorem d_M_joins_49 : decode b_M_joins 49 = .ok (.iload_n 1, 1) := by decide +kernel
theorem d_M_joins_50 : decode b_M_joins 50 = .ok (.iadd, 1) := by decide +kernel
theorem d_M_joins_51 : decode b_M_joins 51 = .ok (.aload_n 0, 1) := by decide +kernel
theorem d_M_joins_52 : decode b_M_joins 52 = .ok (.getfield 37, 3) := by decide +kernel
theorem d_M_joins_55 : decode b_M_joins 55 = .ok (.bipush 30, 2) := by decide +kernel
theorem d_M_joins_57 : decode b_M_joins 57 = .ok (.iload_n 1, 1) := by decide +kernel
theorem d_M_joins_58 : decode b_M_joins 58 = .ok (.imul, 1) := by decide +kernel
theorem d_M_joins_59 : decode b_M_joins 59 = .ok (.iload_n 2, 1) := by decide +kernel
theorem d_M_joins_60 : decode b_M_joins 60 = .ok (.iadd, 1) := by decide +kernel
theorem d_M_joins_61 : decode b_M_joins 61 = .ok (.iaload, 1) := by decide +kernel
theorem d_M_joins_62 : decode b_M_joins 62 = .ok (.iastore, 1) := by decide +kernel
theorem d_M_joins_63 : decode b_M_joins 63 = .ok (.return_, 1) := by decide +kernel
theorem d_M_lossOf_0 : decode b_M_lossOf 0 = .ok (.iload_n 0, 1) := by decide +kernel
theorem d_M_lossOf_1 : decode b_M_lossOf 1 = .ok (.ifCond .ne 39, 3) := by decide +kernel
theorem d_M_lossOf_4 : decode b_M_lossOf 4 = .ok (.iload_n 2, 1) := by decide +kernel
theorem d_M_lossOf_5 : decode b_M_lossOf 5 = .ok (.ifCond .eq 15, 3) := by decide +kernel
theorem d_M_lossOf_8 : decode b_M_lossOf 8 = .ok (.iload_n 1, 1) := by decide +kernel
theorem d_M_lossOf_9 : decode b_M_lossOf 9 = .ok (.ifCond .eq 7, 3) := by decide +kernel
theorem d_M_lossOf_12 : decode b_M_lossOf 12 = .ok (.iconst 2, 1) := by decide +kernel
theorem d_M_lossOf_13 : decode b_M_lossOf 13 = .ok (.goto 26, 3) := by decide +kernel
theorem d_M_lossOf_16 : decode b_M_lossOf 16 = .ok (.iconst 0, 1) := by decide +kernel
theorem d_M_lossOf_17 : decode b_M_lossOf 17 = .ok (.goto 22, 3) := by decide +kernel
theorem d_M_lossOf_20 : decode b_M_lossOf 20 = .ok (.iload_n 3, 1) := by decide +kernel
theorem d_M_lossOf_21 : decode b_M_lossOf 21 = .ok (.ifCond .eq 15, 3) := by decide +kernel
theorem d_M_lossOf_24 : decode b_M_lossOf 24 = .ok (.iload_n 1, 1) := by decide +kernel
theorem d_M_lossOf_25 : decode b_M_lossOf 25 = .ok (.ifCond .eq 7, 3) := by decide +kernel
theorem d_M_lossOf_28 : decode b_M_lossOf 28 = .ok (.iconst 3, 1) := by decide +kernel
theorem d_M_lossOf_29 : decode b_M_lossOf 29 = .ok (.goto 10, 3) := by decide +kernel
theorem d_M_lossOf_32 : decode b_M_lossOf 32 = .ok (.iconst 1, 1) := by decide +kernel
theorem d_M_lossOf_33 : decode b_M_lossOf 33 = .ok (.goto 6, 3) := by decide +kernel
theorem d_M_lossOf_36 : decode b_M_lossOf 36 = .ok (.sipush 1000, 3) := by decide +kernel
theorem d_M_lossOf_39 : decode b_M_lossOf 39 = .ok (.ireturn, 1) := by decide +kernel
theorem d_M_lossOf_40 : decode b_M_lossOf 40 = .ok (.iload_n 2, 1) := by decide +kernel
theorem d_M_lossOf_41 : decode b_M_lossOf 41 = .ok (.ifCond .eq 15, 3) := by decide +kernel
theorem d_M_lossOf_44 : decode b_M_lossOf 44 = .ok (.iload_n 1, 1) := by decide +kernel
theorem d_M_lossOf_45 : decode b_M_lossOf 45 = .ok (.ifCond .eq 7, 3) := by decide +kernel
theorem d_M_lossOf_48 : decode b_M_lossOf 48 = .ok (.iconst 1, 1) := by decide +kernel
theorem d_M_lossOf_49 : decode b_M_lossOf 49 = .ok (.goto 16, 3) := by decide +kernel
theorem d_M_lossOf_52 : decode b_M_lossOf 52 = .ok (.iconst 0, 1) := by decide +kernel
theorem d_M_lossOf_53 : decode b_M_lossOf 53 = .ok (.goto 12, 3) := by decide +kernel
theorem d_M_lossOf_56 : decode b_M_lossOf 56 = .ok (.iload_n 1, 1) := by decide +kernel
theorem d_M_lossOf_57 : decode b_M_lossOf 57 = .ok (.ifCond .eq 7, 3) := by decide +kernel
theorem d_M_lossOf_60 : decode b_M_lossOf 60 = .ok (.iconst 3, 1) := by decide +kernel
theorem d_M_lossOf_61 : decode b_M_lossOf 61 = .ok (.goto 4, 3) := by decide +kernel
theorem d_M_lossOf_64 : decode b_M_lossOf 64 = .ok (.iconst 2, 1) := by decide +kernel
theorem d_M_lossOf_65 : decode b_M_lossOf 65 = .ok (.ireturn, 1) := by decide +kernel
theorem d_M_findLosses_0 : decode b_M_findLosses 0 = .ok (.iconst 0, 1) := by decide +kernel
theorem d_M_findLosses_1 : decode b_M_findLosses 1 = .ok (.istore_n 3, 1) := by decide +kernel
theorem d_M_findLosses_2 : decode b_M_findLosses 2 = .ok (.iload_n 3, 1) := by decide +kernel
theorem d_M_findLosses_3 : decode b_M_findLosses 3 = .ok (.aload_n 0, 1) := by decide +kernel
theorem d_M_findLosses_4 : decode b_M_findLosses 4 = .ok (.getfield 47, 3) := by decide +kernel
theorem d_M_findLosses_7 : decode b_M_findLosses 7 = .ok (.if_icmp .ge 52, 3) := by decide +kernel
theorem d_M_findLosses_10 : decode b_M_findLosses 10 = .ok (.iconst 0, 1) := by decide +kernel
theorem d_M_findLosses_11 : decode b_M_findLosses 11 = .ok (.istore 4, 2) := by decide +kernel
theorem d_M_findLosses_13 : decode b_M_findLosses 13 = .ok (.iload 4, 2) := by decide +kernel
theorem d_M_findLosses_15 : decode b_M_findLosses 15 = .ok (.aload_n 0, 1) := by decide +kernel
theorem d_M_findLosses_16 : decode b_M_findLosses 16 = .ok (.getfield 47, 3) := by decide +kernel
theorem d_M_findLosses_19 : decode b_M_findLosses 19 = .ok (.if_icmp .ge 34, 3) := by decide +kernel
theorem d_M_findLosses_22 : decode b_M_findLosses 22 = .ok (.aload_n 0, 1) := by decide +kernel
theorem d_M_findLosses_23 : decode b_M_findLosses 23 = .ok (.getfield 37, 3) := by decide +kernel
theorem d_M_findLosses_26 : decode b_M_findLosses 26 = .ok (.bipush 30, 2) := by decide +kernel
theorem d_M_findLosses_28 : decode b_M_findLosses 28 = .ok (.iload_n 3, 1) := by decide +kernel
theorem d_M_findLosses_29 : decode b_M_findLosses 29 = .ok (.imul, 1) := by decide +kernel
theorem d_M_findLosses_30 : decode b_M_findLosses 30 = .ok (.iload 4, 2) := by decide +kernel
theorem d_M_findLosses_32 : decode b_M_findLosses 32 = .ok (.iadd, 1) := by decide +kernel
theorem d_M_findLosses_33 : decode b_M_findLosses 33 = .ok (.iload_n 3, 1) := by decide +kernel
theorem d_M_findLosses_34 : decode b_M_findLosses 34 = .ok (.iload 4, 2) := by decide +kernel
theorem d_M_findLosses_36 : decode b_M_findLosses 36 = .ok (.if_icmp .ne 7, 3) := by decide +kernel
theorem d_M_findLosses_39 : decode b_M_findLosses 39 = .ok (.iconst 0, 1) := by decide +kernel
theorem d_M_findLosses_40 : decode b_M_findLosses 40 = .ok (.goto 6, 3) := by decide +kernel
theorem d_M_findLosses_43 : decode b_M_findLosses 43 = .ok (.sipush 1000, 3) := by decide +kernel
theorem d_M_findLosses_46 : decode b_M_findLosses 46 = .ok (.iastore, 1) := by decide +kernel
theorem d_M_findLosses_47 : decode b_M_findLosses 47 = .ok (.iinc 4 1, 3) := by decide +kernel
theorem d_M_findLosses_50 : decode b_M_findLosses 50 = .ok (.goto (-37), 3) := by decide +kernel
theorem d_M_findLosses_53 : decode b_M_findLosses 53 = .ok (.iinc 3 1, 3) := by decide +kernel
theorem d_M_findLosses_56 : decode b_M_findLosses 56 = .ok (.goto (-54), 3) := by decide +kernel
theorem d_M_findLosses_59 : decode b_M_findLosses 59 = .ok (.iconst 0, 1) := by decide +kernel
theorem d_M_findLosses_60 : decode b_M_findLosses 60 = .ok (.istore_n 3, 1) := by decide +kernel
theorem d_M_findLosses_61 : decode b_M_findLosses 61 = .ok (.iload_n 3, 1) := by decide +kernel
theorem d_M_findLosses_62 : decode b_M_findLosses 62 = .ok (.aload_n 0, 1) := by decide +kernel
theorem d_M_findLosses_63 : decode b_M_findLosses 63 = .ok (.getfield 47, 3) := by decide +kernel
theorem d_M_findLosses_66 : decode b_M_findLosses 66 = .ok (.if_icmp .ge 79, 3) := by decide +kernel
theorem d_M_findLosses_69 : decode b_M_findLosses 69 = .ok (.aload_n 0, 1) := by decide +kernel
theorem d_M_findLosses_70 : decode b_M_findLosses 70 = .ok (.getfield 7, 3) := by decide +kernel
theorem d_M_findLosses_73 : decode b_M_findLosses 73 = .ok (.iload_n 3, 1) := by decide +kernel
theorem d_M_findLosses_74 : decode b_M_findLosses 74 = .ok (.iaload, 1) := by decide +kernel
theorem d_M_findLosses_75 : decode b_M_findLosses 75 = .ok (.iconst 1, 1) := by decide +kernel
theorem d_M_findLosses_76 : decode b_M_findLosses 76 = .ok (.if_icmp .ne 63, 3) := by decide +kernel
theorem d_M_findLosses_79 : decode b_M_findLosses 79 = .ok (.aload_n 0, 1) := by decide +kernel
theorem d_M_findLosses_80 : decode b_M_findLosses 80 = .ok (.iload_n 3, 1) := by decide +kernel
theorem d_M_findLosses_81 : decode b_M_findLosses 81 = .ok (.invokevirtual 98, 3) := by decide +kernel
theorem d_M_findLosses_84 : decode b_M_findLosses 84 = .ok (.iconst (-1), 1) := by decide +kernel
theorem d_M_findLosses_85 : decode b_M_findLosses 85 = .ok (.if_icmp .eq 54, 3) := by decide +kernel
theorem d_M_findLosses_88 : decode b_M_findLosses 88 = .ok (.aload_n 0, 1) := by decide +kernel
theorem d_M_findLosses_89 : decode b_M_findLosses 89 = .ok (.iload_n 3, 1) := by decide +kernel
theorem d_M_findLosses_90 : decode b_M_findLosses 90 = .ok (.aload_n 0, 1) := by decide +kernel
theorem d_M_findLosses_91 : decode b_M_findLosses 91 = .ok (.iload_n 3, 1) := by decide +kernel
theorem d_M_findLosses_92 : decode b_M_findLosses 92 = .ok (.invokevirtual 98, 3) := by decide +kernel
theorem d_M_findLosses_95 : decode b_M_findLosses 95 = .ok (.iload_n 1, 1) := by decide +kernel
theorem d_M_findLosses_96 : decode b_M_findLosses 96 = .ok (.iconst 0, 1) := by decide +kernel
theorem d_M_findLosses_97 : decode b_M_findLosses 97 = .ok (.aload_n 0, 1) := by decide +kernel
theorem d_M_findLosses_98 : decode b_M_findLosses 98 = .ok (.getfield 16, 3) := by decide +kernel
theorem d_M_findLosses_101 : decode b_M_findLosses 101 = .ok (.iconst 4, 1) := by decide +kernel
theorem d_M_findLosses_102 : decode b_M_findLosses 102 = .ok (.iload_n 3, 1) := by decide +kernel
theorem d_M_findLosses_103 : decode b_M_findLosses 103 = .ok (.imul, 1) := by decide +kernel
theorem d_M_findLosses_104 : decode b_M_findLosses 104 = .ok (.iaload, 1) := by decide +kernel
theorem d_M_findLosses_105 : decode b_M_findLosses 105 = .ok (.iconst 1, 1) := by decide +kernel
theorem d_M_findLosses_106 : decode b_M_findLosses 106 = .ok (.if_icmp .ne 7, 3) := by decide +kernel
theorem d_M_findLosses_109 : decode b_M_findLosses 109 = .ok (.iconst 1, 1) := by decide +kernel
theorem d_M_findLosses_110 : decode b_M_findLosses 110 = .ok (.goto 4, 3) := by decide +kernel
theorem d_M_findLosses_113 : decode b_M_findLosses 113 = .ok (.iconst 0, 1) := by decide +kernel
theorem d_M_findLosses_114 : decode b_M_findLosses 114 = .ok (.aload_n 0, 1) := by decide +kernel
theorem d_M_findLosses_115 : decode b_M_findLosses 115 = .ok (.getfield 16, 3) := by decide +kernel
theorem d_M_findLosses_118 : decode b_M_findLosses 118 = .ok (.iconst 4, 1) := by decide +kernel
theorem d_M_findLosses_119 : decode b_M_findLosses 119 = .ok (.iload_n 3, 1) := by decide +kernel
theorem d_M_findLosses_120 : decode b_M_findLosses 120 = .ok (.imul, 1) := by decide +kernel
theorem d_M_findLosses_121 : decode b_M_findLosses 121 = .ok (.iconst 1, 1) := by decide +kernel
theorem d_M_findLosses_122 : decode b_M_findLosses 122 = .ok (.iadd, 1) := by decide +kernel
theorem d_M_findLosses_123 : decode b_M_findLosses 123 = .ok (.iaload, 1) := by decide +kernel
theorem d_M_findLosses_124 : decode b_M_findLosses 124 = .ok (.iconst 1, 1) := by decide +kernel
theorem d_M_findLosses_125 : decode b_M_findLosses 125 = .ok (.if_icmp .ne 7, 3) := by decide +kernel
theorem d_M_findLosses_128 : decode b_M_findLosses 128 = .ok (.iconst 1, 1) := by decide +kernel
theorem d_M_findLosses_129 : decode b_M_findLosses 129 = .ok (.goto 4, 3) := by decide +kernel
theorem d_M_findLosses_132 : decode b_M_findLosses 132 = .ok (.iconst 0, 1) := by decide +kernel
theorem d_M_findLosses_133 : decode b_M_findLosses 133 = .ok (.invokestatic 101, 3) := by decide +kernel
theorem d_M_findLosses_136 : decode b_M_findLosses 136 = .ok (.invokevirtual 105, 3) := by decide +kernel
theorem d_M_findLosses_139 : decode b_M_findLosses 139 = .ok (.iinc 3 1, 3) := by decide +kernel
theorem d_M_findLosses_142 : decode b_M_findLosses 142 = .ok (.goto (-81), 3) := by decide +kernel
theorem d_M_findLosses_145 : decode b_M_findLosses 145 = .ok (.iconst 0, 1) := by decide +kernel
theorem d_M_findLosses_146 : decode b_M_findLosses 146 = .ok (.istore_n 3, 1) := by decide +kernel
theorem d_M_findLosses_147 : decode b_M_findLosses 147 = .ok (.iload_n 3, 1) := by decide +kernel
theorem d_M_findLosses_148 : decode b_M_findLosses 148 = .ok (.aload_n 0, 1) := by decide +kernel
theorem d_M_findLosses_149 : decode b_M_findLosses 149 = .ok (.getfield 63, 3) := by decide +kernel
theorem d_M_findLosses_152 : decode b_M_findLosses 152 = .ok (.if_icmp .ge 64, 3) := by decide +kernel
theorem d_M_findLosses_155 : decode b_M_findLosses 155 = .ok (.iload_n 2, 1) := by decide +kernel
theorem d_M_findLosses_156 : decode b_M_findLosses 156 = .ok (.ifCond .eq 60, 3) := by decide +kernel
theorem d_M_findLosses_159 : decode b_M_findLosses 159 = .ok (.aload_n 0, 1) := by decide +kernel
theorem d_M_findLosses_160 : decode b_M_findLosses 160 = .ok (.aload_n 0, 1) := by decide +kernel
theorem d_M_findLosses_161 : decode b_M_findLosses 161 = .ok (.getfield 19, 3) := by decide +kernel
theorem d_M_findLosses_164 : decode b_M_findLosses 164 = .ok (.iload_n 3, 1) := by decide +kernel
theorem d_M_findLosses_165 : decode b_M_findLosses 165 = .ok (.iaload, 1) := by decide +kernel
theorem d_M_findLosses_166 : decode b_M_findLosses 166 = .ok (.aload_n 0, 1) := by decide +kernel
theorem d_M_findLosses_167 : decode b_M_findLosses 167 = .ok (.getfield 22, 3) := by decide +kernel
theorem d_M_findLosses_170 : decode b_M_findLosses 170 = .ok (.iload_n 3, 1) := by decide +kernel
theorem d_M_findLosses_171 : decode b_M_findLosses 171 = .ok (.iaload, 1) := by decide +kernel
theorem d_M_findLosses_172 : decode b_M_findLosses 172 = .ok (.iload_n 1, 1) := by decide +kernel
theorem d_M_findLosses_173 : decode b_M_findLosses 173 = .ok (.iconst 1, 1) := by decide +kernel
theorem d_M_findLosses_174 : decode b_M_findLosses 174 = .ok (.aload_n 0, 1) := by decide +kernel
theorem d_M_findLosses_175 : decode b_M_findLosses 175 = .ok (.getfield 25, 3) := by decide +kernel
theorem d_M_findLosses_178 : decode b_M_findLosses 178 = .ok (.iload_n 3, 1) := by decide +kernel
theorem d_M_findLosses_179 : decode b_M_findLosses 179 = .ok (.iaload, 1) := by decide +kernel
theorem d_M_findLosses_180 : decode b_M_findLosses 180 = .ok (.iconst 1, 1) := by decide +kernel
theorem d_M_findLosses_181 : decode b_M_findLosses 181 = .ok (.if_icmp .ne 7, 3) := by decide +kernel
theorem d_M_findLosses_184 : decode b_M_findLosses 184 = .ok (.iconst 1, 1) := by decide +kernel
theorem d_M_findLosses_185 : decode b_M_findLosses 185 = .ok (.goto 4, 3) := by decide +kernel
theorem d_M_findLosses_188 : decode b_M_findLosses 188 = .ok (.iconst 0, 1) := by decide +kernel
theorem d_M_findLosses_189 : decode b_M_findLosses 189 = .ok (.aload_n 0, 1) := by decide +kernel
theorem d_M_findLosses_190 : decode b_M_findLosses 190 = .ok (.getfield 28, 3) := by decide +kernel
theorem d_M_findLosses_193 : decode b_M_findLosses 193 = .ok (.iload_n 3, 1) := by decide +kernel
theorem d_M_findLosses_194 : decode b_M_findLosses 194 = .ok (.iaload, 1) := by decide +kernel
theorem d_M_findLosses_195 : decode b_M_findLosses 195 = .ok (.iconst 1, 1) := by decide +kernel
theorem d_M_findLosses_196 : decode b_M_findLosses 196 = .ok (.if_icmp .ne 7, 3) := by decide +kernel
theorem d_M_findLosses_199 : decode b_M_findLosses 199 = .ok (.iconst 1, 1) := by decide +kernel
theorem d_M_findLosses_200 : decode b_M_findLosses 200 = .ok (.goto 4, 3) := by decide +kernel
theorem d_M_findLosses_203 : decode b_M_findLosses 203 = .ok (.iconst 0, 1) := by decide +kernel
theorem d_M_findLosses_204 : decode b_M_findLosses 204 = .ok (.invokestatic 101, 3) := by decide +kernel
theorem d_M_findLosses_207 : decode b_M_findLosses 207 = .ok (.invokevirtual 105, 3) := by decide +kernel
theorem d_M_findLosses_210 : decode b_M_findLosses 210 = .ok (.iinc 3 1, 3) := by decide +kernel
theorem d_M_findLosses_213 : decode b_M_findLosses 213 = .ok (.goto (-66), 3) := by decide +kernel
theorem d_M_findLosses_216 : decode b_M_findLosses 216 = .ok (.iconst 0, 1) := by decide +kernel
theorem d_M_findLosses_217 : decode b_M_findLosses 217 = .ok (.istore_n 3, 1) := by decide +kernel
theorem d_M_findLosses_218 : decode b_M_findLosses 218 = .ok (.iload_n 3, 1) := by decide +kernel
theorem d_M_findLosses_219 : decode b_M_findLosses 219 = .ok (.aload_n 0, 1) := by decide +kernel
theorem d_M_findLosses_220 : decode b_M_findLosses 220 = .ok (.getfield 47, 3) := by decide +kernel
theorem d_M_findLosses_223 : decode b_M_findLosses 223 = .ok (.if_icmp .ge 121, 3) := by decide +kernel
theorem d_M_findLosses_226 : decode b_M_findLosses 226 = .ok (.iconst 0, 1) := by decide +kernel
theorem d_M_findLosses_227 : decode b_M_findLosses 227 = .ok (.istore 4, 2) := by decide +kernel
theorem d_M_findLosses_229 : decode b_M_findLosses 229 = .ok (.iload 4, 2) := by decide +kernel
theorem d_M_findLosses_231 : decode b_M_findLosses 231 = .ok (.aload_n 0, 1) := by decide +kernel
theorem d_M_findLosses_232 : decode b_M_findLosses 232 = .ok (.getfield 47, 3) := by decide +kernel
theorem d_M_findLosses_235 : decode b_M_findLosses 235 = .ok (.if_icmp .ge 103, 3) := by decide +kernel
theorem d_M_findLosses_238 : decode b_M_findLosses 238 = .ok (.iconst 0, 1) := by decide +kernel
theorem d_M_findLosses_239 : decode b_M_findLosses 239 = .ok (.istore 5, 2) := by decide +kernel
theorem d_M_findLosses_241 : decode b_M_findLosses 241 = .ok (.iload 5, 2) := by decide +kernel
theorem d_M_findLosses_243 : decode b_M_findLosses 243 = .ok (.aload_n 0, 1) := by decide +kernel
theorem d_M_findLosses_244 : decode b_M_findLosses 244 = .ok (.getfield 47, 3) := by decide +kernel
theorem d_M_findLosses_247 : decode b_M_findLosses 247 = .ok (.if_icmp .ge 85, 3) := by decide +kernel
theorem d_M_findLosses_250 : decode b_M_findLosses 250 = .ok (.aload_n 0, 1) := by decide +kernel
theorem d_M_findLosses_251 : decode b_M_findLosses 251 = .ok (.getfield 37, 3) := by decide +kernel
theorem d_M_findLosses_254 : decode b_M_findLosses 254 = .ok (.bipush 30, 2) := by decide +kernel
theorem d_M_findLosses_256 : decode b_M_findLosses 256 = .ok (.iload 4, 2) := by decide +kernel
theorem d_M_findLosses_258 : decode b_M_findLosses 258 = .ok (.imul, 1) := by decide +kernel
theorem d_M_findLosses_259 : decode b_M_findLosses 259 = .ok (.iload_n 3, 1) := by decide +kernel
theorem d_M_findLosses_260 : decode b_M_findLosses 260 = .ok (.iadd, 1) := by decide +kernel
theorem d_M_findLosses_261 : decode b_M_findLosses 261 = .ok (.iaload, 1) := by decide +kernel
theorem d_M_findLosses_262 : decode b_M_findLosses 262 = .ok (.aload_n 0, 1) := by decide +kernel
theorem d_M_findLosses_263 : decode b_M_findLosses 263 = .ok (.getfield 37, 3) := by decide +kernel
theorem d_M_findLosses_266 : decode b_M_findLosses 266 = .ok (.bipush 30, 2) := by decide +kernel
theorem d_M_findLosses_268 : decode b_M_findLosses 268 = .ok (.iload_n 3, 1) := by decide +kernel
theorem d_M_findLosses_269 : decode b_M_findLosses 269 = .ok (.imul, 1) := by decide +kernel
theorem d_M_findLosses_270 : decode b_M_findLosses 270 = .ok (.iload 5, 2) := by decide +kernel
theorem d_M_findLosses_272 : decode b_M_findLosses 272 = .ok (.iadd, 1) := by decide +kernel
theorem d_M_findLosses_273 : decode b_M_findLosses 273 = .ok (.iaload, 1) := by decide +kernel
theorem d_M_findLosses_274 : decode b_M_findLosses 274 = .ok (.iadd, 1) := by decide +kernel
theorem d_M_findLosses_275 : decode b_M_findLosses 275 = .ok (.istore 6, 2) := by decide +kernel
theorem d_M_findLosses_277 : decode b_M_findLosses 277 = .ok (.aload_n 0, 1) := by decide +kernel
theorem d_M_findLosses_278 : decode b_M_findLosses 278 = .ok (.getfield 37, 3) := by decide +kernel
theorem d_M_findLosses_281 : decode b_M_findLosses 281 = .ok (.bipush 30, 2) := by decide +kernel
theorem d_M_findLosses_283 : decode b_M_findLosses 283 = .ok (.iload 4, 2) := by decide +kernel
theorem d_M_findLosses_285 : decode b_M_findLosses 285 = .ok (.imul, 1) := by decide +kernel
theorem d_M_findLosses_286 : decode b_M_findLosses 286 = .ok (.iload 5, 2) := by decide +kernel
theorem d_M_findLosses_288 : decode b_M_findLosses 288 = .ok (.iadd, 1) := by decide +kernel
theorem d_M_findLosses_289 : decode b_M_findLosses 289 = .ok (.iload 6, 2) := by decide +kernel
theorem d_M_findLosses_291 : decode b_M_findLosses 291 = .ok (.aload_n 0, 1) := by decide +kernel
theorem d_M_findLosses_292 : decode b_M_findLosses 292 = .ok (.getfield 37, 3) := by decide +kernel
theorem d_M_findLosses_295 : decode b_M_findLosses 295 = .ok (.bipush 30, 2) := by decide +kernel
theorem d_M_findLosses_297 : decode b_M_findLosses 297 = .ok (.iload 4, 2) := by decide +kernel
theorem d_M_findLosses_299 : decode b_M_findLosses 299 = .ok (.imul, 1) := by decide +kernel
theorem d_M_findLosses_300 : decode b_M_findLosses 300 = .ok (.iload 5, 2) := by decide +kernel
theorem d_M_findLosses_302 : decode b_M_findLosses 302 = .ok (.iadd, 1) := by decide +kernel
theorem d_M_findLosses_303 : decode b_M_findLosses 303 = .ok (.iaload, 1) := by decide +kernel
theorem d_M_findLosses_304 : decode b_M_findLosses 304 = .ok (.if_icmp .ge 8, 3) := by decide +kernel
theorem d_M_findLosses_307 : decode b_M_findLosses 307 = .ok (.iload 6, 2) := by decide +kernel
theorem d_M_findLosses_309 : decode b_M_findLosses 309 = .ok (.goto 16, 3) := by decide +kernel
theorem d_M_findLosses_312 : decode b_M_findLosses 312 = .ok (.aload_n 0, 1) := by decide +kernel
theorem d_M_findLosses_313 : decode b_M_findLosses 313 = .ok (.getfield 37, 3) := by decide +kernel
theorem d_M_findLosses_316 : decode b_M_findLosses 316 = .ok (.bipush 30, 2) := by decide +kernel
theorem d_M_findLosses_318 : decode b_M_findLosses 318 = .ok (.iload 4, 2) := by decide +kernel
theorem d_M_findLosses_320 : decode b_M_findLosses 320 = .ok (.imul, 1) := by decide +kernel
theorem d_M_findLosses_321 : decode b_M_findLosses 321 = .ok (.iload 5, 2) := by decide +kernel
theorem d_M_findLosses_323 : decode b_M_findLosses 323 = .ok (.iadd, 1) := by decide +kernel
theorem d_M_findLosses_324 : decode b_M_findLosses 324 = .ok (.iaload, 1) := by decide +kernel
theorem d_M_findLosses_325 : decode b_M_findLosses 325 = .ok (.iastore, 1) := by decide +kernel
theorem d_M_findLosses_326 : decode b_M_findLosses 326 = .ok (.iinc 5 1, 3) := by decide +kernel
theorem d_M_findLosses_329 : decode b_M_findLosses 329 = .ok (.goto (-88), 3) := by decide +kernel
theorem d_M_findLosses_332 : decode b_M_findLosses 332 = .ok (.iinc 4 1, 3) := by decide +kernel
theorem d_M_findLosses_335 : decode b_M_findLosses 335 = .ok (.goto (-106), 3) := by decide +kernel
theorem d_M_findLosses_338 : decode b_M_findLosses 338 = .ok (.iinc 3 1, 3) := by decide +kernel
theorem d_M_findLosses_341 : decode b_M_findLosses 341 = .ok (.goto (-123), 3) := by decide +kernel
theorem d_M_findLosses_344 : decode b_M_findLosses 344 = .ok (.return_, 1) := by decide +kernel
theorem d_M_greatest_0 : decode b_M_greatest 0 = .ok (.iconst 0, 1) := by decide +kernel
theorem d_M_greatest_1 : decode b_M_greatest 1 = .ok (.istore_n 3, 1) := by decide +kernel
theorem d_M_greatest_2 : decode b_M_greatest 2 = .ok (.iconst 0, 1) := by decide +kernel
theorem d_M_greatest_3 : decode b_M_greatest 3 = .ok (.istore 4, 2) := by decide +kernel
theorem d_M_greatest_5 : decode b_M_greatest 5 = .ok (.iload 4, 2) := by decide +kernel
theorem d_M_greatest_7 : decode b_M_greatest 7 = .ok (.aload_n 0, 1) := by decide +kernel
theorem d_M_greatest_8 : decode b_M_greatest 8 = .ok (.getfield 47, 3) := by decide +kernel
theorem d_M_greatest_11 : decode b_M_greatest 11 = .ok (.if_icmp .ge 86, 3) := by decide +kernel
theorem d_M_greatest_14 : decode b_M_greatest 14 = .ok (.aload_n 0, 1) := by decide +kernel
theorem d_M_greatest_15 : decode b_M_greatest 15 = .ok (.iload 4, 2) := by decide +kernel
theorem d_M_greatest_17 : decode b_M_greatest 17 = .ok (.invokevirtual 98, 3) := by decide +kernel
theorem d_M_greatest_20 : decode b_M_greatest 20 = .ok (.istore 5, 2) := by decide +kernel
theorem d_M_greatest_22 : decode b_M_greatest 22 = .ok (.iload 5, 2) := by decide +kernel
theorem d_M_greatest_24 : decode b_M_greatest 24 = .ok (.iconst (-1), 1) := by decide +kernel
theorem d_M_greatest_25 : decode b_M_greatest 25 = .ok (.if_icmp .eq 21, 3) := by decide +kernel
theorem d_M_greatest_28 : decode b_M_greatest 28 = .ok (.aload_n 0, 1) := by decide +kernel
theorem d_M_greatest_29 : decode b_M_greatest 29 = .ok (.getfield 37, 3) := by decide +kernel
theorem d_M_greatest_32 : decode b_M_greatest 32 = .ok (.bipush 30, 2) := by decide +kernel
theorem d_M_greatest_34 : decode b_M_greatest 34 = .ok (.iload 5, 2) := by decide +kernel
theorem d_M_greatest_36 : decode b_M_greatest 36 = .ok (.imul, 1) := by decide +kernel
theorem d_M_greatest_37 : decode b_M_greatest 37 = .ok (.iload_n 1, 1) := by decide +kernel
theorem d_M_greatest_38 : decode b_M_greatest 38 = .ok (.iadd, 1) := by decide +kernel
theorem d_M_greatest_39 : decode b_M_greatest 39 = .ok (.iaload, 1) := by decide +kernel
theorem d_M_greatest_40 : decode b_M_greatest 40 = .ok (.sipush 1000, 3) := by decide +kernel
theorem d_M_greatest_43 : decode b_M_greatest 43 = .ok (.if_icmp .lt 7, 3) := by decide +kernel
theorem d_M_greatest_46 : decode b_M_greatest 46 = .ok (.iconst 0, 1) := by decide +kernel
theorem d_M_greatest_47 : decode b_M_greatest 47 = .ok (.goto 29, 3) := by decide +kernel
theorem d_M_greatest_50 : decode b_M_greatest 50 = .ok (.aload_n 0, 1) := by decide +kernel
theorem d_M_greatest_51 : decode b_M_greatest 51 = .ok (.getfield 16, 3) := by decide +kernel
theorem d_M_greatest_54 : decode b_M_greatest 54 = .ok (.iconst 4, 1) := by decide +kernel
theorem d_M_greatest_55 : decode b_M_greatest 55 = .ok (.iload 4, 2) := by decide +kernel
theorem d_M_greatest_57 : decode b_M_greatest 57 = .ok (.imul, 1) := by decide +kernel
theorem d_M_greatest_58 : decode b_M_greatest 58 = .ok (.iconst 2, 1) := by decide +kernel
theorem d_M_greatest_59 : decode b_M_greatest 59 = .ok (.iadd, 1) := by decide +kernel
theorem d_M_greatest_60 : decode b_M_greatest 60 = .ok (.iload_n 2, 1) := by decide +kernel
theorem d_M_greatest_61 : decode b_M_greatest 61 = .ok (.iadd, 1) := by decide +kernel
theorem d_M_greatest_62 : decode b_M_greatest 62 = .ok (.iaload, 1) := by decide +kernel
theorem d_M_greatest_63 : decode b_M_greatest 63 = .ok (.aload_n 0, 1) := by decide +kernel
theorem d_M_greatest_64 : decode b_M_greatest 64 = .ok (.getfield 37, 3) := by decide +kernel
theorem d_M_greatest_67 : decode b_M_greatest 67 = .ok (.bipush 30, 2) := by decide +kernel
theorem d_M_greatest_69 : decode b_M_greatest 69 = .ok (.iload 5, 2) := by decide +kernel
theorem d_M_greatest_71 : decode b_M_greatest 71 = .ok (.imul, 1) := by decide +kernel
theorem d_M_greatest_72 : decode b_M_greatest 72 = .ok (.iload_n 1, 1) := by decide +kernel
theorem d_M_greatest_73 : decode b_M_greatest 73 = .ok (.iadd, 1) := by decide +kernel
theorem d_M_greatest_74 : decode b_M_greatest 74 = .ok (.iaload, 1) := by decide +kernel
theorem d_M_greatest_75 : decode b_M_greatest 75 = .ok (.isub, 1) := by decide +kernel
theorem d_M_greatest_76 : decode b_M_greatest 76 = .ok (.istore 6, 2) := by decide +kernel
theorem d_M_greatest_78 : decode b_M_greatest 78 = .ok (.iload 6, 2) := by decide +kernel
theorem d_M_greatest_80 : decode b_M_greatest 80 = .ok (.iload_n 3, 1) := by decide +kernel
theorem d_M_greatest_81 : decode b_M_greatest 81 = .ok (.if_icmp .le 8, 3) := by decide +kernel
theorem d_M_greatest_84 : decode b_M_greatest 84 = .ok (.iload 6, 2) := by decide +kernel
theorem d_M_greatest_86 : decode b_M_greatest 86 = .ok (.goto 4, 3) := by decide +kernel
theorem d_M_greatest_89 : decode b_M_greatest 89 = .ok (.iload_n 3, 1) := by decide +kernel
theorem d_M_greatest_90 : decode b_M_greatest 90 = .ok (.istore_n 3, 1) := by decide +kernel
theorem d_M_greatest_91 : decode b_M_greatest 91 = .ok (.iinc 4 1, 3) := by decide +kernel
theorem d_M_greatest_94 : decode b_M_greatest 94 = .ok (.goto (-89), 3) := by decide +kernel
theorem d_M_greatest_97 : decode b_M_greatest 97 = .ok (.iload_n 3, 1) := by decide +kernel
theorem d_M_greatest_98 : decode b_M_greatest 98 = .ok (.ireturn, 1) := by decide +kernel
theorem d_M_count_0 : decode b_M_count 0 = .ok (.iload_n 1, 1) := by decide +kernel
theorem d_M_count_1 : decode b_M_count 1 = .ok (.ifCond .ne 10, 3) := by decide +kernel
theorem d_M_count_4 : decode b_M_count 4 = .ok (.aload_n 0, 1) := by decide +kernel
theorem d_M_count_5 : decode b_M_count 5 = .ok (.getfield 47, 3) := by decide +kernel
theorem d_M_count_8 : decode b_M_count 8 = .ok (.goto 17, 3) := by decide +kernel
theorem d_M_count_11 : decode b_M_count 11 = .ok (.iload_n 1, 1) := by decide +kernel
theorem d_M_count_12 : decode b_M_count 12 = .ok (.iconst 1, 1) := by decide +kernel
theorem d_M_count_13 : decode b_M_count 13 = .ok (.if_icmp .ne 10, 3) := by decide +kernel
theorem d_M_count_16 : decode b_M_count 16 = .ok (.aload_n 0, 1) := by decide +kernel
theorem d_M_count_17 : decode b_M_count 17 = .ok (.getfield 63, 3) := by decide +kernel
theorem d_M_count_20 : decode b_M_count 20 = .ok (.goto 5, 3) := by decide +kernel
theorem d_M_count_23 : decode b_M_count 23 = .ok (.bipush (-3), 2) := by decide +kernel
theorem d_M_count_25 : decode b_M_count 25 = .ok (.ireturn, 1) := by decide +kernel
theorem d_M_told_0 : decode b_M_told 0 = .ok (.aload_n 0, 1) := by decide +kernel
theorem d_M_told_1 : decode b_M_told 1 = .ok (.iload_n 1, 1) := by decide +kernel
theorem d_M_told_2 : decode b_M_told 2 = .ok (.invokevirtual 55, 3) := by decide +kernel
theorem d_M_told_5 : decode b_M_told 5 = .ok (.ifCond .ne 6, 3) := by decide +kernel
theorem d_M_told_8 : decode b_M_told 8 = .ok (.bipush (-2), 2) := by decide +kernel
theorem d_M_told_10 : decode b_M_told 10 = .ok (.ireturn, 1) := by decide +kernel
theorem d_M_told_11 : decode b_M_told 11 = .ok (.iconst 0, 1) := by decide +kernel
theorem d_M_told_12 : decode b_M_told 12 = .ok (.istore_n 3, 1) := by decide +kernel
theorem d_M_told_13 : decode b_M_told 13 = .ok (.iconst 0, 1) := by decide +kernel
theorem d_M_told_14 : decode b_M_told 14 = .ok (.istore 4, 2) := by decide +kernel
theorem d_M_told_16 : decode b_M_told 16 = .ok (.iload 4, 2) := by decide +kernel
theorem d_M_told_18 : decode b_M_told 18 = .ok (.aload_n 0, 1) := by decide +kernel
theorem d_M_told_19 : decode b_M_told 19 = .ok (.getfield 47, 3) := by decide +kernel
theorem d_M_told_22 : decode b_M_told 22 = .ok (.if_icmp .ge 27, 3) := by decide +kernel
theorem d_M_told_25 : decode b_M_told 25 = .ok (.iload_n 3, 1) := by decide +kernel
theorem d_M_told_26 : decode b_M_told 26 = .ok (.aload_n 0, 1) := by decide +kernel
theorem d_M_told_27 : decode b_M_told 27 = .ok (.iload 4, 2) := by decide +kernel
theorem d_M_told_29 : decode b_M_told 29 = .ok (.iload_n 1, 1) := by decide +kernel
theorem d_M_told_30 : decode b_M_told 30 = .ok (.invokevirtual 70, 3) := by decide +kernel
theorem d_M_told_33 : decode b_M_told 33 = .ok (.ifCond .eq 7, 3) := by decide +kernel
theorem d_M_told_36 : decode b_M_told 36 = .ok (.iconst 1, 1) := by decide +kernel
theorem d_M_told_37 : decode b_M_told 37 = .ok (.goto 4, 3) := by decide +kernel
theorem d_M_told_40 : decode b_M_told 40 = .ok (.iconst 0, 1) := by decide +kernel
theorem d_M_told_41 : decode b_M_told 41 = .ok (.iadd, 1) := by decide +kernel
theorem d_M_told_42 : decode b_M_told 42 = .ok (.istore_n 3, 1) := by decide +kernel
theorem d_M_told_43 : decode b_M_told 43 = .ok (.iinc 4 1, 3) := by decide +kernel
theorem d_M_told_46 : decode b_M_told 46 = .ok (.goto (-30), 3) := by decide +kernel
theorem d_M_told_49 : decode b_M_told 49 = .ok (.iload_n 2, 1) := by decide +kernel
theorem d_M_told_50 : decode b_M_told 50 = .ok (.tableswitch 62 0 4 #[34, 41, 48, 54, 60], 34) := by decide +kernel
theorem d_M_told_84 : decode b_M_told 84 = .ok (.aload_n 0, 1) := by decide +kernel
theorem d_M_told_85 : decode b_M_told 85 = .ok (.getfield 7, 3) := by decide +kernel
theorem d_M_told_88 : decode b_M_told 88 = .ok (.iload_n 1, 1) := by decide +kernel
theorem d_M_told_89 : decode b_M_told 89 = .ok (.iaload, 1) := by decide +kernel
theorem d_M_told_90 : decode b_M_told 90 = .ok (.ireturn, 1) := by decide +kernel
theorem d_M_told_91 : decode b_M_told 91 = .ok (.aload_n 0, 1) := by decide +kernel
theorem d_M_told_92 : decode b_M_told 92 = .ok (.getfield 13, 3) := by decide +kernel
theorem d_M_told_95 : decode b_M_told 95 = .ok (.iload_n 1, 1) := by decide +kernel
theorem d_M_told_96 : decode b_M_told 96 = .ok (.iaload, 1) := by decide +kernel
theorem d_M_told_97 : decode b_M_told 97 = .ok (.ireturn, 1) := by decide +kernel
theorem d_M_told_98 : decode b_M_told 98 = .ok (.aload_n 0, 1) := by decide +kernel
theorem d_M_told_99 : decode b_M_told 99 = .ok (.iload_n 1, 1) := by decide +kernel
theorem d_M_told_100 : decode b_M_told 100 = .ok (.invokevirtual 98, 3) := by decide +kernel
theorem d_M_told_103 : decode b_M_told 103 = .ok (.ireturn, 1) := by decide +kernel
theorem d_M_told_104 : decode b_M_told 104 = .ok (.aload_n 0, 1) := by decide +kernel
theorem d_M_told_105 : decode b_M_told 105 = .ok (.iload_n 1, 1) := by decide +kernel
theorem d_M_told_106 : decode b_M_told 106 = .ok (.invokevirtual 66, 3) := by decide +kernel
theorem d_M_told_109 : decode b_M_told 109 = .ok (.ireturn, 1) := by decide +kernel
theorem d_M_told_110 : decode b_M_told 110 = .ok (.iload_n 3, 1) := by decide +kernel
theorem d_M_told_111 : decode b_M_told 111 = .ok (.ireturn, 1) := by decide +kernel
theorem d_M_told_112 : decode b_M_told 112 = .ok (.iload_n 2, 1) := by decide +kernel
theorem d_M_told_113 : decode b_M_told 113 = .ok (.iconst 5, 1) := by decide +kernel
theorem d_M_told_114 : decode b_M_told 114 = .ok (.bipush 8, 2) := by decide +kernel
theorem d_M_told_116 : decode b_M_told 116 = .ok (.invokestatic 51, 3) := by decide +kernel
theorem d_M_told_119 : decode b_M_told 119 = .ok (.ifCond .eq 18, 3) := by decide +kernel
theorem d_M_told_122 : decode b_M_told 122 = .ok (.aload_n 0, 1) := by decide +kernel
theorem d_M_told_123 : decode b_M_told 123 = .ok (.getfield 16, 3) := by decide +kernel
theorem d_M_told_126 : decode b_M_told 126 = .ok (.iconst 4, 1) := by decide +kernel
theorem d_M_told_127 : decode b_M_told 127 = .ok (.iload_n 1, 1) := by decide +kernel
theorem d_M_told_128 : decode b_M_told 128 = .ok (.imul, 1) := by decide +kernel
theorem d_M_told_129 : decode b_M_told 129 = .ok (.iload_n 2, 1) := by decide +kernel
theorem d_M_told_130 : decode b_M_told 130 = .ok (.iadd, 1) := by decide +kernel
theorem d_M_told_131 : decode b_M_told 131 = .ok (.iconst 5, 1) := by decide +kernel
theorem d_M_told_132 : decode b_M_told 132 = .ok (.isub, 1) := by decide +kernel
theorem d_M_told_133 : decode b_M_told 133 = .ok (.iaload, 1) := by decide +kernel
theorem d_M_told_134 : decode b_M_told 134 = .ok (.goto 5, 3) := by decide +kernel
theorem d_M_told_137 : decode b_M_told 137 = .ok (.bipush (-3), 2) := by decide +kernel
theorem d_M_told_139 : decode b_M_told 139 = .ok (.ireturn, 1) := by decide +kernel
theorem d_M_held_0 : decode b_M_held 0 = .ok (.aload_n 0, 1) := by decide +kernel
theorem d_M_held_1 : decode b_M_held 1 = .ok (.iload_n 1, 1) := by decide +kernel
theorem d_M_held_2 : decode b_M_held 2 = .ok (.invokevirtual 55, 3) := by decide +kernel
theorem d_M_held_5 : decode b_M_held 5 = .ok (.ifCond .ne 6, 3) := by decide +kernel
theorem d_M_held_8 : decode b_M_held 8 = .ok (.bipush (-2), 2) := by decide +kernel
theorem d_M_held_10 : decode b_M_held 10 = .ok (.ireturn, 1) := by decide +kernel
theorem d_M_held_11 : decode b_M_held 11 = .ok (.iload_n 2, 1) := by decide +kernel
theorem d_M_held_12 : decode b_M_held 12 = .ok (.istore_n 3, 1) := by decide +kernel
theorem d_M_held_13 : decode b_M_held 13 = .ok (.iconst 0, 1) := by decide +kernel
theorem d_M_held_14 : decode b_M_held 14 = .ok (.istore 4, 2) := by decide +kernel
theorem d_M_held_16 : decode b_M_held 16 = .ok (.iload 4, 2) := by decide +kernel
theorem d_M_held_18 : decode b_M_held 18 = .ok (.aload_n 0, 1) := by decide +kernel
theorem d_M_held_19 : decode b_M_held 19 = .ok (.getfield 47, 3) := by decide +kernel
theorem d_M_held_22 : decode b_M_held 22 = .ok (.if_icmp .ge 34, 3) := by decide +kernel
theorem d_M_held_25 : decode b_M_held 25 = .ok (.iload_n 2, 1) := by decide +kernel
theorem d_M_held_26 : decode b_M_held 26 = .ok (.ifCond .lt 30, 3) := by decide +kernel
theorem d_M_held_29 : decode b_M_held 29 = .ok (.aload_n 0, 1) := by decide +kernel
theorem d_M_held_30 : decode b_M_held 30 = .ok (.getfield 13, 3) := by decide +kernel
theorem d_M_held_33 : decode b_M_held 33 = .ok (.iload 4, 2) := by decide +kernel
theorem d_M_held_35 : decode b_M_held 35 = .ok (.iaload, 1) := by decide +kernel
theorem d_M_held_36 : decode b_M_held 36 = .ok (.iload_n 1, 1) := by decide +kernel
theorem d_M_held_37 : decode b_M_held 37 = .ok (.if_icmp .ne 13, 3) := by decide +kernel
theorem d_M_held_40 : decode b_M_held 40 = .ok (.iload_n 3, 1) := by decide +kernel
theorem d_M_held_41 : decode b_M_held 41 = .ok (.ifCond .ne 6, 3) := by decide +kernel
theorem d_M_held_44 : decode b_M_held 44 = .ok (.iload 4, 2) := by decide +kernel
theorem d_M_held_46 : decode b_M_held 46 = .ok (.ireturn, 1) := by decide +kernel
theorem d_M_held_47 : decode b_M_held 47 = .ok (.iinc 3 (-1), 3) := by decide +kernel
theorem d_M_held_50 : decode b_M_held 50 = .ok (.iinc 4 1, 3) := by decide +kernel
theorem d_M_held_53 : decode b_M_held 53 = .ok (.goto (-37), 3) := by decide +kernel
theorem d_M_held_56 : decode b_M_held 56 = .ok (.iconst (-1), 1) := by decide +kernel
theorem d_M_held_57 : decode b_M_held 57 = .ok (.ireturn, 1) := by decide +kernel
theorem d_M_space_0 : decode b_M_space 0 = .ok (.aload_n 0, 1) := by decide +kernel
theorem d_M_space_1 : decode b_M_space 1 = .ok (.iload_n 1, 1) := by decide +kernel
theorem d_M_space_2 : decode b_M_space 2 = .ok (.invokevirtual 95, 3) := by decide +kernel
theorem d_M_space_5 : decode b_M_space 5 = .ok (.ifCond .ne 6, 3) := by decide +kernel
theorem d_M_space_8 : decode b_M_space 8 = .ok (.bipush (-2), 2) := by decide +kernel
theorem d_M_space_10 : decode b_M_space 10 = .ok (.ireturn, 1) := by decide +kernel
theorem d_M_space_11 : decode b_M_space 11 = .ok (.iload_n 2, 1) := by decide +kernel
theorem d_M_space_12 : decode b_M_space 12 = .ok (.iconst 0, 1) := by decide +kernel
theorem d_M_space_13 : decode b_M_space 13 = .ok (.iconst 1, 1) := by decide +kernel
theorem d_M_space_14 : decode b_M_space 14 = .ok (.invokestatic 51, 3) := by decide +kernel
theorem d_M_space_17 : decode b_M_space 17 = .ok (.ifCond .ne 6, 3) := by decide +kernel
theorem d_M_space_20 : decode b_M_space 20 = .ok (.bipush (-3), 2) := by decide +kernel
theorem d_M_space_22 : decode b_M_space 22 = .ok (.ireturn, 1) := by decide +kernel
theorem d_M_space_23 : decode b_M_space 23 = .ok (.aload_n 0, 1) := by decide +kernel
theorem d_M_space_24 : decode b_M_space 24 = .ok (.iload_n 2, 1) := by decide +kernel
theorem d_M_space_25 : decode b_M_space 25 = .ok (.iconst 1, 1) := by decide +kernel
theorem d_M_space_26 : decode b_M_space 26 = .ok (.invokevirtual 109, 3) := by decide +kernel
theorem d_M_space_29 : decode b_M_space 29 = .ok (.aload_n 0, 1) := by decide +kernel
theorem d_M_space_30 : decode b_M_space 30 = .ok (.iload_n 1, 1) := by decide +kernel
theorem d_M_space_31 : decode b_M_space 31 = .ok (.iload_n 2, 1) := by decide +kernel
theorem d_M_space_32 : decode b_M_space 32 = .ok (.invokevirtual 113, 3) := by decide +kernel
theorem d_M_space_35 : decode b_M_space 35 = .ok (.ireturn, 1) := by decide +kernel
theorem d_M_loses_0 : decode b_M_loses 0 = .ok (.aload_n 0, 1) := by decide +kernel
theorem d_M_loses_1 : decode b_M_loses 1 = .ok (.iload_n 1, 1) := by decide +kernel
theorem d_M_loses_2 : decode b_M_loses 2 = .ok (.invokevirtual 95, 3) := by decide +kernel
theorem d_M_loses_5 : decode b_M_loses 5 = .ok (.ifCond .eq 11, 3) := by decide +kernel
theorem d_M_loses_8 : decode b_M_loses 8 = .ok (.aload_n 0, 1) := by decide +kernel
theorem d_M_loses_9 : decode b_M_loses 9 = .ok (.iload_n 2, 1) := by decide +kernel
theorem d_M_loses_10 : decode b_M_loses 10 = .ok (.invokevirtual 95, 3) := by decide +kernel
theorem d_M_loses_13 : decode b_M_loses 13 = .ok (.ifCond .ne 6, 3) := by decide +kernel
theorem d_M_loses_16 : decode b_M_loses 16 = .ok (.bipush (-2), 2) := by decide +kernel
theorem d_M_loses_18 : decode b_M_loses 18 = .ok (.ireturn, 1) := by decide +kernel
theorem d_M_loses_19 : decode b_M_loses 19 = .ok (.iload_n 3, 1) := by decide +kernel
theorem d_M_loses_20 : decode b_M_loses 20 = .ok (.iconst 0, 1) := by decide +kernel
theorem d_M_loses_21 : decode b_M_loses 21 = .ok (.iconst 1, 1) := by decide +kernel
theorem d_M_loses_22 : decode b_M_loses 22 = .ok (.invokestatic 51, 3) := by decide +kernel
theorem d_M_loses_25 : decode b_M_loses 25 = .ok (.ifCond .ne 6, 3) := by decide +kernel
theorem d_M_loses_28 : decode b_M_loses 28 = .ok (.bipush (-3), 2) := by decide +kernel
theorem d_M_loses_30 : decode b_M_loses 30 = .ok (.ireturn, 1) := by decide +kernel
theorem d_M_loses_31 : decode b_M_loses 31 = .ok (.aload_n 0, 1) := by decide +kernel
theorem d_M_loses_32 : decode b_M_loses 32 = .ok (.iload_n 3, 1) := by decide +kernel
theorem d_M_loses_33 : decode b_M_loses 33 = .ok (.iconst 1, 1) := by decide +kernel
theorem d_M_loses_34 : decode b_M_loses 34 = .ok (.invokevirtual 109, 3) := by decide +kernel
theorem d_M_loses_37 : decode b_M_loses 37 = .ok (.aload_n 0, 1) := by decide +kernel
theorem d_M_loses_38 : decode b_M_loses 38 = .ok (.getfield 37, 3) := by decide +kernel
theorem d_M_loses_41 : decode b_M_loses 41 = .ok (.bipush 30, 2) := by decide +kernel
theorem d_M_loses_43 : decode b_M_loses 43 = .ok (.iload_n 1, 1) := by decide +kernel
theorem d_M_loses_44 : decode b_M_loses 44 = .ok (.imul, 1) := by decide +kernel
theorem d_M_loses_45 : decode b_M_loses 45 = .ok (.iload_n 2, 1) := by decide +kernel
theorem d_M_loses_46 : decode b_M_loses 46 = .ok (.iadd, 1) := by decide +kernel
theorem d_M_loses_47 : decode b_M_loses 47 = .ok (.iaload, 1) := by decide +kernel
theorem d_M_loses_48 : decode b_M_loses 48 = .ok (.sipush 1000, 3) := by decide +kernel
theorem d_M_loses_51 : decode b_M_loses 51 = .ok (.if_icmp .lt 7, 3) := by decide +kernel
theorem d_M_loses_54 : decode b_M_loses 54 = .ok (.iconst (-1), 1) := by decide +kernel
theorem d_M_loses_55 : decode b_M_loses 55 = .ok (.goto 14, 3) := by decide +kernel
theorem d_M_loses_58 : decode b_M_loses 58 = .ok (.aload_n 0, 1) := by decide +kernel
theorem d_M_loses_59 : decode b_M_loses 59 = .ok (.getfield 37, 3) := by decide +kernel
theorem d_M_loses_62 : decode b_M_loses 62 = .ok (.bipush 30, 2) := by decide +kernel
theorem d_M_loses_64 : decode b_M_loses 64 = .ok (.iload_n 1, 1) := by decide +kernel
theorem d_M_loses_65 : decode b_M_loses 65 = .ok (.imul, 1) := by decide +kernel
theorem d_M_loses_66 : decode b_M_loses 66 = .ok (.iload_n 2, 1) := by decide +kernel
theorem d_M_loses_67 : decode b_M_loses 67 = .ok (.iadd, 1) := by decide +kernel
theorem d_M_loses_68 : decode b_M_loses 68 = .ok (.iaload, 1) := by decide +kernel
theorem d_M_loses_69 : decode b_M_loses 69 = .ok (.ireturn, 1) := by decide +kernel
theorem d_M_looks_0 : decode b_M_looks 0 = .ok (.aload_n 0, 1) := by decide +kernel
theorem d_M_looks_1 : decode b_M_looks 1 = .ok (.iconst 0, 1) := by decide +kernel
theorem d_M_looks_2 : decode b_M_looks 2 = .ok (.iconst 1, 1) := by decide +kernel
theorem d_M_looks_3 : decode b_M_looks 3 = .ok (.invokevirtual 109, 3) := by decide +kernel
theorem d_M_looks_6 : decode b_M_looks 6 = .ok (.iconst 0, 1) := by decide +kernel
theorem d_M_looks_7 : decode b_M_looks 7 = .ok (.istore_n 1, 1) := by decide +kernel
theorem d_M_looks_8 : decode b_M_looks 8 = .ok (.iload_n 1, 1) := by decide +kernel
theorem d_M_looks_9 : decode b_M_looks 9 = .ok (.aload_n 0, 1) := by decide +kernel
theorem d_M_looks_10 : decode b_M_looks 10 = .ok (.getfield 47, 3) := by decide +kernel
theorem d_M_looks_13 : decode b_M_looks 13 = .ok (.if_icmp .ge 37, 3) := by decide +kernel
theorem d_M_looks_16 : decode b_M_looks 16 = .ok (.aload_n 0, 1) := by decide +kernel
theorem d_M_looks_17 : decode b_M_looks 17 = .ok (.getfield 44, 3) := by decide +kernel
theorem d_M_looks_20 : decode b_M_looks 20 = .ok (.iload_n 1, 1) := by decide +kernel
theorem d_M_looks_21 : decode b_M_looks 21 = .ok (.aload_n 0, 1) := by decide +kernel
theorem d_M_looks_22 : decode b_M_looks 22 = .ok (.iload_n 1, 1) := by decide +kernel
theorem d_M_looks_23 : decode b_M_looks 23 = .ok (.invokevirtual 95, 3) := by decide +kernel
theorem d_M_looks_26 : decode b_M_looks 26 = .ok (.ifCond .eq 16, 3) := by decide +kernel
theorem d_M_looks_29 : decode b_M_looks 29 = .ok (.aload_n 0, 1) := by decide +kernel
theorem d_M_looks_30 : decode b_M_looks 30 = .ok (.iload_n 1, 1) := by decide +kernel
theorem d_M_looks_31 : decode b_M_looks 31 = .ok (.iconst 0, 1) := by decide +kernel
theorem d_M_looks_32 : decode b_M_looks 32 = .ok (.invokevirtual 113, 3) := by decide +kernel
theorem d_M_looks_35 : decode b_M_looks 35 = .ok (.ifCond .le 7, 3) := by decide +kernel
theorem d_M_looks_38 : decode b_M_looks 38 = .ok (.iconst 1, 1) := by decide +kernel
theorem d_M_looks_39 : decode b_M_looks 39 = .ok (.goto 4, 3) := by decide +kernel
theorem d_M_looks_42 : decode b_M_looks 42 = .ok (.iconst 0, 1) := by decide +kernel
theorem d_M_looks_43 : decode b_M_looks 43 = .ok (.bastore, 1) := by decide +kernel
theorem d_M_looks_44 : decode b_M_looks 44 = .ok (.iinc 1 1, 3) := by decide +kernel
theorem d_M_looks_47 : decode b_M_looks 47 = .ok (.goto (-39), 3) := by decide +kernel
theorem d_M_looks_50 : decode b_M_looks 50 = .ok (.aload_n 0, 1) := by decide +kernel
theorem d_M_looks_51 : decode b_M_looks 51 = .ok (.iconst 0, 1) := by decide +kernel
theorem d_M_looks_52 : decode b_M_looks 52 = .ok (.iconst 0, 1) := by decide +kernel
theorem d_M_looks_53 : decode b_M_looks 53 = .ok (.invokevirtual 109, 3) := by decide +kernel
theorem d_M_looks_56 : decode b_M_looks 56 = .ok (.iconst 0, 1) := by decide +kernel
theorem d_M_looks_57 : decode b_M_looks 57 = .ok (.istore_n 1, 1) := by decide +kernel
theorem d_M_looks_58 : decode b_M_looks 58 = .ok (.iload_n 1, 1) := by decide +kernel
theorem d_M_looks_59 : decode b_M_looks 59 = .ok (.sipush 900, 3) := by decide +kernel
theorem d_M_looks_62 : decode b_M_looks 62 = .ok (.if_icmp .ge 32, 3) := by decide +kernel
theorem d_M_looks_65 : decode b_M_looks 65 = .ok (.aload_n 0, 1) := by decide +kernel
theorem d_M_looks_66 : decode b_M_looks 66 = .ok (.getfield 40, 3) := by decide +kernel
theorem d_M_looks_69 : decode b_M_looks 69 = .ok (.iload_n 1, 1) := by decide +kernel
theorem d_M_looks_70 : decode b_M_looks 70 = .ok (.aload_n 0, 1) := by decide +kernel
theorem d_M_looks_71 : decode b_M_looks 71 = .ok (.getfield 37, 3) := by decide +kernel
theorem d_M_looks_74 : decode b_M_looks 74 = .ok (.iload_n 1, 1) := by decide +kernel
theorem d_M_looks_75 : decode b_M_looks 75 = .ok (.iaload, 1) := by decide +kernel
theorem d_M_looks_76 : decode b_M_looks 76 = .ok (.sipush 1000, 3) := by decide +kernel
theorem d_M_looks_79 : decode b_M_looks 79 = .ok (.if_icmp .ge 7, 3) := by decide +kernel
theorem d_M_looks_82 : decode b_M_looks 82 = .ok (.iconst 1, 1) := by decide +kernel
theorem d_M_looks_83 : decode b_M_looks 83 = .ok (.goto 4, 3) := by decide +kernel
theorem d_M_looks_86 : decode b_M_looks 86 = .ok (.iconst 0, 1) := by decide +kernel
theorem d_M_looks_87 : decode b_M_looks 87 = .ok (.bastore, 1) := by decide +kernel
theorem d_M_looks_88 : decode b_M_looks 88 = .ok (.iinc 1 1, 3) := by decide +kernel
theorem d_M_looks_91 : decode b_M_looks 91 = .ok (.goto (-33), 3) := by decide +kernel
theorem d_M_looks_94 : decode b_M_looks 94 = .ok (.return_, 1) := by decide +kernel
theorem d_M_passes_0 : decode b_M_passes 0 = .ok (.aload_n 0, 1) := by decide +kernel
theorem d_M_passes_1 : decode b_M_passes 1 = .ok (.getfield 40, 3) := by decide +kernel
theorem d_M_passes_4 : decode b_M_passes 4 = .ok (.bipush 30, 2) := by decide +kernel
theorem d_M_passes_6 : decode b_M_passes 6 = .ok (.iload_n 1, 1) := by decide +kernel
theorem d_M_passes_7 : decode b_M_passes 7 = .ok (.imul, 1) := by decide +kernel
theorem d_M_passes_8 : decode b_M_passes 8 = .ok (.iload_n 2, 1) := by decide +kernel
theorem d_M_passes_9 : decode b_M_passes 9 = .ok (.iadd, 1) := by decide +kernel
theorem d_M_passes_10 : decode b_M_passes 10 = .ok (.baload, 1) := by decide +kernel
theorem d_M_passes_11 : decode b_M_passes 11 = .ok (.istore_n 3, 1) := by decide +kernel
theorem d_M_passes_12 : decode b_M_passes 12 = .ok (.iconst 0, 1) := by decide +kernel
theorem d_M_passes_13 : decode b_M_passes 13 = .ok (.istore 4, 2) := by decide +kernel
theorem d_M_passes_15 : decode b_M_passes 15 = .ok (.iload 4, 2) := by decide +kernel
theorem d_M_passes_17 : decode b_M_passes 17 = .ok (.aload_n 0, 1) := by decide +kernel
theorem d_M_passes_18 : decode b_M_passes 18 = .ok (.getfield 63, 3) := by decide +kernel
theorem d_M_passes_21 : decode b_M_passes 21 = .ok (.if_icmp .ge 157, 3) := by decide +kernel
theorem d_M_passes_24 : decode b_M_passes 24 = .ok (.aload_n 0, 1) := by decide +kernel
theorem d_M_passes_25 : decode b_M_passes 25 = .ok (.getfield 25, 3) := by decide +kernel
theorem d_M_passes_28 : decode b_M_passes 28 = .ok (.iload 4, 2) := by decide +kernel
theorem d_M_passes_30 : decode b_M_passes 30 = .ok (.iaload, 1) := by decide +kernel
theorem d_M_passes_31 : decode b_M_passes 31 = .ok (.iconst 1, 1) := by decide +kernel
theorem d_M_passes_32 : decode b_M_passes 32 = .ok (.if_icmp .eq 14, 3) := by decide +kernel
theorem d_M_passes_35 : decode b_M_passes 35 = .ok (.aload_n 0, 1) := by decide +kernel
theorem d_M_passes_36 : decode b_M_passes 36 = .ok (.getfield 28, 3) := by decide +kernel
theorem d_M_passes_39 : decode b_M_passes 39 = .ok (.iload 4, 2) := by decide +kernel
theorem d_M_passes_41 : decode b_M_passes 41 = .ok (.iaload, 1) := by decide +kernel
theorem d_M_passes_42 : decode b_M_passes 42 = .ok (.iconst 1, 1) := by decide +kernel
theorem d_M_passes_43 : decode b_M_passes 43 = .ok (.if_icmp .ne 7, 3) := by decide +kernel
theorem d_M_passes_46 : decode b_M_passes 46 = .ok (.iconst 1, 1) := by decide +kernel
theorem d_M_passes_47 : decode b_M_passes 47 = .ok (.goto 4, 3) := by decide +kernel
theorem d_M_passes_50 : decode b_M_passes 50 = .ok (.iconst 0, 1) := by decide +kernel
theorem d_M_passes_51 : decode b_M_passes 51 = .ok (.istore 5, 2) := by decide +kernel
theorem d_M_passes_53 : decode b_M_passes 53 = .ok (.aload_n 0, 1) := by decide +kernel
theorem d_M_passes_54 : decode b_M_passes 54 = .ok (.getfield 40, 3) := by decide +kernel
theorem d_M_passes_57 : decode b_M_passes 57 = .ok (.bipush 30, 2) := by decide +kernel
theorem d_M_passes_59 : decode b_M_passes 59 = .ok (.iload_n 1, 1) := by decide +kernel
theorem d_M_passes_60 : decode b_M_passes 60 = .ok (.imul, 1) := by decide +kernel
theorem d_M_passes_61 : decode b_M_passes 61 = .ok (.aload_n 0, 1) := by decide +kernel
theorem d_M_passes_62 : decode b_M_passes 62 = .ok (.getfield 19, 3) := by decide +kernel
theorem d_M_passes_65 : decode b_M_passes 65 = .ok (.iload 4, 2) := by decide +kernel
theorem d_M_passes_67 : decode b_M_passes 67 = .ok (.iaload, 1) := by decide +kernel
theorem d_M_passes_68 : decode b_M_passes 68 = .ok (.iadd, 1) := by decide +kernel
theorem d_M_passes_69 : decode b_M_passes 69 = .ok (.baload, 1) := by decide +kernel
theorem d_M_passes_70 : decode b_M_passes 70 = .ok (.ifCond .eq 27, 3) := by decide +kernel
theorem d_M_passes_73 : decode b_M_passes 73 = .ok (.aload_n 0, 1) := by decide +kernel
theorem d_M_passes_74 : decode b_M_passes 74 = .ok (.getfield 40, 3) := by decide +kernel
theorem d_M_passes_77 : decode b_M_passes 77 = .ok (.bipush 30, 2) := by decide +kernel
theorem d_M_passes_79 : decode b_M_passes 79 = .ok (.aload_n 0, 1) := by decide +kernel
theorem d_M_passes_80 : decode b_M_passes 80 = .ok (.getfield 22, 3) := by decide +kernel
theorem d_M_passes_83 : decode b_M_passes 83 = .ok (.iload 4, 2) := by decide +kernel
theorem d_M_passes_85 : decode b_M_passes 85 = .ok (.iaload, 1) := by decide +kernel
theorem d_M_passes_86 : decode b_M_passes 86 = .ok (.imul, 1) := by decide +kernel
theorem d_M_passes_87 : decode b_M_passes 87 = .ok (.iload_n 2, 1) := by decide +kernel
theorem d_M_passes_88 : decode b_M_passes 88 = .ok (.iadd, 1) := by decide +kernel
theorem d_M_passes_89 : decode b_M_passes 89 = .ok (.baload, 1) := by decide +kernel
theorem d_M_passes_90 : decode b_M_passes 90 = .ok (.ifCond .eq 7, 3) := by decide +kernel
theorem d_M_passes_93 : decode b_M_passes 93 = .ok (.iconst 1, 1) := by decide +kernel
theorem d_M_passes_94 : decode b_M_passes 94 = .ok (.goto 4, 3) := by decide +kernel
theorem d_M_passes_97 : decode b_M_passes 97 = .ok (.iconst 0, 1) := by decide +kernel
theorem d_M_passes_98 : decode b_M_passes 98 = .ok (.istore 6, 2) := by decide +kernel
theorem d_M_passes_100 : decode b_M_passes 100 = .ok (.aload_n 0, 1) := by decide +kernel
theorem d_M_passes_101 : decode b_M_passes 101 = .ok (.getfield 40, 3) := by decide +kernel
theorem d_M_passes_104 : decode b_M_passes 104 = .ok (.bipush 30, 2) := by decide +kernel
theorem d_M_passes_106 : decode b_M_passes 106 = .ok (.iload_n 1, 1) := by decide +kernel
theorem d_M_passes_107 : decode b_M_passes 107 = .ok (.imul, 1) := by decide +kernel
theorem d_M_passes_108 : decode b_M_passes 108 = .ok (.aload_n 0, 1) := by decide +kernel
theorem d_M_passes_109 : decode b_M_passes 109 = .ok (.getfield 22, 3) := by decide +kernel
theorem d_M_passes_112 : decode b_M_passes 112 = .ok (.iload 4, 2) := by decide +kernel
theorem d_M_passes_114 : decode b_M_passes 114 = .ok (.iaload, 1) := by decide +kernel
theorem d_M_passes_115 : decode b_M_passes 115 = .ok (.iadd, 1) := by decide +kernel
theorem d_M_passes_116 : decode b_M_passes 116 = .ok (.baload, 1) := by decide +kernel
theorem d_M_passes_117 : decode b_M_passes 117 = .ok (.ifCond .eq 27, 3) := by decide +kernel
theorem d_M_passes_120 : decode b_M_passes 120 = .ok (.aload_n 0, 1) := by decide +kernel
theorem d_M_passes_121 : decode b_M_passes 121 = .ok (.getfield 40, 3) := by decide +kernel
theorem d_M_passes_124 : decode b_M_passes 124 = .ok (.bipush 30, 2) := by decide +kernel
theorem d_M_passes_126 : decode b_M_passes 126 = .ok (.aload_n 0, 1) := by decide +kernel
theorem d_M_passes_127 : decode b_M_passes 127 = .ok (.getfield 19, 3) := by decide +kernel
theorem d_M_passes_130 : decode b_M_passes 130 = .ok (.iload 4, 2) := by decide +kernel
theorem d_M_passes_132 : decode b_M_passes 132 = .ok (.iaload, 1) := by decide +kernel
theorem d_M_passes_133 : decode b_M_passes 133 = .ok (.imul, 1) := by decide +kernel
theorem d_M_passes_134 : decode b_M_passes 134 = .ok (.iload_n 2, 1) := by decide +kernel
theorem d_M_passes_135 : decode b_M_passes 135 = .ok (.iadd, 1) := by decide +kernel
theorem d_M_passes_136 : decode b_M_passes 136 = .ok (.baload, 1) := by decide +kernel
theorem d_M_passes_137 : decode b_M_passes 137 = .ok (.ifCond .eq 7, 3) := by decide +kernel
theorem d_M_passes_140 : decode b_M_passes 140 = .ok (.iconst 1, 1) := by decide +kernel
theorem d_M_passes_141 : decode b_M_passes 141 = .ok (.goto 4, 3) := by decide +kernel
theorem d_M_passes_144 : decode b_M_passes 144 = .ok (.iconst 0, 1) := by decide +kernel
theorem d_M_passes_145 : decode b_M_passes 145 = .ok (.istore 7, 2) := by decide +kernel
theorem d_M_passes_147 : decode b_M_passes 147 = .ok (.iload_n 3, 1) := by decide +kernel
theorem d_M_passes_148 : decode b_M_passes 148 = .ok (.ifCond .ne 18, 3) := by decide +kernel
theorem d_M_passes_151 : decode b_M_passes 151 = .ok (.iload 5, 2) := by decide +kernel
theorem d_M_passes_153 : decode b_M_passes 153 = .ok (.ifCond .eq 17, 3) := by decide +kernel
theorem d_M_passes_156 : decode b_M_passes 156 = .ok (.iload 6, 2) := by decide +kernel
theorem d_M_passes_158 : decode b_M_passes 158 = .ok (.ifCond .ne 8, 3) := by decide +kernel
theorem d_M_passes_161 : decode b_M_passes 161 = .ok (.iload 7, 2) := by decide +kernel
theorem d_M_passes_163 : decode b_M_passes 163 = .ok (.ifCond .eq 7, 3) := by decide +kernel
theorem d_M_passes_166 : decode b_M_passes 166 = .ok (.iconst 1, 1) := by decide +kernel
theorem d_M_passes_167 : decode b_M_passes 167 = .ok (.goto 4, 3) := by decide +kernel
theorem d_M_passes_170 : decode b_M_passes 170 = .ok (.iconst 0, 1) := by decide +kernel
theorem d_M_passes_171 : decode b_M_passes 171 = .ok (.istore_n 3, 1) := by decide +kernel
theorem d_M_passes_172 : decode b_M_passes 172 = .ok (.iinc 4 1, 3) := by decide +kernel
theorem d_M_passes_175 : decode b_M_passes 175 = .ok (.goto (-160), 3) := by decide +kernel
theorem d_M_passes_178 : decode b_M_passes 178 = .ok (.iload_n 3, 1) := by decide +kernel
theorem d_M_passes_179 : decode b_M_passes 179 = .ok (.ireturn, 1) := by decide +kernel
theorem d_M_isSeen_0 : decode b_M_isSeen 0 = .ok (.aload_n 0, 1) := by decide +kernel
theorem d_M_isSeen_1 : decode b_M_isSeen 1 = .ok (.iload_n 1, 1) := by decide +kernel
theorem d_M_isSeen_2 : decode b_M_isSeen 2 = .ok (.invokevirtual 98, 3) := by decide +kernel
theorem d_M_isSeen_5 : decode b_M_isSeen 5 = .ok (.istore_n 3, 1) := by decide +kernel
theorem d_M_isSeen_6 : decode b_M_isSeen 6 = .ok (.aload_n 0, 1) := by decide +kernel
theorem d_M_isSeen_7 : decode b_M_isSeen 7 = .ok (.iload_n 2, 1) := by decide +kernel
theorem d_M_isSeen_8 : decode b_M_isSeen 8 = .ok (.invokevirtual 98, 3) := by decide +kernel
theorem d_M_isSeen_11 : decode b_M_isSeen 11 = .ok (.istore 4, 2) := by decide +kernel
theorem d_M_isSeen_13 : decode b_M_isSeen 13 = .ok (.iload_n 1, 1) := by decide +kernel
theorem d_M_isSeen_14 : decode b_M_isSeen 14 = .ok (.iload_n 2, 1) := by decide +kernel
theorem d_M_isSeen_15 : decode b_M_isSeen 15 = .ok (.if_icmp .eq 51, 3) := by decide +kernel
theorem d_M_isSeen_18 : decode b_M_isSeen 18 = .ok (.iload_n 3, 1) := by decide +kernel
theorem d_M_isSeen_19 : decode b_M_isSeen 19 = .ok (.iconst (-1), 1) := by decide +kernel
theorem d_M_isSeen_20 : decode b_M_isSeen 20 = .ok (.if_icmp .eq 46, 3) := by decide +kernel
theorem d_M_isSeen_23 : decode b_M_isSeen 23 = .ok (.iload 4, 2) := by decide +kernel
theorem d_M_isSeen_25 : decode b_M_isSeen 25 = .ok (.iconst (-1), 1) := by decide +kernel
theorem d_M_isSeen_26 : decode b_M_isSeen 26 = .ok (.if_icmp .eq 40, 3) := by decide +kernel
theorem d_M_isSeen_29 : decode b_M_isSeen 29 = .ok (.aload_n 0, 1) := by decide +kernel
theorem d_M_isSeen_30 : decode b_M_isSeen 30 = .ok (.getfield 16, 3) := by decide +kernel
theorem d_M_isSeen_33 : decode b_M_isSeen 33 = .ok (.iconst 4, 1) := by decide +kernel
theorem d_M_isSeen_34 : decode b_M_isSeen 34 = .ok (.iload_n 2, 1) := by decide +kernel
theorem d_M_isSeen_35 : decode b_M_isSeen 35 = .ok (.imul, 1) := by decide +kernel
theorem d_M_isSeen_36 : decode b_M_isSeen 36 = .ok (.iconst 2, 1) := by decide +kernel
theorem d_M_isSeen_37 : decode b_M_isSeen 37 = .ok (.iadd, 1) := by decide +kernel
theorem d_M_isSeen_38 : decode b_M_isSeen 38 = .ok (.iaload, 1) := by decide +kernel
theorem d_M_isSeen_39 : decode b_M_isSeen 39 = .ok (.ifCond .gt 13, 3) := by decide +kernel
theorem d_M_isSeen_42 : decode b_M_isSeen 42 = .ok (.aload_n 0, 1) := by decide +kernel
theorem d_M_isSeen_43 : decode b_M_isSeen 43 = .ok (.getfield 44, 3) := by decide +kernel
theorem d_M_isSeen_46 : decode b_M_isSeen 46 = .ok (.iload 4, 2) := by decide +kernel
theorem d_M_isSeen_48 : decode b_M_isSeen 48 = .ok (.baload, 1) := by decide +kernel
theorem d_M_isSeen_49 : decode b_M_isSeen 49 = .ok (.ifCond .eq 17, 3) := by decide +kernel
theorem d_M_isSeen_52 : decode b_M_isSeen 52 = .ok (.aload_n 0, 1) := by decide +kernel
theorem d_M_isSeen_53 : decode b_M_isSeen 53 = .ok (.iload_n 3, 1) := by decide +kernel
theorem d_M_isSeen_54 : decode b_M_isSeen 54 = .ok (.iload 4, 2) := by decide +kernel
theorem d_M_isSeen_56 : decode b_M_isSeen 56 = .ok (.invokevirtual 117, 3) := by decide +kernel
theorem d_M_isSeen_59 : decode b_M_isSeen 59 = .ok (.ifCond .eq 7, 3) := by decide +kernel
theorem d_M_isSeen_62 : decode b_M_isSeen 62 = .ok (.iconst 1, 1) := by decide +kernel
theorem d_M_isSeen_63 : decode b_M_isSeen 63 = .ok (.goto 4, 3) := by decide +kernel
theorem d_M_isSeen_66 : decode b_M_isSeen 66 = .ok (.iconst 0, 1) := by decide +kernel
theorem d_M_isSeen_67 : decode b_M_isSeen 67 = .ok (.ireturn, 1) := by decide +kernel
theorem d_M_sees_0 : decode b_M_sees 0 = .ok (.aload_n 0, 1) := by decide +kernel
theorem d_M_sees_1 : decode b_M_sees 1 = .ok (.iload_n 1, 1) := by decide +kernel
theorem d_M_sees_2 : decode b_M_sees 2 = .ok (.iconst 3, 1) := by decide +kernel
theorem d_M_sees_3 : decode b_M_sees 3 = .ok (.invokevirtual 59, 3) := by decide +kernel
theorem d_M_sees_6 : decode b_M_sees 6 = .ok (.ifCond .eq 11, 3) := by decide +kernel
theorem d_M_sees_9 : decode b_M_sees 9 = .ok (.aload_n 0, 1) := by decide +kernel
theorem d_M_sees_10 : decode b_M_sees 10 = .ok (.iload_n 2, 1) := by decide +kernel
theorem d_M_sees_11 : decode b_M_sees 11 = .ok (.invokevirtual 55, 3) := by decide +kernel
theorem d_M_sees_14 : decode b_M_sees 14 = .ok (.ifCond .ne 6, 3) := by decide +kernel
theorem d_M_sees_17 : decode b_M_sees 17 = .ok (.bipush (-2), 2) := by decide +kernel
theorem d_M_sees_19 : decode b_M_sees 19 = .ok (.ireturn, 1) := by decide +kernel
theorem d_M_sees_20 : decode b_M_sees 20 = .ok (.aload_n 0, 1) := by decide +kernel
theorem d_M_sees_21 : decode b_M_sees 21 = .ok (.invokevirtual 120, 3) := by decide +kernel
theorem d_M_sees_24 : decode b_M_sees 24 = .ok (.aload_n 0, 1) := by decide +kernel
theorem d_M_sees_25 : decode b_M_sees 25 = .ok (.iload_n 1, 1) := by decide +kernel
theorem d_M_sees_26 : decode b_M_sees 26 = .ok (.iload_n 2, 1) := by decide +kernel
theorem d_M_sees_27 : decode b_M_sees 27 = .ok (.invokevirtual 123, 3) := by decide +kernel
theorem d_M_sees_30 : decode b_M_sees 30 = .ok (.ifCond .eq 7, 3) := by decide +kernel
theorem d_M_sees_33 : decode b_M_sees 33 = .ok (.iconst 1, 1) := by decide +kernel
theorem d_M_sees_34 : decode b_M_sees 34 = .ok (.goto 4, 3) := by decide +kernel
theorem d_M_sees_37 : decode b_M_sees 37 = .ok (.iconst 0, 1) := by decide +kernel
theorem d_M_sees_38 : decode b_M_sees 38 = .ok (.ireturn, 1) := by decide +kernel
theorem d_M_barrier_0 : decode b_M_barrier 0 = .ok (.aload_n 0, 1) := by decide +kernel
theorem d_M_barrier_1 : decode b_M_barrier 1 = .ok (.iload_n 1, 1) := by decide +kernel
theorem d_M_barrier_2 : decode b_M_barrier 2 = .ok (.iconst 3, 1) := by decide +kernel
theorem d_M_barrier_3 : decode b_M_barrier 3 = .ok (.invokevirtual 59, 3) := by decide +kernel
theorem d_M_barrier_6 : decode b_M_barrier 6 = .ok (.ifCond .eq 11, 3) := by decide +kernel
theorem d_M_barrier_9 : decode b_M_barrier 9 = .ok (.aload_n 0, 1) := by decide +kernel
theorem d_M_barrier_10 : decode b_M_barrier 10 = .ok (.iload_n 2, 1) := by decide +kernel
theorem d_M_barrier_11 : decode b_M_barrier 11 = .ok (.invokevirtual 55, 3) := by decide +kernel
theorem d_M_barrier_14 : decode b_M_barrier 14 = .ok (.ifCond .ne 6, 3) := by decide +kernel
theorem d_M_barrier_17 : decode b_M_barrier 17 = .ok (.bipush (-2), 2) := by decide +kernel
theorem d_M_barrier_19 : decode b_M_barrier 19 = .ok (.ireturn, 1) := by decide +kernel
theorem d_M_barrier_20 : decode b_M_barrier 20 = .ok (.iload_n 1, 1) := by decide +kernel
theorem d_M_barrier_21 : decode b_M_barrier 21 = .ok (.iload_n 2, 1) := by decide +kernel
theorem d_M_barrier_22 : decode b_M_barrier 22 = .ok (.if_icmp .ne 5, 3) := by decide +kernel
theorem d_M_barrier_25 : decode b_M_barrier 25 = .ok (.iconst (-1), 1) := by decide +kernel
theorem d_M_barrier_26 : decode b_M_barrier 26 = .ok (.ireturn, 1) := by decide +kernel
theorem d_M_barrier_27 : decode b_M_barrier 27 = .ok (.aload_n 0, 1) := by decide +kernel
theorem d_M_barrier_28 : decode b_M_barrier 28 = .ok (.iload_n 1, 1) := by decide +kernel
theorem d_M_barrier_29 : decode b_M_barrier 29 = .ok (.iload_n 2, 1) := by decide +kernel
theorem d_M_barrier_30 : decode b_M_barrier 30 = .ok (.invokevirtual 88, 3) := by decide +kernel
theorem d_M_barrier_33 : decode b_M_barrier 33 = .ok (.ifCond .eq 10, 3) := by decide +kernel
theorem d_M_barrier_36 : decode b_M_barrier 36 = .ok (.aload_n 0, 1) := by decide +kernel
theorem d_M_barrier_37 : decode b_M_barrier 37 = .ok (.invokevirtual 91, 3) := by decide +kernel
theorem d_M_barrier_40 : decode b_M_barrier 40 = .ok (.goto 5, 3) := by decide +kernel
theorem d_M_barrier_43 : decode b_M_barrier 43 = .ok (.bipush (-5), 2) := by decide +kernel
theorem d_M_barrier_45 : decode b_M_barrier 45 = .ok (.ireturn, 1) := by decide +kernel
theorem d_M_scope_0 : decode b_M_scope 0 = .ok (.aload_n 0, 1) := by decide +kernel
theorem d_M_scope_1 : decode b_M_scope 1 = .ok (.iload_n 1, 1) := by decide +kernel
theorem d_M_scope_2 : decode b_M_scope 2 = .ok (.iconst 3, 1) := by decide +kernel
theorem d_M_scope_3 : decode b_M_scope 3 = .ok (.invokevirtual 59, 3) := by decide +kernel
theorem d_M_scope_6 : decode b_M_scope 6 = .ok (.ifCond .ne 6, 3) := by decide +kernel
theorem d_M_scope_9 : decode b_M_scope 9 = .ok (.bipush (-2), 2) := by decide +kernel
theorem d_M_scope_11 : decode b_M_scope 11 = .ok (.ireturn, 1) := by decide +kernel
theorem d_M_scope_12 : decode b_M_scope 12 = .ok (.aload_n 0, 1) := by decide +kernel
theorem d_M_scope_13 : decode b_M_scope 13 = .ok (.invokevirtual 120, 3) := by decide +kernel
theorem d_M_scope_16 : decode b_M_scope 16 = .ok (.iload_n 2, 1) := by decide +kernel
theorem d_M_scope_17 : decode b_M_scope 17 = .ok (.istore_n 3, 1) := by decide +kernel
theorem d_M_scope_18 : decode b_M_scope 18 = .ok (.iconst 0, 1) := by decide +kernel
theorem d_M_scope_19 : decode b_M_scope 19 = .ok (.istore 4, 2) := by decide +kernel
theorem d_M_scope_21 : decode b_M_scope 21 = .ok (.iload 4, 2) := by decide +kernel
theorem d_M_scope_23 : decode b_M_scope 23 = .ok (.aload_n 0, 1) := by decide +kernel
theorem d_M_scope_24 : decode b_M_scope 24 = .ok (.getfield 47, 3) := by decide +kernel
theorem d_M_scope_27 : decode b_M_scope 27 = .ok (.if_icmp .ge 49, 3) := by decide +kernel
theorem d_M_scope_30 : decode b_M_scope 30 = .ok (.iload_n 2, 1) := by decide +kernel
theorem d_M_scope_31 : decode b_M_scope 31 = .ok (.ifCond .lt 45, 3) := by decide +kernel
theorem d_M_scope_34 : decode b_M_scope 34 = .ok (.iload 4, 2) := by decide +kernel
theorem d_M_scope_36 : decode b_M_scope 36 = .ok (.iload_n 1, 1) := by decide +kernel
theorem d_M_scope_37 : decode b_M_scope 37 = .ok (.if_icmp .eq 33, 3) := by decide +kernel
theorem d_M_scope_40 : decode b_M_scope 40 = .ok (.aload_n 0, 1) := by decide +kernel
theorem d_M_scope_41 : decode b_M_scope 41 = .ok (.iload_n 1, 1) := by decide +kernel
theorem d_M_scope_42 : decode b_M_scope 42 = .ok (.iload 4, 2) := by decide +kernel
theorem d_M_scope_44 : decode b_M_scope 44 = .ok (.invokevirtual 123, 3) := by decide +kernel
theorem d_M_scope_47 : decode b_M_scope 47 = .ok (.ifCond .ne 13, 3) := by decide +kernel
theorem d_M_scope_50 : decode b_M_scope 50 = .ok (.aload_n 0, 1) := by decide +kernel
theorem d_M_scope_51 : decode b_M_scope 51 = .ok (.iload_n 1, 1) := by decide +kernel
theorem d_M_scope_52 : decode b_M_scope 52 = .ok (.iload 4, 2) := by decide +kernel
theorem d_M_scope_54 : decode b_M_scope 54 = .ok (.invokevirtual 126, 3) := by decide +kernel
theorem d_M_scope_57 : decode b_M_scope 57 = .ok (.ifCond .eq 13, 3) := by decide +kernel
theorem d_M_scope_60 : decode b_M_scope 60 = .ok (.iload_n 3, 1) := by decide +kernel
theorem d_M_scope_61 : decode b_M_scope 61 = .ok (.ifCond .ne 6, 3) := by decide +kernel
theorem d_M_scope_64 : decode b_M_scope 64 = .ok (.iload 4, 2) := by decide +kernel
theorem d_M_scope_66 : decode b_M_scope 66 = .ok (.ireturn, 1) := by decide +kernel
theorem d_M_scope_67 : decode b_M_scope 67 = .ok (.iinc 3 (-1), 3) := by decide +kernel
theorem d_M_scope_70 : decode b_M_scope 70 = .ok (.iinc 4 1, 3) := by decide +kernel
theorem d_M_scope_73 : decode b_M_scope 73 = .ok (.goto (-52), 3) := by decide +kernel
theorem d_M_scope_76 : decode b_M_scope 76 = .ok (.iconst (-1), 1) := by decide +kernel
theorem d_M_scope_77 : decode b_M_scope 77 = .ok (.ireturn, 1) := by decide +kernel
theorem d_M_hears_0 : decode b_M_hears 0 = .ok (.aload_n 0, 1) := by decide +kernel
theorem d_M_hears_1 : decode b_M_hears 1 = .ok (.iload_n 1, 1) := by decide +kernel
theorem d_M_hears_2 : decode b_M_hears 2 = .ok (.iconst 3, 1) := by decide +kernel
theorem d_M_hears_3 : decode b_M_hears 3 = .ok (.invokevirtual 59, 3) := by decide +kernel
theorem d_M_hears_6 : decode b_M_hears 6 = .ok (.ifCond .ne 6, 3) := by decide +kernel
theorem d_M_hears_9 : decode b_M_hears 9 = .ok (.bipush (-2), 2) := by decide +kernel
theorem d_M_hears_11 : decode b_M_hears 11 = .ok (.ireturn, 1) := by decide +kernel
theorem d_M_hears_12 : decode b_M_hears 12 = .ok (.aload_n 0, 1) := by decide +kernel
theorem d_M_hears_13 : decode b_M_hears 13 = .ok (.iload_n 1, 1) := by decide +kernel
theorem d_M_hears_14 : decode b_M_hears 14 = .ok (.invokevirtual 98, 3) := by decide +kernel
theorem d_M_hears_17 : decode b_M_hears 17 = .ok (.istore_n 2, 1) := by decide +kernel
theorem d_M_hears_18 : decode b_M_hears 18 = .ok (.iload_n 2, 1) := by decide +kernel
theorem d_M_hears_19 : decode b_M_hears 19 = .ok (.iconst (-1), 1) := by decide +kernel
theorem d_M_hears_20 : decode b_M_hears 20 = .ok (.if_icmp .ne 5, 3) := by decide +kernel
theorem d_M_hears_23 : decode b_M_hears 23 = .ok (.iconst (-1), 1) := by decide +kernel
theorem d_M_hears_24 : decode b_M_hears 24 = .ok (.ireturn, 1) := by decide +kernel
theorem d_M_hears_25 : decode b_M_hears 25 = .ok (.aload_n 0, 1) := by decide +kernel
theorem d_M_hears_26 : decode b_M_hears 26 = .ok (.iconst 1, 1) := by decide +kernel
theorem d_M_hears_27 : decode b_M_hears 27 = .ok (.iconst 1, 1) := by decide +kernel
theorem d_M_hears_28 : decode b_M_hears 28 = .ok (.invokevirtual 109, 3) := by decide +kernel
theorem d_M_hears_31 : decode b_M_hears 31 = .ok (.iconst (-1), 1) := by decide +kernel
theorem d_M_hears_32 : decode b_M_hears 32 = .ok (.istore_n 3, 1) := by decide +kernel
theorem d_M_hears_33 : decode b_M_hears 33 = .ok (.iconst 0, 1) := by decide +kernel
theorem d_M_hears_34 : decode b_M_hears 34 = .ok (.istore 4, 2) := by decide +kernel
theorem d_M_hears_36 : decode b_M_hears 36 = .ok (.iconst 0, 1) := by decide +kernel
theorem d_M_hears_37 : decode b_M_hears 37 = .ok (.istore 5, 2) := by decide +kernel
theorem d_M_hears_39 : decode b_M_hears 39 = .ok (.iload 5, 2) := by decide +kernel
theorem d_M_hears_41 : decode b_M_hears 41 = .ok (.aload_n 0, 1) := by decide +kernel
theorem d_M_hears_42 : decode b_M_hears 42 = .ok (.getfield 47, 3) := by decide +kernel
theorem d_M_hears_45 : decode b_M_hears 45 = .ok (.if_icmp .ge 105, 3) := by decide +kernel
theorem d_M_hears_48 : decode b_M_hears 48 = .ok (.aload_n 0, 1) := by decide +kernel
theorem d_M_hears_49 : decode b_M_hears 49 = .ok (.iload 5, 2) := by decide +kernel
theorem d_M_hears_51 : decode b_M_hears 51 = .ok (.invokevirtual 98, 3) := by decide +kernel
theorem d_M_hears_54 : decode b_M_hears 54 = .ok (.istore 6, 2) := by decide +kernel
theorem d_M_hears_56 : decode b_M_hears 56 = .ok (.iload 5, 2) := by decide +kernel
theorem d_M_hears_58 : decode b_M_hears 58 = .ok (.iload_n 1, 1) := by decide +kernel
theorem d_M_hears_59 : decode b_M_hears 59 = .ok (.if_icmp .eq 85, 3) := by decide +kernel
theorem d_M_hears_62 : decode b_M_hears 62 = .ok (.iload 6, 2) := by decide +kernel
theorem d_M_hears_64 : decode b_M_hears 64 = .ok (.iconst (-1), 1) := by decide +kernel
theorem d_M_hears_65 : decode b_M_hears 65 = .ok (.if_icmp .eq 79, 3) := by decide +kernel
theorem d_M_hears_68 : decode b_M_hears 68 = .ok (.aload_n 0, 1) := by decide +kernel
theorem d_M_hears_69 : decode b_M_hears 69 = .ok (.getfield 37, 3) := by decide +kernel
theorem d_M_hears_72 : decode b_M_hears 72 = .ok (.bipush 30, 2) := by decide +kernel
theorem d_M_hears_74 : decode b_M_hears 74 = .ok (.iload 6, 2) := by decide +kernel
theorem d_M_hears_76 : decode b_M_hears 76 = .ok (.imul, 1) := by decide +kernel
theorem d_M_hears_77 : decode b_M_hears 77 = .ok (.iload_n 2, 1) := by decide +kernel
theorem d_M_hears_78 : decode b_M_hears 78 = .ok (.iadd, 1) := by decide +kernel
theorem d_M_hears_79 : decode b_M_hears 79 = .ok (.iaload, 1) := by decide +kernel
theorem d_M_hears_80 : decode b_M_hears 80 = .ok (.sipush 1000, 3) := by decide +kernel
theorem d_M_hears_83 : decode b_M_hears 83 = .ok (.if_icmp .ge 61, 3) := by decide +kernel
theorem d_M_hears_86 : decode b_M_hears 86 = .ok (.aload_n 0, 1) := by decide +kernel
theorem d_M_hears_87 : decode b_M_hears 87 = .ok (.getfield 16, 3) := by decide +kernel
theorem d_M_hears_90 : decode b_M_hears 90 = .ok (.iconst 4, 1) := by decide +kernel
theorem d_M_hears_91 : decode b_M_hears 91 = .ok (.iload 5, 2) := by decide +kernel
theorem d_M_hears_93 : decode b_M_hears 93 = .ok (.imul, 1) := by decide +kernel
theorem d_M_hears_94 : decode b_M_hears 94 = .ok (.iconst 3, 1) := by decide +kernel
theorem d_M_hears_95 : decode b_M_hears 95 = .ok (.iadd, 1) := by decide +kernel
theorem d_M_hears_96 : decode b_M_hears 96 = .ok (.iaload, 1) := by decide +kernel
theorem d_M_hears_97 : decode b_M_hears 97 = .ok (.aload_n 0, 1) := by decide +kernel
theorem d_M_hears_98 : decode b_M_hears 98 = .ok (.getfield 37, 3) := by decide +kernel
theorem d_M_hears_101 : decode b_M_hears 101 = .ok (.bipush 30, 2) := by decide +kernel
theorem d_M_hears_103 : decode b_M_hears 103 = .ok (.iload 6, 2) := by decide +kernel
theorem d_M_hears_105 : decode b_M_hears 105 = .ok (.imul, 1) := by decide +kernel
theorem d_M_hears_106 : decode b_M_hears 106 = .ok (.iload_n 2, 1) := by decide +kernel
theorem d_M_hears_107 : decode b_M_hears 107 = .ok (.iadd, 1) := by decide +kernel
theorem d_M_hears_108 : decode b_M_hears 108 = .ok (.iaload, 1) := by decide +kernel
theorem d_M_hears_109 : decode b_M_hears 109 = .ok (.isub, 1) := by decide +kernel
theorem d_M_hears_110 : decode b_M_hears 110 = .ok (.iload 4, 2) := by decide +kernel
theorem d_M_hears_112 : decode b_M_hears 112 = .ok (.if_icmp .le 32, 3) := by decide +kernel
theorem d_M_hears_115 : decode b_M_hears 115 = .ok (.aload_n 0, 1) := by decide +kernel
theorem d_M_hears_116 : decode b_M_hears 116 = .ok (.getfield 16, 3) := by decide +kernel
theorem d_M_hears_119 : decode b_M_hears 119 = .ok (.iconst 4, 1) := by decide +kernel
theorem d_M_hears_120 : decode b_M_hears 120 = .ok (.iload 5, 2) := by decide +kernel
theorem d_M_hears_122 : decode b_M_hears 122 = .ok (.imul, 1) := by decide +kernel
theorem d_M_hears_123 : decode b_M_hears 123 = .ok (.iconst 3, 1) := by decide +kernel
theorem d_M_hears_124 : decode b_M_hears 124 = .ok (.iadd, 1) := by decide +kernel
theorem d_M_hears_125 : decode b_M_hears 125 = .ok (.iaload, 1) := by decide +kernel
theorem d_M_hears_126 : decode b_M_hears 126 = .ok (.aload_n 0, 1) := by decide +kernel
theorem d_M_hears_127 : decode b_M_hears 127 = .ok (.getfield 37, 3) := by decide +kernel
theorem d_M_hears_130 : decode b_M_hears 130 = .ok (.bipush 30, 2) := by decide +kernel
theorem d_M_hears_132 : decode b_M_hears 132 = .ok (.iload 6, 2) := by decide +kernel
theorem d_M_hears_134 : decode b_M_hears 134 = .ok (.imul, 1) := by decide +kernel
theorem d_M_hears_135 : decode b_M_hears 135 = .ok (.iload_n 2, 1) := by decide +kernel
theorem d_M_hears_136 : decode b_M_hears 136 = .ok (.iadd, 1) := by decide +kernel
theorem d_M_hears_137 : decode b_M_hears 137 = .ok (.iaload, 1) := by decide +kernel
theorem d_M_hears_138 : decode b_M_hears 138 = .ok (.isub, 1) := by decide +kernel
theorem d_M_hears_139 : decode b_M_hears 139 = .ok (.istore 4, 2) := by decide +kernel
theorem d_M_hears_141 : decode b_M_hears 141 = .ok (.iload 5, 2) := by decide +kernel
theorem d_M_hears_143 : decode b_M_hears 143 = .ok (.istore_n 3, 1) := by decide +kernel
theorem d_M_hears_144 : decode b_M_hears 144 = .ok (.iinc 5 1, 3) := by decide +kernel
theorem d_M_hears_147 : decode b_M_hears 147 = .ok (.goto (-108), 3) := by decide +kernel
theorem d_M_hears_150 : decode b_M_hears 150 = .ok (.iload_n 3, 1) := by decide +kernel
theorem d_M_hears_151 : decode b_M_hears 151 = .ok (.ireturn, 1) := by decide +kernel
end
section
/-! The reference's world: the object, its rows (B 0 sorts, B 1 holders, B 2 states, B 3 doorFrom, B 4 doorTo, B 5 doorOpen, B 6 doorClear; Q 0 wayOut, Q 1 wayIn, Q 2 losses, Q 3 byBoxes, Q 4 bright, Q 5 0 outs, Q 5 1 ins). -/
abbrev tM (cI cZ : ClassId) : List (ClassId × FieldType) := [(cI, .int), (cZ, .boolean)]
def wM (a : Nat → Nat) (cI cZ : ClassId) (n d : Int32) (B Q : Nat → Nat → Int32) : va_W :=
  [(a 0, .inr (1, [.int n, .ref (a 1), .ref (a 2), .ref (a 3), .int d, .ref (a 4), .ref (a 5), .ref (a 6), .ref (a 7), .int (Q 5 0), .int (Q 5 1), .ref (a 8), .ref (a 9), .ref (a 10), .ref (a 11), .ref (a 12)])),
   (a 1, .inl (cI, 30, .inl (B 0))), (a 2, .inl (cI, 30, .inl (B 1))), (a 3, .inl (cI, 120, .inl (B 2))),
   (a 4, .inl (cI, 10, .inl (B 3))), (a 5, .inl (cI, 10, .inl (B 4))), (a 6, .inl (cI, 10, .inl (B 5))), (a 7, .inl (cI, 10, .inl (B 6))),
   (a 8, .inl (cI, 30, .inl (Q 0))), (a 9, .inl (cI, 30, .inl (Q 1))), (a 10, .inl (cI, 900, .inl (Q 2))), (a 11, .inl (cZ, 900, .inl (Q 3))), (a 12, .inl (cZ, 30, .inl (Q 4)))]
theorem wM_D {Z : Nat → Prop} {a : Nat → Nat} {cI cZ cI' cZ' : ClassId} {n d n' d' : Int32} {B Q B' Q' : Nat → Nat → Int32} (h : va_D Z (wM a cI cZ n d B Q)) : va_D Z (wM a cI' cZ' n' d' B' Q') := by
  have key : ∀ (k : Nat) (q : Nat × va_E), (wM a cI' cZ' n' d' B' Q')[k]? = some q → ∃ e, (wM a cI cZ n d B Q)[k]? = some (q.1, e) := by
    intro k q hq
    match k, hq with
    | 0, hq => cases hq; exact ⟨_, rfl⟩
    | 1, hq => cases hq; exact ⟨_, rfl⟩
    | 2, hq => cases hq; exact ⟨_, rfl⟩
    | 3, hq => cases hq; exact ⟨_, rfl⟩
    | 4, hq => cases hq; exact ⟨_, rfl⟩
    | 5, hq => cases hq; exact ⟨_, rfl⟩
    | 6, hq => cases hq; exact ⟨_, rfl⟩
    | 7, hq => cases hq; exact ⟨_, rfl⟩
    | 8, hq => cases hq; exact ⟨_, rfl⟩
    | 9, hq => cases hq; exact ⟨_, rfl⟩
    | 10, hq => cases hq; exact ⟨_, rfl⟩
    | 11, hq => cases hq; exact ⟨_, rfl⟩
    | 12, hq => cases hq; exact ⟨_, rfl⟩
    | k + 13, hq => simp [wM] at hq
  refine ⟨fun i j p q hp hq e => ?_, fun k q hq => ?_⟩
  · obtain ⟨e1, h1⟩ := key i p hp
    obtain ⟨e2, h2⟩ := key j q hq
    exact h.1 i j _ _ h1 h2 e
  · obtain ⟨e1, h1⟩ := key k q hq
    exact h.2 k (q.1, e1) h1
section XM
variable {p : Program} {l : Launch} {e : Env} {R : Room} {s : State} {m : MethodId} {args : Array Value} {below : List Frame} {meth : Method} {c : Code} {H H0 : Heap} {locs : List Loc} {cells slots : Nat} {Q : State → Prop}
variable {cc : ByteArray} {pc : Nat} {ls : Array Slot} {rest : List Value} {D : va_G} {cl : List vw_C} {A : Nat → Prop} {a : Nat} {tys : List (ClassId × FieldType)} {ws : va_W}
theorem x_imulN {x y : Int32} (i j : Nat) (ei : x = nI i) (ej : y = nI j) (hx : p.tables.exec = Jvm.exec) (hb : c.code = cc) (hdg : decode cc pc = .ok (.imul, 1)) (kk : W p l e R s m args below meth c H locs cells slots Q (F0 m (pc + 1) ls (.int (nI (i * j)) :: rest))) : W p l e R s m args below meth c H locs cells slots Q (F0 m pc ls (.int y :: .int x :: rest)) :=
  lv_imul hx hb hdg (by rw [ei, ej, pk_mul]; exact kk)
theorem x_iaddN {x y : Int32} (i j : Nat) (ei : x = nI i) (ej : y = nI j) (hx : p.tables.exec = Jvm.exec) (hb : c.code = cc) (hdg : decode cc pc = .ok (.iadd, 1)) (kk : W p l e R s m args below meth c H locs cells slots Q (F0 m (pc + 1) ls (.int (nI (i + j)) :: rest))) : W p l e R s m args below meth c H locs cells slots Q (F0 m pc ls (.int y :: .int x :: rest)) :=
  lv_iadd hx hb hdg (by rw [ei, ej, nI_add]; exact kk)
theorem x_ialdN (hx : p.tables.exec = Jvm.exec) (hb : c.code = cc) (hK : va_K D cl tys s) (hP : va_P D cl ws H) (q0 t0 : Nat) {cA : ClassId} {n : Nat} {f : Nat → Int32} (ha : ws[q0]? = some (a, .inl (cA, n, .inl f))) (ht : tys[t0]? = some (cA, .int)) {i : Nat} (hi : i < n) (hn : n < 2 ^ 31) (hdg : decode cc pc = .ok (.iaload, 1))
    (kk : W p l e R s m args below meth c H locs cells slots Q (F0 m (pc + 1) ls (.int (f i) :: rest))) : W p l e R s m args below meth c H locs cells slots Q (F0 m pc ls (.int (nI i) :: .ref a :: rest)) :=
  va_iald hx hb hK hP q0 t0 ha ht (vp_in_nI hi hn) hdg (by rw [nI_clamp (Nat.lt_trans hi hn)]; exact kk)
theorem x_zaldN (hx : p.tables.exec = Jvm.exec) (hb : c.code = cc) (hK : va_K D cl tys s) (hP : va_P D cl ws H) (q0 t0 : Nat) {cA : ClassId} {n : Nat} {f : Nat → Int32} (ha : ws[q0]? = some (a, .inl (cA, n, .inl f))) (ht : tys[t0]? = some (cA, .boolean)) {i : Nat} (hi : i < n) (hn : n < 2 ^ 31) (hdg : decode cc pc = .ok (.baload, 1))
    (kk : W p l e R s m args below meth c H locs cells slots Q (F0 m (pc + 1) ls (.int (f i) :: rest))) : W p l e R s m args below meth c H locs cells slots Q (F0 m pc ls (.int (nI i) :: .ref a :: rest)) :=
  va_zald hx hb hK hP q0 t0 ha ht (vp_in_nI hi hn) hdg (by rw [nI_clamp (Nat.lt_trans hi hn)]; exact kk)
theorem x_iastN (hx : p.tables.exec = Jvm.exec) (hb : c.code = cc) (hK : va_K D cl tys s) (hP : va_P D cl ws H) (hD : va_D A ws) (hS : va_S A H0 H locs) (q0 t0 : Nat) {cA : ClassId} {n : Nat} {f : Nat → Int32} (ha : ws[q0]? = some (a, .inl (cA, n, .inl f))) (ht : tys[t0]? = some (cA, .int)) {i : Nat} {x : Int32} (hi : i < n) (hn : n < 2 ^ 31) (hdg : decode cc pc = .ok (.iastore, 1))
    (kk : ∀ (H1 : Heap) (locs1 : List Loc), va_P D cl (ws.set q0 (a, .inl (cA, n, .inl (upd f i x)))) H1 → va_D A (ws.set q0 (a, .inl (cA, n, .inl (upd f i x)))) → va_S A H0 H1 locs1 → W p l e R s m args below meth c H1 locs1 cells slots Q (F0 m (pc + 1) ls rest)) : W p l e R s m args below meth c H locs cells slots Q (F0 m pc ls (.int x :: .int (nI i) :: .ref a :: rest)) :=
  va_iast hx hb hK hP hD hS q0 t0 ha ht (vp_in_nI hi hn) hdg (by rw [nI_clamp (Nat.lt_trans hi hn)]; exact kk)
theorem x_zastN (hx : p.tables.exec = Jvm.exec) (hb : c.code = cc) (hK : va_K D cl tys s) (hP : va_P D cl ws H) (hD : va_D A ws) (hS : va_S A H0 H locs) (q0 t0 : Nat) {cA : ClassId} {n : Nat} {f : Nat → Int32} (ha : ws[q0]? = some (a, .inl (cA, n, .inl f))) (ht : tys[t0]? = some (cA, .boolean)) {i : Nat} {x : Int32} (hi : i < n) (hn : n < 2 ^ 31) (hz : vp_nar .boolean x = x) (hdg : decode cc pc = .ok (.bastore, 1))
    (kk : ∀ (H1 : Heap) (locs1 : List Loc), va_P D cl (ws.set q0 (a, .inl (cA, n, .inl (upd f i x)))) H1 → va_D A (ws.set q0 (a, .inl (cA, n, .inl (upd f i x)))) → va_S A H0 H1 locs1 → W p l e R s m args below meth c H1 locs1 cells slots Q (F0 m (pc + 1) ls rest)) : W p l e R s m args below meth c H locs cells slots Q (F0 m pc ls (.int x :: .int (nI i) :: .ref a :: rest)) :=
  va_zast hx hb hK hP hD hS q0 t0 ha ht (vp_in_nI hi hn) hdg (by rw [nI_clamp (Nat.lt_trans hi hn), hz]; exact kk)
end XM
/-! Numbers of things and doors; chains of holders. -/
def ch (N : Nat) (f : Nat → Int32) : Nat → Int32 → Prop
  | 0, v => v = (-1 : Int32)
  | k + 1, v => v = (-1 : Int32) ∨ ∃ j : Nat, j < N ∧ v = nI j ∧ ch N f k (f j)
def chp (N : Nat) (f : Nat → Int32) (k : Nat) (v : Int32) : Prop := 1 ≤ k ∧ ch N f (k - 1) v
def chs (N : Nat) (B : Nat → Nat → Int32) : Prop := ∀ j, j < N → chp N (B 1) 30 (B 1 j)
def drM (N K : Nat) (B : Nat → Nat → Int32) : Prop := ∀ d, d < K → (∃ j : Nat, j < N ∧ B 3 d = nI j) ∧ ∃ j : Nat, j < N ∧ B 4 d = nI j
section CH
variable {N K k : Nat} {f : Nat → Int32} {v x y t : Int32} {B Q : Nat → Nat → Int32}
theorem chp_0 : ¬ chp N f 0 v := fun h => by have := h.1; omega
theorem chp_dec (h : chp N f (k + 1) v) (hv : ¬ v = (-1 : Int32)) : ∃ j : Nat, j < N ∧ v = nI j ∧ chp N f k (f j) := by
  obtain ⟨-, h⟩ := h
  have h : ch N f k v := h
  cases k with
  | zero => exact absurd h hv
  | succ k =>
    rcases h with h | ⟨j, h1, h2, h3⟩
    · exact absurd h hv
    · exact ⟨j, h1, h2, by omega, h3⟩
theorem chp_j (h : chp N f (k + 1) v) (hv : ¬ v = (-1 : Int32)) : ∃ j : Nat, j < N ∧ v = nI j := by
  obtain ⟨j, h1, h2, -⟩ := chp_dec h hv
  exact ⟨j, h1, h2⟩
theorem th_in (hN : N ≤ 30) (h : ∃ j : Nat, j < N ∧ x = nI j) : vp_in x 30 := by
  obtain ⟨j, h1, rfl⟩ := h
  exact vp_in_nI (by omega) (by omega)
theorem dr_in (hK : K ≤ 10) (h : ∃ j : Nat, j < K ∧ x = nI j) : vp_in x 10 := by
  obtain ⟨j, h1, rfl⟩ := h
  exact vp_in_nI (by omega) (by omega)
theorem chp_in (hN : N ≤ 30) (h : chp N f (k + 1) v) (hv : ¬ v = (-1 : Int32)) : vp_in v 30 := th_in hN (chp_j h hv)
theorem chp_next (hN : N ≤ 30) (h : chp N f (k + 1) v) (hv : ¬ v = (-1 : Int32)) : chp N f k (f v.toNatClampNeg) := by
  obtain ⟨j, h1, h2, h3⟩ := chp_dec h hv
  rw [h2, nI_clamp (by omega)]
  exact h3
theorem chs_at (hN : N ≤ 30) (hC : chs N B) (h : ∃ j : Nat, j < N ∧ x = nI j) : chp N (B 1) 30 (B 1 x.toNatClampNeg) := by
  obtain ⟨j, h1, rfl⟩ := h
  rw [nI_clamp (by omega)]
  exact hC j h1
theorem chp_th (hC : chs N B) (h : ∃ j : Nat, j < N ∧ x = nI j) : chp N (B 1) 31 x := by
  obtain ⟨j, h1, rfl⟩ := h
  exact ⟨by omega, Or.inr ⟨j, h1, rfl, (hC j h1).2⟩⟩
theorem hol_j (hN : N ≤ 30) (hC : chs N B) (h : ∃ j : Nat, j < N ∧ x = nI j) (hv : ¬ B 1 x.toNatClampNeg = (-1 : Int32)) : ∃ j : Nat, j < N ∧ B 1 x.toNatClampNeg = nI j := chp_j (chs_at hN hC h) hv
theorem dr3_i (hDr : drM N K B) {i : Nat} (h : i < K) : ∃ j : Nat, j < N ∧ B 3 i = nI j := (hDr i h).1
theorem dr4_i (hDr : drM N K B) {i : Nat} (h : i < K) : ∃ j : Nat, j < N ∧ B 4 i = nI j := (hDr i h).2
theorem dr3_j (hK : K ≤ 10) (hDr : drM N K B) (h : ∃ j : Nat, j < K ∧ x = nI j) : ∃ j : Nat, j < N ∧ B 3 x.toNatClampNeg = nI j := by
  obtain ⟨j, h1, rfl⟩ := h
  rw [nI_clamp (by omega)]
  exact (hDr j h1).1
theorem dr4_j (hK : K ≤ 10) (hDr : drM N K B) (h : ∃ j : Nat, j < K ∧ x = nI j) : ∃ j : Nat, j < N ∧ B 4 x.toNatClampNeg = nI j := by
  obtain ⟨j, h1, rfl⟩ := h
  rw [nI_clamp (by omega)]
  exact (hDr j h1).2
theorem st0_in (hN : N ≤ 30) (h : ∃ j : Nat, j < N ∧ x = nI j) : vp_in ((4 : Int32) * x) 120 := by
  obtain ⟨j, h1, rfl⟩ := h
  rw [show (4 : Int32) = nI 4 from rfl, pk_mul]
  exact vp_in_nI (by omega) (by omega)
theorem st_in (hN : N ≤ 30) (h : ∃ j : Nat, j < N ∧ x = nI j) (hw : ∃ k : Nat, k < 4 ∧ y = nI k) : vp_in (((4 : Int32) * x) + y) 120 := by
  obtain ⟨j, h1, rfl⟩ := h
  obtain ⟨k, h2, rfl⟩ := hw
  rw [show (4 : Int32) = nI 4 from rfl, pk_mul, nI_add]
  exact vp_in_nI (by omega) (by omega)
theorem stk_in (hN : N ≤ 30) (h : ∃ j : Nat, j < N ∧ x = nI j) (k : Nat) (hk : k < 4) (e : y = nI k) : vp_in (((4 : Int32) * x) + y) 120 := st_in hN h ⟨k, hk, e⟩
theorem st2_in {i : Nat} (hN : N ≤ 30) (hi : i < N) (hw : ∃ k : Nat, k < 2 ∧ y = nI k) : vp_in ((nI ((4 * i) + 2)) + y) 120 := by
  obtain ⟨k, h2, rfl⟩ := hw
  rw [nI_add]
  exact vp_in_nI (by omega) (by omega)
theorem st5_in (hN : N ≤ 30) (h : ∃ j : Nat, j < N ∧ x = nI j) (hw : ∃ k : Nat, 5 ≤ k ∧ k ≤ 8 ∧ y = nI k) : vp_in ((((4 : Int32) * x) + y) - (5 : Int32)) 120 := by
  obtain ⟨j, h1, rfl⟩ := h
  obtain ⟨k, h2, h3, rfl⟩ := hw
  rw [show (4 : Int32) = nI 4 from rfl, pk_mul, nI_add, show (5 : Int32) = nI 5 from rfl, pk_sub (by omega)]
  exact vp_in_nI (by omega) (by omega)
theorem ls_in (hN : N ≤ 30) (h : ∃ j : Nat, j < N ∧ x = nI j) (h2 : ∃ j : Nat, j < N ∧ y = nI j) : vp_in (((30 : Int32) * x) + y) 900 := by
  obtain ⟨j, h1, rfl⟩ := h
  obtain ⟨k, h2, rfl⟩ := h2
  rw [show (30 : Int32) = nI 30 from rfl, pk_mul, nI_add]
  exact vp_in_nI (by omega) (by omega)
theorem ls2_in {i : Nat} (hN : N ≤ 30) (hi : i < N) (h2 : ∃ j : Nat, j < N ∧ y = nI j) : vp_in ((nI (30 * i)) + y) 900 := by
  obtain ⟨k, h2, rfl⟩ := h2
  rw [nI_add]
  exact vp_in_nI (by omega) (by omega)
theorem lt30 (hN : N ≤ 30) (h : ¬ nI N = (30 : Int32)) : N < 30 := by
  rcases Nat.lt_or_ge N 30 with q | q
  · exact q
  · exact absurd (by rw [show N = 30 by omega]; rfl) h
theorem lt10 (hK : K ≤ 10) (h : ¬ nI K = (10 : Int32)) : K < 10 := by
  rcases Nat.lt_or_ge K 10 with q | q
  · exact q
  · exact absurd (by rw [show K = 10 by omega]; rfl) h
end CH
def dI (k : Nat) : Int32 := nI k - 1
theorem dI_S (k : Nat) : dI (k + 1) = nI k := nI_pred k
theorem dI_0 : dI 0 < (0 : Int32) := by decide
theorem dI_step (k : Nat) : nI k + Int32.ofInt (-1) = dI k := by
  rw [dI, Int32.sub_eq_add_neg]
  rfl
theorem dI_of {x : Int32} {k : Nat} (h : x = nI k) : x - (1 : Int32) = dI k := by rw [h]; rfl
def hit (N : Nat) (f : Nat → Int32) : Nat → Int32 → Int32 → Prop
  | 0, _, _ => False
  | k + 1, v, t => v = t ∨ ∃ j : Nat, j < N ∧ v = nI j ∧ hit N f k (f j) t
section HI
variable {N K k : Nat} {f : Nat → Int32} {v x y t : Int32} {B Q : Nat → Nat → Int32}
theorem hit_0 : ¬ hit N f 0 v t := fun h => h
theorem hit_rf : hit N f (k + 1) v v := Or.inl rfl
theorem hit_j (h : hit N f (k + 1) v t) (hv : ¬ v = t) : ∃ j : Nat, j < N ∧ v = nI j := by
  rcases h with h | ⟨j, h1, h2, -⟩
  · exact absurd h hv
  · exact ⟨j, h1, h2⟩
theorem hit_next (hN : N ≤ 30) (h : hit N f (k + 1) v t) (hv : ¬ v = t) : hit N f k (f v.toNatClampNeg) t := by
  rcases h with h | ⟨j, h1, h2, h3⟩
  · exact absurd h hv
  · rw [h2, nI_clamp (by omega)]
    exact h3
def fwO (Q : Nat → Nat → Int32) (k : Nat) : Prop := ∃ o : Nat, Q 5 0 = nI o ∧ o + k ≤ 31
def fwI (Q : Nat → Nat → Int32) (k : Nat) : Prop := ∃ o : Nat, Q 5 1 = nI o ∧ o + k ≤ 31
theorem fwO_0 (h : Q 5 0 = nI 0) : fwO Q 31 := ⟨0, h, by omega⟩
theorem fwI_0 (h : Q 5 1 = (0 : Int32)) : fwI Q 31 := ⟨0, h, by omega⟩
theorem fwO_keep (h : fwO Q (k + 1)) : fwO Q k := by
  obtain ⟨o, h1, h2⟩ := h
  exact ⟨o, h1, by omega⟩
theorem fwO_up {Q' : Nat → Nat → Int32} (h : fwO Q (k + 1)) (e : Q' 5 0 = Q 5 0 + (1 : Int32)) : fwO Q' k := by
  obtain ⟨o, h1, h2⟩ := h
  exact ⟨o + 1, by rw [e, h1, nI_1], by omega⟩
theorem fwI_up {Q' : Nat → Nat → Int32} (h : fwI Q (k + 1)) (e : Q' 5 1 = Q 5 1 + (1 : Int32)) : fwI Q' k := by
  obtain ⟨o, h1, h2⟩ := h
  exact ⟨o + 1, by rw [e, h1, nI_1], by omega⟩
theorem fw_in (h : chp N f (k + 1) v) (h2 : fwO Q (k + 1)) (hv : ¬ v = (-1 : Int32)) : vp_in (Q 5 0) 30 := by
  obtain ⟨j, -, -, h3⟩ := chp_dec h hv
  have := h3.1
  obtain ⟨o, h1, h2⟩ := h2
  rw [h1]
  exact vp_in_nI (by omega) (by omega)
theorem fi_in (h : hit N f (k + 1) v t) (h2 : fwI Q (k + 1)) (hv : ¬ v = t) : vp_in (Q 5 1) 30 := by
  rcases h with h | ⟨j, -, -, h3⟩
  · exact absurd h hv
  · cases k with
    | zero => exact absurd h3 hit_0
    | succ k =>
      obtain ⟨o, h1, h2⟩ := h2
      rw [h1]
      exact vp_in_nI (by omega) (by omega)
end HI
theorem v_M_in : okS R_M 51 y_M_in b_M_in 3 (some .boolean) 3 := ⟨⟨q_ml_M_51, q_code_M_in, q_ini_M, by decide +kernel⟩, q_st_M_in⟩
theorem v_M_isThing : okV R_M R_M 55 y_M_isThing b_M_isThing 2 (some .boolean) 1 := ⟨⟨q_ml_M_55, q_code_M_isThing, q_ini_M, by decide +kernel⟩, q_im_M_isThing, q_sel_M_isThing⟩
theorem v_M_isOf : okV R_M R_M 59 y_M_isOf b_M_isOf 3 (some .boolean) 2 := ⟨⟨q_ml_M_59, q_code_M_isOf, q_ini_M, by decide +kernel⟩, q_im_M_isOf, q_sel_M_isOf⟩
theorem v_M_isSpace : okV R_M R_M 95 y_M_isSpace b_M_isSpace 2 (some .boolean) 1 := ⟨⟨q_ml_M_95, q_code_M_isSpace, q_ini_M, by decide +kernel⟩, q_im_M_isSpace, q_sel_M_isSpace⟩
theorem v_M_isDoor : okV R_M R_M 76 y_M_isDoor b_M_isDoor 2 (some .boolean) 1 := ⟨⟨q_ml_M_76, q_code_M_isDoor, q_ini_M, by decide +kernel⟩, q_im_M_isDoor, q_sel_M_isDoor⟩
theorem v_M_isWithin : okV R_M R_M 70 y_M_isWithin b_M_isWithin 4 (some .boolean) 2 := ⟨⟨q_ml_M_70, q_code_M_isWithin, q_ini_M, by decide +kernel⟩, q_im_M_isWithin, q_sel_M_isWithin⟩
theorem v_M_heldBy : okV R_M R_M 66 y_M_heldBy b_M_heldBy 4 (some .int) 1 := ⟨⟨q_ml_M_66, q_code_M_heldBy, q_ini_M, by decide +kernel⟩, q_im_M_heldBy, q_sel_M_heldBy⟩
theorem v_M_hasRoom : okV R_M R_M 73 y_M_hasRoom b_M_hasRoom 2 (some .boolean) 1 := ⟨⟨q_ml_M_73, q_code_M_hasRoom, q_ini_M, by decide +kernel⟩, q_im_M_hasRoom, q_sel_M_hasRoom⟩
theorem v_M_findWay : okV R_M R_M 88 y_M_findWay b_M_findWay 5 (some .boolean) 2 := ⟨⟨q_ml_M_88, q_code_M_findWay, q_ini_M, by decide +kernel⟩, q_im_M_findWay, q_sel_M_findWay⟩
theorem v_M_isShut : okV R_M R_M 85 y_M_isShut b_M_isShut 2 (some .boolean) 1 := ⟨⟨q_ml_M_85, q_code_M_isShut, q_ini_M, by decide +kernel⟩, q_im_M_isShut, q_sel_M_isShut⟩
theorem v_M_firstBarrier : okV R_M R_M 91 y_M_firstBarrier b_M_firstBarrier 2 (some .int) 0 := ⟨⟨q_ml_M_91, q_code_M_firstBarrier, q_ini_M, by decide +kernel⟩, q_im_M_firstBarrier, q_sel_M_firstBarrier⟩
theorem v_M_isReached : okV R_M R_M 126 y_M_isReached b_M_isReached 3 (some .boolean) 2 := ⟨⟨q_ml_M_126, q_code_M_isReached, q_ini_M, by decide +kernel⟩, q_im_M_isReached, q_sel_M_isReached⟩
theorem v_M_spaceOf : okV R_M R_M 98 y_M_spaceOf b_M_spaceOf 3 (some .int) 1 := ⟨⟨q_ml_M_98, q_code_M_spaceOf, q_ini_M, by decide +kernel⟩, q_im_M_spaceOf, q_sel_M_spaceOf⟩
theorem v_M_joins : okV R_M R_M 105 y_M_joins b_M_joins 4 none 3 := ⟨⟨q_ml_M_105, q_code_M_joins, q_ini_M, by decide +kernel⟩, q_im_M_joins, q_sel_M_joins⟩
theorem v_M_lossOf : okS R_M 101 y_M_lossOf b_M_lossOf 4 (some .int) 4 := ⟨⟨q_ml_M_101, q_code_M_lossOf, q_ini_M, by decide +kernel⟩, q_st_M_lossOf⟩
theorem v_M_findLosses : okV R_M R_M 109 y_M_findLosses b_M_findLosses 7 none 2 := ⟨⟨q_ml_M_109, q_code_M_findLosses, q_ini_M, by decide +kernel⟩, q_im_M_findLosses, q_sel_M_findLosses⟩
theorem v_M_greatest : okV R_M R_M 113 y_M_greatest b_M_greatest 7 (some .int) 2 := ⟨⟨q_ml_M_113, q_code_M_greatest, q_ini_M, by decide +kernel⟩, q_im_M_greatest, q_sel_M_greatest⟩
theorem v_M_looks : okV R_M R_M 120 y_M_looks b_M_looks 2 none 0 := ⟨⟨q_ml_M_120, q_code_M_looks, q_ini_M, by decide +kernel⟩, q_im_M_looks, q_sel_M_looks⟩
theorem v_M_passes : okV R_M R_M 117 y_M_passes b_M_passes 8 (some .boolean) 2 := ⟨⟨q_ml_M_117, q_code_M_passes, q_ini_M, by decide +kernel⟩, q_im_M_passes, q_sel_M_passes⟩
theorem v_M_isSeen : okV R_M R_M 123 y_M_isSeen b_M_isSeen 5 (some .boolean) 2 := ⟨⟨q_ml_M_123, q_code_M_isSeen, q_ini_M, by decide +kernel⟩, q_im_M_isSeen, q_sel_M_isSeen⟩
end
section
def m_in (x lo hi : Int32) : Int32 := (if x < lo then (0 : Int32) else (if hi < x then (0 : Int32) else (1 : Int32)))
set_option maxHeartbeats 4000000 in
set_option maxRecDepth 100000 in
theorem cm_in (l : Launch) (x lo hi : Int32) : Met l y_M_in (Cond.code y_M_in b_M_in 3 (some .boolean) :: BW) ({ frames := 0, cells := 0, slots := 0, locals := 0 } : Room) (va_Pc [.int x, .int lo, .int hi] (fun _ => True)) (vp_Si (fun r => r = m_in x lo hi)) 0 0 (fun _ => False) := by
  refine stStart (by decide) rfl (Nat.le_of_ble_eq_true rfl) (fun p e s m below meth c Sx hr hlk ls hl => ?_)
  obtain ⟨hx, hb, hml, hown, hts⟩ := id Sx
  have hl : lv_has ls 3 [(0, .int x), (1, .int lo), (2, .int hi)] := hl
  refine lv_iload_n hx hb d_M_in_0 rfl (lv_at hl 0 rfl) ?_
  refine lv_iload_n hx hb d_M_in_1 rfl (lv_at hl 1 rfl) ?_
  refine lv_icmp_lt (tgt := 14) hx hb d_M_in_2 (by decide) (fun c_2 => ?_) (fun c_2 => ?_)
  · refine lv_iconst (v := (0 : Int32)) hx hb d_M_in_14 (by decide) ?_
    exact roRet hx hb hr (by first | rfl | decide) hlk (show (0 : Int32) = m_in x lo hi from by rw [m_in, if_pos c_2]) d_M_in_15
  · refine lv_iload_n hx hb d_M_in_5 rfl (lv_at hl 0 rfl) ?_
    refine lv_iload_n hx hb d_M_in_6 rfl (lv_at hl 2 rfl) ?_
    refine lv_icmp_gt (tgt := 14) hx hb d_M_in_7 (by decide) (fun c_7 => ?_) (fun c_7 => ?_)
    · refine lv_iconst (v := (0 : Int32)) hx hb d_M_in_14 (by decide) ?_
      exact roRet hx hb hr (by first | rfl | decide) hlk (show (0 : Int32) = m_in x lo hi from by rw [m_in, if_neg c_2, if_pos c_7]) d_M_in_15
    · refine lv_iconst (v := (1 : Int32)) hx hb d_M_in_10 (by decide) ?_
      refine lv_goto (tgt := 15) hx hb d_M_in_11 (by decide) ?_
      exact roRet hx hb hr (by first | rfl | decide) hlk (show (1 : Int32) = m_in x lo hi from by rw [m_in, if_neg c_2, if_neg c_7]) d_M_in_15
theorem in_nar (x lo hi : Int32) : narrow .boolean (.int (m_in x lo hi)) = .int (m_in x lo hi) := by
  rw [m_in]
  by_cases c1 : x < lo
  · rw [if_pos c1]; rfl
  · rw [if_neg c1]
    by_cases c2 : hi < x
    · rw [if_pos c2]; rfl
    · rw [if_neg c2]; rfl
theorem in_s {x lo hi : Int32} (h : ¬ m_in x lo hi = (0 : Int32)) : ¬ x < lo ∧ ¬ hi < x := by
  rw [m_in] at h
  by_cases c1 : x < lo
  · rw [if_pos c1] at h; exact absurd rfl h
  · rw [if_neg c1] at h
    by_cases c2 : hi < x
    · rw [if_pos c2] at h; exact absurd rfl h
    · exact ⟨c1, c2⟩
theorem in_k {x hi : Int32} {n : Nat} (hn : hi.toInt = n) (h : ¬ m_in x (0 : Int32) hi = (0 : Int32)) : ∃ k : Nat, k ≤ n ∧ x = nI k := nI_of2 hn (in_s h).1 (Int32.not_lt.mp (in_s h).2)
theorem in03 {x : Int32} (h : ¬ m_in x (0 : Int32) (3 : Int32) = (0 : Int32)) : ∃ k : Nat, k < 4 ∧ x = nI k := by
  obtain ⟨k, h1, h2⟩ := in_k (n := 3) (by decide) h
  exact ⟨k, by omega, h2⟩
theorem in01 {x : Int32} (h : ¬ m_in x (0 : Int32) (1 : Int32) = (0 : Int32)) : ∃ k : Nat, k < 2 ∧ x = nI k := by
  obtain ⟨k, h1, h2⟩ := in_k (n := 1) (by decide) h
  exact ⟨k, by omega, h2⟩
theorem in58 {x : Int32} (h : ¬ m_in x (5 : Int32) (8 : Int32) = (0 : Int32)) : ∃ k : Nat, 5 ≤ k ∧ k ≤ 8 ∧ x = nI k := by
  obtain ⟨h1, h2⟩ := in_s h
  rw [Int32.lt_iff_toInt_lt] at h1 h2
  have e5 : (5 : Int32).toInt = 5 := by decide
  have e8 : (8 : Int32).toInt = 8 := by decide
  have h0 : ¬ x < (0 : Int32) := by
    rw [Int32.lt_iff_toInt_lt]
    have e0 : (0 : Int32).toInt = 0 := by decide
    omega
  obtain ⟨j, hj, rfl⟩ := nI_of h0
  rw [nI_toInt hj] at h1 h2
  exact ⟨j, by omega, by omega, rfl⟩

def m_isThing (N : Nat) (K : Nat) (B : Nat → Nat → Int32) (Q : Nat → Nat → Int32) (x : Int32) : Int32 := m_in x (0 : Int32) ((nI N) - (1 : Int32))
set_option maxHeartbeats 4000000 in
set_option maxRecDepth 100000 in
theorem cm_isThing (l : Launch) (D : va_G) (a : Nat → Nat) (cI cZ : ClassId) (N K : Nat) (B Q : Nat → Nat → Int32) (hN : N ≤ 30) (hKK : K ≤ 10) (hC : chs N B) (hDr : drM N K B) (x : Int32) : Met l y_M_isThing (Cond.code y_M_isThing b_M_isThing 2 (some .boolean) :: BW) ({ frames := 1, cells := 0, slots := 0, locals := 22 } : Room) (PcR D (wM a cI cZ (nI N) (nI K) B Q) (tM cI cZ) [.ref (a 0), .int x]) (vp_Si (fun r => r = m_isThing N K B Q x)) 0 0 (fun _ => False) := by
  refine roStart (by decide) rfl (Nat.le_of_ble_eq_true rfl) (fun p e s m below meth c Sx hr hlk hP hK ls hl => ?_)
  obtain ⟨hx, hb, hml, hown, hts⟩ := id Sx
  have hl : lv_has ls 2 [(0, .ref (a 0)), (1, .int x)] := hl
  refine lv_iload_n hx hb d_M_isThing_0 rfl (lv_at hl 1 rfl) ?_
  refine lv_iconst (v := (0 : Int32)) hx hb d_M_isThing_1 (by decide) ?_
  refine lv_aload_n hx hb d_M_isThing_2 rfl (lv_at hl 0 rfl) ?_
  refine va_get (D := D) (ci := 1) (v := .int (nI N)) (C := R_M) (T := F_M) (N := 16) hx hb hts i_M hown hK hP 0 rfl rfl 0 (by decide) (hts _ fl_M_47) (fun _ h9 => h9) rfl d_M_isThing_3 ?_
  refine lv_iconst (v := (1 : Int32)) hx hb d_M_isThing_6 (by decide) ?_
  refine lv_isub hx hb d_M_isThing_7 ?_
  refine xst (As := [.int x, .int (0 : Int32), .int ((nI N) - (1 : Int32))]) (rest := []) Sx (cm_in l x (0 : Int32) ((nI N) - (1 : Int32))) v_M_in ⟨rfl, rfl, Nat.le_of_ble_eq_true rfl, Nat.le_of_ble_eq_true rfl⟩ rfl hl.1 rfl (Nat.le_of_ble_eq_true rfl) d_M_isThing_8 ⟨Nat.le_of_ble_eq_true rfl, Nat.le_of_ble_eq_true rfl⟩ (fun r hq => ?_)
  subst hq
  exact roRet hx hb hr (in_nar _ _ _) hlk (show m_in x (0 : Int32) ((nI N) - (1 : Int32)) = m_isThing N K B Q x from by rw [m_isThing]) d_M_isThing_11

def m_isDoor (N : Nat) (K : Nat) (B : Nat → Nat → Int32) (Q : Nat → Nat → Int32) (x : Int32) : Int32 := m_in x (0 : Int32) ((nI K) - (1 : Int32))
set_option maxHeartbeats 4000000 in
set_option maxRecDepth 100000 in
theorem cm_isDoor (l : Launch) (D : va_G) (a : Nat → Nat) (cI cZ : ClassId) (N K : Nat) (B Q : Nat → Nat → Int32) (hN : N ≤ 30) (hKK : K ≤ 10) (hC : chs N B) (hDr : drM N K B) (x : Int32) : Met l y_M_isDoor (Cond.code y_M_isDoor b_M_isDoor 2 (some .boolean) :: BW) ({ frames := 1, cells := 0, slots := 0, locals := 22 } : Room) (PcR D (wM a cI cZ (nI N) (nI K) B Q) (tM cI cZ) [.ref (a 0), .int x]) (vp_Si (fun r => r = m_isDoor N K B Q x)) 0 0 (fun _ => False) := by
  refine roStart (by decide) rfl (Nat.le_of_ble_eq_true rfl) (fun p e s m below meth c Sx hr hlk hP hK ls hl => ?_)
  obtain ⟨hx, hb, hml, hown, hts⟩ := id Sx
  have hl : lv_has ls 2 [(0, .ref (a 0)), (1, .int x)] := hl
  refine lv_iload_n hx hb d_M_isDoor_0 rfl (lv_at hl 1 rfl) ?_
  refine lv_iconst (v := (0 : Int32)) hx hb d_M_isDoor_1 (by decide) ?_
  refine lv_aload_n hx hb d_M_isDoor_2 rfl (lv_at hl 0 rfl) ?_
  refine va_get (D := D) (ci := 1) (v := .int (nI K)) (C := R_M) (T := F_M) (N := 16) hx hb hts i_M hown hK hP 0 rfl rfl 4 (by decide) (hts _ fl_M_63) (fun _ h9 => h9) rfl d_M_isDoor_3 ?_
  refine lv_iconst (v := (1 : Int32)) hx hb d_M_isDoor_6 (by decide) ?_
  refine lv_isub hx hb d_M_isDoor_7 ?_
  refine xst (As := [.int x, .int (0 : Int32), .int ((nI K) - (1 : Int32))]) (rest := []) Sx (cm_in l x (0 : Int32) ((nI K) - (1 : Int32))) v_M_in ⟨rfl, rfl, Nat.le_of_ble_eq_true rfl, Nat.le_of_ble_eq_true rfl⟩ rfl hl.1 rfl (Nat.le_of_ble_eq_true rfl) d_M_isDoor_8 ⟨Nat.le_of_ble_eq_true rfl, Nat.le_of_ble_eq_true rfl⟩ (fun r hq => ?_)
  subst hq
  exact roRet hx hb hr (in_nar _ _ _) hlk (show m_in x (0 : Int32) ((nI K) - (1 : Int32)) = m_isDoor N K B Q x from by rw [m_isDoor]) d_M_isDoor_11
theorem inM_j {n : Nat} {x : Int32} (hn : n ≤ 30) (h : ¬ m_in x (0 : Int32) (nI n - (1 : Int32)) = (0 : Int32)) : ∃ j : Nat, j < n ∧ x = nI j := by
  obtain ⟨h1, h2⟩ := in_s h
  obtain ⟨j, hj, rfl⟩ := nI_of h1
  rw [Int32.lt_iff_toInt_lt, show (1 : Int32) = nI 1 from rfl, pk_sub_toInt (by omega) (by omega), nI_toInt hj] at h2
  exact ⟨j, by omega, rfl⟩
theorem isThingM_j {N K : Nat} {B Q : Nat → Nat → Int32} {x : Int32} (hN : N ≤ 30) (h : ¬ m_isThing N K B Q x = (0 : Int32)) : ∃ j : Nat, j < N ∧ x = nI j := inM_j hN h
theorem isDoorM_j {N K : Nat} {B Q : Nat → Nat → Int32} {x : Int32} (hK : K ≤ 10) (h : ¬ m_isDoor N K B Q x = (0 : Int32)) : ∃ j : Nat, j < K ∧ x = nI j := inM_j (Nat.le_trans hK (by omega)) h

def m_isOf (N : Nat) (K : Nat) (B : Nat → Nat → Int32) (Q : Nat → Nat → Int32) (x srt : Int32) : Int32 := (if (m_isThing N K B Q x) = (0 : Int32) then (0 : Int32) else (if (B 0 x.toNatClampNeg) = srt then (1 : Int32) else (0 : Int32)))
set_option maxHeartbeats 4000000 in
set_option maxRecDepth 100000 in
theorem cm_isOf (l : Launch) (D : va_G) (a : Nat → Nat) (cI cZ : ClassId) (N K : Nat) (B Q : Nat → Nat → Int32) (hN : N ≤ 30) (hKK : K ≤ 10) (hC : chs N B) (hDr : drM N K B) (x srt : Int32) : Met l y_M_isOf (Cond.code y_M_isOf b_M_isOf 3 (some .boolean) :: BW) ({ frames := 2, cells := 0, slots := 0, locals := 43 } : Room) (PcR D (wM a cI cZ (nI N) (nI K) B Q) (tM cI cZ) [.ref (a 0), .int x, .int srt]) (vp_Si (fun r => r = m_isOf N K B Q x srt)) 0 0 (fun _ => False) := by
  refine roStart (by decide) rfl (Nat.le_of_ble_eq_true rfl) (fun p e s m below meth c Sx hr hlk hP hK ls hl => ?_)
  obtain ⟨hx, hb, hml, hown, hts⟩ := id Sx
  have hl : lv_has ls 3 [(0, .ref (a 0)), (1, .int x), (2, .int srt)] := hl
  refine lv_aload_n hx hb d_M_isOf_0 rfl (lv_at hl 0 rfl) ?_
  refine lv_iload_n hx hb d_M_isOf_1 rfl (lv_at hl 1 rfl) ?_
  refine xro (As := [.int x]) (rest := []) Sx (cm_isThing l D a cI cZ N K B Q hN hKK hC hDr x) v_M_isThing ⟨rfl, rfl, Nat.le_of_ble_eq_true rfl, Nat.le_of_ble_eq_true rfl⟩ hK hP (ci := 1) (q0 := 0) rfl rfl rfl hl.1 rfl (Nat.le_of_ble_eq_true rfl) d_M_isOf_2 ⟨Nat.le_of_ble_eq_true rfl, Nat.le_of_ble_eq_true rfl⟩ (fun r hq => ?_)
  subst hq
  refine lv_if_eq (tgt := 22) hx hb d_M_isOf_5 (by decide) (fun c_5 => ?_) (fun c_5 => ?_)
  · refine lv_iconst (v := (0 : Int32)) hx hb d_M_isOf_22 (by decide) ?_
    exact roRet hx hb hr (by first | rfl | decide) hlk (show (0 : Int32) = m_isOf N K B Q x srt from by rw [m_isOf, if_pos c_5]) d_M_isOf_23
  · refine lv_aload_n hx hb d_M_isOf_8 rfl (lv_at hl 0 rfl) ?_
    refine va_get (D := D) (ci := 1) (v := .ref (a 1)) (C := R_M) (T := F_M) (N := 16) hx hb hts i_M hown hK hP 0 rfl rfl 1 (by decide) (hts _ fl_M_7) (fun _ h9 => h9) rfl d_M_isOf_9 ?_
    refine lv_iload_n hx hb d_M_isOf_12 rfl (lv_at hl 1 rfl) ?_
    refine va_iald (n := 30) hx hb hK hP 1 0 rfl rfl (th_in hN (isThingM_j hN c_5)) d_M_isOf_13 ?_
    refine lv_iload_n hx hb d_M_isOf_14 rfl (lv_at hl 2 rfl) ?_
    refine lv_icmp_ne (tgt := 22) hx hb d_M_isOf_15 (by decide) (fun c_15 => ?_) (fun c_15 => ?_)
    · refine lv_iconst (v := (0 : Int32)) hx hb d_M_isOf_22 (by decide) ?_
      exact roRet hx hb hr (by first | rfl | decide) hlk (show (0 : Int32) = m_isOf N K B Q x srt from by rw [m_isOf, if_neg c_5, if_neg c_15]) d_M_isOf_23
    · refine lv_iconst (v := (1 : Int32)) hx hb d_M_isOf_18 (by decide) ?_
      refine lv_goto (tgt := 23) hx hb d_M_isOf_19 (by decide) ?_
      exact roRet hx hb hr (by first | rfl | decide) hlk (show (1 : Int32) = m_isOf N K B Q x srt from by rw [m_isOf, if_neg c_5, if_pos c_15]) d_M_isOf_23
theorem isOfM_s {N K : Nat} {B Q : Nat → Nat → Int32} {x srt : Int32} (h : ¬ m_isOf N K B Q x srt = (0 : Int32)) : ¬ m_isThing N K B Q x = (0 : Int32) ∧ B 0 x.toNatClampNeg = srt := by
  rw [m_isOf] at h
  by_cases c1 : m_isThing N K B Q x = (0 : Int32)
  · rw [if_pos c1] at h; exact absurd rfl h
  · rw [if_neg c1] at h
    by_cases c2 : B 0 x.toNatClampNeg = srt
    · exact ⟨c1, c2⟩
    · rw [if_neg c2] at h; exact absurd rfl h
theorem isOfM_j {N K : Nat} {B Q : Nat → Nat → Int32} {x srt : Int32} (hN : N ≤ 30) (h : ¬ m_isOf N K B Q x srt = (0 : Int32)) : ∃ j : Nat, j < N ∧ x = nI j := isThingM_j hN (isOfM_s h).1

def m_isSpace (N : Nat) (K : Nat) (B : Nat → Nat → Int32) (Q : Nat → Nat → Int32) (x : Int32) : Int32 := (if (m_isOf N K B Q x (0 : Int32)) = (0 : Int32) then (if (m_isOf N K B Q x (1 : Int32)) = (0 : Int32) then (0 : Int32) else (1 : Int32)) else (1 : Int32))
set_option maxHeartbeats 4000000 in
set_option maxRecDepth 100000 in
theorem cm_isSpace (l : Launch) (D : va_G) (a : Nat → Nat) (cI cZ : ClassId) (N K : Nat) (B Q : Nat → Nat → Int32) (hN : N ≤ 30) (hKK : K ≤ 10) (hC : chs N B) (hDr : drM N K B) (x : Int32) : Met l y_M_isSpace (Cond.code y_M_isSpace b_M_isSpace 2 (some .boolean) :: BW) ({ frames := 3, cells := 0, slots := 0, locals := 65 } : Room) (PcR D (wM a cI cZ (nI N) (nI K) B Q) (tM cI cZ) [.ref (a 0), .int x]) (vp_Si (fun r => r = m_isSpace N K B Q x)) 0 0 (fun _ => False) := by
  refine roStart (by decide) rfl (Nat.le_of_ble_eq_true rfl) (fun p e s m below meth c Sx hr hlk hP hK ls hl => ?_)
  obtain ⟨hx, hb, hml, hown, hts⟩ := id Sx
  have hl : lv_has ls 2 [(0, .ref (a 0)), (1, .int x)] := hl
  refine lv_aload_n hx hb d_M_isSpace_0 rfl (lv_at hl 0 rfl) ?_
  refine lv_iload_n hx hb d_M_isSpace_1 rfl (lv_at hl 1 rfl) ?_
  refine lv_iconst (v := (0 : Int32)) hx hb d_M_isSpace_2 (by decide) ?_
  refine xro (As := [.int x, .int (0 : Int32)]) (rest := []) Sx (cm_isOf l D a cI cZ N K B Q hN hKK hC hDr x (0 : Int32)) v_M_isOf ⟨rfl, rfl, Nat.le_of_ble_eq_true rfl, Nat.le_of_ble_eq_true rfl⟩ hK hP (ci := 1) (q0 := 0) rfl rfl rfl hl.1 rfl (Nat.le_of_ble_eq_true rfl) d_M_isSpace_3 ⟨Nat.le_of_ble_eq_true rfl, Nat.le_of_ble_eq_true rfl⟩ (fun r hq => ?_)
  subst hq
  refine lv_if_ne (tgt := 18) hx hb d_M_isSpace_6 (by decide) (fun c_6 => ?_) (fun c_6 => ?_)
  · refine lv_iconst (v := (1 : Int32)) hx hb d_M_isSpace_18 (by decide) ?_
    refine lv_goto (tgt := 23) hx hb d_M_isSpace_19 (by decide) ?_
    exact roRet hx hb hr (by first | rfl | decide) hlk (show (1 : Int32) = m_isSpace N K B Q x from by rw [m_isSpace, if_neg c_6]) d_M_isSpace_23
  · refine lv_aload_n hx hb d_M_isSpace_9 rfl (lv_at hl 0 rfl) ?_
    refine lv_iload_n hx hb d_M_isSpace_10 rfl (lv_at hl 1 rfl) ?_
    refine lv_iconst (v := (1 : Int32)) hx hb d_M_isSpace_11 (by decide) ?_
    refine xro (As := [.int x, .int (1 : Int32)]) (rest := []) Sx (cm_isOf l D a cI cZ N K B Q hN hKK hC hDr x (1 : Int32)) v_M_isOf ⟨rfl, rfl, Nat.le_of_ble_eq_true rfl, Nat.le_of_ble_eq_true rfl⟩ hK hP (ci := 1) (q0 := 0) rfl rfl rfl hl.1 rfl (Nat.le_of_ble_eq_true rfl) d_M_isSpace_12 ⟨Nat.le_of_ble_eq_true rfl, Nat.le_of_ble_eq_true rfl⟩ (fun r hq => ?_)
    subst hq
    refine lv_if_eq (tgt := 22) hx hb d_M_isSpace_15 (by decide) (fun c_15 => ?_) (fun c_15 => ?_)
    · refine lv_iconst (v := (0 : Int32)) hx hb d_M_isSpace_22 (by decide) ?_
      exact roRet hx hb hr (by first | rfl | decide) hlk (show (0 : Int32) = m_isSpace N K B Q x from by rw [m_isSpace, if_pos c_6, if_pos c_15]) d_M_isSpace_23
    · refine lv_iconst (v := (1 : Int32)) hx hb d_M_isSpace_18 (by decide) ?_
      refine lv_goto (tgt := 23) hx hb d_M_isSpace_19 (by decide) ?_
      exact roRet hx hb hr (by first | rfl | decide) hlk (show (1 : Int32) = m_isSpace N K B Q x from by rw [m_isSpace, if_pos c_6, if_neg c_15]) d_M_isSpace_23
theorem isSpaceM_s {N K : Nat} {B Q : Nat → Nat → Int32} {x : Int32} (h : ¬ m_isSpace N K B Q x = (0 : Int32)) : ¬ m_isOf N K B Q x (0 : Int32) = (0 : Int32) ∨ ¬ m_isOf N K B Q x (1 : Int32) = (0 : Int32) := by
  rw [m_isSpace] at h
  by_cases c1 : m_isOf N K B Q x (0 : Int32) = (0 : Int32)
  · rw [if_pos c1] at h
    by_cases c2 : m_isOf N K B Q x (1 : Int32) = (0 : Int32)
    · rw [if_pos c2] at h; exact absurd rfl h
    · exact Or.inr c2
  · exact Or.inl c1
theorem isSpaceM_j {N K : Nat} {B Q : Nat → Nat → Int32} {x : Int32} (hN : N ≤ 30) (h : ¬ m_isSpace N K B Q x = (0 : Int32)) : ∃ j : Nat, j < N ∧ x = nI j := (isSpaceM_s h).elim (isOfM_j hN) (isOfM_j hN)

def m_isWithin_7 (N : Nat) (K : Nat) (B : Nat → Nat → Int32) (Q : Nat → Nat → Int32) (y : Int32) : Nat → Int32 → Int32
  | 0, v3 => (0 : Int32)
  | k + 1, v3 => (if v3 = (-1 : Int32) then (if v3 = y then (if y = (-1 : Int32) then (0 : Int32) else (1 : Int32)) else (0 : Int32)) else (if v3 = y then (if y = (-1 : Int32) then (0 : Int32) else (1 : Int32)) else m_isWithin_7 N K B Q y k (B 1 v3.toNatClampNeg)))
theorem m_isWithin_7_0 (N : Nat) (K : Nat) (B : Nat → Nat → Int32) (Q : Nat → Nat → Int32) (y : Int32) (v3 : Int32) : m_isWithin_7 N K B Q y 0 v3 = (0 : Int32) := rfl
theorem m_isWithin_7_S (N : Nat) (K : Nat) (B : Nat → Nat → Int32) (Q : Nat → Nat → Int32) (y : Int32) (k : Nat) (v3 : Int32) : m_isWithin_7 N K B Q y (k + 1) v3 = (if v3 = (-1 : Int32) then (if v3 = y then (if y = (-1 : Int32) then (0 : Int32) else (1 : Int32)) else (0 : Int32)) else (if v3 = y then (if y = (-1 : Int32) then (0 : Int32) else (1 : Int32)) else m_isWithin_7 N K B Q y k (B 1 v3.toNatClampNeg))) := rfl
set_option maxHeartbeats 4000000 in
set_option maxRecDepth 100000 in
theorem wm_isWithin_7 (l : Launch) (D : va_G) (a : Nat → Nat) (cI cZ : ClassId) (N K : Nat) (B Q : Nat → Nat → Int32) (hN : N ≤ 30) (hKK : K ≤ 10) (hC : chs N B) (hDr : drM N K B) (x : Int32) (y : Int32) (h_x : ∃ j : Nat, j < N ∧ x = nI j) {p : Program} {e : Env} {s : State} {m : MethodId} {below : List Frame} {meth : Method} {c : Code} (Sx : CallFix p m c b_M_isWithin 4 s ([.ref (a 0), .int x, .int y] : List Value).toArray BW R_M) (hr : meth.sig.returnType = (some .boolean)) (hlk : meth.locks = false) (hP : va_P D classes (wM a cI cZ (nI N) (nI K) B Q) s.heap) (hK : va_K D classes (tM cI cZ) s) : ∀ (k : Nat), ∀ (v3 : Int32) (ls : Array Slot), chp N (B 1) k v3 → lv_has ls 4 [(0, .ref (a 0)), (1, .int x), (2, .int y), (3, .int v3)] → W p l e ({ frames := 0, cells := 0, slots := 0, locals := 0 } : Room) s m ([.ref (a 0), .int x, .int y] : List Value).toArray below meth c s.heap [] 0 0 (MQ below (vp_Si (fun r => r = m_isWithin_7 N K B Q y k v3)) ([.ref (a 0), .int x, .int y] : List Value).toArray s 0 0 (fun _ => False)) (F0 m 7 ls []) := by
  obtain ⟨hx, hb, hml, hown, hts⟩ := id Sx
  intro k
  induction k with
  | zero =>
    intro v3 ls hv hl
    exact absurd hv (chp_0)
  | succ k ih =>
    intro v3 ls hv hl
    refine lv_iload_n hx hb d_M_isWithin_7 rfl (lv_at hl 3 rfl) ?_
    refine lv_iconst (v := (-1 : Int32)) hx hb d_M_isWithin_8 (by decide) ?_
    refine lv_icmp_eq (tgt := 27) hx hb d_M_isWithin_9 (by decide) (fun c_9 => ?_) (fun c_9 => ?_)
    · refine lv_iload_n hx hb d_M_isWithin_27 rfl (lv_at hl 3 rfl) ?_
      refine lv_iload_n hx hb d_M_isWithin_28 rfl (lv_at hl 2 rfl) ?_
      refine lv_icmp_ne (tgt := 41) hx hb d_M_isWithin_29 (by decide) (fun c_29 => ?_) (fun c_29 => ?_)
      · refine lv_iconst (v := (0 : Int32)) hx hb d_M_isWithin_41 (by decide) ?_
        exact roRet hx hb hr (by first | rfl | decide) hlk (show (0 : Int32) = m_isWithin_7 N K B Q y (k + 1) v3 from by rw [m_isWithin_7_S, if_pos c_9, if_neg c_29]) d_M_isWithin_42
      · refine lv_iload_n hx hb d_M_isWithin_32 rfl (lv_at hl 2 rfl) ?_
        refine lv_iconst (v := (-1 : Int32)) hx hb d_M_isWithin_33 (by decide) ?_
        refine lv_icmp_eq (tgt := 41) hx hb d_M_isWithin_34 (by decide) (fun c_34 => ?_) (fun c_34 => ?_)
        · refine lv_iconst (v := (0 : Int32)) hx hb d_M_isWithin_41 (by decide) ?_
          exact roRet hx hb hr (by first | rfl | decide) hlk (show (0 : Int32) = m_isWithin_7 N K B Q y (k + 1) v3 from by rw [m_isWithin_7_S, if_pos c_9, if_pos c_29, if_pos c_34]) d_M_isWithin_42
        · refine lv_iconst (v := (1 : Int32)) hx hb d_M_isWithin_37 (by decide) ?_
          refine lv_goto (tgt := 42) hx hb d_M_isWithin_38 (by decide) ?_
          exact roRet hx hb hr (by first | rfl | decide) hlk (show (1 : Int32) = m_isWithin_7 N K B Q y (k + 1) v3 from by rw [m_isWithin_7_S, if_pos c_9, if_pos c_29, if_neg c_34]) d_M_isWithin_42
    · refine lv_iload_n hx hb d_M_isWithin_12 rfl (lv_at hl 3 rfl) ?_
      refine lv_iload_n hx hb d_M_isWithin_13 rfl (lv_at hl 2 rfl) ?_
      refine lv_icmp_eq (tgt := 27) hx hb d_M_isWithin_14 (by decide) (fun c_14 => ?_) (fun c_14 => ?_)
      · refine lv_iload_n hx hb d_M_isWithin_27 rfl (lv_at hl 3 rfl) ?_
        refine lv_iload_n hx hb d_M_isWithin_28 rfl (lv_at hl 2 rfl) ?_
        refine lv_icmp_ne (tgt := 41) hx hb d_M_isWithin_29 (by decide) (fun c_29 => absurd c_14 c_29) (fun c_29 => ?_)
        refine lv_iload_n hx hb d_M_isWithin_32 rfl (lv_at hl 2 rfl) ?_
        refine lv_iconst (v := (-1 : Int32)) hx hb d_M_isWithin_33 (by decide) ?_
        refine lv_icmp_eq (tgt := 41) hx hb d_M_isWithin_34 (by decide) (fun c_34 => ?_) (fun c_34 => ?_)
        · refine lv_iconst (v := (0 : Int32)) hx hb d_M_isWithin_41 (by decide) ?_
          exact roRet hx hb hr (by first | rfl | decide) hlk (show (0 : Int32) = m_isWithin_7 N K B Q y (k + 1) v3 from by rw [m_isWithin_7_S, if_neg c_9, if_pos c_14, if_pos c_34]) d_M_isWithin_42
        · refine lv_iconst (v := (1 : Int32)) hx hb d_M_isWithin_37 (by decide) ?_
          refine lv_goto (tgt := 42) hx hb d_M_isWithin_38 (by decide) ?_
          exact roRet hx hb hr (by first | rfl | decide) hlk (show (1 : Int32) = m_isWithin_7 N K B Q y (k + 1) v3 from by rw [m_isWithin_7_S, if_neg c_9, if_pos c_14, if_neg c_34]) d_M_isWithin_42
      · refine lv_aload_n hx hb d_M_isWithin_17 rfl (lv_at hl 0 rfl) ?_
        refine va_get (D := D) (ci := 1) (v := .ref (a 2)) (C := R_M) (T := F_M) (N := 16) hx hb hts i_M hown hK hP 0 rfl rfl 2 (by decide) (hts _ fl_M_13) (fun _ h9 => h9) rfl d_M_isWithin_18 ?_
        refine lv_iload_n hx hb d_M_isWithin_21 rfl (lv_at hl 3 rfl) ?_
        refine va_iald (n := 30) hx hb hK hP 2 0 rfl rfl (chp_in hN hv c_9) d_M_isWithin_22 ?_
        refine lv_istore_n (lv' := [(3, .int (B 1 v3.toNatClampNeg)), (0, .ref (a 0)), (1, .int x), (2, .int y)]) hx hb d_M_isWithin_23 rfl hl (by decide) rfl (fun ls hl => ?_)
        refine lv_goto (tgt := 7) hx hb d_M_isWithin_24 (by decide) ?_
        have e_b : m_isWithin_7 N K B Q y (k + 1) v3 = m_isWithin_7 N K B Q y k (B 1 v3.toNatClampNeg) := by rw [m_isWithin_7_S, if_neg c_9, if_neg c_14]
        rw [e_b]
        exact ih (B 1 v3.toNatClampNeg) ls (chp_next hN hv c_9) (lv_sub hl [1, 2, 3, 0] rfl)
def m_isWithin (N : Nat) (K : Nat) (B : Nat → Nat → Int32) (Q : Nat → Nat → Int32) (x y : Int32) : Int32 := m_isWithin_7 N K B Q y 30 (B 1 x.toNatClampNeg)
set_option maxHeartbeats 4000000 in
set_option maxRecDepth 100000 in
theorem cm_isWithin (l : Launch) (D : va_G) (a : Nat → Nat) (cI cZ : ClassId) (N K : Nat) (B Q : Nat → Nat → Int32) (hN : N ≤ 30) (hKK : K ≤ 10) (hC : chs N B) (hDr : drM N K B) (x y : Int32) (h_x : ∃ j : Nat, j < N ∧ x = nI j) : Met l y_M_isWithin (Cond.code y_M_isWithin b_M_isWithin 4 (some .boolean) :: BW) ({ frames := 0, cells := 0, slots := 0, locals := 0 } : Room) (PcR D (wM a cI cZ (nI N) (nI K) B Q) (tM cI cZ) [.ref (a 0), .int x, .int y]) (vp_Si (fun r => r = m_isWithin N K B Q x y)) 0 0 (fun _ => False) := by
  refine roStart (by decide) rfl (Nat.le_of_ble_eq_true rfl) (fun p e s m below meth c Sx hr hlk hP hK ls hl => ?_)
  obtain ⟨hx, hb, hml, hown, hts⟩ := id Sx
  have hl : lv_has ls 4 [(0, .ref (a 0)), (1, .int x), (2, .int y)] := hl
  refine lv_aload_n hx hb d_M_isWithin_0 rfl (lv_at hl 0 rfl) ?_
  refine va_get (D := D) (ci := 1) (v := .ref (a 2)) (C := R_M) (T := F_M) (N := 16) hx hb hts i_M hown hK hP 0 rfl rfl 2 (by decide) (hts _ fl_M_13) (fun _ h9 => h9) rfl d_M_isWithin_1 ?_
  refine lv_iload_n hx hb d_M_isWithin_4 rfl (lv_at hl 1 rfl) ?_
  refine va_iald (n := 30) hx hb hK hP 2 0 rfl rfl (th_in hN (h_x)) d_M_isWithin_5 ?_
  refine lv_istore_n (lv' := [(3, .int (B 1 x.toNatClampNeg)), (0, .ref (a 0)), (1, .int x), (2, .int y)]) hx hb d_M_isWithin_6 rfl hl (by decide) rfl (fun ls hl => ?_)
  have e_7 : m_isWithin N K B Q x y = m_isWithin_7 N K B Q y 30 (B 1 x.toNatClampNeg) := by rw [m_isWithin]
  rw [e_7]
  exact wm_isWithin_7 l D a cI cZ N K B Q hN hKK hC hDr x y h_x Sx hr hlk hP hK 30 (B 1 x.toNatClampNeg) ls (chs_at hN hC h_x) (lv_sub hl [1, 2, 3, 0] rfl)
theorem isWithin_7_hit {N K : Nat} {B Q : Nat → Nat → Int32} {y : Int32} (hN : N ≤ 30) : ∀ (k : Nat) (v : Int32), chp N (B 1) k v → ¬ m_isWithin_7 N K B Q y k v = (0 : Int32) → hit N (B 1) (k + 1) v y := by
  intro k
  induction k with
  | zero => intro v hc h; exact absurd rfl h
  | succ k ih =>
    intro v hc h
    rw [m_isWithin_7_S] at h
    by_cases c2 : v = y
    · exact Or.inl c2
    · by_cases c1 : v = (-1 : Int32)
      · rw [if_pos c1, if_neg c2] at h; exact absurd rfl h
      · rw [if_neg c1, if_neg c2] at h
        obtain ⟨j, h1, h2, h3⟩ := chp_dec hc c1
        rw [h2, nI_clamp (by omega)] at h
        exact Or.inr ⟨j, h1, h2, ih _ h3 h⟩
theorem hit_of {N K : Nat} {B Q : Nat → Nat → Int32} {x t : Int32} (hN : N ≤ 30) (hC : chs N B) (hx : ∃ j : Nat, j < N ∧ x = nI j) (h : ¬ m_isWithin N K B Q x t = (0 : Int32)) : hit N (B 1) 31 (B 1 x.toNatClampNeg) t := isWithin_7_hit hN 30 _ (chs_at hN hC hx) h

def m_heldBy_4 (N : Nat) (K : Nat) (B : Nat → Nat → Int32) (Q : Nat → Nat → Int32) (y : Int32) : Nat → Nat → Int32 → Int32
  | 0, i, v2 => v2
  | k + 1, i, v2 => (if (B 1 i) = y then m_heldBy_4 N K B Q y k (i + 1) (v2 + (1 : Int32)) else m_heldBy_4 N K B Q y k (i + 1) (v2 + (0 : Int32)))
theorem m_heldBy_4_0 (N : Nat) (K : Nat) (B : Nat → Nat → Int32) (Q : Nat → Nat → Int32) (y : Int32) (i : Nat) (v2 : Int32) : m_heldBy_4 N K B Q y 0 i v2 = v2 := rfl
theorem m_heldBy_4_S (N : Nat) (K : Nat) (B : Nat → Nat → Int32) (Q : Nat → Nat → Int32) (y : Int32) (k : Nat) (i : Nat) (v2 : Int32) : m_heldBy_4 N K B Q y (k + 1) i v2 = (if (B 1 i) = y then m_heldBy_4 N K B Q y k (i + 1) (v2 + (1 : Int32)) else m_heldBy_4 N K B Q y k (i + 1) (v2 + (0 : Int32))) := rfl
set_option maxHeartbeats 4000000 in
set_option maxRecDepth 100000 in
theorem wm_heldBy_4 (l : Launch) (D : va_G) (a : Nat → Nat) (cI cZ : ClassId) (N K : Nat) (B Q : Nat → Nat → Int32) (hN : N ≤ 30) (hKK : K ≤ 10) (hC : chs N B) (hDr : drM N K B) (y : Int32) {p : Program} {e : Env} {s : State} {m : MethodId} {below : List Frame} {meth : Method} {c : Code} (Sx : CallFix p m c b_M_heldBy 4 s ([.ref (a 0), .int y] : List Value).toArray BW R_M) (hr : meth.sig.returnType = (some .int)) (hlk : meth.locks = false) (hP : va_P D classes (wM a cI cZ (nI N) (nI K) B Q) s.heap) (hK : va_K D classes (tM cI cZ) s) : ∀ (k i : Nat), i + k = N → ∀ (v2 : Int32) (ls : Array Slot), lv_has ls 4 [(0, .ref (a 0)), (1, .int y), (2, .int v2), (3, .int (nI i))] → W p l e ({ frames := 0, cells := 0, slots := 0, locals := 0 } : Room) s m ([.ref (a 0), .int y] : List Value).toArray below meth c s.heap [] 0 0 (MQ below (vp_Si (fun r => r = m_heldBy_4 N K B Q y k i v2)) ([.ref (a 0), .int y] : List Value).toArray s 0 0 (fun _ => False)) (F0 m 4 ls []) := by
  obtain ⟨hx, hb, hml, hown, hts⟩ := id Sx
  intro k
  induction k with
  | zero =>
    intro i hi v2 ls hl
    refine lv_iload_n hx hb d_M_heldBy_4 rfl (lv_at hl 3 rfl) ?_
    refine lv_aload_n hx hb d_M_heldBy_5 rfl (lv_at hl 0 rfl) ?_
    refine va_get (D := D) (ci := 1) (v := .int (nI N)) (C := R_M) (T := F_M) (N := 16) hx hb hts i_M hown hK hP 0 rfl rfl 0 (by decide) (hts _ fl_M_47) (fun _ h9 => h9) rfl d_M_heldBy_6 ?_
    refine lv_icmp_ge (tgt := 36) hx hb d_M_heldBy_9 (by decide) (fun c_9 => ?_) (fun c_9 => absurd (nI_le (a := N) (b := i) (by omega) (by omega)) c_9)
    refine lv_iload_n hx hb d_M_heldBy_36 rfl (lv_at hl 2 rfl) ?_
    exact roRet hx hb hr rfl hlk (show v2 = m_heldBy_4 N K B Q y 0 i v2 from by rw [m_heldBy_4_0]) d_M_heldBy_37
  | succ k ih =>
    intro i hi v2 ls hl
    refine lv_iload_n hx hb d_M_heldBy_4 rfl (lv_at hl 3 rfl) ?_
    refine lv_aload_n hx hb d_M_heldBy_5 rfl (lv_at hl 0 rfl) ?_
    refine va_get (D := D) (ci := 1) (v := .int (nI N)) (C := R_M) (T := F_M) (N := 16) hx hb hts i_M hown hK hP 0 rfl rfl 0 (by decide) (hts _ fl_M_47) (fun _ h9 => h9) rfl d_M_heldBy_6 ?_
    refine lv_icmp_ge (tgt := 36) hx hb d_M_heldBy_9 (by decide) (fun c_9 => absurd c_9 (nI_ge (a := i) (b := N) (by omega) (by omega))) (fun c_9 => ?_)
    refine lv_iload_n hx hb d_M_heldBy_12 rfl (lv_at hl 2 rfl) ?_
    refine lv_aload_n hx hb d_M_heldBy_13 rfl (lv_at hl 0 rfl) ?_
    refine va_get (D := D) (ci := 1) (v := .ref (a 2)) (C := R_M) (T := F_M) (N := 16) hx hb hts i_M hown hK hP 0 rfl rfl 2 (by decide) (hts _ fl_M_13) (fun _ h9 => h9) rfl d_M_heldBy_14 ?_
    refine lv_iload_n hx hb d_M_heldBy_17 rfl (lv_at hl 3 rfl) ?_
    refine x_ialdN (n := 30) hx hb hK hP 2 0 rfl rfl (by omega) (by omega) d_M_heldBy_18 ?_
    refine lv_iload_n hx hb d_M_heldBy_19 rfl (lv_at hl 1 rfl) ?_
    refine lv_icmp_ne (tgt := 27) hx hb d_M_heldBy_20 (by decide) (fun c_20 => ?_) (fun c_20 => ?_)
    · refine lv_iconst (v := (0 : Int32)) hx hb d_M_heldBy_27 (by decide) ?_
      refine lv_iadd hx hb d_M_heldBy_28 ?_
      refine lv_istore_n (lv' := [(2, .int (v2 + (0 : Int32))), (0, .ref (a 0)), (1, .int y), (3, .int (nI i))]) hx hb d_M_heldBy_29 rfl hl (by decide) rfl (fun ls hl => ?_)
      refine lv_iinc (v := nI (i + 1)) (lv' := [(3, .int (nI (i + 1))), (2, .int (v2 + (0 : Int32))), (0, .ref (a 0)), (1, .int y)]) hx hb d_M_heldBy_30 hl (k := 3) rfl (nI_1 i) (by decide) rfl (fun ls hl => ?_)
      refine lv_goto (tgt := 4) hx hb d_M_heldBy_33 (by decide) ?_
      have e_b : m_heldBy_4 N K B Q y (k + 1) i v2 = m_heldBy_4 N K B Q y k (i + 1) (v2 + (0 : Int32)) := by rw [m_heldBy_4_S, if_neg c_20]
      rw [e_b]
      exact ih (i + 1) (by omega) (v2 + (0 : Int32)) ls (lv_sub hl [2, 3, 1, 0] rfl)
    · refine lv_iconst (v := (1 : Int32)) hx hb d_M_heldBy_23 (by decide) ?_
      refine lv_goto (tgt := 28) hx hb d_M_heldBy_24 (by decide) ?_
      refine lv_iadd hx hb d_M_heldBy_28 ?_
      refine lv_istore_n (lv' := [(2, .int (v2 + (1 : Int32))), (0, .ref (a 0)), (1, .int y), (3, .int (nI i))]) hx hb d_M_heldBy_29 rfl hl (by decide) rfl (fun ls hl => ?_)
      refine lv_iinc (v := nI (i + 1)) (lv' := [(3, .int (nI (i + 1))), (2, .int (v2 + (1 : Int32))), (0, .ref (a 0)), (1, .int y)]) hx hb d_M_heldBy_30 hl (k := 3) rfl (nI_1 i) (by decide) rfl (fun ls hl => ?_)
      refine lv_goto (tgt := 4) hx hb d_M_heldBy_33 (by decide) ?_
      have e_b : m_heldBy_4 N K B Q y (k + 1) i v2 = m_heldBy_4 N K B Q y k (i + 1) (v2 + (1 : Int32)) := by rw [m_heldBy_4_S, if_pos c_20]
      rw [e_b]
      exact ih (i + 1) (by omega) (v2 + (1 : Int32)) ls (lv_sub hl [2, 3, 1, 0] rfl)
def m_heldBy (N : Nat) (K : Nat) (B : Nat → Nat → Int32) (Q : Nat → Nat → Int32) (y : Int32) : Int32 := m_heldBy_4 N K B Q y N 0 (0 : Int32)
set_option maxHeartbeats 4000000 in
set_option maxRecDepth 100000 in
theorem cm_heldBy (l : Launch) (D : va_G) (a : Nat → Nat) (cI cZ : ClassId) (N K : Nat) (B Q : Nat → Nat → Int32) (hN : N ≤ 30) (hKK : K ≤ 10) (hC : chs N B) (hDr : drM N K B) (y : Int32) : Met l y_M_heldBy (Cond.code y_M_heldBy b_M_heldBy 4 (some .int) :: BW) ({ frames := 0, cells := 0, slots := 0, locals := 0 } : Room) (PcR D (wM a cI cZ (nI N) (nI K) B Q) (tM cI cZ) [.ref (a 0), .int y]) (vp_Si (fun r => r = m_heldBy N K B Q y)) 0 0 (fun _ => False) := by
  refine roStart (by decide) rfl (Nat.le_of_ble_eq_true rfl) (fun p e s m below meth c Sx hr hlk hP hK ls hl => ?_)
  obtain ⟨hx, hb, hml, hown, hts⟩ := id Sx
  have hl : lv_has ls 4 [(0, .ref (a 0)), (1, .int y)] := hl
  refine lv_iconst (v := (0 : Int32)) hx hb d_M_heldBy_0 (by decide) ?_
  refine lv_istore_n (lv' := [(2, .int (0 : Int32)), (0, .ref (a 0)), (1, .int y)]) hx hb d_M_heldBy_1 rfl hl (by decide) rfl (fun ls hl => ?_)
  refine lv_iconst (v := (0 : Int32)) hx hb d_M_heldBy_2 (by decide) ?_
  refine lv_istore_n (lv' := [(3, .int (0 : Int32)), (2, .int (0 : Int32)), (0, .ref (a 0)), (1, .int y)]) hx hb d_M_heldBy_3 rfl hl (by decide) rfl (fun ls hl => ?_)
  have e_4 : m_heldBy N K B Q y = m_heldBy_4 N K B Q y N 0 (0 : Int32) := by rw [m_heldBy]
  rw [e_4]
  exact wm_heldBy_4 l D a cI cZ N K B Q hN hKK hC hDr y Sx hr hlk hP hK N 0 (by omega) (0 : Int32) ls (lv_sub hl [2, 3, 1, 0] rfl)

def m_hasRoom (N : Nat) (K : Nat) (B : Nat → Nat → Int32) (Q : Nat → Nat → Int32) (y : Int32) : Int32 := (if (B 0 y.toNatClampNeg) = (0 : Int32) then (1 : Int32) else (if (8 : Int32) ≤ (m_heldBy N K B Q y) then (0 : Int32) else (1 : Int32)))
set_option maxHeartbeats 4000000 in
set_option maxRecDepth 100000 in
theorem cm_hasRoom (l : Launch) (D : va_G) (a : Nat → Nat) (cI cZ : ClassId) (N K : Nat) (B Q : Nat → Nat → Int32) (hN : N ≤ 30) (hKK : K ≤ 10) (hC : chs N B) (hDr : drM N K B) (y : Int32) (h_x : ∃ j : Nat, j < N ∧ y = nI j) : Met l y_M_hasRoom (Cond.code y_M_hasRoom b_M_hasRoom 2 (some .boolean) :: BW) ({ frames := 1, cells := 0, slots := 0, locals := 23 } : Room) (PcR D (wM a cI cZ (nI N) (nI K) B Q) (tM cI cZ) [.ref (a 0), .int y]) (vp_Si (fun r => r = m_hasRoom N K B Q y)) 0 0 (fun _ => False) := by
  refine roStart (by decide) rfl (Nat.le_of_ble_eq_true rfl) (fun p e s m below meth c Sx hr hlk hP hK ls hl => ?_)
  obtain ⟨hx, hb, hml, hown, hts⟩ := id Sx
  have hl : lv_has ls 2 [(0, .ref (a 0)), (1, .int y)] := hl
  refine lv_aload_n hx hb d_M_hasRoom_0 rfl (lv_at hl 0 rfl) ?_
  refine va_get (D := D) (ci := 1) (v := .ref (a 1)) (C := R_M) (T := F_M) (N := 16) hx hb hts i_M hown hK hP 0 rfl rfl 1 (by decide) (hts _ fl_M_7) (fun _ h9 => h9) rfl d_M_hasRoom_1 ?_
  refine lv_iload_n hx hb d_M_hasRoom_4 rfl (lv_at hl 1 rfl) ?_
  refine va_iald (n := 30) hx hb hK hP 1 0 rfl rfl (th_in hN (h_x)) d_M_hasRoom_5 ?_
  refine lv_if_eq (tgt := 19) hx hb d_M_hasRoom_6 (by decide) (fun c_6 => ?_) (fun c_6 => ?_)
  · refine lv_iconst (v := (1 : Int32)) hx hb d_M_hasRoom_19 (by decide) ?_
    refine lv_goto (tgt := 24) hx hb d_M_hasRoom_20 (by decide) ?_
    exact roRet hx hb hr (by first | rfl | decide) hlk (show (1 : Int32) = m_hasRoom N K B Q y from by rw [m_hasRoom, if_pos c_6]) d_M_hasRoom_24
  · refine lv_aload_n hx hb d_M_hasRoom_9 rfl (lv_at hl 0 rfl) ?_
    refine lv_iload_n hx hb d_M_hasRoom_10 rfl (lv_at hl 1 rfl) ?_
    refine xro (As := [.int y]) (rest := []) Sx (cm_heldBy l D a cI cZ N K B Q hN hKK hC hDr y) v_M_heldBy ⟨rfl, rfl, Nat.le_of_ble_eq_true rfl, Nat.le_of_ble_eq_true rfl⟩ hK hP (ci := 1) (q0 := 0) rfl rfl rfl hl.1 rfl (Nat.le_of_ble_eq_true rfl) d_M_hasRoom_11 ⟨Nat.le_of_ble_eq_true rfl, Nat.le_of_ble_eq_true rfl⟩ (fun r hq => ?_)
    subst hq
    refine lv_bipush (v := (8 : Int32)) hx hb d_M_hasRoom_14 (by decide) ?_
    refine lv_icmp_ge (tgt := 23) hx hb d_M_hasRoom_16 (by decide) (fun c_16 => ?_) (fun c_16 => ?_)
    · refine lv_iconst (v := (0 : Int32)) hx hb d_M_hasRoom_23 (by decide) ?_
      exact roRet hx hb hr (by first | rfl | decide) hlk (show (0 : Int32) = m_hasRoom N K B Q y from by rw [m_hasRoom, if_neg c_6, if_pos c_16]) d_M_hasRoom_24
    · refine lv_iconst (v := (1 : Int32)) hx hb d_M_hasRoom_19 (by decide) ?_
      refine lv_goto (tgt := 24) hx hb d_M_hasRoom_20 (by decide) ?_
      exact roRet hx hb hr (by first | rfl | decide) hlk (show (1 : Int32) = m_hasRoom N K B Q y from by rw [m_hasRoom, if_neg c_6, if_neg c_16]) d_M_hasRoom_24

def m_isShut (N : Nat) (K : Nat) (B : Nat → Nat → Int32) (Q : Nat → Nat → Int32) (x : Int32) : Int32 := (if (B 0 x.toNatClampNeg) = (1 : Int32) then (if (B 2 ((4 : Int32) * x).toNatClampNeg) = (0 : Int32) then (1 : Int32) else (0 : Int32)) else (0 : Int32))
set_option maxHeartbeats 4000000 in
set_option maxRecDepth 100000 in
theorem cm_isShut (l : Launch) (D : va_G) (a : Nat → Nat) (cI cZ : ClassId) (N K : Nat) (B Q : Nat → Nat → Int32) (hN : N ≤ 30) (hKK : K ≤ 10) (hC : chs N B) (hDr : drM N K B) (x : Int32) (h_x : ∃ j : Nat, j < N ∧ x = nI j) : Met l y_M_isShut (Cond.code y_M_isShut b_M_isShut 2 (some .boolean) :: BW) ({ frames := 0, cells := 0, slots := 0, locals := 0 } : Room) (PcR D (wM a cI cZ (nI N) (nI K) B Q) (tM cI cZ) [.ref (a 0), .int x]) (vp_Si (fun r => r = m_isShut N K B Q x)) 0 0 (fun _ => False) := by
  refine roStart (by decide) rfl (Nat.le_of_ble_eq_true rfl) (fun p e s m below meth c Sx hr hlk hP hK ls hl => ?_)
  obtain ⟨hx, hb, hml, hown, hts⟩ := id Sx
  have hl : lv_has ls 2 [(0, .ref (a 0)), (1, .int x)] := hl
  refine lv_aload_n hx hb d_M_isShut_0 rfl (lv_at hl 0 rfl) ?_
  refine va_get (D := D) (ci := 1) (v := .ref (a 1)) (C := R_M) (T := F_M) (N := 16) hx hb hts i_M hown hK hP 0 rfl rfl 1 (by decide) (hts _ fl_M_7) (fun _ h9 => h9) rfl d_M_isShut_1 ?_
  refine lv_iload_n hx hb d_M_isShut_4 rfl (lv_at hl 1 rfl) ?_
  refine va_iald (n := 30) hx hb hK hP 1 0 rfl rfl (th_in hN (h_x)) d_M_isShut_5 ?_
  refine lv_iconst (v := (1 : Int32)) hx hb d_M_isShut_6 (by decide) ?_
  refine lv_icmp_ne (tgt := 25) hx hb d_M_isShut_7 (by decide) (fun c_7 => ?_) (fun c_7 => ?_)
  · refine lv_iconst (v := (0 : Int32)) hx hb d_M_isShut_25 (by decide) ?_
    exact roRet hx hb hr (by first | rfl | decide) hlk (show (0 : Int32) = m_isShut N K B Q x from by rw [m_isShut, if_neg c_7]) d_M_isShut_26
  · refine lv_aload_n hx hb d_M_isShut_10 rfl (lv_at hl 0 rfl) ?_
    refine va_get (D := D) (ci := 1) (v := .ref (a 3)) (C := R_M) (T := F_M) (N := 16) hx hb hts i_M hown hK hP 0 rfl rfl 3 (by decide) (hts _ fl_M_16) (fun _ h9 => h9) rfl d_M_isShut_11 ?_
    refine lv_iconst (v := (4 : Int32)) hx hb d_M_isShut_14 (by decide) ?_
    refine lv_iload_n hx hb d_M_isShut_15 rfl (lv_at hl 1 rfl) ?_
    refine lv_imul hx hb d_M_isShut_16 ?_
    refine va_iald (n := 120) hx hb hK hP 3 0 rfl rfl (st0_in hN (h_x)) d_M_isShut_17 ?_
    refine lv_if_ne (tgt := 25) hx hb d_M_isShut_18 (by decide) (fun c_18 => ?_) (fun c_18 => ?_)
    · refine lv_iconst (v := (0 : Int32)) hx hb d_M_isShut_25 (by decide) ?_
      exact roRet hx hb hr (by first | rfl | decide) hlk (show (0 : Int32) = m_isShut N K B Q x from by rw [m_isShut, if_pos c_7, if_neg c_18]) d_M_isShut_26
    · refine lv_iconst (v := (1 : Int32)) hx hb d_M_isShut_21 (by decide) ?_
      refine lv_goto (tgt := 26) hx hb d_M_isShut_22 (by decide) ?_
      exact roRet hx hb hr (by first | rfl | decide) hlk (show (1 : Int32) = m_isShut N K B Q x from by rw [m_isShut, if_pos c_7, if_pos c_18]) d_M_isShut_26

def m_spaceOf_18 (N : Nat) (K : Nat) (B : Nat → Nat → Int32) (Q : Nat → Nat → Int32) : Nat → Int32 → Int32
  | 0, v2 => (0 : Int32)
  | k + 1, v2 => (if v2 = (-1 : Int32) then v2 else (if (m_isSpace N K B Q v2) = (0 : Int32) then m_spaceOf_18 N K B Q k (B 1 v2.toNatClampNeg) else v2))
theorem m_spaceOf_18_0 (N : Nat) (K : Nat) (B : Nat → Nat → Int32) (Q : Nat → Nat → Int32) (v2 : Int32) : m_spaceOf_18 N K B Q 0 v2 = (0 : Int32) := rfl
theorem m_spaceOf_18_S (N : Nat) (K : Nat) (B : Nat → Nat → Int32) (Q : Nat → Nat → Int32) (k : Nat) (v2 : Int32) : m_spaceOf_18 N K B Q (k + 1) v2 = (if v2 = (-1 : Int32) then v2 else (if (m_isSpace N K B Q v2) = (0 : Int32) then m_spaceOf_18 N K B Q k (B 1 v2.toNatClampNeg) else v2)) := rfl
set_option maxHeartbeats 4000000 in
set_option maxRecDepth 100000 in
theorem wm_spaceOf_18 (l : Launch) (D : va_G) (a : Nat → Nat) (cI cZ : ClassId) (N K : Nat) (B Q : Nat → Nat → Int32) (hN : N ≤ 30) (hKK : K ≤ 10) (hC : chs N B) (hDr : drM N K B) (x : Int32) (h_x : ∃ j : Nat, j < N ∧ x = nI j) {p : Program} {e : Env} {s : State} {m : MethodId} {below : List Frame} {meth : Method} {c : Code} (Sx : CallFix p m c b_M_spaceOf 3 s ([.ref (a 0), .int x] : List Value).toArray BW R_M) (hr : meth.sig.returnType = (some .int)) (hlk : meth.locks = false) (hP : va_P D classes (wM a cI cZ (nI N) (nI K) B Q) s.heap) (hK : va_K D classes (tM cI cZ) s) : ∀ (k : Nat), ∀ (v2 : Int32) (ls : Array Slot), chp N (B 1) k v2 → lv_has ls 3 [(0, .ref (a 0)), (1, .int x), (2, .int v2)] → W p l e ({ frames := 4, cells := 0, slots := 0, locals := 86 } : Room) s m ([.ref (a 0), .int x] : List Value).toArray below meth c s.heap [] 0 0 (MQ below (vp_Si (fun r => r = m_spaceOf_18 N K B Q k v2)) ([.ref (a 0), .int x] : List Value).toArray s 0 0 (fun _ => False)) (F0 m 18 ls []) := by
  obtain ⟨hx, hb, hml, hown, hts⟩ := id Sx
  intro k
  induction k with
  | zero =>
    intro v2 ls hv hl
    exact absurd hv (chp_0)
  | succ k ih =>
    intro v2 ls hv hl
    refine lv_iload_n hx hb d_M_spaceOf_18 rfl (lv_at hl 2 rfl) ?_
    refine lv_iconst (v := (-1 : Int32)) hx hb d_M_spaceOf_19 (by decide) ?_
    refine lv_icmp_eq (tgt := 41) hx hb d_M_spaceOf_20 (by decide) (fun c_20 => ?_) (fun c_20 => ?_)
    · refine lv_iload_n hx hb d_M_spaceOf_41 rfl (lv_at hl 2 rfl) ?_
      exact roRet hx hb hr rfl hlk (show v2 = m_spaceOf_18 N K B Q (k + 1) v2 from by rw [m_spaceOf_18_S, if_pos c_20]) d_M_spaceOf_42
    · refine lv_aload_n hx hb d_M_spaceOf_23 rfl (lv_at hl 0 rfl) ?_
      refine lv_iload_n hx hb d_M_spaceOf_24 rfl (lv_at hl 2 rfl) ?_
      refine xro (As := [.int v2]) (rest := []) Sx (cm_isSpace l D a cI cZ N K B Q hN hKK hC hDr v2) v_M_isSpace ⟨rfl, rfl, Nat.le_of_ble_eq_true rfl, Nat.le_of_ble_eq_true rfl⟩ hK hP (ci := 1) (q0 := 0) rfl rfl rfl hl.1 rfl (Nat.le_of_ble_eq_true rfl) d_M_spaceOf_25 ⟨Nat.le_of_ble_eq_true rfl, Nat.le_of_ble_eq_true rfl⟩ (fun r hq => ?_)
      subst hq
      refine lv_if_ne (tgt := 41) hx hb d_M_spaceOf_28 (by decide) (fun c_28 => ?_) (fun c_28 => ?_)
      · refine lv_iload_n hx hb d_M_spaceOf_41 rfl (lv_at hl 2 rfl) ?_
        exact roRet hx hb hr rfl hlk (show v2 = m_spaceOf_18 N K B Q (k + 1) v2 from by rw [m_spaceOf_18_S, if_neg c_20, if_neg c_28]) d_M_spaceOf_42
      · refine lv_aload_n hx hb d_M_spaceOf_31 rfl (lv_at hl 0 rfl) ?_
        refine va_get (D := D) (ci := 1) (v := .ref (a 2)) (C := R_M) (T := F_M) (N := 16) hx hb hts i_M hown hK hP 0 rfl rfl 2 (by decide) (hts _ fl_M_13) (fun _ h9 => h9) rfl d_M_spaceOf_32 ?_
        refine lv_iload_n hx hb d_M_spaceOf_35 rfl (lv_at hl 2 rfl) ?_
        refine va_iald (n := 30) hx hb hK hP 2 0 rfl rfl (chp_in hN hv c_20) d_M_spaceOf_36 ?_
        refine lv_istore_n (lv' := [(2, .int (B 1 v2.toNatClampNeg)), (0, .ref (a 0)), (1, .int x)]) hx hb d_M_spaceOf_37 rfl hl (by decide) rfl (fun ls hl => ?_)
        refine lv_goto (tgt := 18) hx hb d_M_spaceOf_38 (by decide) ?_
        have e_b : m_spaceOf_18 N K B Q (k + 1) v2 = m_spaceOf_18 N K B Q k (B 1 v2.toNatClampNeg) := by rw [m_spaceOf_18_S, if_neg c_20, if_pos c_28]
        rw [e_b]
        exact ih (B 1 v2.toNatClampNeg) ls (chp_next hN hv c_20) (lv_sub hl [1, 2, 0] rfl)
def m_spaceOf (N : Nat) (K : Nat) (B : Nat → Nat → Int32) (Q : Nat → Nat → Int32) (x : Int32) : Int32 := (if (B 0 x.toNatClampNeg) = (0 : Int32) then x else m_spaceOf_18 N K B Q 30 (B 1 x.toNatClampNeg))
set_option maxHeartbeats 4000000 in
set_option maxRecDepth 100000 in
theorem cm_spaceOf (l : Launch) (D : va_G) (a : Nat → Nat) (cI cZ : ClassId) (N K : Nat) (B Q : Nat → Nat → Int32) (hN : N ≤ 30) (hKK : K ≤ 10) (hC : chs N B) (hDr : drM N K B) (x : Int32) (h_x : ∃ j : Nat, j < N ∧ x = nI j) : Met l y_M_spaceOf (Cond.code y_M_spaceOf b_M_spaceOf 3 (some .int) :: BW) ({ frames := 4, cells := 0, slots := 0, locals := 86 } : Room) (PcR D (wM a cI cZ (nI N) (nI K) B Q) (tM cI cZ) [.ref (a 0), .int x]) (vp_Si (fun r => r = m_spaceOf N K B Q x)) 0 0 (fun _ => False) := by
  refine roStart (by decide) rfl (Nat.le_of_ble_eq_true rfl) (fun p e s m below meth c Sx hr hlk hP hK ls hl => ?_)
  obtain ⟨hx, hb, hml, hown, hts⟩ := id Sx
  have hl : lv_has ls 3 [(0, .ref (a 0)), (1, .int x)] := hl
  refine lv_aload_n hx hb d_M_spaceOf_0 rfl (lv_at hl 0 rfl) ?_
  refine va_get (D := D) (ci := 1) (v := .ref (a 1)) (C := R_M) (T := F_M) (N := 16) hx hb hts i_M hown hK hP 0 rfl rfl 1 (by decide) (hts _ fl_M_7) (fun _ h9 => h9) rfl d_M_spaceOf_1 ?_
  refine lv_iload_n hx hb d_M_spaceOf_4 rfl (lv_at hl 1 rfl) ?_
  refine va_iald (n := 30) hx hb hK hP 1 0 rfl rfl (th_in hN (h_x)) d_M_spaceOf_5 ?_
  refine lv_if_ne (tgt := 11) hx hb d_M_spaceOf_6 (by decide) (fun c_6 => ?_) (fun c_6 => ?_)
  · refine lv_aload_n hx hb d_M_spaceOf_11 rfl (lv_at hl 0 rfl) ?_
    refine va_get (D := D) (ci := 1) (v := .ref (a 2)) (C := R_M) (T := F_M) (N := 16) hx hb hts i_M hown hK hP 0 rfl rfl 2 (by decide) (hts _ fl_M_13) (fun _ h9 => h9) rfl d_M_spaceOf_12 ?_
    refine lv_iload_n hx hb d_M_spaceOf_15 rfl (lv_at hl 1 rfl) ?_
    refine va_iald (n := 30) hx hb hK hP 2 0 rfl rfl (th_in hN (h_x)) d_M_spaceOf_16 ?_
    refine lv_istore_n (lv' := [(2, .int (B 1 x.toNatClampNeg)), (0, .ref (a 0)), (1, .int x)]) hx hb d_M_spaceOf_17 rfl hl (by decide) rfl (fun ls hl => ?_)
    have e_18 : m_spaceOf N K B Q x = m_spaceOf_18 N K B Q 30 (B 1 x.toNatClampNeg) := by rw [m_spaceOf, if_neg c_6]
    rw [e_18]
    exact wm_spaceOf_18 l D a cI cZ N K B Q hN hKK hC hDr x h_x Sx hr hlk hP hK 30 (B 1 x.toNatClampNeg) ls (chs_at hN hC h_x) (lv_sub hl [1, 2, 0] rfl)
  · refine lv_iload_n hx hb d_M_spaceOf_9 rfl (lv_at hl 1 rfl) ?_
    exact roRet hx hb hr rfl hlk (show x = m_spaceOf N K B Q x from by rw [m_spaceOf, if_pos c_6]) d_M_spaceOf_10
theorem spaceOf_18_j {N K : Nat} {B Q : Nat → Nat → Int32} (hN : N ≤ 30) : ∀ (k : Nat) (v : Int32), chp N (B 1) k v → ¬ m_spaceOf_18 N K B Q k v = (-1 : Int32) → ∃ j : Nat, j < N ∧ m_spaceOf_18 N K B Q k v = nI j := by
  intro k
  induction k with
  | zero => intro v hc; exact absurd hc chp_0
  | succ k ih =>
    intro v hc h
    rw [m_spaceOf_18_S] at h ⊢
    by_cases c1 : v = (-1 : Int32)
    · rw [if_pos c1] at h; exact absurd c1 h
    · rw [if_neg c1] at h ⊢
      by_cases c2 : m_isSpace N K B Q v = (0 : Int32)
      · rw [if_pos c2] at h ⊢; exact ih _ (chp_next hN hc c1) h
      · rw [if_neg c2]; exact chp_j hc c1
theorem spaceOfM_j {N K : Nat} {B Q : Nat → Nat → Int32} {x : Int32} (hN : N ≤ 30) (hC : chs N B) (hx : ∃ j : Nat, j < N ∧ x = nI j) (h : ¬ m_spaceOf N K B Q x = (-1 : Int32)) : ∃ j : Nat, j < N ∧ m_spaceOf N K B Q x = nI j := by
  rw [m_spaceOf] at h ⊢
  by_cases c : B 0 x.toNatClampNeg = (0 : Int32)
  · rw [if_pos c]; exact hx
  · rw [if_neg c] at h ⊢; exact spaceOf_18_j hN 30 _ (chs_at hN hC hx) h

def m_firstBarrier_43 (N : Nat) (K : Nat) (B : Nat → Nat → Int32) (Q : Nat → Nat → Int32) : Nat → Int32
  | 0 => (-1 : Int32)
  | k + 1 => (if (m_isShut N K B Q (Q 1 k)) = (0 : Int32) then (if (B 0 (Q 1 k).toNatClampNeg) = (3 : Int32) then Q 1 k else m_firstBarrier_43 N K B Q k) else Q 1 k)
theorem m_firstBarrier_43_0 (N : Nat) (K : Nat) (B : Nat → Nat → Int32) (Q : Nat → Nat → Int32) : m_firstBarrier_43 N K B Q 0 = (-1 : Int32) := rfl
theorem m_firstBarrier_43_S (N : Nat) (K : Nat) (B : Nat → Nat → Int32) (Q : Nat → Nat → Int32) (k : Nat) : m_firstBarrier_43 N K B Q (k + 1) = (if (m_isShut N K B Q (Q 1 k)) = (0 : Int32) then (if (B 0 (Q 1 k).toNatClampNeg) = (3 : Int32) then Q 1 k else m_firstBarrier_43 N K B Q k) else Q 1 k) := rfl
set_option maxHeartbeats 4000000 in
set_option maxRecDepth 100000 in
theorem wm_firstBarrier_43 (l : Launch) (D : va_G) (a : Nat → Nat) (cI cZ : ClassId) (N K : Nat) (B Q : Nat → Nat → Int32) (hN : N ≤ 30) (hKK : K ≤ 10) (hC : chs N B) (hDr : drM N K B) (hO : Q 5 0 = nI (Q 5 0).toNatClampNeg) (hO3 : (Q 5 0).toNatClampNeg ≤ 30) (hI : Q 5 1 = nI (Q 5 1).toNatClampNeg) (hI3 : (Q 5 1).toNatClampNeg ≤ 30) (hWo : ∀ k : Nat, k < (Q 5 0).toNatClampNeg → ∃ j : Nat, j < N ∧ Q 0 k = nI j) (hWi : ∀ k : Nat, k < (Q 5 1).toNatClampNeg → ∃ j : Nat, j < N ∧ Q 1 k = nI j) {p : Program} {e : Env} {s : State} {m : MethodId} {below : List Frame} {meth : Method} {c : Code} (Sx : CallFix p m c b_M_firstBarrier 2 s ([.ref (a 0)] : List Value).toArray BW R_M) (hr : meth.sig.returnType = (some .int)) (hlk : meth.locks = false) (hP : va_P D classes (wM a cI cZ (nI N) (nI K) B Q) s.heap) (hK : va_K D classes (tM cI cZ) s) : ∀ (k : Nat), ∀ (ls : Array Slot), k ≤ (Q 5 1).toNatClampNeg → lv_has ls 2 [(0, .ref (a 0)), (1, .int (dI k))] → W p l e ({ frames := 1, cells := 0, slots := 0, locals := 21 } : Room) s m ([.ref (a 0)] : List Value).toArray below meth c s.heap [] 0 0 (MQ below (vp_Si (fun r => r = m_firstBarrier_43 N K B Q k)) ([.ref (a 0)] : List Value).toArray s 0 0 (fun _ => False)) (F0 m 43 ls []) := by
  obtain ⟨hx, hb, hml, hown, hts⟩ := id Sx
  intro k
  induction k with
  | zero =>
    intro ls hv hl
    refine lv_iload_n hx hb d_M_firstBarrier_43 rfl (lv_at hl 1 rfl) ?_
    refine lv_if_lt (tgt := 88) hx hb d_M_firstBarrier_44 (by decide) (fun c_44 => ?_) (fun c_44 => absurd dI_0 c_44)
    refine lv_iconst (v := (-1 : Int32)) hx hb d_M_firstBarrier_88 (by decide) ?_
    exact roRet hx hb hr rfl hlk (show (-1 : Int32) = m_firstBarrier_43 N K B Q 0 from by rw [m_firstBarrier_43_0]) d_M_firstBarrier_89
  | succ k ih =>
    intro ls hv hl
    rw [dI_S] at hl
    refine lv_iload_n hx hb d_M_firstBarrier_43 rfl (lv_at hl 1 rfl) ?_
    refine lv_if_lt (tgt := 88) hx hb d_M_firstBarrier_44 (by decide) (fun c_44 => absurd c_44 (nI_pos (by omega))) (fun c_44 => ?_)
    refine lv_aload_n hx hb d_M_firstBarrier_47 rfl (lv_at hl 0 rfl) ?_
    refine lv_aload_n hx hb d_M_firstBarrier_48 rfl (lv_at hl 0 rfl) ?_
    refine va_get (D := D) (ci := 1) (v := .ref (a 9)) (C := R_M) (T := F_M) (N := 16) hx hb hts i_M hown hK hP 0 rfl rfl 12 (by decide) (hts _ fl_M_34) (fun _ h9 => h9) rfl d_M_firstBarrier_49 ?_
    refine lv_iload_n hx hb d_M_firstBarrier_52 rfl (lv_at hl 1 rfl) ?_
    refine x_ialdN (n := 30) hx hb hK hP 9 0 rfl rfl (by omega) (by omega) d_M_firstBarrier_53 ?_
    refine xro (As := [.int (Q 1 k)]) (rest := []) Sx (cm_isShut l D a cI cZ N K B Q hN hKK hC hDr (Q 1 k) (hWi k (by omega))) v_M_isShut ⟨rfl, rfl, Nat.le_of_ble_eq_true rfl, Nat.le_of_ble_eq_true rfl⟩ hK hP (ci := 1) (q0 := 0) rfl rfl rfl hl.1 rfl (Nat.le_of_ble_eq_true rfl) d_M_firstBarrier_54 ⟨Nat.le_of_ble_eq_true rfl, Nat.le_of_ble_eq_true rfl⟩ (fun r hq => ?_)
    subst hq
    refine lv_if_ne (tgt := 75) hx hb d_M_firstBarrier_57 (by decide) (fun c_57 => ?_) (fun c_57 => ?_)
    · refine lv_aload_n hx hb d_M_firstBarrier_75 rfl (lv_at hl 0 rfl) ?_
      refine va_get (D := D) (ci := 1) (v := .ref (a 9)) (C := R_M) (T := F_M) (N := 16) hx hb hts i_M hown hK hP 0 rfl rfl 12 (by decide) (hts _ fl_M_34) (fun _ h9 => h9) rfl d_M_firstBarrier_76 ?_
      refine lv_iload_n hx hb d_M_firstBarrier_79 rfl (lv_at hl 1 rfl) ?_
      refine x_ialdN (n := 30) hx hb hK hP 9 0 rfl rfl (by omega) (by omega) d_M_firstBarrier_80 ?_
      exact roRet hx hb hr rfl hlk (show Q 1 k = m_firstBarrier_43 N K B Q (k + 1) from by rw [m_firstBarrier_43_S, if_neg c_57]) d_M_firstBarrier_81
    · refine lv_aload_n hx hb d_M_firstBarrier_60 rfl (lv_at hl 0 rfl) ?_
      refine va_get (D := D) (ci := 1) (v := .ref (a 1)) (C := R_M) (T := F_M) (N := 16) hx hb hts i_M hown hK hP 0 rfl rfl 1 (by decide) (hts _ fl_M_7) (fun _ h9 => h9) rfl d_M_firstBarrier_61 ?_
      refine lv_aload_n hx hb d_M_firstBarrier_64 rfl (lv_at hl 0 rfl) ?_
      refine va_get (D := D) (ci := 1) (v := .ref (a 9)) (C := R_M) (T := F_M) (N := 16) hx hb hts i_M hown hK hP 0 rfl rfl 12 (by decide) (hts _ fl_M_34) (fun _ h9 => h9) rfl d_M_firstBarrier_65 ?_
      refine lv_iload_n hx hb d_M_firstBarrier_68 rfl (lv_at hl 1 rfl) ?_
      refine x_ialdN (n := 30) hx hb hK hP 9 0 rfl rfl (by omega) (by omega) d_M_firstBarrier_69 ?_
      refine va_iald (n := 30) hx hb hK hP 1 0 rfl rfl (th_in hN (hWi k (by omega))) d_M_firstBarrier_70 ?_
      refine lv_iconst (v := (3 : Int32)) hx hb d_M_firstBarrier_71 (by decide) ?_
      refine lv_icmp_ne (tgt := 82) hx hb d_M_firstBarrier_72 (by decide) (fun c_72 => ?_) (fun c_72 => ?_)
      · refine lv_iinc (v := dI k) (lv' := [(1, .int (dI k)), (0, .ref (a 0))]) hx hb d_M_firstBarrier_82 hl (k := 1) rfl (dI_step k) (by decide) rfl (fun ls hl => ?_)
        refine lv_goto (tgt := 43) hx hb d_M_firstBarrier_85 (by decide) ?_
        have e_b : m_firstBarrier_43 N K B Q (k + 1) = m_firstBarrier_43 N K B Q k := by rw [m_firstBarrier_43_S, if_pos c_57, if_neg c_72]
        rw [e_b]
        exact ih ls (by omega) (lv_sub hl [1, 0] rfl)
      · refine lv_aload_n hx hb d_M_firstBarrier_75 rfl (lv_at hl 0 rfl) ?_
        refine va_get (D := D) (ci := 1) (v := .ref (a 9)) (C := R_M) (T := F_M) (N := 16) hx hb hts i_M hown hK hP 0 rfl rfl 12 (by decide) (hts _ fl_M_34) (fun _ h9 => h9) rfl d_M_firstBarrier_76 ?_
        refine lv_iload_n hx hb d_M_firstBarrier_79 rfl (lv_at hl 1 rfl) ?_
        refine x_ialdN (n := 30) hx hb hK hP 9 0 rfl rfl (by omega) (by omega) d_M_firstBarrier_80 ?_
        exact roRet hx hb hr rfl hlk (show Q 1 k = m_firstBarrier_43 N K B Q (k + 1) from by rw [m_firstBarrier_43_S, if_pos c_57, if_pos c_72]) d_M_firstBarrier_81
def m_firstBarrier_2 (N : Nat) (K : Nat) (B : Nat → Nat → Int32) (Q : Nat → Nat → Int32) : Nat → Nat → Int32
  | 0, i => m_firstBarrier_43 N K B Q ((Q 5 1).toNatClampNeg)
  | k + 1, i => (if (m_isShut N K B Q (Q 0 i)) = (0 : Int32) then m_firstBarrier_2 N K B Q k (i + 1) else Q 0 i)
theorem m_firstBarrier_2_0 (N : Nat) (K : Nat) (B : Nat → Nat → Int32) (Q : Nat → Nat → Int32) (i : Nat) : m_firstBarrier_2 N K B Q 0 i = m_firstBarrier_43 N K B Q ((Q 5 1).toNatClampNeg) := rfl
theorem m_firstBarrier_2_S (N : Nat) (K : Nat) (B : Nat → Nat → Int32) (Q : Nat → Nat → Int32) (k : Nat) (i : Nat) : m_firstBarrier_2 N K B Q (k + 1) i = (if (m_isShut N K B Q (Q 0 i)) = (0 : Int32) then m_firstBarrier_2 N K B Q k (i + 1) else Q 0 i) := rfl
set_option maxHeartbeats 4000000 in
set_option maxRecDepth 100000 in
theorem wm_firstBarrier_2 (l : Launch) (D : va_G) (a : Nat → Nat) (cI cZ : ClassId) (N K : Nat) (B Q : Nat → Nat → Int32) (hN : N ≤ 30) (hKK : K ≤ 10) (hC : chs N B) (hDr : drM N K B) (hO : Q 5 0 = nI (Q 5 0).toNatClampNeg) (hO3 : (Q 5 0).toNatClampNeg ≤ 30) (hI : Q 5 1 = nI (Q 5 1).toNatClampNeg) (hI3 : (Q 5 1).toNatClampNeg ≤ 30) (hWo : ∀ k : Nat, k < (Q 5 0).toNatClampNeg → ∃ j : Nat, j < N ∧ Q 0 k = nI j) (hWi : ∀ k : Nat, k < (Q 5 1).toNatClampNeg → ∃ j : Nat, j < N ∧ Q 1 k = nI j) {p : Program} {e : Env} {s : State} {m : MethodId} {below : List Frame} {meth : Method} {c : Code} (Sx : CallFix p m c b_M_firstBarrier 2 s ([.ref (a 0)] : List Value).toArray BW R_M) (hr : meth.sig.returnType = (some .int)) (hlk : meth.locks = false) (hP : va_P D classes (wM a cI cZ (nI N) (nI K) B Q) s.heap) (hK : va_K D classes (tM cI cZ) s) : ∀ (k i : Nat), i + k = (Q 5 0).toNatClampNeg → ∀ (ls : Array Slot), lv_has ls 2 [(0, .ref (a 0)), (1, .int (nI i))] → W p l e ({ frames := 1, cells := 0, slots := 0, locals := 21 } : Room) s m ([.ref (a 0)] : List Value).toArray below meth c s.heap [] 0 0 (MQ below (vp_Si (fun r => r = m_firstBarrier_2 N K B Q k i)) ([.ref (a 0)] : List Value).toArray s 0 0 (fun _ => False)) (F0 m 2 ls []) := by
  obtain ⟨hx, hb, hml, hown, hts⟩ := id Sx
  intro k
  induction k with
  | zero =>
    intro i hi ls hl
    refine lv_iload_n hx hb d_M_firstBarrier_2 rfl (lv_at hl 1 rfl) ?_
    refine lv_aload_n hx hb d_M_firstBarrier_3 rfl (lv_at hl 0 rfl) ?_
    refine va_get (D := D) (ci := 1) (v := .int (Q 5 0)) (C := R_M) (T := F_M) (N := 16) hx hb hts i_M hown hK hP 0 rfl rfl 9 (by decide) (hts _ fl_M_79) (fun _ h9 => h9) rfl d_M_firstBarrier_4 ?_
    refine lv_icmp_ge (tgt := 36) hx hb d_M_firstBarrier_7 (by decide) (fun c_7 => ?_) (fun c_7 => absurd (by rw [hO]; exact nI_le (a := (Q 5 0).toNatClampNeg) (b := i) (by omega) (by omega)) c_7)
    refine lv_aload_n hx hb d_M_firstBarrier_36 rfl (lv_at hl 0 rfl) ?_
    refine va_get (D := D) (ci := 1) (v := .int (Q 5 1)) (C := R_M) (T := F_M) (N := 16) hx hb hts i_M hown hK hP 0 rfl rfl 10 (by decide) (hts _ fl_M_82) (fun _ h9 => h9) rfl d_M_firstBarrier_37 ?_
    refine lv_iconst (v := (1 : Int32)) hx hb d_M_firstBarrier_40 (by decide) ?_
    refine lv_isub hx hb d_M_firstBarrier_41 ?_
    refine lv_istore_n (lv' := [(1, .int ((Q 5 1) - (1 : Int32))), (0, .ref (a 0))]) hx hb d_M_firstBarrier_42 rfl hl (by decide) rfl (fun ls hl => ?_)
    have e_43 : m_firstBarrier_2 N K B Q 0 i = m_firstBarrier_43 N K B Q ((Q 5 1).toNatClampNeg) := by rw [m_firstBarrier_2_0]
    rw [e_43]
    exact wm_firstBarrier_43 l D a cI cZ N K B Q hN hKK hC hDr hO hO3 hI hI3 hWo hWi Sx hr hlk hP hK ((Q 5 1).toNatClampNeg) ls (Nat.le_refl _) (by have h9 := lv_sub (l' := [(0, .ref (a 0)), (1, .int ((Q 5 1) - (1 : Int32)))]) hl [1, 0] rfl; rw [dI_of hI] at h9; exact h9)
  | succ k ih =>
    intro i hi ls hl
    refine lv_iload_n hx hb d_M_firstBarrier_2 rfl (lv_at hl 1 rfl) ?_
    refine lv_aload_n hx hb d_M_firstBarrier_3 rfl (lv_at hl 0 rfl) ?_
    refine va_get (D := D) (ci := 1) (v := .int (Q 5 0)) (C := R_M) (T := F_M) (N := 16) hx hb hts i_M hown hK hP 0 rfl rfl 9 (by decide) (hts _ fl_M_79) (fun _ h9 => h9) rfl d_M_firstBarrier_4 ?_
    refine lv_icmp_ge (tgt := 36) hx hb d_M_firstBarrier_7 (by decide) (fun c_7 => absurd c_7 (by rw [hO]; exact nI_ge (a := i) (b := (Q 5 0).toNatClampNeg) (by omega) (by omega))) (fun c_7 => ?_)
    refine lv_aload_n hx hb d_M_firstBarrier_10 rfl (lv_at hl 0 rfl) ?_
    refine lv_aload_n hx hb d_M_firstBarrier_11 rfl (lv_at hl 0 rfl) ?_
    refine va_get (D := D) (ci := 1) (v := .ref (a 8)) (C := R_M) (T := F_M) (N := 16) hx hb hts i_M hown hK hP 0 rfl rfl 11 (by decide) (hts _ fl_M_31) (fun _ h9 => h9) rfl d_M_firstBarrier_12 ?_
    refine lv_iload_n hx hb d_M_firstBarrier_15 rfl (lv_at hl 1 rfl) ?_
    refine x_ialdN (n := 30) hx hb hK hP 8 0 rfl rfl (by omega) (by omega) d_M_firstBarrier_16 ?_
    refine xro (As := [.int (Q 0 i)]) (rest := []) Sx (cm_isShut l D a cI cZ N K B Q hN hKK hC hDr (Q 0 i) (hWo i (by omega))) v_M_isShut ⟨rfl, rfl, Nat.le_of_ble_eq_true rfl, Nat.le_of_ble_eq_true rfl⟩ hK hP (ci := 1) (q0 := 0) rfl rfl rfl hl.1 rfl (Nat.le_of_ble_eq_true rfl) d_M_firstBarrier_17 ⟨Nat.le_of_ble_eq_true rfl, Nat.le_of_ble_eq_true rfl⟩ (fun r hq => ?_)
    subst hq
    refine lv_if_eq (tgt := 30) hx hb d_M_firstBarrier_20 (by decide) (fun c_20 => ?_) (fun c_20 => ?_)
    · refine lv_iinc (v := nI (i + 1)) (lv' := [(1, .int (nI (i + 1))), (0, .ref (a 0))]) hx hb d_M_firstBarrier_30 hl (k := 1) rfl (nI_1 i) (by decide) rfl (fun ls hl => ?_)
      refine lv_goto (tgt := 2) hx hb d_M_firstBarrier_33 (by decide) ?_
      have e_b : m_firstBarrier_2 N K B Q (k + 1) i = m_firstBarrier_2 N K B Q k (i + 1) := by rw [m_firstBarrier_2_S, if_pos c_20]
      rw [e_b]
      exact ih (i + 1) (by omega) ls (lv_sub hl [1, 0] rfl)
    · refine lv_aload_n hx hb d_M_firstBarrier_23 rfl (lv_at hl 0 rfl) ?_
      refine va_get (D := D) (ci := 1) (v := .ref (a 8)) (C := R_M) (T := F_M) (N := 16) hx hb hts i_M hown hK hP 0 rfl rfl 11 (by decide) (hts _ fl_M_31) (fun _ h9 => h9) rfl d_M_firstBarrier_24 ?_
      refine lv_iload_n hx hb d_M_firstBarrier_27 rfl (lv_at hl 1 rfl) ?_
      refine x_ialdN (n := 30) hx hb hK hP 8 0 rfl rfl (by omega) (by omega) d_M_firstBarrier_28 ?_
      exact roRet hx hb hr rfl hlk (show Q 0 i = m_firstBarrier_2 N K B Q (k + 1) i from by rw [m_firstBarrier_2_S, if_neg c_20]) d_M_firstBarrier_29
def m_firstBarrier (N : Nat) (K : Nat) (B : Nat → Nat → Int32) (Q : Nat → Nat → Int32) : Int32 := m_firstBarrier_2 N K B Q ((Q 5 0).toNatClampNeg) 0
set_option maxHeartbeats 4000000 in
set_option maxRecDepth 100000 in
theorem cm_firstBarrier (l : Launch) (D : va_G) (a : Nat → Nat) (cI cZ : ClassId) (N K : Nat) (B Q : Nat → Nat → Int32) (hN : N ≤ 30) (hKK : K ≤ 10) (hC : chs N B) (hDr : drM N K B) (hO : Q 5 0 = nI (Q 5 0).toNatClampNeg) (hO3 : (Q 5 0).toNatClampNeg ≤ 30) (hI : Q 5 1 = nI (Q 5 1).toNatClampNeg) (hI3 : (Q 5 1).toNatClampNeg ≤ 30) (hWo : ∀ k : Nat, k < (Q 5 0).toNatClampNeg → ∃ j : Nat, j < N ∧ Q 0 k = nI j) (hWi : ∀ k : Nat, k < (Q 5 1).toNatClampNeg → ∃ j : Nat, j < N ∧ Q 1 k = nI j) : Met l y_M_firstBarrier (Cond.code y_M_firstBarrier b_M_firstBarrier 2 (some .int) :: BW) ({ frames := 1, cells := 0, slots := 0, locals := 21 } : Room) (PcR D (wM a cI cZ (nI N) (nI K) B Q) (tM cI cZ) [.ref (a 0)]) (vp_Si (fun r => r = m_firstBarrier N K B Q)) 0 0 (fun _ => False) := by
  refine roStart (by decide) rfl (Nat.le_of_ble_eq_true rfl) (fun p e s m below meth c Sx hr hlk hP hK ls hl => ?_)
  obtain ⟨hx, hb, hml, hown, hts⟩ := id Sx
  have hl : lv_has ls 2 [(0, .ref (a 0))] := hl
  refine lv_iconst (v := (0 : Int32)) hx hb d_M_firstBarrier_0 (by decide) ?_
  refine lv_istore_n (lv' := [(1, .int (0 : Int32)), (0, .ref (a 0))]) hx hb d_M_firstBarrier_1 rfl hl (by decide) rfl (fun ls hl => ?_)
  have e_2 : m_firstBarrier N K B Q = m_firstBarrier_2 N K B Q ((Q 5 0).toNatClampNeg) 0 := by rw [m_firstBarrier]
  rw [e_2]
  exact wm_firstBarrier_2 l D a cI cZ N K B Q hN hKK hC hDr hO hO3 hI hI3 hWo hWi Sx hr hlk hP hK ((Q 5 0).toNatClampNeg) 0 (by omega) ls (lv_sub hl [1, 0] rfl)

def m_lossOf (what dr opn clr : Int32) : Int32 := (if what = (0 : Int32) then (if opn = (0 : Int32) then (if clr = (0 : Int32) then (1000 : Int32) else (if dr = (0 : Int32) then (1 : Int32) else (3 : Int32))) else (if dr = (0 : Int32) then (0 : Int32) else (2 : Int32))) else (if opn = (0 : Int32) then (if dr = (0 : Int32) then (2 : Int32) else (3 : Int32)) else (if dr = (0 : Int32) then (0 : Int32) else (1 : Int32))))
set_option maxHeartbeats 4000000 in
set_option maxRecDepth 100000 in
theorem cm_lossOf (l : Launch) (what dr opn clr : Int32) : Met l y_M_lossOf (Cond.code y_M_lossOf b_M_lossOf 4 (some .int) :: BW) ({ frames := 0, cells := 0, slots := 0, locals := 0 } : Room) (va_Pc [.int what, .int dr, .int opn, .int clr] (fun _ => True)) (vp_Si (fun r => r = m_lossOf what dr opn clr)) 0 0 (fun _ => False) := by
  refine stStart (by decide) rfl (Nat.le_of_ble_eq_true rfl) (fun p e s m below meth c Sx hr hlk ls hl => ?_)
  obtain ⟨hx, hb, hml, hown, hts⟩ := id Sx
  have hl : lv_has ls 4 [(0, .int what), (1, .int dr), (2, .int opn), (3, .int clr)] := hl
  refine lv_iload_n hx hb d_M_lossOf_0 rfl (lv_at hl 0 rfl) ?_
  refine lv_if_ne (tgt := 40) hx hb d_M_lossOf_1 (by decide) (fun c_1 => ?_) (fun c_1 => ?_)
  · refine lv_iload_n hx hb d_M_lossOf_40 rfl (lv_at hl 2 rfl) ?_
    refine lv_if_eq (tgt := 56) hx hb d_M_lossOf_41 (by decide) (fun c_41 => ?_) (fun c_41 => ?_)
    · refine lv_iload_n hx hb d_M_lossOf_56 rfl (lv_at hl 1 rfl) ?_
      refine lv_if_eq (tgt := 64) hx hb d_M_lossOf_57 (by decide) (fun c_57 => ?_) (fun c_57 => ?_)
      · refine lv_iconst (v := (2 : Int32)) hx hb d_M_lossOf_64 (by decide) ?_
        exact roRet hx hb hr rfl hlk (show (2 : Int32) = m_lossOf what dr opn clr from by rw [m_lossOf, if_neg c_1, if_pos c_41, if_pos c_57]) d_M_lossOf_65
      · refine lv_iconst (v := (3 : Int32)) hx hb d_M_lossOf_60 (by decide) ?_
        refine lv_goto (tgt := 65) hx hb d_M_lossOf_61 (by decide) ?_
        exact roRet hx hb hr rfl hlk (show (3 : Int32) = m_lossOf what dr opn clr from by rw [m_lossOf, if_neg c_1, if_pos c_41, if_neg c_57]) d_M_lossOf_65
    · refine lv_iload_n hx hb d_M_lossOf_44 rfl (lv_at hl 1 rfl) ?_
      refine lv_if_eq (tgt := 52) hx hb d_M_lossOf_45 (by decide) (fun c_45 => ?_) (fun c_45 => ?_)
      · refine lv_iconst (v := (0 : Int32)) hx hb d_M_lossOf_52 (by decide) ?_
        refine lv_goto (tgt := 65) hx hb d_M_lossOf_53 (by decide) ?_
        exact roRet hx hb hr rfl hlk (show (0 : Int32) = m_lossOf what dr opn clr from by rw [m_lossOf, if_neg c_1, if_neg c_41, if_pos c_45]) d_M_lossOf_65
      · refine lv_iconst (v := (1 : Int32)) hx hb d_M_lossOf_48 (by decide) ?_
        refine lv_goto (tgt := 65) hx hb d_M_lossOf_49 (by decide) ?_
        exact roRet hx hb hr rfl hlk (show (1 : Int32) = m_lossOf what dr opn clr from by rw [m_lossOf, if_neg c_1, if_neg c_41, if_neg c_45]) d_M_lossOf_65
  · refine lv_iload_n hx hb d_M_lossOf_4 rfl (lv_at hl 2 rfl) ?_
    refine lv_if_eq (tgt := 20) hx hb d_M_lossOf_5 (by decide) (fun c_5 => ?_) (fun c_5 => ?_)
    · refine lv_iload_n hx hb d_M_lossOf_20 rfl (lv_at hl 3 rfl) ?_
      refine lv_if_eq (tgt := 36) hx hb d_M_lossOf_21 (by decide) (fun c_21 => ?_) (fun c_21 => ?_)
      · refine lv_sipush (v := (1000 : Int32)) hx hb d_M_lossOf_36 (by decide) ?_
        exact roRet hx hb hr rfl hlk (show (1000 : Int32) = m_lossOf what dr opn clr from by rw [m_lossOf, if_pos c_1, if_pos c_5, if_pos c_21]) d_M_lossOf_39
      · refine lv_iload_n hx hb d_M_lossOf_24 rfl (lv_at hl 1 rfl) ?_
        refine lv_if_eq (tgt := 32) hx hb d_M_lossOf_25 (by decide) (fun c_25 => ?_) (fun c_25 => ?_)
        · refine lv_iconst (v := (1 : Int32)) hx hb d_M_lossOf_32 (by decide) ?_
          refine lv_goto (tgt := 39) hx hb d_M_lossOf_33 (by decide) ?_
          exact roRet hx hb hr rfl hlk (show (1 : Int32) = m_lossOf what dr opn clr from by rw [m_lossOf, if_pos c_1, if_pos c_5, if_neg c_21, if_pos c_25]) d_M_lossOf_39
        · refine lv_iconst (v := (3 : Int32)) hx hb d_M_lossOf_28 (by decide) ?_
          refine lv_goto (tgt := 39) hx hb d_M_lossOf_29 (by decide) ?_
          exact roRet hx hb hr rfl hlk (show (3 : Int32) = m_lossOf what dr opn clr from by rw [m_lossOf, if_pos c_1, if_pos c_5, if_neg c_21, if_neg c_25]) d_M_lossOf_39
    · refine lv_iload_n hx hb d_M_lossOf_8 rfl (lv_at hl 1 rfl) ?_
      refine lv_if_eq (tgt := 16) hx hb d_M_lossOf_9 (by decide) (fun c_9 => ?_) (fun c_9 => ?_)
      · refine lv_iconst (v := (0 : Int32)) hx hb d_M_lossOf_16 (by decide) ?_
        refine lv_goto (tgt := 39) hx hb d_M_lossOf_17 (by decide) ?_
        exact roRet hx hb hr rfl hlk (show (0 : Int32) = m_lossOf what dr opn clr from by rw [m_lossOf, if_pos c_1, if_neg c_5, if_pos c_9]) d_M_lossOf_39
      · refine lv_iconst (v := (2 : Int32)) hx hb d_M_lossOf_12 (by decide) ?_
        refine lv_goto (tgt := 39) hx hb d_M_lossOf_13 (by decide) ?_
        exact roRet hx hb hr rfl hlk (show (2 : Int32) = m_lossOf what dr opn clr from by rw [m_lossOf, if_pos c_1, if_neg c_5, if_neg c_9]) d_M_lossOf_39

def m_greatest_5 (N : Nat) (K : Nat) (B : Nat → Nat → Int32) (Q : Nat → Nat → Int32) (sp : Int32) (what : Int32) : Nat → Nat → Int32 → Int32
  | 0, i, v3 => v3
  | k + 1, i, v3 => (if (m_spaceOf N K B Q (nI i)) = (-1 : Int32) then (if (0 : Int32) ≤ v3 then m_greatest_5 N K B Q sp what k (i + 1) v3 else m_greatest_5 N K B Q sp what k (i + 1) (0 : Int32)) else (if (Q 2 (((30 : Int32) * (m_spaceOf N K B Q (nI i))) + sp).toNatClampNeg) < (1000 : Int32) then (if ((B 2 ((nI ((4 * i) + 2)) + what).toNatClampNeg) - (Q 2 (((30 : Int32) * (m_spaceOf N K B Q (nI i))) + sp).toNatClampNeg)) ≤ v3 then m_greatest_5 N K B Q sp what k (i + 1) v3 else m_greatest_5 N K B Q sp what k (i + 1) ((B 2 ((nI ((4 * i) + 2)) + what).toNatClampNeg) - (Q 2 (((30 : Int32) * (m_spaceOf N K B Q (nI i))) + sp).toNatClampNeg))) else (if (0 : Int32) ≤ v3 then m_greatest_5 N K B Q sp what k (i + 1) v3 else m_greatest_5 N K B Q sp what k (i + 1) (0 : Int32))))
theorem m_greatest_5_0 (N : Nat) (K : Nat) (B : Nat → Nat → Int32) (Q : Nat → Nat → Int32) (sp : Int32) (what : Int32) (i : Nat) (v3 : Int32) : m_greatest_5 N K B Q sp what 0 i v3 = v3 := rfl
theorem m_greatest_5_S (N : Nat) (K : Nat) (B : Nat → Nat → Int32) (Q : Nat → Nat → Int32) (sp : Int32) (what : Int32) (k : Nat) (i : Nat) (v3 : Int32) : m_greatest_5 N K B Q sp what (k + 1) i v3 = (if (m_spaceOf N K B Q (nI i)) = (-1 : Int32) then (if (0 : Int32) ≤ v3 then m_greatest_5 N K B Q sp what k (i + 1) v3 else m_greatest_5 N K B Q sp what k (i + 1) (0 : Int32)) else (if (Q 2 (((30 : Int32) * (m_spaceOf N K B Q (nI i))) + sp).toNatClampNeg) < (1000 : Int32) then (if ((B 2 ((nI ((4 * i) + 2)) + what).toNatClampNeg) - (Q 2 (((30 : Int32) * (m_spaceOf N K B Q (nI i))) + sp).toNatClampNeg)) ≤ v3 then m_greatest_5 N K B Q sp what k (i + 1) v3 else m_greatest_5 N K B Q sp what k (i + 1) ((B 2 ((nI ((4 * i) + 2)) + what).toNatClampNeg) - (Q 2 (((30 : Int32) * (m_spaceOf N K B Q (nI i))) + sp).toNatClampNeg))) else (if (0 : Int32) ≤ v3 then m_greatest_5 N K B Q sp what k (i + 1) v3 else m_greatest_5 N K B Q sp what k (i + 1) (0 : Int32)))) := rfl
set_option maxHeartbeats 4000000 in
set_option maxRecDepth 100000 in
theorem wm_greatest_5 (l : Launch) (D : va_G) (a : Nat → Nat) (cI cZ : ClassId) (N K : Nat) (B Q : Nat → Nat → Int32) (hN : N ≤ 30) (hKK : K ≤ 10) (hC : chs N B) (hDr : drM N K B) (sp : Int32) (what : Int32) (hs : ∃ j : Nat, j < N ∧ sp = nI j) (hwt : ∃ k : Nat, k < 2 ∧ what = nI k) {p : Program} {e : Env} {s : State} {m : MethodId} {below : List Frame} {meth : Method} {c : Code} (Sx : CallFix p m c b_M_greatest 7 s ([.ref (a 0), .int sp, .int what] : List Value).toArray BW R_M) (hr : meth.sig.returnType = (some .int)) (hlk : meth.locks = false) (hP : va_P D classes (wM a cI cZ (nI N) (nI K) B Q) s.heap) (hK : va_K D classes (tM cI cZ) s) : ∀ (k i : Nat), i + k = N → ∀ (v3 : Int32) (ls : Array Slot), lv_has ls 7 [(0, .ref (a 0)), (1, .int sp), (2, .int what), (3, .int v3), (4, .int (nI i))] → W p l e ({ frames := 5, cells := 0, slots := 0, locals := 108 } : Room) s m ([.ref (a 0), .int sp, .int what] : List Value).toArray below meth c s.heap [] 0 0 (MQ below (vp_Si (fun r => r = m_greatest_5 N K B Q sp what k i v3)) ([.ref (a 0), .int sp, .int what] : List Value).toArray s 0 0 (fun _ => False)) (F0 m 5 ls []) := by
  obtain ⟨hx, hb, hml, hown, hts⟩ := id Sx
  intro k
  induction k with
  | zero =>
    intro i hi v3 ls hl
    refine lv_iload hx hb d_M_greatest_5 (lv_at hl 4 rfl) ?_
    refine lv_aload_n hx hb d_M_greatest_7 rfl (lv_at hl 0 rfl) ?_
    refine va_get (D := D) (ci := 1) (v := .int (nI N)) (C := R_M) (T := F_M) (N := 16) hx hb hts i_M hown hK hP 0 rfl rfl 0 (by decide) (hts _ fl_M_47) (fun _ h9 => h9) rfl d_M_greatest_8 ?_
    refine lv_icmp_ge (tgt := 97) hx hb d_M_greatest_11 (by decide) (fun c_11 => ?_) (fun c_11 => absurd (nI_le (a := N) (b := i) (by omega) (by omega)) c_11)
    refine lv_iload_n hx hb d_M_greatest_97 rfl (lv_at hl 3 rfl) ?_
    exact roRet hx hb hr rfl hlk (show v3 = m_greatest_5 N K B Q sp what 0 i v3 from by rw [m_greatest_5_0]) d_M_greatest_98
  | succ k ih =>
    intro i hi v3 ls hl
    refine lv_iload hx hb d_M_greatest_5 (lv_at hl 4 rfl) ?_
    refine lv_aload_n hx hb d_M_greatest_7 rfl (lv_at hl 0 rfl) ?_
    refine va_get (D := D) (ci := 1) (v := .int (nI N)) (C := R_M) (T := F_M) (N := 16) hx hb hts i_M hown hK hP 0 rfl rfl 0 (by decide) (hts _ fl_M_47) (fun _ h9 => h9) rfl d_M_greatest_8 ?_
    refine lv_icmp_ge (tgt := 97) hx hb d_M_greatest_11 (by decide) (fun c_11 => absurd c_11 (nI_ge (a := i) (b := N) (by omega) (by omega))) (fun c_11 => ?_)
    refine lv_aload_n hx hb d_M_greatest_14 rfl (lv_at hl 0 rfl) ?_
    refine lv_iload hx hb d_M_greatest_15 (lv_at hl 4 rfl) ?_
    refine xro (As := [.int (nI i)]) (rest := []) Sx (cm_spaceOf l D a cI cZ N K B Q hN hKK hC hDr (nI i) (⟨i, by omega, rfl⟩)) v_M_spaceOf ⟨rfl, rfl, Nat.le_of_ble_eq_true rfl, Nat.le_of_ble_eq_true rfl⟩ hK hP (ci := 1) (q0 := 0) rfl rfl rfl hl.1 rfl (Nat.le_of_ble_eq_true rfl) d_M_greatest_17 ⟨Nat.le_of_ble_eq_true rfl, Nat.le_of_ble_eq_true rfl⟩ (fun r hq => ?_)
    subst hq
    refine lv_istore (lv' := [(5, .int (m_spaceOf N K B Q (nI i))), (0, .ref (a 0)), (1, .int sp), (2, .int what), (3, .int v3), (4, .int (nI i))]) hx hb d_M_greatest_20 hl (by decide) rfl (fun ls hl => ?_)
    refine lv_iload hx hb d_M_greatest_22 (lv_at hl 0 rfl) ?_
    refine lv_iconst (v := (-1 : Int32)) hx hb d_M_greatest_24 (by decide) ?_
    refine lv_icmp_eq (tgt := 46) hx hb d_M_greatest_25 (by decide) (fun c_25 => ?_) (fun c_25 => ?_)
    · refine lv_iconst (v := (0 : Int32)) hx hb d_M_greatest_46 (by decide) ?_
      refine lv_goto (tgt := 76) hx hb d_M_greatest_47 (by decide) ?_
      refine lv_istore (lv' := [(6, .int (0 : Int32)), (5, .int (m_spaceOf N K B Q (nI i))), (0, .ref (a 0)), (1, .int sp), (2, .int what), (3, .int v3), (4, .int (nI i))]) hx hb d_M_greatest_76 hl (by decide) rfl (fun ls hl => ?_)
      refine lv_iload hx hb d_M_greatest_78 (lv_at hl 0 rfl) ?_
      refine lv_iload_n hx hb d_M_greatest_80 rfl (lv_at hl 5 rfl) ?_
      refine lv_icmp_le (tgt := 89) hx hb d_M_greatest_81 (by decide) (fun c_81 => ?_) (fun c_81 => ?_)
      · refine lv_iload_n hx hb d_M_greatest_89 rfl (lv_at hl 5 rfl) ?_
        refine lv_istore_n (lv' := [(3, .int v3), (6, .int (0 : Int32)), (5, .int (m_spaceOf N K B Q (nI i))), (0, .ref (a 0)), (1, .int sp), (2, .int what), (4, .int (nI i))]) hx hb d_M_greatest_90 rfl hl (by decide) rfl (fun ls hl => ?_)
        refine lv_iinc (v := nI (i + 1)) (lv' := [(4, .int (nI (i + 1))), (3, .int v3), (6, .int (0 : Int32)), (5, .int (m_spaceOf N K B Q (nI i))), (0, .ref (a 0)), (1, .int sp), (2, .int what)]) hx hb d_M_greatest_91 hl (k := 6) rfl (nI_1 i) (by decide) rfl (fun ls hl => ?_)
        refine lv_goto (tgt := 5) hx hb d_M_greatest_94 (by decide) ?_
        have e_b : m_greatest_5 N K B Q sp what (k + 1) i v3 = m_greatest_5 N K B Q sp what k (i + 1) v3 := by rw [m_greatest_5_S, if_pos c_25, if_pos c_81]
        rw [e_b]
        exact ih (i + 1) (by omega) v3 ls (lv_sub hl [4, 5, 6, 1, 0] rfl)
      · refine lv_iload hx hb d_M_greatest_84 (lv_at hl 0 rfl) ?_
        refine lv_goto (tgt := 90) hx hb d_M_greatest_86 (by decide) ?_
        refine lv_istore_n (lv' := [(3, .int (0 : Int32)), (6, .int (0 : Int32)), (5, .int (m_spaceOf N K B Q (nI i))), (0, .ref (a 0)), (1, .int sp), (2, .int what), (4, .int (nI i))]) hx hb d_M_greatest_90 rfl hl (by decide) rfl (fun ls hl => ?_)
        refine lv_iinc (v := nI (i + 1)) (lv' := [(4, .int (nI (i + 1))), (3, .int (0 : Int32)), (6, .int (0 : Int32)), (5, .int (m_spaceOf N K B Q (nI i))), (0, .ref (a 0)), (1, .int sp), (2, .int what)]) hx hb d_M_greatest_91 hl (k := 6) rfl (nI_1 i) (by decide) rfl (fun ls hl => ?_)
        refine lv_goto (tgt := 5) hx hb d_M_greatest_94 (by decide) ?_
        have e_b : m_greatest_5 N K B Q sp what (k + 1) i v3 = m_greatest_5 N K B Q sp what k (i + 1) (0 : Int32) := by rw [m_greatest_5_S, if_pos c_25, if_neg c_81]
        rw [e_b]
        exact ih (i + 1) (by omega) (0 : Int32) ls (lv_sub hl [4, 5, 6, 1, 0] rfl)
    · refine lv_aload_n hx hb d_M_greatest_28 rfl (lv_at hl 1 rfl) ?_
      refine va_get (D := D) (ci := 1) (v := .ref (a 10)) (C := R_M) (T := F_M) (N := 16) hx hb hts i_M hown hK hP 0 rfl rfl 13 (by decide) (hts _ fl_M_37) (fun _ h9 => h9) rfl d_M_greatest_29 ?_
      refine lv_bipush (v := (30 : Int32)) hx hb d_M_greatest_32 (by decide) ?_
      refine lv_iload hx hb d_M_greatest_34 (lv_at hl 0 rfl) ?_
      refine lv_imul hx hb d_M_greatest_36 ?_
      refine lv_iload_n hx hb d_M_greatest_37 rfl (lv_at hl 2 rfl) ?_
      refine lv_iadd hx hb d_M_greatest_38 ?_
      refine va_iald (n := 900) hx hb hK hP 10 0 rfl rfl (ls_in hN (spaceOfM_j hN hC (⟨i, by omega, rfl⟩) c_25) (hs)) d_M_greatest_39 ?_
      refine lv_sipush (v := (1000 : Int32)) hx hb d_M_greatest_40 (by decide) ?_
      refine lv_icmp_lt (tgt := 50) hx hb d_M_greatest_43 (by decide) (fun c_43 => ?_) (fun c_43 => ?_)
      · refine lv_aload_n hx hb d_M_greatest_50 rfl (lv_at hl 1 rfl) ?_
        refine va_get (D := D) (ci := 1) (v := .ref (a 3)) (C := R_M) (T := F_M) (N := 16) hx hb hts i_M hown hK hP 0 rfl rfl 3 (by decide) (hts _ fl_M_16) (fun _ h9 => h9) rfl d_M_greatest_51 ?_
        refine lv_iconst (v := (4 : Int32)) hx hb d_M_greatest_54 (by decide) ?_
        refine lv_iload hx hb d_M_greatest_55 (lv_at hl 5 rfl) ?_
        refine x_imulN 4 i rfl rfl hx hb d_M_greatest_57 ?_
        refine lv_iconst (v := (2 : Int32)) hx hb d_M_greatest_58 (by decide) ?_
        refine x_iaddN (4 * i) 2 rfl rfl hx hb d_M_greatest_59 ?_
        refine lv_iload_n hx hb d_M_greatest_60 rfl (lv_at hl 3 rfl) ?_
        refine lv_iadd hx hb d_M_greatest_61 ?_
        refine va_iald (n := 120) hx hb hK hP 3 0 rfl rfl (st2_in hN (by omega) hwt) d_M_greatest_62 ?_
        refine lv_aload_n hx hb d_M_greatest_63 rfl (lv_at hl 1 rfl) ?_
        refine va_get (D := D) (ci := 1) (v := .ref (a 10)) (C := R_M) (T := F_M) (N := 16) hx hb hts i_M hown hK hP 0 rfl rfl 13 (by decide) (hts _ fl_M_37) (fun _ h9 => h9) rfl d_M_greatest_64 ?_
        refine lv_bipush (v := (30 : Int32)) hx hb d_M_greatest_67 (by decide) ?_
        refine lv_iload hx hb d_M_greatest_69 (lv_at hl 0 rfl) ?_
        refine lv_imul hx hb d_M_greatest_71 ?_
        refine lv_iload_n hx hb d_M_greatest_72 rfl (lv_at hl 2 rfl) ?_
        refine lv_iadd hx hb d_M_greatest_73 ?_
        refine va_iald (n := 900) hx hb hK hP 10 0 rfl rfl (ls_in hN (spaceOfM_j hN hC (⟨i, by omega, rfl⟩) c_25) (hs)) d_M_greatest_74 ?_
        refine lv_isub hx hb d_M_greatest_75 ?_
        refine lv_istore (lv' := [(6, .int ((B 2 ((nI ((4 * i) + 2)) + what).toNatClampNeg) - (Q 2 (((30 : Int32) * (m_spaceOf N K B Q (nI i))) + sp).toNatClampNeg))), (5, .int (m_spaceOf N K B Q (nI i))), (0, .ref (a 0)), (1, .int sp), (2, .int what), (3, .int v3), (4, .int (nI i))]) hx hb d_M_greatest_76 hl (by decide) rfl (fun ls hl => ?_)
        refine lv_iload hx hb d_M_greatest_78 (lv_at hl 0 rfl) ?_
        refine lv_iload_n hx hb d_M_greatest_80 rfl (lv_at hl 5 rfl) ?_
        refine lv_icmp_le (tgt := 89) hx hb d_M_greatest_81 (by decide) (fun c_81 => ?_) (fun c_81 => ?_)
        · refine lv_iload_n hx hb d_M_greatest_89 rfl (lv_at hl 5 rfl) ?_
          refine lv_istore_n (lv' := [(3, .int v3), (6, .int ((B 2 ((nI ((4 * i) + 2)) + what).toNatClampNeg) - (Q 2 (((30 : Int32) * (m_spaceOf N K B Q (nI i))) + sp).toNatClampNeg))), (5, .int (m_spaceOf N K B Q (nI i))), (0, .ref (a 0)), (1, .int sp), (2, .int what), (4, .int (nI i))]) hx hb d_M_greatest_90 rfl hl (by decide) rfl (fun ls hl => ?_)
          refine lv_iinc (v := nI (i + 1)) (lv' := [(4, .int (nI (i + 1))), (3, .int v3), (6, .int ((B 2 ((nI ((4 * i) + 2)) + what).toNatClampNeg) - (Q 2 (((30 : Int32) * (m_spaceOf N K B Q (nI i))) + sp).toNatClampNeg))), (5, .int (m_spaceOf N K B Q (nI i))), (0, .ref (a 0)), (1, .int sp), (2, .int what)]) hx hb d_M_greatest_91 hl (k := 6) rfl (nI_1 i) (by decide) rfl (fun ls hl => ?_)
          refine lv_goto (tgt := 5) hx hb d_M_greatest_94 (by decide) ?_
          have e_b : m_greatest_5 N K B Q sp what (k + 1) i v3 = m_greatest_5 N K B Q sp what k (i + 1) v3 := by rw [m_greatest_5_S, if_neg c_25, if_pos c_43, if_pos c_81]
          rw [e_b]
          exact ih (i + 1) (by omega) v3 ls (lv_sub hl [4, 5, 6, 1, 0] rfl)
        · refine lv_iload hx hb d_M_greatest_84 (lv_at hl 0 rfl) ?_
          refine lv_goto (tgt := 90) hx hb d_M_greatest_86 (by decide) ?_
          refine lv_istore_n (lv' := [(3, .int ((B 2 ((nI ((4 * i) + 2)) + what).toNatClampNeg) - (Q 2 (((30 : Int32) * (m_spaceOf N K B Q (nI i))) + sp).toNatClampNeg))), (6, .int ((B 2 ((nI ((4 * i) + 2)) + what).toNatClampNeg) - (Q 2 (((30 : Int32) * (m_spaceOf N K B Q (nI i))) + sp).toNatClampNeg))), (5, .int (m_spaceOf N K B Q (nI i))), (0, .ref (a 0)), (1, .int sp), (2, .int what), (4, .int (nI i))]) hx hb d_M_greatest_90 rfl hl (by decide) rfl (fun ls hl => ?_)
          refine lv_iinc (v := nI (i + 1)) (lv' := [(4, .int (nI (i + 1))), (3, .int ((B 2 ((nI ((4 * i) + 2)) + what).toNatClampNeg) - (Q 2 (((30 : Int32) * (m_spaceOf N K B Q (nI i))) + sp).toNatClampNeg))), (6, .int ((B 2 ((nI ((4 * i) + 2)) + what).toNatClampNeg) - (Q 2 (((30 : Int32) * (m_spaceOf N K B Q (nI i))) + sp).toNatClampNeg))), (5, .int (m_spaceOf N K B Q (nI i))), (0, .ref (a 0)), (1, .int sp), (2, .int what)]) hx hb d_M_greatest_91 hl (k := 6) rfl (nI_1 i) (by decide) rfl (fun ls hl => ?_)
          refine lv_goto (tgt := 5) hx hb d_M_greatest_94 (by decide) ?_
          have e_b : m_greatest_5 N K B Q sp what (k + 1) i v3 = m_greatest_5 N K B Q sp what k (i + 1) ((B 2 ((nI ((4 * i) + 2)) + what).toNatClampNeg) - (Q 2 (((30 : Int32) * (m_spaceOf N K B Q (nI i))) + sp).toNatClampNeg)) := by rw [m_greatest_5_S, if_neg c_25, if_pos c_43, if_neg c_81]
          rw [e_b]
          exact ih (i + 1) (by omega) ((B 2 ((nI ((4 * i) + 2)) + what).toNatClampNeg) - (Q 2 (((30 : Int32) * (m_spaceOf N K B Q (nI i))) + sp).toNatClampNeg)) ls (lv_sub hl [4, 5, 6, 1, 0] rfl)
      · refine lv_iconst (v := (0 : Int32)) hx hb d_M_greatest_46 (by decide) ?_
        refine lv_goto (tgt := 76) hx hb d_M_greatest_47 (by decide) ?_
        refine lv_istore (lv' := [(6, .int (0 : Int32)), (5, .int (m_spaceOf N K B Q (nI i))), (0, .ref (a 0)), (1, .int sp), (2, .int what), (3, .int v3), (4, .int (nI i))]) hx hb d_M_greatest_76 hl (by decide) rfl (fun ls hl => ?_)
        refine lv_iload hx hb d_M_greatest_78 (lv_at hl 0 rfl) ?_
        refine lv_iload_n hx hb d_M_greatest_80 rfl (lv_at hl 5 rfl) ?_
        refine lv_icmp_le (tgt := 89) hx hb d_M_greatest_81 (by decide) (fun c_81 => ?_) (fun c_81 => ?_)
        · refine lv_iload_n hx hb d_M_greatest_89 rfl (lv_at hl 5 rfl) ?_
          refine lv_istore_n (lv' := [(3, .int v3), (6, .int (0 : Int32)), (5, .int (m_spaceOf N K B Q (nI i))), (0, .ref (a 0)), (1, .int sp), (2, .int what), (4, .int (nI i))]) hx hb d_M_greatest_90 rfl hl (by decide) rfl (fun ls hl => ?_)
          refine lv_iinc (v := nI (i + 1)) (lv' := [(4, .int (nI (i + 1))), (3, .int v3), (6, .int (0 : Int32)), (5, .int (m_spaceOf N K B Q (nI i))), (0, .ref (a 0)), (1, .int sp), (2, .int what)]) hx hb d_M_greatest_91 hl (k := 6) rfl (nI_1 i) (by decide) rfl (fun ls hl => ?_)
          refine lv_goto (tgt := 5) hx hb d_M_greatest_94 (by decide) ?_
          have e_b : m_greatest_5 N K B Q sp what (k + 1) i v3 = m_greatest_5 N K B Q sp what k (i + 1) v3 := by rw [m_greatest_5_S, if_neg c_25, if_neg c_43, if_pos c_81]
          rw [e_b]
          exact ih (i + 1) (by omega) v3 ls (lv_sub hl [4, 5, 6, 1, 0] rfl)
        · refine lv_iload hx hb d_M_greatest_84 (lv_at hl 0 rfl) ?_
          refine lv_goto (tgt := 90) hx hb d_M_greatest_86 (by decide) ?_
          refine lv_istore_n (lv' := [(3, .int (0 : Int32)), (6, .int (0 : Int32)), (5, .int (m_spaceOf N K B Q (nI i))), (0, .ref (a 0)), (1, .int sp), (2, .int what), (4, .int (nI i))]) hx hb d_M_greatest_90 rfl hl (by decide) rfl (fun ls hl => ?_)
          refine lv_iinc (v := nI (i + 1)) (lv' := [(4, .int (nI (i + 1))), (3, .int (0 : Int32)), (6, .int (0 : Int32)), (5, .int (m_spaceOf N K B Q (nI i))), (0, .ref (a 0)), (1, .int sp), (2, .int what)]) hx hb d_M_greatest_91 hl (k := 6) rfl (nI_1 i) (by decide) rfl (fun ls hl => ?_)
          refine lv_goto (tgt := 5) hx hb d_M_greatest_94 (by decide) ?_
          have e_b : m_greatest_5 N K B Q sp what (k + 1) i v3 = m_greatest_5 N K B Q sp what k (i + 1) (0 : Int32) := by rw [m_greatest_5_S, if_neg c_25, if_neg c_43, if_neg c_81]
          rw [e_b]
          exact ih (i + 1) (by omega) (0 : Int32) ls (lv_sub hl [4, 5, 6, 1, 0] rfl)
def m_greatest (N : Nat) (K : Nat) (B : Nat → Nat → Int32) (Q : Nat → Nat → Int32) (sp what : Int32) : Int32 := m_greatest_5 N K B Q sp what N 0 (0 : Int32)
set_option maxHeartbeats 4000000 in
set_option maxRecDepth 100000 in
theorem cm_greatest (l : Launch) (D : va_G) (a : Nat → Nat) (cI cZ : ClassId) (N K : Nat) (B Q : Nat → Nat → Int32) (hN : N ≤ 30) (hKK : K ≤ 10) (hC : chs N B) (hDr : drM N K B) (sp what : Int32) (hs : ∃ j : Nat, j < N ∧ sp = nI j) (hwt : ∃ k : Nat, k < 2 ∧ what = nI k) : Met l y_M_greatest (Cond.code y_M_greatest b_M_greatest 7 (some .int) :: BW) ({ frames := 5, cells := 0, slots := 0, locals := 108 } : Room) (PcR D (wM a cI cZ (nI N) (nI K) B Q) (tM cI cZ) [.ref (a 0), .int sp, .int what]) (vp_Si (fun r => r = m_greatest N K B Q sp what)) 0 0 (fun _ => False) := by
  refine roStart (by decide) rfl (Nat.le_of_ble_eq_true rfl) (fun p e s m below meth c Sx hr hlk hP hK ls hl => ?_)
  obtain ⟨hx, hb, hml, hown, hts⟩ := id Sx
  have hl : lv_has ls 7 [(0, .ref (a 0)), (1, .int sp), (2, .int what)] := hl
  refine lv_iconst (v := (0 : Int32)) hx hb d_M_greatest_0 (by decide) ?_
  refine lv_istore_n (lv' := [(3, .int (0 : Int32)), (0, .ref (a 0)), (1, .int sp), (2, .int what)]) hx hb d_M_greatest_1 rfl hl (by decide) rfl (fun ls hl => ?_)
  refine lv_iconst (v := (0 : Int32)) hx hb d_M_greatest_2 (by decide) ?_
  refine lv_istore (lv' := [(4, .int (0 : Int32)), (3, .int (0 : Int32)), (0, .ref (a 0)), (1, .int sp), (2, .int what)]) hx hb d_M_greatest_3 hl (by decide) rfl (fun ls hl => ?_)
  have e_5 : m_greatest N K B Q sp what = m_greatest_5 N K B Q sp what N 0 (0 : Int32) := by rw [m_greatest]
  rw [e_5]
  exact wm_greatest_5 l D a cI cZ N K B Q hN hKK hC hDr sp what hs hwt Sx hr hlk hP hK N 0 (by omega) (0 : Int32) ls (lv_sub hl [2, 3, 4, 1, 0] rfl)

def m_count (N : Nat) (K : Nat) (B : Nat → Nat → Int32) (Q : Nat → Nat → Int32) (what : Int32) : Int32 := (if what = (0 : Int32) then nI N else (if what = (1 : Int32) then nI K else (-3 : Int32)))
set_option maxHeartbeats 4000000 in
set_option maxRecDepth 100000 in
theorem cm_count (l : Launch) (D : va_G) (a : Nat → Nat) (cI cZ : ClassId) (N K : Nat) (B Q : Nat → Nat → Int32) (hN : N ≤ 30) (hKK : K ≤ 10) (hC : chs N B) (hDr : drM N K B) (what : Int32) : Met l y_M_count (Cond.code y_M_count b_M_count 2 (some .int) :: BW) ({ frames := 0, cells := 0, slots := 0, locals := 0 } : Room) (PcR D (wM a cI cZ (nI N) (nI K) B Q) (tM cI cZ) [.ref (a 0), .int what]) (vp_Si (fun r => r = m_count N K B Q what)) 0 0 (fun _ => False) := by
  refine roStart (by decide) rfl (Nat.le_of_ble_eq_true rfl) (fun p e s m below meth c Sx hr hlk hP hK ls hl => ?_)
  obtain ⟨hx, hb, hml, hown, hts⟩ := id Sx
  have hl : lv_has ls 2 [(0, .ref (a 0)), (1, .int what)] := hl
  refine lv_iload_n hx hb d_M_count_0 rfl (lv_at hl 1 rfl) ?_
  refine lv_if_ne (tgt := 11) hx hb d_M_count_1 (by decide) (fun c_1 => ?_) (fun c_1 => ?_)
  · refine lv_iload_n hx hb d_M_count_11 rfl (lv_at hl 1 rfl) ?_
    refine lv_iconst (v := (1 : Int32)) hx hb d_M_count_12 (by decide) ?_
    refine lv_icmp_ne (tgt := 23) hx hb d_M_count_13 (by decide) (fun c_13 => ?_) (fun c_13 => ?_)
    · refine lv_bipush (v := (-3 : Int32)) hx hb d_M_count_23 (by decide) ?_
      exact roRet hx hb hr rfl hlk (show (-3 : Int32) = m_count N K B Q what from by rw [m_count, if_neg c_1, if_neg c_13]) d_M_count_25
    · refine lv_aload_n hx hb d_M_count_16 rfl (lv_at hl 0 rfl) ?_
      refine va_get (D := D) (ci := 1) (v := .int (nI K)) (C := R_M) (T := F_M) (N := 16) hx hb hts i_M hown hK hP 0 rfl rfl 4 (by decide) (hts _ fl_M_63) (fun _ h9 => h9) rfl d_M_count_17 ?_
      refine lv_goto (tgt := 25) hx hb d_M_count_20 (by decide) ?_
      exact roRet hx hb hr rfl hlk (show nI K = m_count N K B Q what from by rw [m_count, if_neg c_1, if_pos c_13]) d_M_count_25
  · refine lv_aload_n hx hb d_M_count_4 rfl (lv_at hl 0 rfl) ?_
    refine va_get (D := D) (ci := 1) (v := .int (nI N)) (C := R_M) (T := F_M) (N := 16) hx hb hts i_M hown hK hP 0 rfl rfl 0 (by decide) (hts _ fl_M_47) (fun _ h9 => h9) rfl d_M_count_5 ?_
    refine lv_goto (tgt := 25) hx hb d_M_count_8 (by decide) ?_
    exact roRet hx hb hr rfl hlk (show nI N = m_count N K B Q what from by rw [m_count, if_pos c_1]) d_M_count_25

def m_told_16 (N : Nat) (K : Nat) (B : Nat → Nat → Int32) (Q : Nat → Nat → Int32) (x : Int32) : Nat → Nat → Int32 → Int32
  | 0, i, v3 => v3
  | k + 1, i, v3 => (if (m_isWithin N K B Q (nI i) x) = (0 : Int32) then m_told_16 N K B Q x k (i + 1) (v3 + (0 : Int32)) else m_told_16 N K B Q x k (i + 1) (v3 + (1 : Int32)))
theorem m_told_16_0 (N : Nat) (K : Nat) (B : Nat → Nat → Int32) (Q : Nat → Nat → Int32) (x : Int32) (i : Nat) (v3 : Int32) : m_told_16 N K B Q x 0 i v3 = v3 := rfl
theorem m_told_16_S (N : Nat) (K : Nat) (B : Nat → Nat → Int32) (Q : Nat → Nat → Int32) (x : Int32) (k : Nat) (i : Nat) (v3 : Int32) : m_told_16 N K B Q x (k + 1) i v3 = (if (m_isWithin N K B Q (nI i) x) = (0 : Int32) then m_told_16 N K B Q x k (i + 1) (v3 + (0 : Int32)) else m_told_16 N K B Q x k (i + 1) (v3 + (1 : Int32))) := rfl
set_option maxHeartbeats 4000000 in
set_option maxRecDepth 100000 in
theorem wm_told_16 (l : Launch) (D : va_G) (a : Nat → Nat) (cI cZ : ClassId) (N K : Nat) (B Q : Nat → Nat → Int32) (hN : N ≤ 30) (hKK : K ≤ 10) (hC : chs N B) (hDr : drM N K B) (x : Int32) (what : Int32) {p : Program} {e : Env} {s : State} {m : MethodId} {below : List Frame} {meth : Method} {c : Code} {Q0 : State → Prop} (Sx : CallFix p m c b_M_told 5 s ([.ref (a 0), .int x, .int what] : List Value).toArray BW R_M) (hP : va_P D classes (wM a cI cZ (nI N) (nI K) B Q) s.heap) (hK : va_K D classes (tM cI cZ) s) : ∀ (k i : Nat), i + k = N → ∀ (v3 : Int32) (ls : Array Slot), lv_has ls 5 [(0, .ref (a 0)), (1, .int x), (2, .int what), (3, .int v3), (4, .int (nI i))] → (∀ ls : Array Slot, lv_has ls 5 [(0, .ref (a 0)), (1, .int x), (2, .int what), (3, .int (m_told_16 N K B Q x k i v3))] → W p l e ({ frames := 5, cells := 0, slots := 0, locals := 108 } : Room) s m ([.ref (a 0), .int x, .int what] : List Value).toArray below meth c s.heap [] 0 0 Q0 (F0 m 49 ls [])) → W p l e ({ frames := 5, cells := 0, slots := 0, locals := 108 } : Room) s m ([.ref (a 0), .int x, .int what] : List Value).toArray below meth c s.heap [] 0 0 Q0 (F0 m 16 ls []) := by
  obtain ⟨hx, hb, hml, hown, hts⟩ := id Sx
  intro k
  induction k with
  | zero =>
    intro i hi v3 ls hl hk
    refine lv_iload hx hb d_M_told_16 (lv_at hl 4 rfl) ?_
    refine lv_aload_n hx hb d_M_told_18 rfl (lv_at hl 0 rfl) ?_
    refine va_get (D := D) (ci := 1) (v := .int (nI N)) (C := R_M) (T := F_M) (N := 16) hx hb hts i_M hown hK hP 0 rfl rfl 0 (by decide) (hts _ fl_M_47) (fun _ h9 => h9) rfl d_M_told_19 ?_
    refine lv_icmp_ge (tgt := 49) hx hb d_M_told_22 (by decide) (fun c_22 => ?_) (fun c_22 => absurd (nI_le (a := N) (b := i) (by omega) (by omega)) c_22)
    have e_b : m_told_16 N K B Q x 0 i v3 = v3 := by rw [m_told_16_0]
    rw [e_b] at hk
    exact hk ls (lv_sub hl [0, 1, 2, 3] rfl)
  | succ k ih =>
    intro i hi v3 ls hl hk
    refine lv_iload hx hb d_M_told_16 (lv_at hl 4 rfl) ?_
    refine lv_aload_n hx hb d_M_told_18 rfl (lv_at hl 0 rfl) ?_
    refine va_get (D := D) (ci := 1) (v := .int (nI N)) (C := R_M) (T := F_M) (N := 16) hx hb hts i_M hown hK hP 0 rfl rfl 0 (by decide) (hts _ fl_M_47) (fun _ h9 => h9) rfl d_M_told_19 ?_
    refine lv_icmp_ge (tgt := 49) hx hb d_M_told_22 (by decide) (fun c_22 => absurd c_22 (nI_ge (a := i) (b := N) (by omega) (by omega))) (fun c_22 => ?_)
    refine lv_iload_n hx hb d_M_told_25 rfl (lv_at hl 3 rfl) ?_
    refine lv_aload_n hx hb d_M_told_26 rfl (lv_at hl 0 rfl) ?_
    refine lv_iload hx hb d_M_told_27 (lv_at hl 4 rfl) ?_
    refine lv_iload_n hx hb d_M_told_29 rfl (lv_at hl 1 rfl) ?_
    refine xro (As := [.int (nI i), .int x]) (rest := [.int v3]) Sx (cm_isWithin l D a cI cZ N K B Q hN hKK hC hDr (nI i) x (⟨i, by omega, rfl⟩)) v_M_isWithin ⟨rfl, rfl, Nat.le_of_ble_eq_true rfl, Nat.le_of_ble_eq_true rfl⟩ hK hP (ci := 1) (q0 := 0) rfl rfl rfl hl.1 rfl (Nat.le_of_ble_eq_true rfl) d_M_told_30 ⟨Nat.le_of_ble_eq_true rfl, Nat.le_of_ble_eq_true rfl⟩ (fun r hq => ?_)
    subst hq
    refine lv_if_eq (tgt := 40) hx hb d_M_told_33 (by decide) (fun c_33 => ?_) (fun c_33 => ?_)
    · refine lv_iconst (v := (0 : Int32)) hx hb d_M_told_40 (by decide) ?_
      refine lv_iadd hx hb d_M_told_41 ?_
      refine lv_istore_n (lv' := [(3, .int (v3 + (0 : Int32))), (0, .ref (a 0)), (1, .int x), (2, .int what), (4, .int (nI i))]) hx hb d_M_told_42 rfl hl (by decide) rfl (fun ls hl => ?_)
      refine lv_iinc (v := nI (i + 1)) (lv' := [(4, .int (nI (i + 1))), (3, .int (v3 + (0 : Int32))), (0, .ref (a 0)), (1, .int x), (2, .int what)]) hx hb d_M_told_43 hl (k := 4) rfl (nI_1 i) (by decide) rfl (fun ls hl => ?_)
      refine lv_goto (tgt := 16) hx hb d_M_told_46 (by decide) ?_
      have e_b : m_told_16 N K B Q x (k + 1) i v3 = m_told_16 N K B Q x k (i + 1) (v3 + (0 : Int32)) := by rw [m_told_16_S, if_pos c_33]
      rw [e_b] at hk
      exact ih (i + 1) (by omega) (v3 + (0 : Int32)) ls (lv_sub hl [2, 3, 4, 1, 0] rfl) hk
    · refine lv_iconst (v := (1 : Int32)) hx hb d_M_told_36 (by decide) ?_
      refine lv_goto (tgt := 41) hx hb d_M_told_37 (by decide) ?_
      refine lv_iadd hx hb d_M_told_41 ?_
      refine lv_istore_n (lv' := [(3, .int (v3 + (1 : Int32))), (0, .ref (a 0)), (1, .int x), (2, .int what), (4, .int (nI i))]) hx hb d_M_told_42 rfl hl (by decide) rfl (fun ls hl => ?_)
      refine lv_iinc (v := nI (i + 1)) (lv' := [(4, .int (nI (i + 1))), (3, .int (v3 + (1 : Int32))), (0, .ref (a 0)), (1, .int x), (2, .int what)]) hx hb d_M_told_43 hl (k := 4) rfl (nI_1 i) (by decide) rfl (fun ls hl => ?_)
      refine lv_goto (tgt := 16) hx hb d_M_told_46 (by decide) ?_
      have e_b : m_told_16 N K B Q x (k + 1) i v3 = m_told_16 N K B Q x k (i + 1) (v3 + (1 : Int32)) := by rw [m_told_16_S, if_neg c_33]
      rw [e_b] at hk
      exact ih (i + 1) (by omega) (v3 + (1 : Int32)) ls (lv_sub hl [2, 3, 4, 1, 0] rfl) hk
def m_told (N : Nat) (K : Nat) (B : Nat → Nat → Int32) (Q : Nat → Nat → Int32) (x what : Int32) : Int32 := (if (m_isThing N K B Q x) = (0 : Int32) then (-2 : Int32) else (if what = (0 : Int32) then B 0 x.toNatClampNeg else (if what = (1 : Int32) then B 1 x.toNatClampNeg else (if what = (2 : Int32) then m_spaceOf N K B Q x else (if what = (3 : Int32) then m_heldBy N K B Q x else (if what = (4 : Int32) then m_told_16 N K B Q x N 0 (0 : Int32) else (if (m_in what (5 : Int32) (8 : Int32)) = (0 : Int32) then (-3 : Int32) else B 2 ((((4 : Int32) * x) + what) - (5 : Int32)).toNatClampNeg)))))))
set_option maxHeartbeats 4000000 in
set_option maxRecDepth 100000 in
theorem cm_told (l : Launch) (D : va_G) (a : Nat → Nat) (cI cZ : ClassId) (N K : Nat) (B Q : Nat → Nat → Int32) (hN : N ≤ 30) (hKK : K ≤ 10) (hC : chs N B) (hDr : drM N K B) (x what : Int32) : Met l y_M_told (Cond.code y_M_told b_M_told 5 (some .int) :: BW) ({ frames := 5, cells := 0, slots := 0, locals := 108 } : Room) (PcR D (wM a cI cZ (nI N) (nI K) B Q) (tM cI cZ) [.ref (a 0), .int x, .int what]) (vp_Si (fun r => r = m_told N K B Q x what)) 0 0 (fun _ => False) := by
  refine roStart (by decide) rfl (Nat.le_of_ble_eq_true rfl) (fun p e s m below meth c Sx hr hlk hP hK ls hl => ?_)
  obtain ⟨hx, hb, hml, hown, hts⟩ := id Sx
  have hl : lv_has ls 5 [(0, .ref (a 0)), (1, .int x), (2, .int what)] := hl
  refine lv_aload_n hx hb d_M_told_0 rfl (lv_at hl 0 rfl) ?_
  refine lv_iload_n hx hb d_M_told_1 rfl (lv_at hl 1 rfl) ?_
  refine xro (As := [.int x]) (rest := []) Sx (cm_isThing l D a cI cZ N K B Q hN hKK hC hDr x) v_M_isThing ⟨rfl, rfl, Nat.le_of_ble_eq_true rfl, Nat.le_of_ble_eq_true rfl⟩ hK hP (ci := 1) (q0 := 0) rfl rfl rfl hl.1 rfl (Nat.le_of_ble_eq_true rfl) d_M_told_2 ⟨Nat.le_of_ble_eq_true rfl, Nat.le_of_ble_eq_true rfl⟩ (fun r hq => ?_)
  subst hq
  refine lv_if_ne (tgt := 11) hx hb d_M_told_5 (by decide) (fun c_5 => ?_) (fun c_5 => ?_)
  · refine lv_iconst (v := (0 : Int32)) hx hb d_M_told_11 (by decide) ?_
    refine lv_istore_n (lv' := [(3, .int (0 : Int32)), (0, .ref (a 0)), (1, .int x), (2, .int what)]) hx hb d_M_told_12 rfl hl (by decide) rfl (fun ls hl => ?_)
    refine lv_iconst (v := (0 : Int32)) hx hb d_M_told_13 (by decide) ?_
    refine lv_istore (lv' := [(4, .int (0 : Int32)), (3, .int (0 : Int32)), (0, .ref (a 0)), (1, .int x), (2, .int what)]) hx hb d_M_told_14 hl (by decide) rfl (fun ls hl => ?_)
    refine wm_told_16 l D a cI cZ N K B Q hN hKK hC hDr x what Sx hP hK N 0 (by omega) (0 : Int32) ls (lv_sub hl [2, 3, 4, 1, 0] rfl) (fun ls hl => ?_)
    refine lv_iload_n hx hb d_M_told_49 rfl (lv_at hl 2 rfl) ?_
    by_cases c_50_0 : what = (0 : Int32)
    · refine lv_tableIn (off := (34 : Int)) (tgt := 84) hx hb d_M_told_50 (by rw [c_50_0]; decide) (by rw [c_50_0]; decide) (by rw [c_50_0]; rfl) (by decide) ?_
      refine lv_aload_n hx hb d_M_told_84 rfl (lv_at hl 0 rfl) ?_
      refine va_get (D := D) (ci := 1) (v := .ref (a 1)) (C := R_M) (T := F_M) (N := 16) hx hb hts i_M hown hK hP 0 rfl rfl 1 (by decide) (hts _ fl_M_7) (fun _ h9 => h9) rfl d_M_told_85 ?_
      refine lv_iload_n hx hb d_M_told_88 rfl (lv_at hl 1 rfl) ?_
      refine va_iald (n := 30) hx hb hK hP 1 0 rfl rfl (th_in hN (isThingM_j hN c_5)) d_M_told_89 ?_
      exact roRet hx hb hr rfl hlk (show B 0 x.toNatClampNeg = m_told N K B Q x what from by rw [m_told, if_neg c_5, if_pos c_50_0]) d_M_told_90
    · skip
      by_cases c_50_1 : what = (1 : Int32)
      · refine lv_tableIn (off := (41 : Int)) (tgt := 91) hx hb d_M_told_50 (by rw [c_50_1]; decide) (by rw [c_50_1]; decide) (by rw [c_50_1]; rfl) (by decide) ?_
        refine lv_aload_n hx hb d_M_told_91 rfl (lv_at hl 0 rfl) ?_
        refine va_get (D := D) (ci := 1) (v := .ref (a 2)) (C := R_M) (T := F_M) (N := 16) hx hb hts i_M hown hK hP 0 rfl rfl 2 (by decide) (hts _ fl_M_13) (fun _ h9 => h9) rfl d_M_told_92 ?_
        refine lv_iload_n hx hb d_M_told_95 rfl (lv_at hl 1 rfl) ?_
        refine va_iald (n := 30) hx hb hK hP 2 0 rfl rfl (th_in hN (isThingM_j hN c_5)) d_M_told_96 ?_
        exact roRet hx hb hr rfl hlk (show B 1 x.toNatClampNeg = m_told N K B Q x what from by rw [m_told, if_neg c_5, if_neg c_50_0, if_pos c_50_1]) d_M_told_97
      · skip
        by_cases c_50_2 : what = (2 : Int32)
        · refine lv_tableIn (off := (48 : Int)) (tgt := 98) hx hb d_M_told_50 (by rw [c_50_2]; decide) (by rw [c_50_2]; decide) (by rw [c_50_2]; rfl) (by decide) ?_
          refine lv_aload_n hx hb d_M_told_98 rfl (lv_at hl 0 rfl) ?_
          refine lv_iload_n hx hb d_M_told_99 rfl (lv_at hl 1 rfl) ?_
          refine xro (As := [.int x]) (rest := []) Sx (cm_spaceOf l D a cI cZ N K B Q hN hKK hC hDr x (isThingM_j hN c_5)) v_M_spaceOf ⟨rfl, rfl, Nat.le_of_ble_eq_true rfl, Nat.le_of_ble_eq_true rfl⟩ hK hP (ci := 1) (q0 := 0) rfl rfl rfl hl.1 rfl (Nat.le_of_ble_eq_true rfl) d_M_told_100 ⟨Nat.le_of_ble_eq_true rfl, Nat.le_of_ble_eq_true rfl⟩ (fun r hq => ?_)
          subst hq
          exact roRet hx hb hr rfl hlk (show m_spaceOf N K B Q x = m_told N K B Q x what from by rw [m_told, if_neg c_5, if_neg c_50_0, if_neg c_50_1, if_pos c_50_2]) d_M_told_103
        · skip
          by_cases c_50_3 : what = (3 : Int32)
          · refine lv_tableIn (off := (54 : Int)) (tgt := 104) hx hb d_M_told_50 (by rw [c_50_3]; decide) (by rw [c_50_3]; decide) (by rw [c_50_3]; rfl) (by decide) ?_
            refine lv_aload_n hx hb d_M_told_104 rfl (lv_at hl 0 rfl) ?_
            refine lv_iload_n hx hb d_M_told_105 rfl (lv_at hl 1 rfl) ?_
            refine xro (As := [.int x]) (rest := []) Sx (cm_heldBy l D a cI cZ N K B Q hN hKK hC hDr x) v_M_heldBy ⟨rfl, rfl, Nat.le_of_ble_eq_true rfl, Nat.le_of_ble_eq_true rfl⟩ hK hP (ci := 1) (q0 := 0) rfl rfl rfl hl.1 rfl (Nat.le_of_ble_eq_true rfl) d_M_told_106 ⟨Nat.le_of_ble_eq_true rfl, Nat.le_of_ble_eq_true rfl⟩ (fun r hq => ?_)
            subst hq
            exact roRet hx hb hr rfl hlk (show m_heldBy N K B Q x = m_told N K B Q x what from by rw [m_told, if_neg c_5, if_neg c_50_0, if_neg c_50_1, if_neg c_50_2, if_pos c_50_3]) d_M_told_109
          · skip
            by_cases c_50_4 : what = (4 : Int32)
            · refine lv_tableIn (off := (60 : Int)) (tgt := 110) hx hb d_M_told_50 (by rw [c_50_4]; decide) (by rw [c_50_4]; decide) (by rw [c_50_4]; rfl) (by decide) ?_
              refine lv_iload_n hx hb d_M_told_110 rfl (lv_at hl 3 rfl) ?_
              exact roRet hx hb hr rfl hlk (show m_told_16 N K B Q x N 0 (0 : Int32) = m_told N K B Q x what from by rw [m_told, if_neg c_5, if_neg c_50_0, if_neg c_50_1, if_neg c_50_2, if_neg c_50_3, if_pos c_50_4]) d_M_told_111
            · skip
              refine lv_tableOut (tgt := 112) hx hb d_M_told_50 (by have h0 := lv_neT (a := 0) c_50_0 (by decide); have h1 := lv_neT (a := 1) c_50_1 (by decide); have h2 := lv_neT (a := 2) c_50_2 (by decide); have h3 := lv_neT (a := 3) c_50_3 (by decide); have h4 := lv_neT (a := 4) c_50_4 (by decide); omega) (by decide) ?_
              refine lv_iload_n hx hb d_M_told_112 rfl (lv_at hl 2 rfl) ?_
              refine lv_iconst (v := (5 : Int32)) hx hb d_M_told_113 (by decide) ?_
              refine lv_bipush (v := (8 : Int32)) hx hb d_M_told_114 (by decide) ?_
              refine xst (As := [.int what, .int (5 : Int32), .int (8 : Int32)]) (rest := []) Sx (cm_in l what (5 : Int32) (8 : Int32)) v_M_in ⟨rfl, rfl, Nat.le_of_ble_eq_true rfl, Nat.le_of_ble_eq_true rfl⟩ rfl hl.1 rfl (Nat.le_of_ble_eq_true rfl) d_M_told_116 ⟨Nat.le_of_ble_eq_true rfl, Nat.le_of_ble_eq_true rfl⟩ (fun r hq => ?_)
              subst hq
              refine lv_if_eq (tgt := 137) hx hb d_M_told_119 (by decide) (fun c_119 => ?_) (fun c_119 => ?_)
              · refine lv_bipush (v := (-3 : Int32)) hx hb d_M_told_137 (by decide) ?_
                exact roRet hx hb hr rfl hlk (show (-3 : Int32) = m_told N K B Q x what from by rw [m_told, if_neg c_5, if_neg c_50_0, if_neg c_50_1, if_neg c_50_2, if_neg c_50_3, if_neg c_50_4, if_pos c_119]) d_M_told_139
              · refine lv_aload_n hx hb d_M_told_122 rfl (lv_at hl 0 rfl) ?_
                refine va_get (D := D) (ci := 1) (v := .ref (a 3)) (C := R_M) (T := F_M) (N := 16) hx hb hts i_M hown hK hP 0 rfl rfl 3 (by decide) (hts _ fl_M_16) (fun _ h9 => h9) rfl d_M_told_123 ?_
                refine lv_iconst (v := (4 : Int32)) hx hb d_M_told_126 (by decide) ?_
                refine lv_iload_n hx hb d_M_told_127 rfl (lv_at hl 1 rfl) ?_
                refine lv_imul hx hb d_M_told_128 ?_
                refine lv_iload_n hx hb d_M_told_129 rfl (lv_at hl 2 rfl) ?_
                refine lv_iadd hx hb d_M_told_130 ?_
                refine lv_iconst (v := (5 : Int32)) hx hb d_M_told_131 (by decide) ?_
                refine lv_isub hx hb d_M_told_132 ?_
                refine va_iald (n := 120) hx hb hK hP 3 0 rfl rfl (st5_in hN (isThingM_j hN c_5) (in58 c_119)) d_M_told_133 ?_
                refine lv_goto (tgt := 139) hx hb d_M_told_134 (by decide) ?_
                exact roRet hx hb hr rfl hlk (show B 2 ((((4 : Int32) * x) + what) - (5 : Int32)).toNatClampNeg = m_told N K B Q x what from by rw [m_told, if_neg c_5, if_neg c_50_0, if_neg c_50_1, if_neg c_50_2, if_neg c_50_3, if_neg c_50_4, if_neg c_119]) d_M_told_139
  · refine lv_bipush (v := (-2 : Int32)) hx hb d_M_told_8 (by decide) ?_
    exact roRet hx hb hr rfl hlk (show (-2 : Int32) = m_told N K B Q x what from by rw [m_told, if_pos c_5]) d_M_told_10

def m_held_16 (N : Nat) (K : Nat) (B : Nat → Nat → Int32) (Q : Nat → Nat → Int32) (x : Int32) (ix : Int32) : Nat → Nat → Int32 → Int32
  | 0, i, v3 => (-1 : Int32)
  | k + 1, i, v3 => (if ix < (0 : Int32) then (-1 : Int32) else (if (B 1 i) = x then (if v3 = (0 : Int32) then nI i else m_held_16 N K B Q x ix k (i + 1) (v3 + (-1 : Int32))) else m_held_16 N K B Q x ix k (i + 1) v3))
theorem m_held_16_0 (N : Nat) (K : Nat) (B : Nat → Nat → Int32) (Q : Nat → Nat → Int32) (x : Int32) (ix : Int32) (i : Nat) (v3 : Int32) : m_held_16 N K B Q x ix 0 i v3 = (-1 : Int32) := rfl
theorem m_held_16_S (N : Nat) (K : Nat) (B : Nat → Nat → Int32) (Q : Nat → Nat → Int32) (x : Int32) (ix : Int32) (k : Nat) (i : Nat) (v3 : Int32) : m_held_16 N K B Q x ix (k + 1) i v3 = (if ix < (0 : Int32) then (-1 : Int32) else (if (B 1 i) = x then (if v3 = (0 : Int32) then nI i else m_held_16 N K B Q x ix k (i + 1) (v3 + (-1 : Int32))) else m_held_16 N K B Q x ix k (i + 1) v3)) := rfl
set_option maxHeartbeats 4000000 in
set_option maxRecDepth 100000 in
theorem wm_held_16 (l : Launch) (D : va_G) (a : Nat → Nat) (cI cZ : ClassId) (N K : Nat) (B Q : Nat → Nat → Int32) (hN : N ≤ 30) (hKK : K ≤ 10) (hC : chs N B) (hDr : drM N K B) (x : Int32) (ix : Int32) {p : Program} {e : Env} {s : State} {m : MethodId} {below : List Frame} {meth : Method} {c : Code} (Sx : CallFix p m c b_M_held 5 s ([.ref (a 0), .int x, .int ix] : List Value).toArray BW R_M) (hr : meth.sig.returnType = (some .int)) (hlk : meth.locks = false) (hP : va_P D classes (wM a cI cZ (nI N) (nI K) B Q) s.heap) (hK : va_K D classes (tM cI cZ) s) : ∀ (k i : Nat), i + k = N → ∀ (v3 : Int32) (ls : Array Slot), lv_has ls 5 [(0, .ref (a 0)), (1, .int x), (2, .int ix), (3, .int v3), (4, .int (nI i))] → W p l e ({ frames := 2, cells := 0, slots := 0, locals := 43 } : Room) s m ([.ref (a 0), .int x, .int ix] : List Value).toArray below meth c s.heap [] 0 0 (MQ below (vp_Si (fun r => r = m_held_16 N K B Q x ix k i v3)) ([.ref (a 0), .int x, .int ix] : List Value).toArray s 0 0 (fun _ => False)) (F0 m 16 ls []) := by
  obtain ⟨hx, hb, hml, hown, hts⟩ := id Sx
  intro k
  induction k with
  | zero =>
    intro i hi v3 ls hl
    refine lv_iload hx hb d_M_held_16 (lv_at hl 4 rfl) ?_
    refine lv_aload_n hx hb d_M_held_18 rfl (lv_at hl 0 rfl) ?_
    refine va_get (D := D) (ci := 1) (v := .int (nI N)) (C := R_M) (T := F_M) (N := 16) hx hb hts i_M hown hK hP 0 rfl rfl 0 (by decide) (hts _ fl_M_47) (fun _ h9 => h9) rfl d_M_held_19 ?_
    refine lv_icmp_ge (tgt := 56) hx hb d_M_held_22 (by decide) (fun c_22 => ?_) (fun c_22 => absurd (nI_le (a := N) (b := i) (by omega) (by omega)) c_22)
    refine lv_iconst (v := (-1 : Int32)) hx hb d_M_held_56 (by decide) ?_
    exact roRet hx hb hr rfl hlk (show (-1 : Int32) = m_held_16 N K B Q x ix 0 i v3 from by rw [m_held_16_0]) d_M_held_57
  | succ k ih =>
    intro i hi v3 ls hl
    refine lv_iload hx hb d_M_held_16 (lv_at hl 4 rfl) ?_
    refine lv_aload_n hx hb d_M_held_18 rfl (lv_at hl 0 rfl) ?_
    refine va_get (D := D) (ci := 1) (v := .int (nI N)) (C := R_M) (T := F_M) (N := 16) hx hb hts i_M hown hK hP 0 rfl rfl 0 (by decide) (hts _ fl_M_47) (fun _ h9 => h9) rfl d_M_held_19 ?_
    refine lv_icmp_ge (tgt := 56) hx hb d_M_held_22 (by decide) (fun c_22 => absurd c_22 (nI_ge (a := i) (b := N) (by omega) (by omega))) (fun c_22 => ?_)
    refine lv_iload_n hx hb d_M_held_25 rfl (lv_at hl 2 rfl) ?_
    refine lv_if_lt (tgt := 56) hx hb d_M_held_26 (by decide) (fun c_26 => ?_) (fun c_26 => ?_)
    · refine lv_iconst (v := (-1 : Int32)) hx hb d_M_held_56 (by decide) ?_
      exact roRet hx hb hr rfl hlk (show (-1 : Int32) = m_held_16 N K B Q x ix (k + 1) i v3 from by rw [m_held_16_S, if_pos c_26]) d_M_held_57
    · refine lv_aload_n hx hb d_M_held_29 rfl (lv_at hl 0 rfl) ?_
      refine va_get (D := D) (ci := 1) (v := .ref (a 2)) (C := R_M) (T := F_M) (N := 16) hx hb hts i_M hown hK hP 0 rfl rfl 2 (by decide) (hts _ fl_M_13) (fun _ h9 => h9) rfl d_M_held_30 ?_
      refine lv_iload hx hb d_M_held_33 (lv_at hl 4 rfl) ?_
      refine x_ialdN (n := 30) hx hb hK hP 2 0 rfl rfl (by omega) (by omega) d_M_held_35 ?_
      refine lv_iload_n hx hb d_M_held_36 rfl (lv_at hl 1 rfl) ?_
      refine lv_icmp_ne (tgt := 50) hx hb d_M_held_37 (by decide) (fun c_37 => ?_) (fun c_37 => ?_)
      · refine lv_iinc (v := nI (i + 1)) (lv' := [(4, .int (nI (i + 1))), (0, .ref (a 0)), (1, .int x), (2, .int ix), (3, .int v3)]) hx hb d_M_held_50 hl (k := 4) rfl (nI_1 i) (by decide) rfl (fun ls hl => ?_)
        refine lv_goto (tgt := 16) hx hb d_M_held_53 (by decide) ?_
        have e_b : m_held_16 N K B Q x ix (k + 1) i v3 = m_held_16 N K B Q x ix k (i + 1) v3 := by rw [m_held_16_S, if_neg c_26, if_neg c_37]
        rw [e_b]
        exact ih (i + 1) (by omega) v3 ls (lv_sub hl [1, 2, 3, 4, 0] rfl)
      · refine lv_iload_n hx hb d_M_held_40 rfl (lv_at hl 3 rfl) ?_
        refine lv_if_ne (tgt := 47) hx hb d_M_held_41 (by decide) (fun c_41 => ?_) (fun c_41 => ?_)
        · refine lv_iinc (v := v3 + (-1 : Int32)) (lv' := [(3, .int (v3 + (-1 : Int32))), (0, .ref (a 0)), (1, .int x), (2, .int ix), (4, .int (nI i))]) hx hb d_M_held_47 hl (k := 3) rfl (by rfl) (by decide) rfl (fun ls hl => ?_)
          refine lv_iinc (v := nI (i + 1)) (lv' := [(4, .int (nI (i + 1))), (3, .int (v3 + (-1 : Int32))), (0, .ref (a 0)), (1, .int x), (2, .int ix)]) hx hb d_M_held_50 hl (k := 4) rfl (nI_1 i) (by decide) rfl (fun ls hl => ?_)
          refine lv_goto (tgt := 16) hx hb d_M_held_53 (by decide) ?_
          have e_b : m_held_16 N K B Q x ix (k + 1) i v3 = m_held_16 N K B Q x ix k (i + 1) (v3 + (-1 : Int32)) := by rw [m_held_16_S, if_neg c_26, if_pos c_37, if_neg c_41]
          rw [e_b]
          exact ih (i + 1) (by omega) (v3 + (-1 : Int32)) ls (lv_sub hl [2, 3, 4, 1, 0] rfl)
        · refine lv_iload hx hb d_M_held_44 (lv_at hl 4 rfl) ?_
          exact roRet hx hb hr rfl hlk (show nI i = m_held_16 N K B Q x ix (k + 1) i v3 from by rw [m_held_16_S, if_neg c_26, if_pos c_37, if_pos c_41]) d_M_held_46
def m_held (N : Nat) (K : Nat) (B : Nat → Nat → Int32) (Q : Nat → Nat → Int32) (x ix : Int32) : Int32 := (if (m_isThing N K B Q x) = (0 : Int32) then (-2 : Int32) else m_held_16 N K B Q x ix N 0 ix)
set_option maxHeartbeats 4000000 in
set_option maxRecDepth 100000 in
theorem cm_held (l : Launch) (D : va_G) (a : Nat → Nat) (cI cZ : ClassId) (N K : Nat) (B Q : Nat → Nat → Int32) (hN : N ≤ 30) (hKK : K ≤ 10) (hC : chs N B) (hDr : drM N K B) (x ix : Int32) : Met l y_M_held (Cond.code y_M_held b_M_held 5 (some .int) :: BW) ({ frames := 2, cells := 0, slots := 0, locals := 43 } : Room) (PcR D (wM a cI cZ (nI N) (nI K) B Q) (tM cI cZ) [.ref (a 0), .int x, .int ix]) (vp_Si (fun r => r = m_held N K B Q x ix)) 0 0 (fun _ => False) := by
  refine roStart (by decide) rfl (Nat.le_of_ble_eq_true rfl) (fun p e s m below meth c Sx hr hlk hP hK ls hl => ?_)
  obtain ⟨hx, hb, hml, hown, hts⟩ := id Sx
  have hl : lv_has ls 5 [(0, .ref (a 0)), (1, .int x), (2, .int ix)] := hl
  refine lv_aload_n hx hb d_M_held_0 rfl (lv_at hl 0 rfl) ?_
  refine lv_iload_n hx hb d_M_held_1 rfl (lv_at hl 1 rfl) ?_
  refine xro (As := [.int x]) (rest := []) Sx (cm_isThing l D a cI cZ N K B Q hN hKK hC hDr x) v_M_isThing ⟨rfl, rfl, Nat.le_of_ble_eq_true rfl, Nat.le_of_ble_eq_true rfl⟩ hK hP (ci := 1) (q0 := 0) rfl rfl rfl hl.1 rfl (Nat.le_of_ble_eq_true rfl) d_M_held_2 ⟨Nat.le_of_ble_eq_true rfl, Nat.le_of_ble_eq_true rfl⟩ (fun r hq => ?_)
  subst hq
  refine lv_if_ne (tgt := 11) hx hb d_M_held_5 (by decide) (fun c_5 => ?_) (fun c_5 => ?_)
  · refine lv_iload_n hx hb d_M_held_11 rfl (lv_at hl 2 rfl) ?_
    refine lv_istore_n (lv' := [(3, .int ix), (0, .ref (a 0)), (1, .int x), (2, .int ix)]) hx hb d_M_held_12 rfl hl (by decide) rfl (fun ls hl => ?_)
    refine lv_iconst (v := (0 : Int32)) hx hb d_M_held_13 (by decide) ?_
    refine lv_istore (lv' := [(4, .int (0 : Int32)), (3, .int ix), (0, .ref (a 0)), (1, .int x), (2, .int ix)]) hx hb d_M_held_14 hl (by decide) rfl (fun ls hl => ?_)
    have e_16 : m_held N K B Q x ix = m_held_16 N K B Q x ix N 0 ix := by rw [m_held, if_neg c_5]
    rw [e_16]
    exact wm_held_16 l D a cI cZ N K B Q hN hKK hC hDr x ix Sx hr hlk hP hK N 0 (by omega) ix ls (lv_sub hl [2, 3, 4, 1, 0] rfl)
  · refine lv_bipush (v := (-2 : Int32)) hx hb d_M_held_8 (by decide) ?_
    exact roRet hx hb hr rfl hlk (show (-2 : Int32) = m_held N K B Q x ix from by rw [m_held, if_pos c_5]) d_M_held_10
end
