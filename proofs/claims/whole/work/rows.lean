section
-- ===== PART A: goes FIRST, ahead of the names: the tables' words, and 'selects' of the private methods out of them =====
/-- a private method of a class that the tables say can be made, by its rows of tables_1 -/
def lw_okq (q : MethodName × Nat) : Prop := (q.1.cls ≠ "java/lang/invoke/MethodHandle" ∧ q.1.cls ≠ "java/lang/invoke/VarHandle") ∧ Cond.instantiable q.1.cls q.2 ∈ tables_1 ∧ Cond.privateMethod q.1 ∈ tables_1 ∧ Cond.instanceMethod q.1 ∈ tables_1
theorem lw_p0 : lw_okq (⟨"OddNets$Shelf", "clear", "(I)V"⟩, 2) := ⟨⟨by decide +kernel, by decide +kernel⟩, List.mem_of_getElem? (i := 21) (by decide +kernel), List.mem_of_getElem? (i := 106) (by decide +kernel), List.mem_of_getElem? (i := 107) (by decide +kernel)⟩
theorem lw_p1 : lw_okq (⟨"OddNets", "isNode", "(I)Z"⟩, 8) := ⟨⟨by decide +kernel, by decide +kernel⟩, List.mem_of_getElem? (i := 13) (by decide +kernel), List.mem_of_getElem? (i := 152) (by decide +kernel), List.mem_of_getElem? (i := 153) (by decide +kernel)⟩
theorem lw_p2 : lw_okq (⟨"OddNets", "load", "(LOddNets$Net;I)V"⟩, 8) := ⟨⟨by decide +kernel, by decide +kernel⟩, List.mem_of_getElem? (i := 13) (by decide +kernel), List.mem_of_getElem? (i := 156) (by decide +kernel), List.mem_of_getElem? (i := 157) (by decide +kernel)⟩
theorem lw_p3 : lw_okq (⟨"OddNets$Net", "clear", "(I)V"⟩, 2) := ⟨⟨by decide +kernel, by decide +kernel⟩, List.mem_of_getElem? (i := 52) (by decide +kernel), List.mem_of_getElem? (i := 160) (by decide +kernel), List.mem_of_getElem? (i := 161) (by decide +kernel)⟩
theorem lw_p4 : lw_okq (⟨"OddNets$Net", "takeNumber", "(I)V"⟩, 2) := ⟨⟨by decide +kernel, by decide +kernel⟩, List.mem_of_getElem? (i := 52) (by decide +kernel), List.mem_of_getElem? (i := 165) (by decide +kernel), List.mem_of_getElem? (i := 166) (by decide +kernel)⟩
theorem lw_p5 : lw_okq (⟨"OddNets$Net", "connect", "(IIZ)V"⟩, 2) := ⟨⟨by decide +kernel, by decide +kernel⟩, List.mem_of_getElem? (i := 52) (by decide +kernel), List.mem_of_getElem? (i := 172) (by decide +kernel), List.mem_of_getElem? (i := 173) (by decide +kernel)⟩
theorem lw_p6 : lw_okq (⟨"OddNets$Net", "number", "()I"⟩, 2) := ⟨⟨by decide +kernel, by decide +kernel⟩, List.mem_of_getElem? (i := 52) (by decide +kernel), List.mem_of_getElem? (i := 177) (by decide +kernel), List.mem_of_getElem? (i := 178) (by decide +kernel)⟩
theorem lw_p7 : lw_okq (⟨"OddNets$Net", "joined", "(II)I"⟩, 2) := ⟨⟨by decide +kernel, by decide +kernel⟩, List.mem_of_getElem? (i := 52) (by decide +kernel), List.mem_of_getElem? (i := 181) (by decide +kernel), List.mem_of_getElem? (i := 182) (by decide +kernel)⟩
theorem lw_p8 : lw_okq (⟨"OddNets$Net", "joinedPairs", "()I"⟩, 2) := ⟨⟨by decide +kernel, by decide +kernel⟩, List.mem_of_getElem? (i := 52) (by decide +kernel), List.mem_of_getElem? (i := 185) (by decide +kernel), List.mem_of_getElem? (i := 186) (by decide +kernel)⟩
theorem lw_p9 : lw_okq (⟨"OddNets$Net", "degree", "(I)I"⟩, 2) := ⟨⟨by decide +kernel, by decide +kernel⟩, List.mem_of_getElem? (i := 52) (by decide +kernel), List.mem_of_getElem? (i := 189) (by decide +kernel), List.mem_of_getElem? (i := 190) (by decide +kernel)⟩
theorem lw_p10 : lw_okq (⟨"OddNets$Pad", "put", "(I)V"⟩, 2) := ⟨⟨by decide +kernel, by decide +kernel⟩, List.mem_of_getElem? (i := 38) (by decide +kernel), List.mem_of_getElem? (i := 208) (by decide +kernel), List.mem_of_getElem? (i := 209) (by decide +kernel)⟩
theorem lw_p11 : lw_okq (⟨"OddNets", "signsFor", "(I)I"⟩, 8) := ⟨⟨by decide +kernel, by decide +kernel⟩, List.mem_of_getElem? (i := 13) (by decide +kernel), List.mem_of_getElem? (i := 220) (by decide +kernel), List.mem_of_getElem? (i := 221) (by decide +kernel)⟩
theorem lw_p12 : lw_okq (⟨"OddNets$Pad", "faultFor", "(I)I"⟩, 2) := ⟨⟨by decide +kernel, by decide +kernel⟩, List.mem_of_getElem? (i := 38) (by decide +kernel), List.mem_of_getElem? (i := 227) (by decide +kernel), List.mem_of_getElem? (i := 228) (by decide +kernel)⟩
theorem lw_p13 : lw_okq (⟨"OddNets$Net", "takePairs", "(LOddNets$Pad;)V"⟩, 2) := ⟨⟨by decide +kernel, by decide +kernel⟩, List.mem_of_getElem? (i := 52) (by decide +kernel), List.mem_of_getElem? (i := 235) (by decide +kernel), List.mem_of_getElem? (i := 236) (by decide +kernel)⟩
theorem lw_p14 : lw_okq (⟨"OddNets$Pad", "tells", "(I)Z"⟩, 2) := ⟨⟨by decide +kernel, by decide +kernel⟩, List.mem_of_getElem? (i := 38) (by decide +kernel), List.mem_of_getElem? (i := 239) (by decide +kernel), List.mem_of_getElem? (i := 240) (by decide +kernel)⟩
theorem lw_p15 : lw_okq (⟨"OddNets$Net", "takeTriples", "(LOddNets$Pad;)Z"⟩, 2) := ⟨⟨by decide +kernel, by decide +kernel⟩, List.mem_of_getElem? (i := 52) (by decide +kernel), List.mem_of_getElem? (i := 243) (by decide +kernel), List.mem_of_getElem? (i := 244) (by decide +kernel)⟩
def lw_privs_1 : List (MethodName × Nat) := [(⟨"OddNets$Shelf", "clear", "(I)V"⟩, 2), (⟨"OddNets", "isNode", "(I)Z"⟩, 8), (⟨"OddNets", "load", "(LOddNets$Net;I)V"⟩, 8), (⟨"OddNets$Net", "clear", "(I)V"⟩, 2), (⟨"OddNets$Net", "takeNumber", "(I)V"⟩, 2), (⟨"OddNets$Net", "connect", "(IIZ)V"⟩, 2), (⟨"OddNets$Net", "number", "()I"⟩, 2), (⟨"OddNets$Net", "joined", "(II)I"⟩, 2), (⟨"OddNets$Net", "joinedPairs", "()I"⟩, 2), (⟨"OddNets$Net", "degree", "(I)I"⟩, 2), (⟨"OddNets$Pad", "put", "(I)V"⟩, 2), (⟨"OddNets", "signsFor", "(I)I"⟩, 8), (⟨"OddNets$Pad", "faultFor", "(I)I"⟩, 2), (⟨"OddNets$Net", "takePairs", "(LOddNets$Pad;)V"⟩, 2), (⟨"OddNets$Pad", "tells", "(I)Z"⟩, 2), (⟨"OddNets$Net", "takeTriples", "(LOddNets$Pad;)Z"⟩, 2)]
theorem lw_r1 : ∀ q ∈ lw_privs_1, lw_okq q := List.forall_mem_cons.mpr ⟨lw_p0, List.forall_mem_cons.mpr ⟨lw_p1, List.forall_mem_cons.mpr ⟨lw_p2, List.forall_mem_cons.mpr ⟨lw_p3, List.forall_mem_cons.mpr ⟨lw_p4, List.forall_mem_cons.mpr ⟨lw_p5, List.forall_mem_cons.mpr ⟨lw_p6, List.forall_mem_cons.mpr ⟨lw_p7, List.forall_mem_cons.mpr ⟨lw_p8, List.forall_mem_cons.mpr ⟨lw_p9, List.forall_mem_cons.mpr ⟨lw_p10, List.forall_mem_cons.mpr ⟨lw_p11, List.forall_mem_cons.mpr ⟨lw_p12, List.forall_mem_cons.mpr ⟨lw_p13, List.forall_mem_cons.mpr ⟨lw_p14, List.forall_mem_cons.mpr ⟨lw_p15, fun _ h => absurd h List.not_mem_nil⟩⟩⟩⟩⟩⟩⟩⟩⟩⟩⟩⟩⟩⟩⟩⟩
theorem lw_p16 : lw_okq (⟨"OddNets$Net", "isOdd", "(III)Z"⟩, 2) := ⟨⟨by decide +kernel, by decide +kernel⟩, List.mem_of_getElem? (i := 52) (by decide +kernel), List.mem_of_getElem? (i := 247) (by decide +kernel), List.mem_of_getElem? (i := 248) (by decide +kernel)⟩
theorem lw_p17 : lw_okq (⟨"OddNets$Net", "switchBy", "(I)V"⟩, 2) := ⟨⟨by decide +kernel, by decide +kernel⟩, List.mem_of_getElem? (i := 52) (by decide +kernel), List.mem_of_getElem? (i := 255) (by decide +kernel), List.mem_of_getElem? (i := 256) (by decide +kernel)⟩
theorem lw_p18 : lw_okq (⟨"OddNets$Net", "allNodes", "()I"⟩, 2) := ⟨⟨by decide +kernel, by decide +kernel⟩, List.mem_of_getElem? (i := 52) (by decide +kernel), List.mem_of_getElem? (i := 259) (by decide +kernel), List.mem_of_getElem? (i := 260) (by decide +kernel)⟩
theorem lw_p19 : lw_okq (⟨"OddNets$Net", "oddTriples", "()I"⟩, 2) := ⟨⟨by decide +kernel, by decide +kernel⟩, List.mem_of_getElem? (i := 52) (by decide +kernel), List.mem_of_getElem? (i := 267) (by decide +kernel), List.mem_of_getElem? (i := 268) (by decide +kernel)⟩
theorem lw_p20 : lw_okq (⟨"OddNets$Net", "oddTriplesAtNode", "(I)I"⟩, 2) := ⟨⟨by decide +kernel, by decide +kernel⟩, List.mem_of_getElem? (i := 52) (by decide +kernel), List.mem_of_getElem? (i := 271) (by decide +kernel), List.mem_of_getElem? (i := 272) (by decide +kernel)⟩
theorem lw_p21 : lw_okq (⟨"OddNets$Net", "oddTriplesAtPair", "(II)I"⟩, 2) := ⟨⟨by decide +kernel, by decide +kernel⟩, List.mem_of_getElem? (i := 52) (by decide +kernel), List.mem_of_getElem? (i := 275) (by decide +kernel), List.mem_of_getElem? (i := 276) (by decide +kernel)⟩
theorem lw_p22 : lw_okq (⟨"OddNets$Net", "oddTriplesOfEachPair", "()I"⟩, 2) := ⟨⟨by decide +kernel, by decide +kernel⟩, List.mem_of_getElem? (i := 52) (by decide +kernel), List.mem_of_getElem? (i := 279) (by decide +kernel), List.mem_of_getElem? (i := 280) (by decide +kernel)⟩
theorem lw_p23 : lw_okq (⟨"OddNets$Net", "oddDegrees", "()I"⟩, 2) := ⟨⟨by decide +kernel, by decide +kernel⟩, List.mem_of_getElem? (i := 52) (by decide +kernel), List.mem_of_getElem? (i := 283) (by decide +kernel), List.mem_of_getElem? (i := 284) (by decide +kernel)⟩
theorem lw_p24 : lw_okq (⟨"OddNets$Net", "leaveAlone", "(I)V"⟩, 2) := ⟨⟨by decide +kernel, by decide +kernel⟩, List.mem_of_getElem? (i := 52) (by decide +kernel), List.mem_of_getElem? (i := 293) (by decide +kernel), List.mem_of_getElem? (i := 294) (by decide +kernel)⟩
theorem lw_p25 : lw_okq (⟨"OddNets$Net", "drop", "(I)V"⟩, 2) := ⟨⟨by decide +kernel, by decide +kernel⟩, List.mem_of_getElem? (i := 52) (by decide +kernel), List.mem_of_getElem? (i := 298) (by decide +kernel), List.mem_of_getElem? (i := 299) (by decide +kernel)⟩
theorem lw_p26 : lw_okq (⟨"OddNets$Net", "shared", "(II)I"⟩, 2) := ⟨⟨by decide +kernel, by decide +kernel⟩, List.mem_of_getElem? (i := 52) (by decide +kernel), List.mem_of_getElem? (i := 308) (by decide +kernel), List.mem_of_getElem? (i := 309) (by decide +kernel)⟩
theorem lw_p27 : lw_okq (⟨"OddNets$Net", "copySwitched", "(LOddNets$Net;I)V"⟩, 2) := ⟨⟨by decide +kernel, by decide +kernel⟩, List.mem_of_getElem? (i := 52) (by decide +kernel), List.mem_of_getElem? (i := 316) (by decide +kernel), List.mem_of_getElem? (i := 317) (by decide +kernel)⟩
theorem lw_p28 : lw_okq (⟨"OddNets", "howManyBy", "(IZ)I"⟩, 8) := ⟨⟨by decide +kernel, by decide +kernel⟩, List.mem_of_getElem? (i := 13) (by decide +kernel), List.mem_of_getElem? (i := 327) (by decide +kernel), List.mem_of_getElem? (i := 328) (by decide +kernel)⟩
theorem lw_p29 : lw_okq (⟨"OddNets$Net", "eachDegreeIs", "(I)Z"⟩, 2) := ⟨⟨by decide +kernel, by decide +kernel⟩, List.mem_of_getElem? (i := 52) (by decide +kernel), List.mem_of_getElem? (i := 331) (by decide +kernel), List.mem_of_getElem? (i := 332) (by decide +kernel)⟩
theorem lw_p30 : lw_okq (⟨"OddNets$Net", "isStrong", "()Z"⟩, 2) := ⟨⟨by decide +kernel, by decide +kernel⟩, List.mem_of_getElem? (i := 52) (by decide +kernel), List.mem_of_getElem? (i := 336) (by decide +kernel), List.mem_of_getElem? (i := 337) (by decide +kernel)⟩
theorem lw_p31 : lw_okq (⟨"OddNets$Net", "eachPairSharesAlike", "(I)Z"⟩, 2) := ⟨⟨by decide +kernel, by decide +kernel⟩, List.mem_of_getElem? (i := 52) (by decide +kernel), List.mem_of_getElem? (i := 340) (by decide +kernel), List.mem_of_getElem? (i := 341) (by decide +kernel)⟩
def lw_privs_2 : List (MethodName × Nat) := [(⟨"OddNets$Net", "isOdd", "(III)Z"⟩, 2), (⟨"OddNets$Net", "switchBy", "(I)V"⟩, 2), (⟨"OddNets$Net", "allNodes", "()I"⟩, 2), (⟨"OddNets$Net", "oddTriples", "()I"⟩, 2), (⟨"OddNets$Net", "oddTriplesAtNode", "(I)I"⟩, 2), (⟨"OddNets$Net", "oddTriplesAtPair", "(II)I"⟩, 2), (⟨"OddNets$Net", "oddTriplesOfEachPair", "()I"⟩, 2), (⟨"OddNets$Net", "oddDegrees", "()I"⟩, 2), (⟨"OddNets$Net", "leaveAlone", "(I)V"⟩, 2), (⟨"OddNets$Net", "drop", "(I)V"⟩, 2), (⟨"OddNets$Net", "shared", "(II)I"⟩, 2), (⟨"OddNets$Net", "copySwitched", "(LOddNets$Net;I)V"⟩, 2), (⟨"OddNets", "howManyBy", "(IZ)I"⟩, 8), (⟨"OddNets$Net", "eachDegreeIs", "(I)Z"⟩, 2), (⟨"OddNets$Net", "isStrong", "()Z"⟩, 2), (⟨"OddNets$Net", "eachPairSharesAlike", "(I)Z"⟩, 2)]
theorem lw_r2 : ∀ q ∈ lw_privs_2, lw_okq q := List.forall_mem_cons.mpr ⟨lw_p16, List.forall_mem_cons.mpr ⟨lw_p17, List.forall_mem_cons.mpr ⟨lw_p18, List.forall_mem_cons.mpr ⟨lw_p19, List.forall_mem_cons.mpr ⟨lw_p20, List.forall_mem_cons.mpr ⟨lw_p21, List.forall_mem_cons.mpr ⟨lw_p22, List.forall_mem_cons.mpr ⟨lw_p23, List.forall_mem_cons.mpr ⟨lw_p24, List.forall_mem_cons.mpr ⟨lw_p25, List.forall_mem_cons.mpr ⟨lw_p26, List.forall_mem_cons.mpr ⟨lw_p27, List.forall_mem_cons.mpr ⟨lw_p28, List.forall_mem_cons.mpr ⟨lw_p29, List.forall_mem_cons.mpr ⟨lw_p30, List.forall_mem_cons.mpr ⟨lw_p31, fun _ h => absurd h List.not_mem_nil⟩⟩⟩⟩⟩⟩⟩⟩⟩⟩⟩⟩⟩⟩⟩⟩
theorem lw_p32 : lw_okq (⟨"OddNets", "leastSetBy", "(I)I"⟩, 8) := ⟨⟨by decide +kernel, by decide +kernel⟩, List.mem_of_getElem? (i := 13) (by decide +kernel), List.mem_of_getElem? (i := 345) (by decide +kernel), List.mem_of_getElem? (i := 346) (by decide +kernel)⟩
theorem lw_p33 : lw_okq (⟨"OddNets", "bringingSet", "(II)I"⟩, 8) := ⟨⟨by decide +kernel, by decide +kernel⟩, List.mem_of_getElem? (i := 13) (by decide +kernel), List.mem_of_getElem? (i := 357) (by decide +kernel), List.mem_of_getElem? (i := 358) (by decide +kernel)⟩
theorem lw_p34 : lw_okq (⟨"OddNets$Renumbering", "brings", "(LOddNets$Net;LOddNets$Net;)Z"⟩, 1) := ⟨⟨by decide +kernel, by decide +kernel⟩, List.mem_of_getElem? (i := 70) (by decide +kernel), List.mem_of_getElem? (i := 361) (by decide +kernel), List.mem_of_getElem? (i := 362) (by decide +kernel)⟩
theorem lw_p35 : lw_okq (⟨"OddNets", "kindOfSlot", "(I)I"⟩, 8) := ⟨⟨by decide +kernel, by decide +kernel⟩, List.mem_of_getElem? (i := 13) (by decide +kernel), List.mem_of_getElem? (i := 373) (by decide +kernel), List.mem_of_getElem? (i := 374) (by decide +kernel)⟩
theorem lw_p36 : lw_okq (⟨"OddNets$Renumbering", "kindOfClass", "(LOddNets$Net;)I"⟩, 1) := ⟨⟨by decide +kernel, by decide +kernel⟩, List.mem_of_getElem? (i := 70) (by decide +kernel), List.mem_of_getElem? (i := 377) (by decide +kernel), List.mem_of_getElem? (i := 378) (by decide +kernel)⟩
theorem lw_p37 : lw_okq (⟨"OddNets$Net", "areTwins", "(II)Z"⟩, 2) := ⟨⟨by decide +kernel, by decide +kernel⟩, List.mem_of_getElem? (i := 52) (by decide +kernel), List.mem_of_getElem? (i := 401) (by decide +kernel), List.mem_of_getElem? (i := 402) (by decide +kernel)⟩
theorem lw_p38 : lw_okq (⟨"OddNets$Renumbering", "keepersOfClass", "(LOddNets$Net;LOddNets$Net;)I"⟩, 1) := ⟨⟨by decide +kernel, by decide +kernel⟩, List.mem_of_getElem? (i := 70) (by decide +kernel), List.mem_of_getElem? (i := 409) (by decide +kernel), List.mem_of_getElem? (i := 410) (by decide +kernel)⟩
theorem lw_p39 : lw_okq (⟨"OddNets$Renumbering", "keepersOfNet", "(LOddNets$Net;I)I"⟩, 1) := ⟨⟨by decide +kernel, by decide +kernel⟩, List.mem_of_getElem? (i := 70) (by decide +kernel), List.mem_of_getElem? (i := 414) (by decide +kernel), List.mem_of_getElem? (i := 415) (by decide +kernel)⟩
theorem lw_p40 : lw_okq (⟨"OddNets$Renumbering", "placesOf", "(LOddNets$Net;I)I"⟩, 1) := ⟨⟨by decide +kernel, by decide +kernel⟩, List.mem_of_getElem? (i := 70) (by decide +kernel), List.mem_of_getElem? (i := 418) (by decide +kernel), List.mem_of_getElem? (i := 419) (by decide +kernel)⟩
theorem lw_p41 : lw_okq (⟨"OddNets$Table", "fill", "(LOddNets$Net;I)V"⟩, 5) := ⟨⟨by decide +kernel, by decide +kernel⟩, List.mem_of_getElem? (i := 80) (by decide +kernel), List.mem_of_getElem? (i := 433) (by decide +kernel), List.mem_of_getElem? (i := 434) (by decide +kernel)⟩
theorem lw_p42 : lw_okq (⟨"OddNets$Table", "eliminate", "()V"⟩, 5) := ⟨⟨by decide +kernel, by decide +kernel⟩, List.mem_of_getElem? (i := 80) (by decide +kernel), List.mem_of_getElem? (i := 438) (by decide +kernel), List.mem_of_getElem? (i := 439) (by decide +kernel)⟩
theorem lw_p43 : lw_okq (⟨"OddNets$Table", "pivotRow", "(I)I"⟩, 5) := ⟨⟨by decide +kernel, by decide +kernel⟩, List.mem_of_getElem? (i := 80) (by decide +kernel), List.mem_of_getElem? (i := 442) (by decide +kernel), List.mem_of_getElem? (i := 443) (by decide +kernel)⟩
theorem lw_p44 : lw_okq (⟨"OddNets$Table", "bringUp", "(I)V"⟩, 5) := ⟨⟨by decide +kernel, by decide +kernel⟩, List.mem_of_getElem? (i := 80) (by decide +kernel), List.mem_of_getElem? (i := 446) (by decide +kernel), List.mem_of_getElem? (i := 447) (by decide +kernel)⟩
theorem lw_p45 : lw_okq (⟨"OddNets$Table", "clearBelow", "(I)V"⟩, 5) := ⟨⟨by decide +kernel, by decide +kernel⟩, List.mem_of_getElem? (i := 80) (by decide +kernel), List.mem_of_getElem? (i := 450) (by decide +kernel), List.mem_of_getElem? (i := 451) (by decide +kernel)⟩
theorem lw_p46 : lw_okq (⟨"OddNets$Table", "determinant", "()J"⟩, 5) := ⟨⟨by decide +kernel, by decide +kernel⟩, List.mem_of_getElem? (i := 80) (by decide +kernel), List.mem_of_getElem? (i := 454) (by decide +kernel), List.mem_of_getElem? (i := 455) (by decide +kernel)⟩
theorem lw_p47 : lw_okq (⟨"OddNets$Shelf", "copy", "(LOddNets$Shelf;)V"⟩, 2) := ⟨⟨by decide +kernel, by decide +kernel⟩, List.mem_of_getElem? (i := 21) (by decide +kernel), List.mem_of_getElem? (i := 462) (by decide +kernel), List.mem_of_getElem? (i := 463) (by decide +kernel)⟩
def lw_privs_3 : List (MethodName × Nat) := [(⟨"OddNets", "leastSetBy", "(I)I"⟩, 8), (⟨"OddNets", "bringingSet", "(II)I"⟩, 8), (⟨"OddNets$Renumbering", "brings", "(LOddNets$Net;LOddNets$Net;)Z"⟩, 1), (⟨"OddNets", "kindOfSlot", "(I)I"⟩, 8), (⟨"OddNets$Renumbering", "kindOfClass", "(LOddNets$Net;)I"⟩, 1), (⟨"OddNets$Net", "areTwins", "(II)Z"⟩, 2), (⟨"OddNets$Renumbering", "keepersOfClass", "(LOddNets$Net;LOddNets$Net;)I"⟩, 1), (⟨"OddNets$Renumbering", "keepersOfNet", "(LOddNets$Net;I)I"⟩, 1), (⟨"OddNets$Renumbering", "placesOf", "(LOddNets$Net;I)I"⟩, 1), (⟨"OddNets$Table", "fill", "(LOddNets$Net;I)V"⟩, 5), (⟨"OddNets$Table", "eliminate", "()V"⟩, 5), (⟨"OddNets$Table", "pivotRow", "(I)I"⟩, 5), (⟨"OddNets$Table", "bringUp", "(I)V"⟩, 5), (⟨"OddNets$Table", "clearBelow", "(I)V"⟩, 5), (⟨"OddNets$Table", "determinant", "()J"⟩, 5), (⟨"OddNets$Shelf", "copy", "(LOddNets$Shelf;)V"⟩, 2)]
theorem lw_r3 : ∀ q ∈ lw_privs_3, lw_okq q := List.forall_mem_cons.mpr ⟨lw_p32, List.forall_mem_cons.mpr ⟨lw_p33, List.forall_mem_cons.mpr ⟨lw_p34, List.forall_mem_cons.mpr ⟨lw_p35, List.forall_mem_cons.mpr ⟨lw_p36, List.forall_mem_cons.mpr ⟨lw_p37, List.forall_mem_cons.mpr ⟨lw_p38, List.forall_mem_cons.mpr ⟨lw_p39, List.forall_mem_cons.mpr ⟨lw_p40, List.forall_mem_cons.mpr ⟨lw_p41, List.forall_mem_cons.mpr ⟨lw_p42, List.forall_mem_cons.mpr ⟨lw_p43, List.forall_mem_cons.mpr ⟨lw_p44, List.forall_mem_cons.mpr ⟨lw_p45, List.forall_mem_cons.mpr ⟨lw_p46, List.forall_mem_cons.mpr ⟨lw_p47, fun _ h => absurd h List.not_mem_nil⟩⟩⟩⟩⟩⟩⟩⟩⟩⟩⟩⟩⟩⟩⟩⟩
theorem lw_p48 : lw_okq (⟨"OddNets$Shelf", "isUnused", "()Z"⟩, 2) := ⟨⟨by decide +kernel, by decide +kernel⟩, List.mem_of_getElem? (i := 21) (by decide +kernel), List.mem_of_getElem? (i := 471) (by decide +kernel), List.mem_of_getElem? (i := 472) (by decide +kernel)⟩
theorem lw_p49 : lw_okq (⟨"OddNets", "differentClasses", "()I"⟩, 8) := ⟨⟨by decide +kernel, by decide +kernel⟩, List.mem_of_getElem? (i := 13) (by decide +kernel), List.mem_of_getElem? (i := 479) (by decide +kernel), List.mem_of_getElem? (i := 480) (by decide +kernel)⟩
theorem lw_p50 : lw_okq (⟨"OddNets", "differentMarks", "()I"⟩, 8) := ⟨⟨by decide +kernel, by decide +kernel⟩, List.mem_of_getElem? (i := 13) (by decide +kernel), List.mem_of_getElem? (i := 483) (by decide +kernel), List.mem_of_getElem? (i := 484) (by decide +kernel)⟩
theorem lw_p51 : lw_okq (⟨"OddNets", "isMarkedBefore", "(I)Z"⟩, 8) := ⟨⟨by decide +kernel, by decide +kernel⟩, List.mem_of_getElem? (i := 13) (by decide +kernel), List.mem_of_getElem? (i := 487) (by decide +kernel), List.mem_of_getElem? (i := 488) (by decide +kernel)⟩
theorem lw_p52 : lw_okq (⟨"OddNets", "differentKinds", "()I"⟩, 8) := ⟨⟨by decide +kernel, by decide +kernel⟩, List.mem_of_getElem? (i := 13) (by decide +kernel), List.mem_of_getElem? (i := 491) (by decide +kernel), List.mem_of_getElem? (i := 492) (by decide +kernel)⟩
theorem lw_p53 : lw_okq (⟨"OddNets", "keptImages", "()I"⟩, 8) := ⟨⟨by decide +kernel, by decide +kernel⟩, List.mem_of_getElem? (i := 13) (by decide +kernel), List.mem_of_getElem? (i := 495) (by decide +kernel), List.mem_of_getElem? (i := 496) (by decide +kernel)⟩
theorem lw_p54 : lw_okq (⟨"OddNetsModel", "many", "()I"⟩, 13) := ⟨⟨by decide +kernel, by decide +kernel⟩, List.mem_of_getElem? (i := 499) (by decide +kernel), List.mem_of_getElem? (i := 553) (by decide +kernel), List.mem_of_getElem? (i := 554) (by decide +kernel)⟩
theorem lw_p55 : lw_okq (⟨"OddNetsModel", "isNode", "(I)Z"⟩, 13) := ⟨⟨by decide +kernel, by decide +kernel⟩, List.mem_of_getElem? (i := 499) (by decide +kernel), List.mem_of_getElem? (i := 564) (by decide +kernel), List.mem_of_getElem? (i := 565) (by decide +kernel)⟩
theorem lw_p56 : lw_okq (⟨"OddNetsModel", "netOf", "(I)I"⟩, 13) := ⟨⟨by decide +kernel, by decide +kernel⟩, List.mem_of_getElem? (i := 499) (by decide +kernel), List.mem_of_getElem? (i := 574) (by decide +kernel), List.mem_of_getElem? (i := 575) (by decide +kernel)⟩
theorem lw_p57 : lw_okq (⟨"OddNetsModel", "faultAs", "(I)I"⟩, 13) := ⟨⟨by decide +kernel, by decide +kernel⟩, List.mem_of_getElem? (i := 499) (by decide +kernel), List.mem_of_getElem? (i := 597) (by decide +kernel), List.mem_of_getElem? (i := 598) (by decide +kernel)⟩
theorem lw_p58 : lw_okq (⟨"OddNetsModel", "areFit", "()Z"⟩, 13) := ⟨⟨by decide +kernel, by decide +kernel⟩, List.mem_of_getElem? (i := 499) (by decide +kernel), List.mem_of_getElem? (i := 608) (by decide +kernel), List.mem_of_getElem? (i := 609) (by decide +kernel)⟩
theorem lw_p59 : lw_okq (⟨"OddNetsModel", "fitFour", "(IIII)Z"⟩, 13) := ⟨⟨by decide +kernel, by decide +kernel⟩, List.mem_of_getElem? (i := 499) (by decide +kernel), List.mem_of_getElem? (i := 612) (by decide +kernel), List.mem_of_getElem? (i := 613) (by decide +kernel)⟩
theorem lw_p60 : lw_okq (⟨"OddNetsModel", "told", "(III)I"⟩, 13) := ⟨⟨by decide +kernel, by decide +kernel⟩, List.mem_of_getElem? (i := 499) (by decide +kernel), List.mem_of_getElem? (i := 616) (by decide +kernel), List.mem_of_getElem? (i := 617) (by decide +kernel)⟩
theorem lw_p61 : lw_okq (⟨"OddNetsModel", "placeOf", "(III)I"⟩, 13) := ⟨⟨by decide +kernel, by decide +kernel⟩, List.mem_of_getElem? (i := 499) (by decide +kernel), List.mem_of_getElem? (i := 620) (by decide +kernel), List.mem_of_getElem? (i := 621) (by decide +kernel)⟩
theorem lw_p62 : lw_okq (⟨"OddNetsModel", "netOfPad", "()I"⟩, 13) := ⟨⟨by decide +kernel, by decide +kernel⟩, List.mem_of_getElem? (i := 499) (by decide +kernel), List.mem_of_getElem? (i := 624) (by decide +kernel), List.mem_of_getElem? (i := 625) (by decide +kernel)⟩
theorem lw_p63 : lw_okq (⟨"OddNetsModel", "netOfTriples", "()I"⟩, 13) := ⟨⟨by decide +kernel, by decide +kernel⟩, List.mem_of_getElem? (i := 499) (by decide +kernel), List.mem_of_getElem? (i := 628) (by decide +kernel), List.mem_of_getElem? (i := 629) (by decide +kernel)⟩
def lw_privs_4 : List (MethodName × Nat) := [(⟨"OddNets$Shelf", "isUnused", "()Z"⟩, 2), (⟨"OddNets", "differentClasses", "()I"⟩, 8), (⟨"OddNets", "differentMarks", "()I"⟩, 8), (⟨"OddNets", "isMarkedBefore", "(I)Z"⟩, 8), (⟨"OddNets", "differentKinds", "()I"⟩, 8), (⟨"OddNets", "keptImages", "()I"⟩, 8), (⟨"OddNetsModel", "many", "()I"⟩, 13), (⟨"OddNetsModel", "isNode", "(I)Z"⟩, 13), (⟨"OddNetsModel", "netOf", "(I)I"⟩, 13), (⟨"OddNetsModel", "faultAs", "(I)I"⟩, 13), (⟨"OddNetsModel", "areFit", "()Z"⟩, 13), (⟨"OddNetsModel", "fitFour", "(IIII)Z"⟩, 13), (⟨"OddNetsModel", "told", "(III)I"⟩, 13), (⟨"OddNetsModel", "placeOf", "(III)I"⟩, 13), (⟨"OddNetsModel", "netOfPad", "()I"⟩, 13), (⟨"OddNetsModel", "netOfTriples", "()I"⟩, 13)]
theorem lw_r4 : ∀ q ∈ lw_privs_4, lw_okq q := List.forall_mem_cons.mpr ⟨lw_p48, List.forall_mem_cons.mpr ⟨lw_p49, List.forall_mem_cons.mpr ⟨lw_p50, List.forall_mem_cons.mpr ⟨lw_p51, List.forall_mem_cons.mpr ⟨lw_p52, List.forall_mem_cons.mpr ⟨lw_p53, List.forall_mem_cons.mpr ⟨lw_p54, List.forall_mem_cons.mpr ⟨lw_p55, List.forall_mem_cons.mpr ⟨lw_p56, List.forall_mem_cons.mpr ⟨lw_p57, List.forall_mem_cons.mpr ⟨lw_p58, List.forall_mem_cons.mpr ⟨lw_p59, List.forall_mem_cons.mpr ⟨lw_p60, List.forall_mem_cons.mpr ⟨lw_p61, List.forall_mem_cons.mpr ⟨lw_p62, List.forall_mem_cons.mpr ⟨lw_p63, fun _ h => absurd h List.not_mem_nil⟩⟩⟩⟩⟩⟩⟩⟩⟩⟩⟩⟩⟩⟩⟩⟩
theorem lw_p64 : lw_okq (⟨"OddNetsModel", "hold", "(II)I"⟩, 13) := ⟨⟨by decide +kernel, by decide +kernel⟩, List.mem_of_getElem? (i := 499) (by decide +kernel), List.mem_of_getElem? (i := 632) (by decide +kernel), List.mem_of_getElem? (i := 633) (by decide +kernel)⟩
theorem lw_p65 : lw_okq (⟨"OddNetsModel", "regular", "(I)I"⟩, 13) := ⟨⟨by decide +kernel, by decide +kernel⟩, List.mem_of_getElem? (i := 499) (by decide +kernel), List.mem_of_getElem? (i := 662) (by decide +kernel), List.mem_of_getElem? (i := 663) (by decide +kernel)⟩
theorem lw_p66 : lw_okq (⟨"OddNetsModel", "oddNodes", "(I)I"⟩, 13) := ⟨⟨by decide +kernel, by decide +kernel⟩, List.mem_of_getElem? (i := 499) (by decide +kernel), List.mem_of_getElem? (i := 666) (by decide +kernel), List.mem_of_getElem? (i := 667) (by decide +kernel)⟩
theorem lw_p67 : lw_okq (⟨"OddNetsModel", "beginFound", "()V"⟩, 13) := ⟨⟨by decide +kernel, by decide +kernel⟩, List.mem_of_getElem? (i := 499) (by decide +kernel), List.mem_of_getElem? (i := 701) (by decide +kernel), List.mem_of_getElem? (i := 702) (by decide +kernel)⟩
theorem lw_p68 : lw_okq (⟨"OddNetsModel", "find", "(I)V"⟩, 13) := ⟨⟨by decide +kernel, by decide +kernel⟩, List.mem_of_getElem? (i := 499) (by decide +kernel), List.mem_of_getElem? (i := 705) (by decide +kernel), List.mem_of_getElem? (i := 706) (by decide +kernel)⟩
theorem lw_p69 : lw_okq (⟨"OddNetsModel", "isBy", "(II)Z"⟩, 13) := ⟨⟨by decide +kernel, by decide +kernel⟩, List.mem_of_getElem? (i := 499) (by decide +kernel), List.mem_of_getElem? (i := 713) (by decide +kernel), List.mem_of_getElem? (i := 714) (by decide +kernel)⟩
theorem lw_p70 : lw_okq (⟨"OddNetsModel", "isEvenly", "(II)Z"⟩, 13) := ⟨⟨by decide +kernel, by decide +kernel⟩, List.mem_of_getElem? (i := 499) (by decide +kernel), List.mem_of_getElem? (i := 717) (by decide +kernel), List.mem_of_getElem? (i := 718) (by decide +kernel)⟩
theorem lw_p71 : lw_okq (⟨"OddNetsModel", "setBetween", "(II)I"⟩, 13) := ⟨⟨by decide +kernel, by decide +kernel⟩, List.mem_of_getElem? (i := 499) (by decide +kernel), List.mem_of_getElem? (i := 725) (by decide +kernel), List.mem_of_getElem? (i := 726) (by decide +kernel)⟩
theorem lw_p72 : lw_okq (⟨"OddNetsModel", "comesTo", "(IIIZ)I"⟩, 13) := ⟨⟨by decide +kernel, by decide +kernel⟩, List.mem_of_getElem? (i := 499) (by decide +kernel), List.mem_of_getElem? (i := 729) (by decide +kernel), List.mem_of_getElem? (i := 730) (by decide +kernel)⟩
theorem lw_p73 : lw_okq (⟨"OddNetsModel", "layRank", "(II)V"⟩, 13) := ⟨⟨by decide +kernel, by decide +kernel⟩, List.mem_of_getElem? (i := 499) (by decide +kernel), List.mem_of_getElem? (i := 736) (by decide +kernel), List.mem_of_getElem? (i := 737) (by decide +kernel)⟩
theorem lw_p74 : lw_okq (⟨"OddNetsModel", "renumbered", "(II)I"⟩, 13) := ⟨⟨by decide +kernel, by decide +kernel⟩, List.mem_of_getElem? (i := 499) (by decide +kernel), List.mem_of_getElem? (i := 740) (by decide +kernel), List.mem_of_getElem? (i := 741) (by decide +kernel)⟩
theorem lw_p75 : lw_okq (⟨"OddNetsModel", "kindOf", "(II)I"⟩, 13) := ⟨⟨by decide +kernel, by decide +kernel⟩, List.mem_of_getElem? (i := 499) (by decide +kernel), List.mem_of_getElem? (i := 748) (by decide +kernel), List.mem_of_getElem? (i := 749) (by decide +kernel)⟩
theorem lw_p76 : lw_okq (⟨"OddNetsModel", "layTable", "(II)V"⟩, 13) := ⟨⟨by decide +kernel, by decide +kernel⟩, List.mem_of_getElem? (i := 499) (by decide +kernel), List.mem_of_getElem? (i := 762) (by decide +kernel), List.mem_of_getElem? (i := 763) (by decide +kernel)⟩
theorem lw_p77 : lw_okq (⟨"OddNetsModel", "workOut", "()V"⟩, 13) := ⟨⟨by decide +kernel, by decide +kernel⟩, List.mem_of_getElem? (i := 499) (by decide +kernel), List.mem_of_getElem? (i := 766) (by decide +kernel), List.mem_of_getElem? (i := 767) (by decide +kernel)⟩
theorem lw_p78 : lw_okq (⟨"OddNetsModel", "rowWith", "(II)I"⟩, 13) := ⟨⟨by decide +kernel, by decide +kernel⟩, List.mem_of_getElem? (i := 499) (by decide +kernel), List.mem_of_getElem? (i := 770) (by decide +kernel), List.mem_of_getElem? (i := 771) (by decide +kernel)⟩
theorem lw_p79 : lw_okq (⟨"OddNetsModel", "swapRows", "(II)V"⟩, 13) := ⟨⟨by decide +kernel, by decide +kernel⟩, List.mem_of_getElem? (i := 499) (by decide +kernel), List.mem_of_getElem? (i := 774) (by decide +kernel), List.mem_of_getElem? (i := 775) (by decide +kernel)⟩
def lw_privs_5 : List (MethodName × Nat) := [(⟨"OddNetsModel", "hold", "(II)I"⟩, 13), (⟨"OddNetsModel", "regular", "(I)I"⟩, 13), (⟨"OddNetsModel", "oddNodes", "(I)I"⟩, 13), (⟨"OddNetsModel", "beginFound", "()V"⟩, 13), (⟨"OddNetsModel", "find", "(I)V"⟩, 13), (⟨"OddNetsModel", "isBy", "(II)Z"⟩, 13), (⟨"OddNetsModel", "isEvenly", "(II)Z"⟩, 13), (⟨"OddNetsModel", "setBetween", "(II)I"⟩, 13), (⟨"OddNetsModel", "comesTo", "(IIIZ)I"⟩, 13), (⟨"OddNetsModel", "layRank", "(II)V"⟩, 13), (⟨"OddNetsModel", "renumbered", "(II)I"⟩, 13), (⟨"OddNetsModel", "kindOf", "(II)I"⟩, 13), (⟨"OddNetsModel", "layTable", "(II)V"⟩, 13), (⟨"OddNetsModel", "workOut", "()V"⟩, 13), (⟨"OddNetsModel", "rowWith", "(II)I"⟩, 13), (⟨"OddNetsModel", "swapRows", "(II)V"⟩, 13)]
theorem lw_r5 : ∀ q ∈ lw_privs_5, lw_okq q := List.forall_mem_cons.mpr ⟨lw_p64, List.forall_mem_cons.mpr ⟨lw_p65, List.forall_mem_cons.mpr ⟨lw_p66, List.forall_mem_cons.mpr ⟨lw_p67, List.forall_mem_cons.mpr ⟨lw_p68, List.forall_mem_cons.mpr ⟨lw_p69, List.forall_mem_cons.mpr ⟨lw_p70, List.forall_mem_cons.mpr ⟨lw_p71, List.forall_mem_cons.mpr ⟨lw_p72, List.forall_mem_cons.mpr ⟨lw_p73, List.forall_mem_cons.mpr ⟨lw_p74, List.forall_mem_cons.mpr ⟨lw_p75, List.forall_mem_cons.mpr ⟨lw_p76, List.forall_mem_cons.mpr ⟨lw_p77, List.forall_mem_cons.mpr ⟨lw_p78, List.forall_mem_cons.mpr ⟨lw_p79, fun _ h => absurd h List.not_mem_nil⟩⟩⟩⟩⟩⟩⟩⟩⟩⟩⟩⟩⟩⟩⟩⟩
theorem lw_p80 : lw_okq (⟨"OddNetsModel", "clearBelow", "(IIJ)V"⟩, 13) := ⟨⟨by decide +kernel, by decide +kernel⟩, List.mem_of_getElem? (i := 499) (by decide +kernel), List.mem_of_getElem? (i := 778) (by decide +kernel), List.mem_of_getElem? (i := 779) (by decide +kernel)⟩
theorem lw_p81 : lw_okq (⟨"OddNetsModel", "classes", "(Z)I"⟩, 13) := ⟨⟨by decide +kernel, by decide +kernel⟩, List.mem_of_getElem? (i := 499) (by decide +kernel), List.mem_of_getElem? (i := 794) (by decide +kernel), List.mem_of_getElem? (i := 795) (by decide +kernel)⟩
def lw_privs_6 : List (MethodName × Nat) := [(⟨"OddNetsModel", "clearBelow", "(IIJ)V"⟩, 13), (⟨"OddNetsModel", "classes", "(Z)I"⟩, 13)]
theorem lw_r6 : ∀ q ∈ lw_privs_6, lw_okq q := List.forall_mem_cons.mpr ⟨lw_p80, List.forall_mem_cons.mpr ⟨lw_p81, fun _ h => absurd h List.not_mem_nil⟩⟩
def lw_privs : List (MethodName × Nat) := lw_privs_1 ++ (lw_privs_2 ++ (lw_privs_3 ++ (lw_privs_4 ++ (lw_privs_5 ++ (lw_privs_6)))))
def lw_tbl : List Cond := k2_sels lw_privs ++ tables_1
theorem lw_privs_ok : ∀ q ∈ lw_privs, lw_okq q := by
  show ∀ q ∈ lw_privs_1 ++ (lw_privs_2 ++ (lw_privs_3 ++ (lw_privs_4 ++ (lw_privs_5 ++ (lw_privs_6))))), lw_okq q
  exact List.forall_mem_append.mpr ⟨lw_r1, List.forall_mem_append.mpr ⟨lw_r2, List.forall_mem_append.mpr ⟨lw_r3, List.forall_mem_append.mpr ⟨lw_r4, List.forall_mem_append.mpr ⟨lw_r5, lw_r6⟩⟩⟩⟩⟩
end
section
def va_AOA (ty : FieldType) (U : State) : Prop := (Cond.arrayOver (.array ty)).before #[] U = true
theorem va_AOA.of {ty : FieldType} {A : Array Value} {U : State} (h : (Cond.arrayOver (.array ty)).before A U = true) : va_AOA ty U := h
theorem va_AOA.use {ty : FieldType} {A : Array Value} {U : State} (h : va_AOA ty U) : (Cond.arrayOver (.array ty)).before A U = true := h
/-! ===== BEGIN new T[n][m]: the outer array a place, the inner ones among the pooled ===== -/
/-- f, but v at every address of l -/
def vr_up {α : Type} (f : Nat → α) (l : List Nat) (v : α) : Nat → α := fun a => if a ∈ l then v else f a
theorem vr_up_in {α : Type} {f : Nat → α} {l : List Nat} {v : α} {a : Nat} (h : a ∈ l) : vr_up f l v a = v := if_pos h
theorem vr_up_ne {α : Type} {f : Nat → α} {l : List Nat} {v : α} {a : Nat} (h : a ∉ l) : vr_up f l v a = f a := if_neg h
theorem vr_rows {L l : List Nat} {f : Nat → va_E} {e : va_E} (h : ∀ a, a ∈ l → a ∉ L) : va_pl L f ++ l.map (fun a => (a, e)) = va_pl (L ++ l) (vr_up f l e) := by
  unfold va_pl
  rw [List.map_append]
  congr 1
  · apply List.map_congr_left
    intro a ha
    rw [vr_up_ne (fun q => h a q ha)]
  · apply List.map_congr_left
    intro a ha
    rw [vr_up_in ha]
theorem vr_lay {X rows : va_W} {x : Nat × va_E} {pl : va_W} {D : va_G} {cl : List vw_C} {H : Heap} (hP : va_P D cl (((X ++ pl) ++ [x]) ++ rows) H) : va_P D cl ((X ++ [x]) ++ (pl ++ rows)) H := by
  rw [List.append_assoc (X ++ pl)] at hP
  have h := va_P.swap hP
  rw [← List.append_assoc X] at h
  have h2 := va_P.swap h
  rw [List.append_assoc (X ++ [x])] at h2
  exact h2
theorem vr_layD {X rows : va_W} {x : Nat × va_E} {pl : va_W} {A : Nat → Prop} (hD : va_D A (((X ++ pl) ++ [x]) ++ rows)) : va_D A ((X ++ [x]) ++ (pl ++ rows)) := by
  rw [List.append_assoc (X ++ pl)] at hD
  have h := va_D.swap hD
  rw [← List.append_assoc X] at h
  have h2 := va_D.swap h
  rw [List.append_assoc (X ++ [x])] at h2
  exact h2
theorem vr_outer (c : ClassId) (N h0 : Nat) : ∀ i : Nat, Jvm.Free.Multi.outerC c N h0 i = arrV c N (fun j => va_rf (if j < i then some (h0 + 1 + j) else none))
  | 0 => by
    show ({ cls := c, slots := Array.replicate N .null, vm := .none } : Cell) = _
    rw [arrV_new]
    refine congrArg (arrV c N) (funext fun j => ?_)
    simp [va_rf]
  | i + 1 => by
    show (Jvm.Free.Multi.outerC c N h0 i).setSlot i (.ref (h0 + 1 + i)) = _
    rw [vr_outer c N h0 i, arrV_store]
    refine congrArg (arrV c N) (funext fun j => ?_)
    by_cases e : j = i
    · subst e
      simp [updV, va_rf]
    · by_cases h : j < i
      · simp [updV, e, h, Nat.lt_succ_of_lt h]
      · simp [updV, e, h, show ¬ j < i + 1 by omega]
section VGM
variable {p : Program} {l : Launch} {e : Env} {R : Room} {s : State} {m : MethodId} {args : Array Value} {below : List Frame} {meth : Method} {c : Code} {H : Heap} {locs : List Loc} {cells slots : Nat} {Q : State → Prop}
variable {cc : ByteArray} {pc : Nat} {ls : Array Slot} {rest : List Value} {D : va_G} {cl : List vw_C} {A : Nat → Prop} {a : Nat} {tys : List (ClassId × FieldType)} {ws : va_W} {H0 : Heap}
theorem va_mna {X : va_W} {L : List Nat} {f : Nat → va_E} {cc : ByteArray} (hexec : p.tables.exec = Jvm.exec) (hb : c.code = cc) {own : String} {index : Nat} {ty : FieldType} {cy : ClassId} (hown : s.vm.findClass own = some m.cls) (hclink : (Cond.classLink own index ("[" ++ (FieldType.array ty).toString)).before args s = true) (hover : va_AOA ty s) (harr : (Cond.arrayClass ty).before args s = true) (hcy : s.vm.findClass (FieldType.array ty).toString = some cy)
    (hK : va_K D cl tys s) (hP : va_P D cl (X ++ va_pl L f) H) (hD : va_D A (X ++ va_pl L f)) (hS : va_S A H0 H locs) (hA : ∀ q, H0.size ≤ q → A q) {n k : Int32} {N' K' : Nat} {z : vp_A} (hn : ¬ n < 0) (hk : ¬ k < 0) (hN : n.toNatClampNeg = N') (hM : k.toNatClampNeg = K')
    (hb1 : N' * 4 ≤ 536870912) (hb2 : K' * componentBytes ty ≤ 536870912) (hb3 : K' ≤ 536870912) (hdf : fits ty (defaultValue ty) = true) (hdd : (defaultValue ty).isDefault = true) (hcells : cells + (1 + N') ≤ R.cells) (hslots : slots + (N' + N' * K') ≤ R.slots) (hz : ∀ c : ClassId, Jvm.Free.Multi.innerC c K' (defaultValue ty) = vp_cell c z) (hdg : decode cc pc = .ok (.multianewarray index 2, 4))
    (kk : ∀ (q : Nat) (r : Nat → Nat) (cA : ClassId) (H1 : Heap), (∀ i j : Nat, i < N' → j < N' → r i = r j → i = j) → (∀ i : Nat, i < N' → r i ∉ L) → va_K D cl (tys ++ [(cA, .array ty)]) s →
      va_P D cl ((X ++ [(q, .inl (cA, N', .inr (.inr (.inr (.inr (fun i => if i < N' then some (r i) else none))))))]) ++ va_pl (L ++ (List.range N').map r) (vr_up f ((List.range N').map r) (.inl (cy, z)))) H1 → va_D A ((X ++ [(q, .inl (cA, N', .inr (.inr (.inr (.inr (fun i => if i < N' then some (r i) else none))))))]) ++ va_pl (L ++ (List.range N').map r) (vr_up f ((List.range N').map r) (.inl (cy, z)))) → va_S A H0 H1 locs →
      W p l e R s m args below meth c H1 locs (cells + 1 + N') (slots + N' + N' * K') Q (F0 m (pc + 4) ls (.ref q :: rest))) : W p l e R s m args below meth c H locs cells slots Q (F0 m pc ls (.int k :: .int n :: rest)) := by
  subst hN
  subst hM
  intro T hT Xs
  obtain ⟨vm₁, cA, comp, -, fA, fC, hO, -, X', step⟩ := Xs.multianewarray2F hexec hown hclink (va_AOA.use hover) harr (g := F0 m pc ls (.int k :: .int n :: rest)) rfl (by rw [hb]; exact hdg) rfl hn hk hb1 hb2 hb3 hdf hdd hcells hslots
  have ec : some cy = some comp := hcy.symm.trans fC
  cases ec
  generalize hF : Jvm.Free.Multi.fill (T.setVm vm₁) cA cy n.toNatClampNeg k.toNatClampNeg (defaultValue ty) n.toNatClampNeg = F at X' step
  have hTh : (T.setVm vm₁).heap = H := hT
  obtain ⟨f1, f2, -, -⟩ := Jvm.Free.Multi.fill_facts (T.setVm vm₁) cA cy n.toNatClampNeg k.toNatClampNeg (defaultValue ty) n.toNatClampNeg
  rw [hF, hTh] at f1 f2
  have hold : ∀ x : Nat, x < H.size → F.heap[x]? = H[x]? := fun x hx => by
    have := Jvm.Free.Multi.fill_old (T.setVm vm₁) cA cy n.toNatClampNeg k.toNatClampNeg (defaultValue ty) (a := x) (by rw [hTh]; exact hx) n.toNatClampNeg
    rw [hF, hTh] at this
    exact this
  have hrow : ∀ j : Nat, j < n.toNatClampNeg → F.heap[H.size + 1 + j]? = some (vp_cell cy z) := fun j hj => by
    have := Jvm.Free.Multi.fill_inner (T.setVm vm₁) cA cy n.toNatClampNeg k.toNatClampNeg (defaultValue ty) n.toNatClampNeg j hj
    rw [hF, hTh, hz] at this
    exact this
  have hout : Jvm.Free.Multi.outerC cA n.toNatClampNeg H.size n.toNatClampNeg = vp_cell cA (n.toNatClampNeg, .inr (.inr (.inr (.inr (fun i => if i < n.toNatClampNeg then some (H.size + 1 + i) else none))))) := by
    rw [vp_cell_q]
    exact vr_outer cA n.toNatClampNeg H.size n.toNatClampNeg
  rw [hout] at f2
  have hlt : ∀ a, a ∈ L → a < H.size := fun a ha => by
    obtain ⟨k9, hk9⟩ := va_pl_get (X := X) (f := f) ha
    exact (hP k9 _ hk9).lt
  have hnl : ∀ i : Nat, i < n.toNatClampNeg → H.size + 1 + i ∉ L := fun i _ h => by
    have := hlt _ h
    omega
  have hnm : ∀ a, a ∈ (List.range n.toNatClampNeg).map (fun i => H.size + 1 + i) → a ∉ L := fun a ha h => by
    obtain ⟨i, -, rfl⟩ := List.mem_map.mp ha
    have := hlt _ h
    omega
  have hP0 : va_P D cl (X ++ va_pl L f) F.heap := hP.kept (fun k9 x hx => hold x.1 ((hP k9 x hx).lt))
  have hP1 : va_P D cl ((X ++ va_pl L f) ++ [(H.size, .inl (cA, n.toNatClampNeg, .inr (.inr (.inr (.inr (fun i => if i < n.toNatClampNeg then some (H.size + 1 + i) else none))))))]) F.heap := hP0.app (fun k9 x hx => by
    have h0 : k9 < 1 := (List.getElem?_eq_some_iff.mp hx).1
    rw [show k9 = 0 by omega] at hx
    cases hx
    exact f2)
  have hP2 : va_P D cl (((X ++ va_pl L f) ++ [(H.size, .inl (cA, n.toNatClampNeg, .inr (.inr (.inr (.inr (fun i => if i < n.toNatClampNeg then some (H.size + 1 + i) else none))))))]) ++ ((List.range n.toNatClampNeg).map (fun i => H.size + 1 + i)).map (fun a => (a, .inl (cy, z)))) F.heap := hP1.app (fun k9 x hx => by
    obtain ⟨a, ha, rfl⟩ := List.mem_map.mp (List.mem_of_getElem? hx)
    obtain ⟨i, hi, rfl⟩ := List.mem_map.mp ha
    exact hrow i (List.mem_range.mp hi))
  have hD2 : va_D A (((X ++ va_pl L f) ++ [(H.size, .inl (cA, n.toNatClampNeg, .inr (.inr (.inr (.inr (fun i => if i < n.toNatClampNeg then some (H.size + 1 + i) else none))))))]) ++ ((List.range n.toNatClampNeg).map (fun i => H.size + 1 + i)).map (fun a => (a, .inl (cy, z)))) := by
    have hD1 := hD.push (e := .inl (cA, n.toNatClampNeg, .inr (.inr (.inr (.inr (fun i => if i < n.toNatClampNeg then some (H.size + 1 + i) else none)))))) hP rfl (hA _ hS.1)
    generalize hW1 : (X ++ va_pl L f) ++ [(H.size, .inl (cA, n.toNatClampNeg, .inr (.inr (.inr (.inr (fun i => if i < n.toNatClampNeg then some (H.size + 1 + i) else none))))))] = W1 at hD1 hP1 ⊢
    have hle : ∀ (k9 : Nat) (x : Nat × va_E), W1[k9]? = some x → x.1 ≤ H.size := fun k9 x hx => by
      rw [← hW1] at hx
      by_cases hl : k9 < (X ++ va_pl L f).length
      · rw [List.getElem?_append_left hl] at hx
        exact Nat.le_of_lt ((hP k9 x hx).lt)
      · rw [List.getElem?_append_right (by omega)] at hx
        have h0 : k9 - (X ++ va_pl L f).length < 1 := (List.getElem?_eq_some_iff.mp hx).1
        rw [show k9 - (X ++ va_pl L f).length = 0 by omega] at hx
        cases hx
        exact Nat.le_refl _
    have hr : ∀ (k9 : Nat) (x : Nat × va_E), (((List.range n.toNatClampNeg).map (fun i => H.size + 1 + i)).map (fun a => ((a, .inl (cy, z)) : Nat × va_E)))[k9]? = some x → x.1 = H.size + 1 + k9 := fun k9 x hx => by
      rw [List.getElem?_map, List.getElem?_map] at hx
      by_cases h9 : k9 < n.toNatClampNeg
      · rw [List.getElem?_range h9] at hx
        cases hx
        rfl
      · have hn0 : (List.range n.toNatClampNeg)[k9]? = none := List.getElem?_eq_none (by rw [List.length_range]; omega)
        rw [hn0] at hx
        cases hx
    refine ⟨fun i j x y hi hj hxy => ?_, fun k9 x hx => ?_⟩
    · by_cases h1 : i < W1.length <;> by_cases h2 : j < W1.length
      · rw [List.getElem?_append_left h1] at hi
        rw [List.getElem?_append_left h2] at hj
        exact hD1.1 i j x y hi hj hxy
      · rw [List.getElem?_append_left h1] at hi
        rw [List.getElem?_append_right (by omega)] at hj
        have := hle _ _ hi
        have := hr _ _ hj
        omega
      · rw [List.getElem?_append_right (by omega)] at hi
        rw [List.getElem?_append_left h2] at hj
        have := hle _ _ hj
        have := hr _ _ hi
        omega
      · rw [List.getElem?_append_right (by omega)] at hi hj
        have := hr _ _ hi
        have := hr _ _ hj
        omega
    · by_cases h1 : k9 < W1.length
      · rw [List.getElem?_append_left h1] at hx
        exact hD1.2 k9 x hx
      · rw [List.getElem?_append_right (by omega)] at hx
        have := hr _ _ hx
        exact hA _ (by have := hS.1; omega)
  have hAr : ArrOfT s cA (.array ty) := fun N9 z9 => by
    obtain ⟨-, k9, hk9, cm9, hkk9⟩ := (hO 0 0 0).1
    exact ⟨(fun q hq => by cases hq), k9, hk9, cm9, hkk9⟩
  have hK2 : va_K D cl (tys ++ [(cA, .array ty)]) s := ⟨hK.1, fun k9 x hx => by
    by_cases hl : k9 < tys.length
    · rw [List.getElem?_append_left hl] at hx
      exact hK.2 k9 x hx
    · rw [List.getElem?_append_right (by omega)] at hx
      have h0 : k9 - tys.length < 1 := (List.getElem?_eq_some_iff.mp hx).1
      rw [show k9 - tys.length = 0 by omega] at hx
      cases hx
      exact ⟨hAr, fA⟩⟩
  obtain ⟨t, a1, b1⟩ := kk H.size (fun i => H.size + 1 + i) cA F.heap (fun i j _ _ h => by have h9 : H.size + 1 + i = H.size + 1 + j := h; omega) hnl hK2 (by rw [← vr_rows hnm]; exact vr_lay hP2) (by rw [← vr_rows hnm]; exact vr_layD hD2) ⟨by rw [f1]; have := hS.1; omega, fun x h1 h2 => (hold x (Nat.lt_of_lt_of_le h1 hS.1)).trans (hS.2.1 x h1 h2), hS.2.2⟩ F rfl X'
  refine ⟨t, step t ?_, b1⟩
  have e : T.heap.size = H.size := by rw [hT]
  rw [e]
  exact a1
end VGM
/-! ===== END ===== -/
end
section
/-! ===== BEGIN words of one list among another's, by their places ===== -/
theorem goodIn_r {big : List Cond} (ws : List Cond) (ps : List Nat) (hp : ws = ps.filterMap (fun i => big[i]?)) (h : ws.all goodWord = true) : GoodIn big ws := by
  intro w hw
  have h1 := List.all_eq_true.mp h w hw
  rw [hp] at hw
  obtain ⟨i, -, hi⟩ := List.mem_filterMap.mp hw
  have hm : w ∈ big := by first | exact List.mem_of_getElem? hi | exact List.getElem?_mem hi
  exact ⟨hm, good_of_word h1⟩
theorem goodIn_app {big a b : List Cond} (ha : GoodIn big a) (hb : GoodIn big b) : GoodIn big (a ++ b) := fun w h => (List.mem_append.mp h).elim (ha w) (hb w)
theorem goodIn_ca {big a b : List Cond} {c : Cond} (ha : GoodIn big (c :: a)) (hb : GoodIn big b) : GoodIn big (c :: (a ++ b)) := fun w h => (List.mem_cons.mp h).elim (fun e => ha w (List.mem_cons.mpr (Or.inl e))) (fun h => (List.mem_append.mp h).elim (fun h => ha w (List.mem_cons.mpr (Or.inr h))) (hb w))
theorem goodIn_sub {big ws : List Cond} (hm : ∀ w ∈ ws, w ∈ big) (h : ws.all goodWord = true) : GoodIn big ws := fun w hw => ⟨hm w hw, good_of_word (List.all_eq_true.mp h w hw)⟩
/-! ===== END ===== -/


/-! ===== BEGIN printed: names, fields, word lists, decode rows ===== -/
def RX0 : String := "OddNets$Net"
def TX0 : u_T := fun k => match k with
  | 0 => ("OddNets$Net", "many", "I", false)
  | _ => ("OddNets$Net", "rows", "[I", true)
def tyX0 : Nat → FieldType := fun k => match k with
  | 0 => .int
  | _ => .array .int
abbrev wsX00 : List Cond := u_ws RX0 TX0 2
theorem nmX0 : ∀ a, a < 2 → ∀ b, b < 2 → a ≠ b → (TX0 a).2.1 ≠ (TX0 b).2.1 := by decide +kernel
theorem tyX0_ok : ∀ k, k < 2 → parseFieldDescriptor (TX0 k).2.2.1 = some (tyX0 k) := by decide +kernel
abbrev cX0_init : ByteArray := prog_2_method_1_code
def yX0_init : MethodName := ⟨RX0, "<init>", "()V"⟩
abbrev cX0_clear : ByteArray := prog_2_method_2_code
def yX0_clear : MethodName := ⟨RX0, "clear", "(I)V"⟩
abbrev cX0_connect : ByteArray := prog_2_method_3_code
def yX0_connect : MethodName := ⟨RX0, "connect", "(IIZ)V"⟩
abbrev cX0_takeNumber : ByteArray := prog_2_method_4_code
def yX0_takeNumber : MethodName := ⟨RX0, "takeNumber", "(I)V"⟩
abbrev cX0_takePairs : ByteArray := prog_2_method_5_code
def yX0_takePairs : MethodName := ⟨RX0, "takePairs", "(LOddNets$Pad;)V"⟩
abbrev cX0_takeTriples : ByteArray := prog_2_method_6_code
def yX0_takeTriples : MethodName := ⟨RX0, "takeTriples", "(LOddNets$Pad;)Z"⟩
abbrev cX0_copySwitched : ByteArray := prog_2_method_7_code
def yX0_copySwitched : MethodName := ⟨RX0, "copySwitched", "(LOddNets$Net;I)V"⟩
abbrev cX0_switchBy : ByteArray := prog_2_method_8_code
def yX0_switchBy : MethodName := ⟨RX0, "switchBy", "(I)V"⟩
abbrev cX0_leaveAlone : ByteArray := prog_2_method_9_code
def yX0_leaveAlone : MethodName := ⟨RX0, "leaveAlone", "(I)V"⟩
abbrev cX0_drop : ByteArray := prog_2_method_10_code
def yX0_drop : MethodName := ⟨RX0, "drop", "(I)V"⟩
abbrev cX0_allNodes : ByteArray := prog_2_method_11_code
def yX0_allNodes : MethodName := ⟨RX0, "allNodes", "()I"⟩
abbrev cX0_number : ByteArray := prog_2_method_12_code
def yX0_number : MethodName := ⟨RX0, "number", "()I"⟩
abbrev cX0_joined : ByteArray := prog_2_method_13_code
def yX0_joined : MethodName := ⟨RX0, "joined", "(II)I"⟩
abbrev cX0_degree : ByteArray := prog_2_method_14_code
def yX0_degree : MethodName := ⟨RX0, "degree", "(I)I"⟩
abbrev cX0_shared : ByteArray := prog_2_method_15_code
def yX0_shared : MethodName := ⟨RX0, "shared", "(II)I"⟩
abbrev cX0_joinedPairs : ByteArray := prog_2_method_16_code
def yX0_joinedPairs : MethodName := ⟨RX0, "joinedPairs", "()I"⟩
abbrev cX0_isOdd : ByteArray := prog_2_method_17_code
def yX0_isOdd : MethodName := ⟨RX0, "isOdd", "(III)Z"⟩
abbrev cX0_oddTriplesAtPair : ByteArray := prog_2_method_18_code
def yX0_oddTriplesAtPair : MethodName := ⟨RX0, "oddTriplesAtPair", "(II)I"⟩
abbrev cX0_oddTriplesAtNode : ByteArray := prog_2_method_19_code
def yX0_oddTriplesAtNode : MethodName := ⟨RX0, "oddTriplesAtNode", "(I)I"⟩
abbrev cX0_oddTriples : ByteArray := prog_2_method_20_code
def yX0_oddTriples : MethodName := ⟨RX0, "oddTriples", "()I"⟩
abbrev cX0_oddTriplesOfEachPair : ByteArray := prog_2_method_21_code
def yX0_oddTriplesOfEachPair : MethodName := ⟨RX0, "oddTriplesOfEachPair", "()I"⟩
abbrev cX0_oddDegrees : ByteArray := prog_2_method_22_code
def yX0_oddDegrees : MethodName := ⟨RX0, "oddDegrees", "()I"⟩
abbrev cX0_eachDegreeIs : ByteArray := prog_2_method_23_code
def yX0_eachDegreeIs : MethodName := ⟨RX0, "eachDegreeIs", "(I)Z"⟩
abbrev cX0_isStrong : ByteArray := prog_2_method_24_code
def yX0_isStrong : MethodName := ⟨RX0, "isStrong", "()Z"⟩
abbrev cX0_eachPairSharesAlike : ByteArray := prog_2_method_25_code
def yX0_eachPairSharesAlike : MethodName := ⟨RX0, "eachPairSharesAlike", "(I)Z"⟩
abbrev cX0_areTwins : ByteArray := prog_2_method_26_code
def yX0_areTwins : MethodName := ⟨RX0, "areTwins", "(II)Z"⟩
def RX1 : String := "OddNets$Pad"
def TX1 : u_T := fun k => match k with
  | 0 => ("OddNets$Pad", "size", "I", false)
  | _ => ("OddNets$Pad", "signs", "[I", true)
def tyX1 : Nat → FieldType := fun k => match k with
  | 0 => .int
  | _ => .array .int
abbrev wsX10 : List Cond := u_ws RX1 TX1 2
theorem nmX1 : ∀ a, a < 2 → ∀ b, b < 2 → a ≠ b → (TX1 a).2.1 ≠ (TX1 b).2.1 := by decide +kernel
theorem tyX1_ok : ∀ k, k < 2 → parseFieldDescriptor (TX1 k).2.2.1 = some (tyX1 k) := by decide +kernel
abbrev cX1_init : ByteArray := prog_3_method_1_code
def yX1_init : MethodName := ⟨RX1, "<init>", "()V"⟩
abbrev cX1_put : ByteArray := prog_3_method_2_code
def yX1_put : MethodName := ⟨RX1, "put", "(I)V"⟩
abbrev cX1_tells : ByteArray := prog_3_method_3_code
def yX1_tells : MethodName := ⟨RX1, "tells", "(I)Z"⟩
abbrev cX1_faultFor : ByteArray := prog_3_method_4_code
def yX1_faultFor : MethodName := ⟨RX1, "faultFor", "(I)I"⟩
def RX2 : String := "OddNets$Renumbering"
def TX2 : u_T := fun k => match k with
  | _ => ("OddNets$Renumbering", "at", "[I", true)
def tyX2 : Nat → FieldType := fun k => match k with
  | _ => .array .int
abbrev wsX20 : List Cond := u_ws RX2 TX2 1
theorem nmX2 : ∀ a, a < 1 → ∀ b, b < 1 → a ≠ b → (TX2 a).2.1 ≠ (TX2 b).2.1 := by decide +kernel
theorem tyX2_ok : ∀ k, k < 1 → parseFieldDescriptor (TX2 k).2.2.1 = some (tyX2 k) := by decide +kernel
abbrev cX2_init : ByteArray := prog_4_method_1_code
def yX2_init : MethodName := ⟨RX2, "<init>", "()V"⟩
abbrev cX2_kindOfClass : ByteArray := prog_4_method_2_code
def yX2_kindOfClass : MethodName := ⟨RX2, "kindOfClass", "(LOddNets$Net;)I"⟩
abbrev cX2_leastNumber : ByteArray := prog_4_method_3_code
def yX2_leastNumber : MethodName := ⟨RX2, "leastNumber", "(LOddNets$Net;[III)I"⟩
abbrev cX2_lowestColumn : ByteArray := prog_4_method_4_code
def yX2_lowestColumn : MethodName := ⟨RX2, "lowestColumn", "(LOddNets$Net;[III)I"⟩
abbrev cX2_column : ByteArray := prog_4_method_5_code
def yX2_column : MethodName := ⟨RX2, "column", "(LOddNets$Net;[III)I"⟩
abbrev cX2_hasTwin : ByteArray := prog_4_method_6_code
def yX2_hasTwin : MethodName := ⟨RX2, "hasTwin", "(LOddNets$Net;II)Z"⟩
abbrev cX2_numberAsGiven : ByteArray := prog_4_method_7_code
def yX2_numberAsGiven : MethodName := ⟨RX2, "numberAsGiven", "(LOddNets$Net;[I)I"⟩
abbrev cX2_brings : ByteArray := prog_4_method_8_code
def yX2_brings : MethodName := ⟨RX2, "brings", "(LOddNets$Net;LOddNets$Net;)Z"⟩
abbrev cX2_keepersOfClass : ByteArray := prog_4_method_9_code
def yX2_keepersOfClass : MethodName := ⟨RX2, "keepersOfClass", "(LOddNets$Net;LOddNets$Net;)I"⟩
abbrev cX2_keepersOfNet : ByteArray := prog_4_method_10_code
def yX2_keepersOfNet : MethodName := ⟨RX2, "keepersOfNet", "(LOddNets$Net;I)I"⟩
abbrev cX2_placesOf : ByteArray := prog_4_method_11_code
def yX2_placesOf : MethodName := ⟨RX2, "placesOf", "(LOddNets$Net;I)I"⟩
abbrev cX2_canGoOn : ByteArray := prog_4_method_12_code
def yX2_canGoOn : MethodName := ⟨RX2, "canGoOn", "(LOddNets$Net;LOddNets$Net;[III)Z"⟩
abbrev cX2_goesTo : ByteArray := prog_4_method_13_code
def yX2_goesTo : MethodName := ⟨RX2, "goesTo", "(LOddNets$Net;LOddNets$Net;[III)Z"⟩
def RX3 : String := "OddNets$Shelf"
def TX3 : u_T := fun k => match k with
  | 0 => ("OddNets$Shelf", "many", "I", false)
  | _ => ("OddNets$Shelf", "numbers", "[I", true)
def tyX3 : Nat → FieldType := fun k => match k with
  | 0 => .int
  | _ => .array .int
abbrev wsX30 : List Cond := u_ws RX3 TX3 2
theorem nmX3 : ∀ a, a < 2 → ∀ b, b < 2 → a ≠ b → (TX3 a).2.1 ≠ (TX3 b).2.1 := by decide +kernel
theorem tyX3_ok : ∀ k, k < 2 → parseFieldDescriptor (TX3 k).2.2.1 = some (tyX3 k) := by decide +kernel
abbrev cX3_init : ByteArray := prog_5_method_1_code
def yX3_init : MethodName := ⟨RX3, "<init>", "()V"⟩
abbrev cX3_clear : ByteArray := prog_5_method_2_code
def yX3_clear : MethodName := ⟨RX3, "clear", "(I)V"⟩
abbrev cX3_copy : ByteArray := prog_5_method_3_code
def yX3_copy : MethodName := ⟨RX3, "copy", "(LOddNets$Shelf;)V"⟩
abbrev cX3_isUnused : ByteArray := prog_5_method_4_code
def yX3_isUnused : MethodName := ⟨RX3, "isUnused", "()Z"⟩
def RX4 : String := "OddNets$Table"
def TX4 : u_T := fun k => match k with
  | 0 => ("OddNets$Table", "many", "I", false)
  | 1 => ("OddNets$Table", "rank", "I", false)
  | 2 => ("OddNets$Table", "sign", "I", false)
  | 3 => ("OddNets$Table", "lastPivot", "J", false)
  | _ => ("OddNets$Table", "cells", "[[J", true)
def tyX4 : Nat → FieldType := fun k => match k with
  | 0 => .int
  | 1 => .int
  | 2 => .int
  | 3 => .long
  | _ => .array (.array .long)
abbrev wsX40 : List Cond := u_ws RX4 TX4 5
theorem nmX4 : ∀ a, a < 5 → ∀ b, b < 5 → a ≠ b → (TX4 a).2.1 ≠ (TX4 b).2.1 := by decide +kernel
theorem tyX4_ok : ∀ k, k < 5 → parseFieldDescriptor (TX4 k).2.2.1 = some (tyX4 k) := by decide +kernel
abbrev cX4_init : ByteArray := prog_6_method_1_code
def yX4_init : MethodName := ⟨RX4, "<init>", "()V"⟩
abbrev cX4_fill : ByteArray := prog_6_method_2_code
def yX4_fill : MethodName := ⟨RX4, "fill", "(LOddNets$Net;I)V"⟩
abbrev cX4_eliminate : ByteArray := prog_6_method_3_code
def yX4_eliminate : MethodName := ⟨RX4, "eliminate", "()V"⟩
abbrev cX4_pivotRow : ByteArray := prog_6_method_4_code
def yX4_pivotRow : MethodName := ⟨RX4, "pivotRow", "(I)I"⟩
abbrev cX4_bringUp : ByteArray := prog_6_method_5_code
def yX4_bringUp : MethodName := ⟨RX4, "bringUp", "(I)V"⟩
abbrev cX4_clearBelow : ByteArray := prog_6_method_6_code
def yX4_clearBelow : MethodName := ⟨RX4, "clearBelow", "(I)V"⟩
abbrev cX4_determinant : ByteArray := prog_6_method_7_code
def yX4_determinant : MethodName := ⟨RX4, "determinant", "()J"⟩
def RX5 : String := "OddNets"
def TX5 : u_T := fun k => match k with
  | 0 => ("OddNets", "now", "LOddNets$Shelf;", true)
  | 1 => ("OddNets", "images", "[LOddNets$Shelf;", true)
  | 2 => ("OddNets", "pad", "LOddNets$Pad;", true)
  | 3 => ("OddNets", "net", "LOddNets$Net;", true)
  | 4 => ("OddNets", "second", "LOddNets$Net;", true)
  | 5 => ("OddNets", "renumbering", "LOddNets$Renumbering;", true)
  | 6 => ("OddNets", "table", "LOddNets$Table;", true)
  | _ => ("OddNets", "marks", "[I", true)
def tyX5 : Nat → FieldType := fun k => match k with
  | 0 => .object "OddNets$Shelf"
  | 1 => .array (.object "OddNets$Shelf")
  | 2 => .object "OddNets$Pad"
  | 3 => .object "OddNets$Net"
  | 4 => .object "OddNets$Net"
  | 5 => .object "OddNets$Renumbering"
  | 6 => .object "OddNets$Table"
  | _ => .array .int
abbrev wsX50 : List Cond := u_ws RX5 TX5 8
theorem nmX5 : ∀ a, a < 8 → ∀ b, b < 8 → a ≠ b → (TX5 a).2.1 ≠ (TX5 b).2.1 := by decide +kernel
theorem tyX5_ok : ∀ k, k < 8 → parseFieldDescriptor (TX5 k).2.2.1 = some (tyX5 k) := by decide +kernel
abbrev cX5_init : ByteArray := prog_1_method_1_code
def yX5_init : MethodName := ⟨RX5, "<init>", "()V"⟩
abbrev cX5_nodes : ByteArray := prog_1_method_2_code
def yX5_nodes : MethodName := ⟨RX5, "nodes", "(I)I"⟩
abbrev cX5_join : ByteArray := prog_1_method_3_code
def yX5_join : MethodName := ⟨RX5, "join", "(IIII)I"⟩
abbrev cX5_set : ByteArray := prog_1_method_4_code
def yX5_set : MethodName := ⟨RX5, "set", "(II)I"⟩
abbrev cX5_say : ByteArray := prog_1_method_5_code
def yX5_say : MethodName := ⟨RX5, "say", "(I)I"⟩
abbrev cX5_wipe : ByteArray := prog_1_method_6_code
def yX5_wipe : MethodName := ⟨RX5, "wipe", "()I"⟩
abbrev cX5_fault : ByteArray := prog_1_method_7_code
def yX5_fault : MethodName := ⟨RX5, "fault", "(I)I"⟩
abbrev cX5_read : ByteArray := prog_1_method_8_code
def yX5_read : MethodName := ⟨RX5, "read", "(II)I"⟩
abbrev cX5_turn : ByteArray := prog_1_method_9_code
def yX5_turn : MethodName := ⟨RX5, "turn", "(III)I"⟩
abbrev cX5_of : ByteArray := prog_1_method_10_code
def yX5_of : MethodName := ⟨RX5, "of", "(II)I"⟩
abbrev cX5_node : ByteArray := prog_1_method_11_code
def yX5_node : MethodName := ⟨RX5, "node", "(III)I"⟩
abbrev cX5_pair : ByteArray := prog_1_method_12_code
def yX5_pair : MethodName := ⟨RX5, "pair", "(IIII)I"⟩
abbrev cX5_fewest : ByteArray := prog_1_method_13_code
def yX5_fewest : MethodName := ⟨RX5, "fewest", "(II)I"⟩
abbrev cX5_even : ByteArray := prog_1_method_14_code
def yX5_even : MethodName := ⟨RX5, "even", "(II)I"⟩
abbrev cX5_by : ByteArray := prog_1_method_15_code
def yX5_by : MethodName := ⟨RX5, "by", "(III)I"⟩
abbrev cX5_compare : ByteArray := prog_1_method_16_code
def yX5_compare : MethodName := ⟨RX5, "compare", "(III)I"⟩
abbrev cX5_kind : ByteArray := prog_1_method_17_code
def yX5_kind : MethodName := ⟨RX5, "kind", "(II)I"⟩
abbrev cX5_card : ByteArray := prog_1_method_18_code
def yX5_card : MethodName := ⟨RX5, "card", "(II)I"⟩
abbrev cX5_root : ByteArray := prog_1_method_19_code
def yX5_root : MethodName := ⟨RX5, "root", "(III)J"⟩
abbrev cX5_image : ByteArray := prog_1_method_20_code
def yX5_image : MethodName := ⟨RX5, "image", "(I)I"⟩
abbrev cX5_restore : ByteArray := prog_1_method_21_code
def yX5_restore : MethodName := ⟨RX5, "restore", "(I)I"⟩
abbrev cX5_count : ByteArray := prog_1_method_22_code
def yX5_count : MethodName := ⟨RX5, "count", "(I)I"⟩
abbrev cX5_within : ByteArray := prog_1_method_23_code
def yX5_within : MethodName := ⟨RX5, "within", "(III)Z"⟩
abbrev cX5_pairsOf : ByteArray := prog_1_method_24_code
def yX5_pairsOf : MethodName := ⟨RX5, "pairsOf", "(I)I"⟩
abbrev cX5_triplesOf : ByteArray := prog_1_method_25_code
def yX5_triplesOf : MethodName := ⟨RX5, "triplesOf", "(I)I"⟩
abbrev cX5_isSlot : ByteArray := prog_1_method_26_code
def yX5_isSlot : MethodName := ⟨RX5, "isSlot", "(I)Z"⟩
abbrev cX5_isNode : ByteArray := prog_1_method_27_code
def yX5_isNode : MethodName := ⟨RX5, "isNode", "(I)Z"⟩
abbrev cX5_signsFor : ByteArray := prog_1_method_28_code
def yX5_signsFor : MethodName := ⟨RX5, "signsFor", "(I)I"⟩
abbrev cX5_load : ByteArray := prog_1_method_29_code
def yX5_load : MethodName := ⟨RX5, "load", "(LOddNets$Net;I)V"⟩
abbrev cX5_howManyBy : ByteArray := prog_1_method_30_code
def yX5_howManyBy : MethodName := ⟨RX5, "howManyBy", "(IZ)I"⟩
abbrev cX5_leastSetBy : ByteArray := prog_1_method_31_code
def yX5_leastSetBy : MethodName := ⟨RX5, "leastSetBy", "(I)I"⟩
abbrev cX5_bringingSet : ByteArray := prog_1_method_32_code
def yX5_bringingSet : MethodName := ⟨RX5, "bringingSet", "(II)I"⟩
abbrev cX5_kindOfSlot : ByteArray := prog_1_method_33_code
def yX5_kindOfSlot : MethodName := ⟨RX5, "kindOfSlot", "(I)I"⟩
abbrev cX5_differentClasses : ByteArray := prog_1_method_34_code
def yX5_differentClasses : MethodName := ⟨RX5, "differentClasses", "()I"⟩
abbrev cX5_differentKinds : ByteArray := prog_1_method_35_code
def yX5_differentKinds : MethodName := ⟨RX5, "differentKinds", "()I"⟩
abbrev cX5_differentMarks : ByteArray := prog_1_method_36_code
def yX5_differentMarks : MethodName := ⟨RX5, "differentMarks", "()I"⟩
abbrev cX5_isMarkedBefore : ByteArray := prog_1_method_37_code
def yX5_isMarkedBefore : MethodName := ⟨RX5, "isMarkedBefore", "(I)Z"⟩
abbrev cX5_keptImages : ByteArray := prog_1_method_38_code
def yX5_keptImages : MethodName := ⟨RX5, "keptImages", "()I"⟩
def RX6 : String := "OddNetsModel"
def TX6 : u_T := fun k => match k with
  | 0 => ("OddNetsModel", "state", "[I", true)
  | 1 => ("OddNetsModel", "images", "[I", true)
  | 2 => ("OddNetsModel", "isKept", "[Z", true)
  | 3 => ("OddNetsModel", "pad", "[I", true)
  | 4 => ("OddNetsModel", "said", "I", false)
  | 5 => ("OddNetsModel", "leastSize", "I", false)
  | 6 => ("OddNetsModel", "leastSet", "I", false)
  | 7 => ("OddNetsModel", "found", "I", false)
  | 8 => ("OddNetsModel", "row", "[I", true)
  | 9 => ("OddNetsModel", "isUsed", "[Z", true)
  | 10 => ("OddNetsModel", "table", "[J", true)
  | 11 => ("OddNetsModel", "rank", "I", false)
  | _ => ("OddNetsModel", "determinant", "J", false)
def tyX6 : Nat → FieldType := fun k => match k with
  | 0 => .array .int
  | 1 => .array .int
  | 2 => .array .boolean
  | 3 => .array .int
  | 4 => .int
  | 5 => .int
  | 6 => .int
  | 7 => .int
  | 8 => .array .int
  | 9 => .array .boolean
  | 10 => .array .long
  | 11 => .int
  | _ => .long
abbrev wsX60 : List Cond := u_ws RX6 TX6 13
theorem nmX6 : ∀ a, a < 13 → ∀ b, b < 13 → a ≠ b → (TX6 a).2.1 ≠ (TX6 b).2.1 := by decide +kernel
theorem tyX6_ok : ∀ k, k < 13 → parseFieldDescriptor (TX6 k).2.2.1 = some (tyX6 k) := by decide +kernel
abbrev cX6_init : ByteArray := prog_8_method_1_code
def yX6_init : MethodName := ⟨RX6, "<init>", "()V"⟩
abbrev cX6_in : ByteArray := prog_8_method_2_code
def yX6_in : MethodName := ⟨RX6, "in", "(III)Z"⟩
abbrev cX6_isSlot : ByteArray := prog_8_method_3_code
def yX6_isSlot : MethodName := ⟨RX6, "isSlot", "(I)Z"⟩
abbrev cX6_isNode : ByteArray := prog_8_method_4_code
def yX6_isNode : MethodName := ⟨RX6, "isNode", "(I)Z"⟩
abbrev cX6_pairs : ByteArray := prog_8_method_5_code
def yX6_pairs : MethodName := ⟨RX6, "pairs", "(I)I"⟩
abbrev cX6_triples : ByteArray := prog_8_method_6_code
def yX6_triples : MethodName := ⟨RX6, "triples", "(I)I"⟩
abbrev cX6_valueOf : ByteArray := prog_8_method_7_code
def yX6_valueOf : MethodName := ⟨RX6, "valueOf", "(III)I"⟩
abbrev cX6_joined : ByteArray := prog_8_method_8_code
def yX6_joined : MethodName := ⟨RX6, "joined", "(IIII)I"⟩
abbrev cX6_size : ByteArray := prog_8_method_9_code
def yX6_size : MethodName := ⟨RX6, "size", "(I)I"⟩
abbrev cX6_switched : ByteArray := prog_8_method_10_code
def yX6_switched : MethodName := ⟨RX6, "switched", "(III)I"⟩
abbrev cX6_neighbours : ByteArray := prog_8_method_11_code
def yX6_neighbours : MethodName := ⟨RX6, "neighbours", "(III)I"⟩
abbrev cX6_degree : ByteArray := prog_8_method_12_code
def yX6_degree : MethodName := ⟨RX6, "degree", "(III)I"⟩
abbrev cX6_alone : ByteArray := prog_8_method_13_code
def yX6_alone : MethodName := ⟨RX6, "alone", "(III)I"⟩
abbrev cX6_isOdd : ByteArray := prog_8_method_14_code
def yX6_isOdd : MethodName := ⟨RX6, "isOdd", "(IIIII)Z"⟩
abbrev cX6_oddOfPair : ByteArray := prog_8_method_15_code
def yX6_oddOfPair : MethodName := ⟨RX6, "oddOfPair", "(IIII)I"⟩
abbrev cX6_oddOfNode : ByteArray := prog_8_method_16_code
def yX6_oddOfNode : MethodName := ⟨RX6, "oddOfNode", "(III)I"⟩
abbrev cX6_oddOfNet : ByteArray := prog_8_method_17_code
def yX6_oddOfNet : MethodName := ⟨RX6, "oddOfNet", "(II)I"⟩
abbrev cX6_without : ByteArray := prog_8_method_18_code
def yX6_without : MethodName := ⟨RX6, "without", "(III)I"⟩
abbrev cX6_netOf : ByteArray := prog_8_method_19_code
def yX6_netOf : MethodName := ⟨RX6, "netOf", "(I)I"⟩
abbrev cX6_many : ByteArray := prog_8_method_20_code
def yX6_many : MethodName := ⟨RX6, "many", "()I"⟩
abbrev cX6_nodes : ByteArray := prog_8_method_21_code
def yX6_nodes : MethodName := ⟨RX6, "nodes", "(I)I"⟩
abbrev cX6_join : ByteArray := prog_8_method_22_code
def yX6_join : MethodName := ⟨RX6, "join", "(IIII)I"⟩
abbrev cX6_hold : ByteArray := prog_8_method_23_code
def yX6_hold : MethodName := ⟨RX6, "hold", "(II)I"⟩
abbrev cX6_set : ByteArray := prog_8_method_24_code
def yX6_set : MethodName := ⟨RX6, "set", "(II)I"⟩
abbrev cX6_say : ByteArray := prog_8_method_25_code
def yX6_say : MethodName := ⟨RX6, "say", "(I)I"⟩
abbrev cX6_wipe : ByteArray := prog_8_method_26_code
def yX6_wipe : MethodName := ⟨RX6, "wipe", "()I"⟩
abbrev cX6_faultAs : ByteArray := prog_8_method_27_code
def yX6_faultAs : MethodName := ⟨RX6, "faultAs", "(I)I"⟩
abbrev cX6_fault : ByteArray := prog_8_method_28_code
def yX6_fault : MethodName := ⟨RX6, "fault", "(I)I"⟩
abbrev cX6_placeOf : ByteArray := prog_8_method_29_code
def yX6_placeOf : MethodName := ⟨RX6, "placeOf", "(III)I"⟩
abbrev cX6_told : ByteArray := prog_8_method_30_code
def yX6_told : MethodName := ⟨RX6, "told", "(III)I"⟩
abbrev cX6_fitFour : ByteArray := prog_8_method_31_code
def yX6_fitFour : MethodName := ⟨RX6, "fitFour", "(IIII)Z"⟩
abbrev cX6_areFit : ByteArray := prog_8_method_32_code
def yX6_areFit : MethodName := ⟨RX6, "areFit", "()Z"⟩
abbrev cX6_netOfPad : ByteArray := prog_8_method_33_code
def yX6_netOfPad : MethodName := ⟨RX6, "netOfPad", "()I"⟩
abbrev cX6_netOfTriples : ByteArray := prog_8_method_34_code
def yX6_netOfTriples : MethodName := ⟨RX6, "netOfTriples", "()I"⟩
abbrev cX6_read : ByteArray := prog_8_method_35_code
def yX6_read : MethodName := ⟨RX6, "read", "(II)I"⟩
abbrev cX6_turn : ByteArray := prog_8_method_36_code
def yX6_turn : MethodName := ⟨RX6, "turn", "(III)I"⟩
abbrev cX6_regular : ByteArray := prog_8_method_37_code
def yX6_regular : MethodName := ⟨RX6, "regular", "(I)I"⟩
abbrev cX6_oddNodes : ByteArray := prog_8_method_38_code
def yX6_oddNodes : MethodName := ⟨RX6, "oddNodes", "(I)I"⟩
abbrev cX6_of : ByteArray := prog_8_method_39_code
def yX6_of : MethodName := ⟨RX6, "of", "(II)I"⟩
abbrev cX6_node : ByteArray := prog_8_method_40_code
def yX6_node : MethodName := ⟨RX6, "node", "(III)I"⟩
abbrev cX6_common : ByteArray := prog_8_method_41_code
def yX6_common : MethodName := ⟨RX6, "common", "(IIII)I"⟩
abbrev cX6_pair : ByteArray := prog_8_method_42_code
def yX6_pair : MethodName := ⟨RX6, "pair", "(IIII)I"⟩
abbrev cX6_fewest : ByteArray := prog_8_method_43_code
def yX6_fewest : MethodName := ⟨RX6, "fewest", "(II)I"⟩
abbrev cX6_beginFound : ByteArray := prog_8_method_44_code
def yX6_beginFound : MethodName := ⟨RX6, "beginFound", "()V"⟩
abbrev cX6_find : ByteArray := prog_8_method_45_code
def yX6_find : MethodName := ⟨RX6, "find", "(I)V"⟩
abbrev cX6_even : ByteArray := prog_8_method_46_code
def yX6_even : MethodName := ⟨RX6, "even", "(II)I"⟩
abbrev cX6_isBy : ByteArray := prog_8_method_47_code
def yX6_isBy : MethodName := ⟨RX6, "isBy", "(II)Z"⟩
abbrev cX6_isEvenly : ByteArray := prog_8_method_48_code
def yX6_isEvenly : MethodName := ⟨RX6, "isEvenly", "(II)Z"⟩
abbrev cX6_by : ByteArray := prog_8_method_49_code
def yX6_by : MethodName := ⟨RX6, "by", "(III)I"⟩
abbrev cX6_orders : ByteArray := prog_8_method_50_code
def yX6_orders : MethodName := ⟨RX6, "orders", "(I)I"⟩
abbrev cX6_layRank : ByteArray := prog_8_method_51_code
def yX6_layRank : MethodName := ⟨RX6, "layRank", "(II)V"⟩
abbrev cX6_renumbered : ByteArray := prog_8_method_52_code
def yX6_renumbered : MethodName := ⟨RX6, "renumbered", "(II)I"⟩
abbrev cX6_kindOf : ByteArray := prog_8_method_53_code
def yX6_kindOf : MethodName := ⟨RX6, "kindOf", "(II)I"⟩
abbrev cX6_comesTo : ByteArray := prog_8_method_54_code
def yX6_comesTo : MethodName := ⟨RX6, "comesTo", "(IIIZ)I"⟩
abbrev cX6_setBetween : ByteArray := prog_8_method_55_code
def yX6_setBetween : MethodName := ⟨RX6, "setBetween", "(II)I"⟩
abbrev cX6_compare : ByteArray := prog_8_method_56_code
def yX6_compare : MethodName := ⟨RX6, "compare", "(III)I"⟩
abbrev cX6_kind : ByteArray := prog_8_method_57_code
def yX6_kind : MethodName := ⟨RX6, "kind", "(II)I"⟩
abbrev cX6_card : ByteArray := prog_8_method_58_code
def yX6_card : MethodName := ⟨RX6, "card", "(II)I"⟩
abbrev cX6_layTable : ByteArray := prog_8_method_59_code
def yX6_layTable : MethodName := ⟨RX6, "layTable", "(II)V"⟩
abbrev cX6_swapRows : ByteArray := prog_8_method_60_code
def yX6_swapRows : MethodName := ⟨RX6, "swapRows", "(II)V"⟩
abbrev cX6_rowWith : ByteArray := prog_8_method_61_code
def yX6_rowWith : MethodName := ⟨RX6, "rowWith", "(II)I"⟩
abbrev cX6_clearBelow : ByteArray := prog_8_method_62_code
def yX6_clearBelow : MethodName := ⟨RX6, "clearBelow", "(IIJ)V"⟩
abbrev cX6_workOut : ByteArray := prog_8_method_63_code
def yX6_workOut : MethodName := ⟨RX6, "workOut", "()V"⟩
abbrev cX6_root : ByteArray := prog_8_method_64_code
def yX6_root : MethodName := ⟨RX6, "root", "(III)J"⟩
abbrev cX6_image : ByteArray := prog_8_method_65_code
def yX6_image : MethodName := ⟨RX6, "image", "(I)I"⟩
abbrev cX6_restore : ByteArray := prog_8_method_66_code
def yX6_restore : MethodName := ⟨RX6, "restore", "(I)I"⟩
abbrev cX6_classes : ByteArray := prog_8_method_67_code
def yX6_classes : MethodName := ⟨RX6, "classes", "(Z)I"⟩
abbrev cX6_count : ByteArray := prog_8_method_68_code
def yX6_count : MethodName := ⟨RX6, "count", "(I)I"⟩
def RJ6 : String := "java/lang/Integer"
def TJ6 : u_T := fun k => match k with
  | _ => ("", "", "", false)
def tyJ6 : Nat → FieldType := fun k => match k with
  | _ => .int
abbrev wsJ60 : List Cond := u_ws RJ6 TJ6 0
theorem nmJ6 : ∀ a, a < 0 → ∀ b, b < 0 → a ≠ b → (TJ6 a).2.1 ≠ (TJ6 b).2.1 := by decide +kernel
theorem tyJ6_ok : ∀ k, k < 0 → parseFieldDescriptor (TJ6 k).2.2.1 = some (tyJ6 k) := by decide +kernel
abbrev cJ6_bitCount_0f7a4 : ByteArray := prog_9_method_49_code
def yJ6_bitCount_0f7a4 : MethodName := ⟨RJ6, "bitCount", "(I)I"⟩
def RJ9 : String := "java/lang/Math"
def TJ9 : u_T := fun k => match k with
  | _ => ("", "", "", false)
def tyJ9 : Nat → FieldType := fun k => match k with
  | _ => .int
abbrev wsJ90 : List Cond := u_ws RJ9 TJ9 0
theorem nmJ9 : ∀ a, a < 0 → ∀ b, b < 0 → a ≠ b → (TJ9 a).2.1 ≠ (TJ9 b).2.1 := by decide +kernel
theorem tyJ9_ok : ∀ k, k < 0 → parseFieldDescriptor (TJ9 k).2.2.1 = some (tyJ9 k) := by decide +kernel
abbrev cJ9_min_7cf53 : ByteArray := prog_10_method_69_code
def yJ9_min_7cf53 : MethodName := ⟨RJ9, "min", "(II)I"⟩
def RJ10 : String := "java/lang/System"
def TJ10 : u_T := fun k => match k with
  | _ => ("", "", "", false)
def tyJ10 : Nat → FieldType := fun k => match k with
  | _ => .int
abbrev wsJ100 : List Cond := u_ws RJ10 TJ10 0
theorem nmJ10 : ∀ a, a < 0 → ∀ b, b < 0 → a ≠ b → (TJ10 a).2.1 ≠ (TJ10 b).2.1 := by decide +kernel
theorem tyJ10_ok : ∀ k, k < 0 → parseFieldDescriptor (TJ10 k).2.2.1 = some (tyJ10 k) := by decide +kernel
def RJ7 : String := "java/util/Arrays"
def TJ7 : u_T := fun k => match k with
  | _ => ("", "", "", false)
def tyJ7 : Nat → FieldType := fun k => match k with
  | _ => .int
abbrev wsJ70 : List Cond := u_ws RJ7 TJ7 0
theorem nmJ7 : ∀ a, a < 0 → ∀ b, b < 0 → a ≠ b → (TJ7 a).2.1 ≠ (TJ7 b).2.1 := by decide +kernel
theorem tyJ7_ok : ∀ k, k < 0 → parseFieldDescriptor (TJ7 k).2.2.1 = some (tyJ7 k) := by decide +kernel
abbrev cJ7_fill_53178 : ByteArray := prog_12_method_103_code
def yJ7_fill_53178 : MethodName := ⟨RJ7, "fill", "([II)V"⟩
def RL : String := "OddNetsLaw"
abbrev cL_law : ByteArray := code
def yL_law : MethodName := ⟨RL, "law", "([I)Z"⟩
def wsX0_init : List Cond := .code yX0_init cX0_init 1 none :: ([.methodLink RX0 3 objectInit, .instanceMethod objectInit, .code objectInit ⟨#[0xb1]⟩ 1 none, .fieldLink RX0 9 "OddNets$Net" "many" "I", .arrayClass .int, .fieldLink RX0 15 "OddNets$Net" "rows" "[I"] ++ wsX00)
def wsJ7_fill_53178 : List Cond := .code yJ7_fill_53178 cJ7_fill_53178 4 none :: ([])
def wsX0_clear : List Cond := .code yX0_clear cX0_clear 2 none :: ([.fieldLink RX0 9 "OddNets$Net" "many" "I", .fieldLink RX0 15 "OddNets$Net" "rows" "[I", .methodLink RX0 19 yJ7_fill_53178, .static yJ7_fill_53178, .initialized RJ7, .code yJ7_fill_53178 cJ7_fill_53178 4 none] ++ wsX00)
def wsX0_connect : List Cond := .code yX0_connect cX0_connect 4 none :: ([.fieldLink RX0 15 "OddNets$Net" "rows" "[I"] ++ wsX00)
def wsX5_pairsOf : List Cond := .code yX5_pairsOf cX5_pairsOf 1 (some .int) :: ([])
def wsX0_takeNumber : List Cond := .code yX0_takeNumber cX0_takeNumber 5 none :: ([.fieldLink RX0 9 "OddNets$Net" "many" "I", .static yX5_pairsOf, .initialized RX5, .code yX5_pairsOf cX5_pairsOf 1 (some .int), .methodLink RX0 29 yX0_connect, .instanceMethod yX0_connect, .selects RX0 yX0_connect yX0_connect, .initialized RX0, .code yX0_connect cX0_connect 4 none, .fieldLink RX0 15 "OddNets$Net" "rows" "[I"] ++ wsX00)
def wsX1_tells : List Cond := .code yX1_tells cX1_tells 2 (some .boolean) :: ([.fieldLink RX1 9 "OddNets$Pad" "size" "I", .fieldLink RX1 15 "OddNets$Pad" "signs" "[I"] ++ wsX10)
def wsX0_takePairs : List Cond := .code yX0_takePairs cX0_takePairs 5 none :: ([.fieldLink RX0 9 "OddNets$Net" "many" "I", .instanceMethod yX1_tells, .initialized RX1, .selects RX1 yX1_tells yX1_tells, .code yX1_tells cX1_tells 2 (some .boolean), .fieldLink RX1 9 "OddNets$Pad" "size" "I", .fieldLink RX1 15 "OddNets$Pad" "signs" "[I", .methodLink RX0 29 yX0_connect, .instanceMethod yX0_connect, .selects RX0 yX0_connect yX0_connect, .initialized RX0, .code yX0_connect cX0_connect 4 none, .fieldLink RX0 15 "OddNets$Net" "rows" "[I"] ++ wsX00 ++ wsX10)
def wsX0_joined : List Cond := .code yX0_joined cX0_joined 3 (some .int) :: ([.fieldLink RX0 15 "OddNets$Net" "rows" "[I"] ++ wsX00)
def wsX0_isOdd : List Cond := .code yX0_isOdd cX0_isOdd 4 (some .boolean) :: ([.methodLink RX0 57 yX0_joined, .instanceMethod yX0_joined, .selects RX0 yX0_joined yX0_joined, .initialized RX0, .code yX0_joined cX0_joined 3 (some .int), .fieldLink RX0 15 "OddNets$Net" "rows" "[I"] ++ wsX00)
def wsX0_takeTriples : List Cond := .code yX0_takeTriples cX0_takeTriples 7 (some .boolean) :: ([.fieldLink RX0 9 "OddNets$Net" "many" "I", .instanceMethod yX1_tells, .initialized RX1, .selects RX1 yX1_tells yX1_tells, .code yX1_tells cX1_tells 2 (some .boolean), .fieldLink RX1 9 "OddNets$Pad" "size" "I", .fieldLink RX1 15 "OddNets$Pad" "signs" "[I", .methodLink RX0 29 yX0_connect, .instanceMethod yX0_connect, .selects RX0 yX0_connect yX0_connect, .initialized RX0, .code yX0_connect cX0_connect 4 none, .fieldLink RX0 15 "OddNets$Net" "rows" "[I", .methodLink RX0 39 yX0_isOdd, .instanceMethod yX0_isOdd, .selects RX0 yX0_isOdd yX0_isOdd, .code yX0_isOdd cX0_isOdd 4 (some .boolean), .methodLink RX0 57 yX0_joined, .instanceMethod yX0_joined, .selects RX0 yX0_joined yX0_joined, .code yX0_joined cX0_joined 3 (some .int)] ++ wsX00 ++ wsX10)
def wsX0_allNodes : List Cond := .code yX0_allNodes cX0_allNodes 1 (some .int) :: ([.fieldLink RX0 9 "OddNets$Net" "many" "I"] ++ wsX00)
def wsX0_switchBy : List Cond := .code yX0_switchBy cX0_switchBy 4 none :: ([.fieldLink RX0 9 "OddNets$Net" "many" "I", .fieldLink RX0 15 "OddNets$Net" "rows" "[I", .methodLink RX0 53 yX0_allNodes, .instanceMethod yX0_allNodes, .selects RX0 yX0_allNodes yX0_allNodes, .initialized RX0, .code yX0_allNodes cX0_allNodes 1 (some .int)] ++ wsX00)
def wsX0_copySwitched : List Cond := .code yX0_copySwitched cX0_copySwitched 3 none :: ([.fieldLink RX0 9 "OddNets$Net" "many" "I", .fieldLink RX0 15 "OddNets$Net" "rows" "[I", .methodLink RX0 43 arraycopyName, .native arraycopyName, .static arraycopyName, .initialized "java/lang/System", .methodLink RX0 49 yX0_switchBy, .instanceMethod yX0_switchBy, .selects RX0 yX0_switchBy yX0_switchBy, .initialized RX0, .code yX0_switchBy cX0_switchBy 4 none, .methodLink RX0 53 yX0_allNodes, .instanceMethod yX0_allNodes, .selects RX0 yX0_allNodes yX0_allNodes, .code yX0_allNodes cX0_allNodes 1 (some .int)] ++ wsX00)
def wsX0_leaveAlone : List Cond := .code yX0_leaveAlone cX0_leaveAlone 2 none :: ([.fieldLink RX0 15 "OddNets$Net" "rows" "[I", .methodLink RX0 49 yX0_switchBy, .instanceMethod yX0_switchBy, .selects RX0 yX0_switchBy yX0_switchBy, .initialized RX0, .code yX0_switchBy cX0_switchBy 4 none, .fieldLink RX0 9 "OddNets$Net" "many" "I", .methodLink RX0 53 yX0_allNodes, .instanceMethod yX0_allNodes, .selects RX0 yX0_allNodes yX0_allNodes, .code yX0_allNodes cX0_allNodes 1 (some .int)] ++ wsX00)
def wsX0_drop : List Cond := .code yX0_drop cX0_drop 4 none :: ([.fieldLink RX0 9 "OddNets$Net" "many" "I", .fieldLink RX0 15 "OddNets$Net" "rows" "[I"] ++ wsX00)
def wsX0_number : List Cond := .code yX0_number cX0_number 4 (some .int) :: ([.fieldLink RX0 9 "OddNets$Net" "many" "I", .methodLink RX0 57 yX0_joined, .instanceMethod yX0_joined, .selects RX0 yX0_joined yX0_joined, .initialized RX0, .code yX0_joined cX0_joined 3 (some .int), .fieldLink RX0 15 "OddNets$Net" "rows" "[I"] ++ wsX00)
def wsJ6_bitCount_0f7a4 : List Cond := .code yJ6_bitCount_0f7a4 cJ6_bitCount_0f7a4 1 (some .int) :: ([.constant RJ6 265 (1431655765), .constant RJ6 266 (858993459), .constant RJ6 267 (252645135)])
def wsX0_degree : List Cond := .code yX0_degree cX0_degree 2 (some .int) :: ([.fieldLink RX0 15 "OddNets$Net" "rows" "[I", .methodLink RX0 61 yJ6_bitCount_0f7a4, .static yJ6_bitCount_0f7a4, .initialized RJ6, .code yJ6_bitCount_0f7a4 cJ6_bitCount_0f7a4 1 (some .int), .constant RJ6 265 (1431655765), .constant RJ6 266 (858993459), .constant RJ6 267 (252645135)] ++ wsX00)
def wsX0_shared : List Cond := .code yX0_shared cX0_shared 3 (some .int) :: ([.fieldLink RX0 15 "OddNets$Net" "rows" "[I", .methodLink RX0 61 yJ6_bitCount_0f7a4, .static yJ6_bitCount_0f7a4, .initialized RJ6, .code yJ6_bitCount_0f7a4 cJ6_bitCount_0f7a4 1 (some .int), .constant RJ6 265 (1431655765), .constant RJ6 266 (858993459), .constant RJ6 267 (252645135)] ++ wsX00)
def wsX0_joinedPairs : List Cond := .code yX0_joinedPairs cX0_joinedPairs 3 (some .int) :: ([.fieldLink RX0 9 "OddNets$Net" "many" "I", .methodLink RX0 66 yX0_degree, .instanceMethod yX0_degree, .selects RX0 yX0_degree yX0_degree, .initialized RX0, .code yX0_degree cX0_degree 2 (some .int), .fieldLink RX0 15 "OddNets$Net" "rows" "[I", .methodLink RX0 61 yJ6_bitCount_0f7a4, .static yJ6_bitCount_0f7a4, .initialized RJ6, .code yJ6_bitCount_0f7a4 cJ6_bitCount_0f7a4 1 (some .int), .constant RJ6 265 (1431655765), .constant RJ6 266 (858993459), .constant RJ6 267 (252645135)] ++ wsX00)
def wsX0_oddTriplesAtPair : List Cond := .code yX0_oddTriplesAtPair cX0_oddTriplesAtPair 4 (some .int) :: ([.fieldLink RX0 15 "OddNets$Net" "rows" "[I", .methodLink RX0 57 yX0_joined, .instanceMethod yX0_joined, .selects RX0 yX0_joined yX0_joined, .initialized RX0, .code yX0_joined cX0_joined 3 (some .int), .methodLink RX0 53 yX0_allNodes, .instanceMethod yX0_allNodes, .selects RX0 yX0_allNodes yX0_allNodes, .code yX0_allNodes cX0_allNodes 1 (some .int), .fieldLink RX0 9 "OddNets$Net" "many" "I", .methodLink RX0 61 yJ6_bitCount_0f7a4, .static yJ6_bitCount_0f7a4, .initialized RJ6, .code yJ6_bitCount_0f7a4 cJ6_bitCount_0f7a4 1 (some .int), .constant RJ6 265 (1431655765), .constant RJ6 266 (858993459), .constant RJ6 267 (252645135)] ++ wsX00)
def wsX0_oddTriplesAtNode : List Cond := .code yX0_oddTriplesAtNode cX0_oddTriplesAtNode 4 (some .int) :: ([.fieldLink RX0 9 "OddNets$Net" "many" "I", .methodLink RX0 69 yX0_oddTriplesAtPair, .instanceMethod yX0_oddTriplesAtPair, .selects RX0 yX0_oddTriplesAtPair yX0_oddTriplesAtPair, .initialized RX0, .code yX0_oddTriplesAtPair cX0_oddTriplesAtPair 4 (some .int), .fieldLink RX0 15 "OddNets$Net" "rows" "[I", .methodLink RX0 57 yX0_joined, .instanceMethod yX0_joined, .selects RX0 yX0_joined yX0_joined, .code yX0_joined cX0_joined 3 (some .int), .methodLink RX0 53 yX0_allNodes, .instanceMethod yX0_allNodes, .selects RX0 yX0_allNodes yX0_allNodes, .code yX0_allNodes cX0_allNodes 1 (some .int), .methodLink RX0 61 yJ6_bitCount_0f7a4, .static yJ6_bitCount_0f7a4, .initialized RJ6, .code yJ6_bitCount_0f7a4 cJ6_bitCount_0f7a4 1 (some .int), .constant RJ6 265 (1431655765), .constant RJ6 266 (858993459), .constant RJ6 267 (252645135)] ++ wsX00)
def wsX0_oddTriples_r1 : List Cond := [Cond.fieldLink RX0 9 "OddNets$Net" "many" "I", Cond.methodLink RX0 72 yX0_oddTriplesAtNode, Cond.instanceMethod yX0_oddTriplesAtNode, Cond.selects RX0 yX0_oddTriplesAtNode yX0_oddTriplesAtNode, Cond.initialized RX0, Cond.code yX0_oddTriplesAtNode cX0_oddTriplesAtNode 4 (some .int), Cond.methodLink RX0 69 yX0_oddTriplesAtPair, Cond.instanceMethod yX0_oddTriplesAtPair, Cond.selects RX0 yX0_oddTriplesAtPair yX0_oddTriplesAtPair, Cond.code yX0_oddTriplesAtPair cX0_oddTriplesAtPair 4 (some .int), Cond.fieldLink RX0 15 "OddNets$Net" "rows" "[I", Cond.methodLink RX0 57 yX0_joined, Cond.instanceMethod yX0_joined, Cond.selects RX0 yX0_joined yX0_joined, Cond.code yX0_joined cX0_joined 3 (some .int), Cond.methodLink RX0 53 yX0_allNodes, Cond.instanceMethod yX0_allNodes, Cond.selects RX0 yX0_allNodes yX0_allNodes, Cond.code yX0_allNodes cX0_allNodes 1 (some .int), Cond.methodLink RX0 61 yJ6_bitCount_0f7a4, Cond.static yJ6_bitCount_0f7a4, Cond.initialized RJ6, Cond.code yJ6_bitCount_0f7a4 cJ6_bitCount_0f7a4 1 (some .int), Cond.constant RJ6 265 (1431655765)]
def wsX0_oddTriples_r2 : List Cond := [Cond.constant RJ6 266 (858993459), Cond.constant RJ6 267 (252645135)]
def wsX0_oddTriples : List Cond := .code yX0_oddTriples cX0_oddTriples 3 (some .int) :: ((wsX0_oddTriples_r1 ++ wsX0_oddTriples_r2) ++ wsX00)
def wsX0_oddTriplesOfEachPair : List Cond := .code yX0_oddTriplesOfEachPair cX0_oddTriplesOfEachPair 4 (some .int) :: ([.fieldLink RX0 9 "OddNets$Net" "many" "I", .methodLink RX0 69 yX0_oddTriplesAtPair, .instanceMethod yX0_oddTriplesAtPair, .selects RX0 yX0_oddTriplesAtPair yX0_oddTriplesAtPair, .initialized RX0, .code yX0_oddTriplesAtPair cX0_oddTriplesAtPair 4 (some .int), .fieldLink RX0 15 "OddNets$Net" "rows" "[I", .methodLink RX0 57 yX0_joined, .instanceMethod yX0_joined, .selects RX0 yX0_joined yX0_joined, .code yX0_joined cX0_joined 3 (some .int), .methodLink RX0 53 yX0_allNodes, .instanceMethod yX0_allNodes, .selects RX0 yX0_allNodes yX0_allNodes, .code yX0_allNodes cX0_allNodes 1 (some .int), .methodLink RX0 61 yJ6_bitCount_0f7a4, .static yJ6_bitCount_0f7a4, .initialized RJ6, .code yJ6_bitCount_0f7a4 cJ6_bitCount_0f7a4 1 (some .int), .constant RJ6 265 (1431655765), .constant RJ6 266 (858993459), .constant RJ6 267 (252645135)] ++ wsX00)
def wsX0_oddDegrees : List Cond := .code yX0_oddDegrees cX0_oddDegrees 3 (some .int) :: ([.fieldLink RX0 9 "OddNets$Net" "many" "I", .methodLink RX0 66 yX0_degree, .instanceMethod yX0_degree, .selects RX0 yX0_degree yX0_degree, .initialized RX0, .code yX0_degree cX0_degree 2 (some .int), .fieldLink RX0 15 "OddNets$Net" "rows" "[I", .methodLink RX0 61 yJ6_bitCount_0f7a4, .static yJ6_bitCount_0f7a4, .initialized RJ6, .code yJ6_bitCount_0f7a4 cJ6_bitCount_0f7a4 1 (some .int), .constant RJ6 265 (1431655765), .constant RJ6 266 (858993459), .constant RJ6 267 (252645135)] ++ wsX00)
def wsX0_eachDegreeIs : List Cond := .code yX0_eachDegreeIs cX0_eachDegreeIs 3 (some .boolean) :: ([.fieldLink RX0 9 "OddNets$Net" "many" "I", .methodLink RX0 75 yX0_oddDegrees, .instanceMethod yX0_oddDegrees, .selects RX0 yX0_oddDegrees yX0_oddDegrees, .initialized RX0, .code yX0_oddDegrees cX0_oddDegrees 3 (some .int), .methodLink RX0 66 yX0_degree, .instanceMethod yX0_degree, .selects RX0 yX0_degree yX0_degree, .code yX0_degree cX0_degree 2 (some .int), .fieldLink RX0 15 "OddNets$Net" "rows" "[I", .methodLink RX0 61 yJ6_bitCount_0f7a4, .static yJ6_bitCount_0f7a4, .initialized RJ6, .code yJ6_bitCount_0f7a4 cJ6_bitCount_0f7a4 1 (some .int), .constant RJ6 265 (1431655765), .constant RJ6 266 (858993459), .constant RJ6 267 (252645135)] ++ wsX00)
def wsX0_eachPairSharesAlike : List Cond := .code yX0_eachPairSharesAlike cX0_eachPairSharesAlike 6 (some .boolean) :: ([.fieldLink RX0 9 "OddNets$Net" "many" "I", .methodLink RX0 57 yX0_joined, .instanceMethod yX0_joined, .selects RX0 yX0_joined yX0_joined, .initialized RX0, .code yX0_joined cX0_joined 3 (some .int), .fieldLink RX0 15 "OddNets$Net" "rows" "[I", .methodLink RX0 81 yX0_shared, .instanceMethod yX0_shared, .selects RX0 yX0_shared yX0_shared, .code yX0_shared cX0_shared 3 (some .int), .methodLink RX0 61 yJ6_bitCount_0f7a4, .static yJ6_bitCount_0f7a4, .initialized RJ6, .code yJ6_bitCount_0f7a4 cJ6_bitCount_0f7a4 1 (some .int), .constant RJ6 265 (1431655765), .constant RJ6 266 (858993459), .constant RJ6 267 (252645135)] ++ wsX00)
def wsX0_isStrong : List Cond := .code yX0_isStrong cX0_isStrong 1 (some .boolean) :: ([.methodLink RX0 78 yX0_eachPairSharesAlike, .instanceMethod yX0_eachPairSharesAlike, .selects RX0 yX0_eachPairSharesAlike yX0_eachPairSharesAlike, .initialized RX0, .code yX0_eachPairSharesAlike cX0_eachPairSharesAlike 6 (some .boolean), .fieldLink RX0 9 "OddNets$Net" "many" "I", .methodLink RX0 57 yX0_joined, .instanceMethod yX0_joined, .selects RX0 yX0_joined yX0_joined, .code yX0_joined cX0_joined 3 (some .int), .fieldLink RX0 15 "OddNets$Net" "rows" "[I", .methodLink RX0 81 yX0_shared, .instanceMethod yX0_shared, .selects RX0 yX0_shared yX0_shared, .code yX0_shared cX0_shared 3 (some .int), .methodLink RX0 61 yJ6_bitCount_0f7a4, .static yJ6_bitCount_0f7a4, .initialized RJ6, .code yJ6_bitCount_0f7a4 cJ6_bitCount_0f7a4 1 (some .int), .constant RJ6 265 (1431655765), .constant RJ6 266 (858993459), .constant RJ6 267 (252645135)] ++ wsX00)
def wsX0_areTwins : List Cond := .code yX0_areTwins cX0_areTwins 3 (some .boolean) :: ([.fieldLink RX0 15 "OddNets$Net" "rows" "[I"] ++ wsX00)
def wsX1_init : List Cond := .code yX1_init cX1_init 1 none :: ([.methodLink RX1 3 objectInit, .instanceMethod objectInit, .code objectInit ⟨#[0xb1]⟩ 1 none, .fieldLink RX1 9 "OddNets$Pad" "size" "I", .arrayClass .int, .fieldLink RX1 15 "OddNets$Pad" "signs" "[I"] ++ wsX10)
def wsX1_put : List Cond := .code yX1_put cX1_put 2 none :: ([.fieldLink RX1 9 "OddNets$Pad" "size" "I", .fieldLink RX1 15 "OddNets$Pad" "signs" "[I"] ++ wsX10)
def wsX1_faultFor : List Cond := .code yX1_faultFor cX1_faultFor 3 (some .int) :: ([.fieldLink RX1 9 "OddNets$Pad" "size" "I", .fieldLink RX1 15 "OddNets$Pad" "signs" "[I"] ++ wsX10)
def wsX2_init : List Cond := .code yX2_init cX2_init 1 none :: ([.methodLink RX2 3 objectInit, .instanceMethod objectInit, .code objectInit ⟨#[0xb1]⟩ 1 none, .arrayClass .int, .fieldLink RX2 9 "OddNets$Renumbering" "at" "[I"] ++ wsX20)
def wsX2_numberAsGiven : List Cond := .code yX2_numberAsGiven cX2_numberAsGiven 5 (some .int) :: ([.instanceMethod yX0_joined, .initialized RX0, .selects RX0 yX0_joined yX0_joined, .code yX0_joined cX0_joined 3 (some .int), .fieldLink RX0 15 "OddNets$Net" "rows" "[I"] ++ wsX00)
def wsX2_column : List Cond := .code yX2_column cX2_column 6 (some .int) :: ([] ++ wsX00)
def wsX2_lowestColumn : List Cond := .code yX2_lowestColumn cX2_lowestColumn 6 (some .int) :: ([.methodLink RX2 33 Lib.Math.min.name, .static Lib.Math.min.name, .initialized "java/lang/Math", .code Lib.Math.min.name Lib.Math.min.code 2 (some .int), .methodLink RX2 46 yX2_column, .static yX2_column, .initialized RX2, .code yX2_column cX2_column 6 (some .int)] ++ wsX00)
def wsX2_hasTwin : List Cond := .code yX2_hasTwin cX2_hasTwin 4 (some .boolean) :: ([.instanceMethod yX0_areTwins, .initialized RX0, .selects RX0 yX0_areTwins yX0_areTwins, .code yX0_areTwins cX0_areTwins 3 (some .boolean), .fieldLink RX0 15 "OddNets$Net" "rows" "[I"] ++ wsX00)
def wsX2_leastNumber_r1 : List Cond := [Cond.methodLink RX2 33 Lib.Math.min.name, Cond.static Lib.Math.min.name, Cond.initialized "java/lang/Math", Cond.code Lib.Math.min.name Lib.Math.min.code 2 (some .int), Cond.methodLink RX2 39 yX2_numberAsGiven, Cond.static yX2_numberAsGiven, Cond.initialized RX2, Cond.code yX2_numberAsGiven cX2_numberAsGiven 5 (some .int), Cond.instanceMethod yX0_joined, Cond.initialized RX0, Cond.selects RX0 yX0_joined yX0_joined, Cond.code yX0_joined cX0_joined 3 (some .int), Cond.fieldLink RX0 15 "OddNets$Net" "rows" "[I", Cond.methodLink RX2 43 yX2_lowestColumn, Cond.static yX2_lowestColumn, Cond.code yX2_lowestColumn cX2_lowestColumn 6 (some .int), Cond.methodLink RX2 46 yX2_column, Cond.static yX2_column, Cond.code yX2_column cX2_column 6 (some .int), Cond.static yX5_pairsOf, Cond.initialized RX5, Cond.code yX5_pairsOf cX5_pairsOf 1 (some .int), Cond.methodLink RX2 49 yX2_hasTwin, Cond.static yX2_hasTwin]
def wsX2_leastNumber_r2 : List Cond := [Cond.code yX2_hasTwin cX2_hasTwin 4 (some .boolean), Cond.instanceMethod yX0_areTwins, Cond.selects RX0 yX0_areTwins yX0_areTwins, Cond.code yX0_areTwins cX0_areTwins 3 (some .boolean), Cond.methodLink RX2 29 yX2_leastNumber, Cond.static yX2_leastNumber]
def wsX2_leastNumber : List Cond := .code yX2_leastNumber cX2_leastNumber 9 (some .int) :: ((wsX2_leastNumber_r1 ++ wsX2_leastNumber_r2) ++ wsX00)
def wsX2_kindOfClass_r1 : List Cond := [Cond.fieldLink RX2 9 "OddNets$Renumbering" "at" "[I", Cond.methodLink RX2 33 Lib.Math.min.name, Cond.static Lib.Math.min.name, Cond.initialized "java/lang/Math", Cond.code Lib.Math.min.name Lib.Math.min.code 2 (some .int), Cond.static yX5_pairsOf, Cond.initialized RX5, Cond.code yX5_pairsOf cX5_pairsOf 1 (some .int), Cond.instanceMethod yX0_leaveAlone, Cond.initialized RX0, Cond.selects RX0 yX0_leaveAlone yX0_leaveAlone, Cond.code yX0_leaveAlone cX0_leaveAlone 2 none, Cond.fieldLink RX0 15 "OddNets$Net" "rows" "[I", Cond.methodLink RX0 49 yX0_switchBy, Cond.instanceMethod yX0_switchBy, Cond.selects RX0 yX0_switchBy yX0_switchBy, Cond.code yX0_switchBy cX0_switchBy 4 none, Cond.fieldLink RX0 9 "OddNets$Net" "many" "I", Cond.methodLink RX0 53 yX0_allNodes, Cond.instanceMethod yX0_allNodes, Cond.selects RX0 yX0_allNodes yX0_allNodes, Cond.code yX0_allNodes cX0_allNodes 1 (some .int), Cond.methodLink RX2 29 yX2_leastNumber, Cond.static yX2_leastNumber]
def wsX2_kindOfClass_r2 : List Cond := [Cond.initialized RX2, Cond.code yX2_leastNumber cX2_leastNumber 9 (some .int), Cond.methodLink RX2 39 yX2_numberAsGiven, Cond.static yX2_numberAsGiven, Cond.code yX2_numberAsGiven cX2_numberAsGiven 5 (some .int), Cond.instanceMethod yX0_joined, Cond.selects RX0 yX0_joined yX0_joined, Cond.code yX0_joined cX0_joined 3 (some .int), Cond.methodLink RX2 43 yX2_lowestColumn, Cond.static yX2_lowestColumn, Cond.code yX2_lowestColumn cX2_lowestColumn 6 (some .int), Cond.methodLink RX2 46 yX2_column, Cond.static yX2_column, Cond.code yX2_column cX2_column 6 (some .int), Cond.methodLink RX2 49 yX2_hasTwin, Cond.static yX2_hasTwin, Cond.code yX2_hasTwin cX2_hasTwin 4 (some .boolean), Cond.instanceMethod yX0_areTwins, Cond.selects RX0 yX0_areTwins yX0_areTwins, Cond.code yX0_areTwins cX0_areTwins 3 (some .boolean)]
def wsX2_kindOfClass : List Cond := .code yX2_kindOfClass cX2_kindOfClass 4 (some .int) :: ((wsX2_kindOfClass_r1 ++ wsX2_kindOfClass_r2) ++ wsX00 ++ wsX20)
def wsX2_goesTo : List Cond := .code yX2_goesTo cX2_goesTo 6 (some .boolean) :: ([.instanceMethod yX0_degree, .initialized RX0, .selects RX0 yX0_degree yX0_degree, .code yX0_degree cX0_degree 2 (some .int), .fieldLink RX0 15 "OddNets$Net" "rows" "[I", .methodLink RX0 61 yJ6_bitCount_0f7a4, .static yJ6_bitCount_0f7a4, .initialized RJ6, .code yJ6_bitCount_0f7a4 cJ6_bitCount_0f7a4 1 (some .int), .constant RJ6 265 (1431655765), .constant RJ6 266 (858993459), .constant RJ6 267 (252645135), .instanceMethod yX0_joined, .selects RX0 yX0_joined yX0_joined, .code yX0_joined cX0_joined 3 (some .int)] ++ wsX00)
def wsX2_canGoOn : List Cond := .code yX2_canGoOn cX2_canGoOn 6 (some .boolean) :: ([.methodLink RX2 78 yX2_goesTo, .static yX2_goesTo, .initialized RX2, .code yX2_goesTo cX2_goesTo 6 (some .boolean), .instanceMethod yX0_degree, .initialized RX0, .selects RX0 yX0_degree yX0_degree, .code yX0_degree cX0_degree 2 (some .int), .fieldLink RX0 15 "OddNets$Net" "rows" "[I", .methodLink RX0 61 yJ6_bitCount_0f7a4, .static yJ6_bitCount_0f7a4, .initialized RJ6, .code yJ6_bitCount_0f7a4 cJ6_bitCount_0f7a4 1 (some .int), .constant RJ6 265 (1431655765), .constant RJ6 266 (858993459), .constant RJ6 267 (252645135), .instanceMethod yX0_joined, .selects RX0 yX0_joined yX0_joined, .code yX0_joined cX0_joined 3 (some .int), .methodLink RX2 63 yX2_canGoOn, .static yX2_canGoOn] ++ wsX00)
def wsX2_brings : List Cond := .code yX2_brings cX2_brings 3 (some .boolean) :: ([.fieldLink RX2 9 "OddNets$Renumbering" "at" "[I", .methodLink RX2 63 yX2_canGoOn, .static yX2_canGoOn, .initialized RX2, .code yX2_canGoOn cX2_canGoOn 6 (some .boolean), .methodLink RX2 78 yX2_goesTo, .static yX2_goesTo, .code yX2_goesTo cX2_goesTo 6 (some .boolean), .instanceMethod yX0_degree, .initialized RX0, .selects RX0 yX0_degree yX0_degree, .code yX0_degree cX0_degree 2 (some .int), .fieldLink RX0 15 "OddNets$Net" "rows" "[I", .methodLink RX0 61 yJ6_bitCount_0f7a4, .static yJ6_bitCount_0f7a4, .initialized RJ6, .code yJ6_bitCount_0f7a4 cJ6_bitCount_0f7a4 1 (some .int), .constant RJ6 265 (1431655765), .constant RJ6 266 (858993459), .constant RJ6 267 (252645135), .instanceMethod yX0_joined, .selects RX0 yX0_joined yX0_joined, .code yX0_joined cX0_joined 3 (some .int)] ++ wsX20 ++ wsX00)
def wsX2_placesOf : List Cond := .code yX2_placesOf cX2_placesOf 6 (some .int) :: ([.fieldLink RX2 9 "OddNets$Renumbering" "at" "[I", .methodLink RX2 78 yX2_goesTo, .static yX2_goesTo, .initialized RX2, .code yX2_goesTo cX2_goesTo 6 (some .boolean), .instanceMethod yX0_degree, .initialized RX0, .selects RX0 yX0_degree yX0_degree, .code yX0_degree cX0_degree 2 (some .int), .fieldLink RX0 15 "OddNets$Net" "rows" "[I", .methodLink RX0 61 yJ6_bitCount_0f7a4, .static yJ6_bitCount_0f7a4, .initialized RJ6, .code yJ6_bitCount_0f7a4 cJ6_bitCount_0f7a4 1 (some .int), .constant RJ6 265 (1431655765), .constant RJ6 266 (858993459), .constant RJ6 267 (252645135), .instanceMethod yX0_joined, .selects RX0 yX0_joined yX0_joined, .code yX0_joined cX0_joined 3 (some .int), .methodLink RX2 63 yX2_canGoOn, .static yX2_canGoOn, .code yX2_canGoOn cX2_canGoOn 6 (some .boolean)] ++ wsX00 ++ wsX20)
def wsX2_keepersOfNet_r1 : List Cond := [Cond.fieldLink RX2 9 "OddNets$Renumbering" "at" "[I", Cond.methodLink RX2 75 yX2_placesOf, Cond.instanceMethod yX2_placesOf, Cond.selects RX2 yX2_placesOf yX2_placesOf, Cond.initialized RX2, Cond.code yX2_placesOf cX2_placesOf 6 (some .int), Cond.methodLink RX2 78 yX2_goesTo, Cond.static yX2_goesTo, Cond.code yX2_goesTo cX2_goesTo 6 (some .boolean), Cond.instanceMethod yX0_degree, Cond.initialized RX0, Cond.selects RX0 yX0_degree yX0_degree, Cond.code yX0_degree cX0_degree 2 (some .int), Cond.fieldLink RX0 15 "OddNets$Net" "rows" "[I", Cond.methodLink RX0 61 yJ6_bitCount_0f7a4, Cond.static yJ6_bitCount_0f7a4, Cond.initialized RJ6, Cond.code yJ6_bitCount_0f7a4 cJ6_bitCount_0f7a4 1 (some .int), Cond.constant RJ6 265 (1431655765), Cond.constant RJ6 266 (858993459), Cond.constant RJ6 267 (252645135), Cond.instanceMethod yX0_joined, Cond.selects RX0 yX0_joined yX0_joined, Cond.code yX0_joined cX0_joined 3 (some .int)]
def wsX2_keepersOfNet_r2 : List Cond := [Cond.methodLink RX2 63 yX2_canGoOn, Cond.static yX2_canGoOn, Cond.code yX2_canGoOn cX2_canGoOn 6 (some .boolean)]
def wsX2_keepersOfNet : List Cond := .code yX2_keepersOfNet cX2_keepersOfNet 5 (some .int) :: ((wsX2_keepersOfNet_r1 ++ wsX2_keepersOfNet_r2) ++ wsX20 ++ wsX00)
def wsX2_keepersOfClass_r1 : List Cond := [Cond.fieldLink RX2 9 "OddNets$Renumbering" "at" "[I", Cond.instanceMethod yX0_leaveAlone, Cond.initialized RX0, Cond.selects RX0 yX0_leaveAlone yX0_leaveAlone, Cond.code yX0_leaveAlone cX0_leaveAlone 2 none, Cond.fieldLink RX0 15 "OddNets$Net" "rows" "[I", Cond.methodLink RX0 49 yX0_switchBy, Cond.instanceMethod yX0_switchBy, Cond.selects RX0 yX0_switchBy yX0_switchBy, Cond.code yX0_switchBy cX0_switchBy 4 none, Cond.fieldLink RX0 9 "OddNets$Net" "many" "I", Cond.methodLink RX0 53 yX0_allNodes, Cond.instanceMethod yX0_allNodes, Cond.selects RX0 yX0_allNodes yX0_allNodes, Cond.code yX0_allNodes cX0_allNodes 1 (some .int), Cond.instanceMethod yX0_copySwitched, Cond.selects RX0 yX0_copySwitched yX0_copySwitched, Cond.code yX0_copySwitched cX0_copySwitched 3 none, Cond.methodLink RX0 43 arraycopyName, Cond.native arraycopyName, Cond.static arraycopyName, Cond.initialized "java/lang/System", Cond.methodLink RX2 63 yX2_canGoOn, Cond.static yX2_canGoOn]
def wsX2_keepersOfClass_r2 : List Cond := [Cond.initialized RX2, Cond.code yX2_canGoOn cX2_canGoOn 6 (some .boolean), Cond.methodLink RX2 78 yX2_goesTo, Cond.static yX2_goesTo, Cond.code yX2_goesTo cX2_goesTo 6 (some .boolean), Cond.instanceMethod yX0_degree, Cond.selects RX0 yX0_degree yX0_degree, Cond.code yX0_degree cX0_degree 2 (some .int), Cond.methodLink RX0 61 yJ6_bitCount_0f7a4, Cond.static yJ6_bitCount_0f7a4, Cond.initialized RJ6, Cond.code yJ6_bitCount_0f7a4 cJ6_bitCount_0f7a4 1 (some .int), Cond.constant RJ6 265 (1431655765), Cond.constant RJ6 266 (858993459), Cond.constant RJ6 267 (252645135), Cond.instanceMethod yX0_joined, Cond.selects RX0 yX0_joined yX0_joined, Cond.code yX0_joined cX0_joined 3 (some .int), Cond.methodLink RX2 71 yX2_keepersOfNet, Cond.instanceMethod yX2_keepersOfNet, Cond.selects RX2 yX2_keepersOfNet yX2_keepersOfNet, Cond.code yX2_keepersOfNet cX2_keepersOfNet 5 (some .int), Cond.methodLink RX2 75 yX2_placesOf, Cond.instanceMethod yX2_placesOf]
def wsX2_keepersOfClass_r3 : List Cond := [Cond.selects RX2 yX2_placesOf yX2_placesOf, Cond.code yX2_placesOf cX2_placesOf 6 (some .int)]
def wsX2_keepersOfClass : List Cond := .code yX2_keepersOfClass cX2_keepersOfClass 5 (some .int) :: ((wsX2_keepersOfClass_r1 ++ (wsX2_keepersOfClass_r2 ++ wsX2_keepersOfClass_r3)) ++ wsX00 ++ wsX20)
def wsX3_init : List Cond := .code yX3_init cX3_init 1 none :: ([.methodLink RX3 3 objectInit, .instanceMethod objectInit, .code objectInit ⟨#[0xb1]⟩ 1 none, .fieldLink RX3 9 "OddNets$Shelf" "many" "I", .arrayClass .int, .fieldLink RX3 15 "OddNets$Shelf" "numbers" "[I"] ++ wsX30)
def wsX3_clear : List Cond := .code yX3_clear cX3_clear 2 none :: ([.fieldLink RX3 9 "OddNets$Shelf" "many" "I", .fieldLink RX3 15 "OddNets$Shelf" "numbers" "[I", .methodLink RX3 19 yJ7_fill_53178, .static yJ7_fill_53178, .initialized RJ7, .code yJ7_fill_53178 cJ7_fill_53178 4 none] ++ wsX30)
def wsX3_copy : List Cond := .code yX3_copy cX3_copy 2 none :: ([.fieldLink RX3 9 "OddNets$Shelf" "many" "I", .fieldLink RX3 15 "OddNets$Shelf" "numbers" "[I", .methodLink RX3 25 arraycopyName, .native arraycopyName, .static arraycopyName, .initialized "java/lang/System"] ++ wsX30)
def wsX3_isUnused : List Cond := .code yX3_isUnused cX3_isUnused 1 (some .boolean) :: ([.fieldLink RX3 9 "OddNets$Shelf" "many" "I"] ++ wsX30)
def wsX4_init : List Cond := .code yX4_init cX4_init 1 none :: ([.methodLink RX4 3 objectInit, .instanceMethod objectInit, .code objectInit ⟨#[0xb1]⟩ 1 none, .fieldLink RX4 9 "OddNets$Table" "many" "I", .fieldLink RX4 15 "OddNets$Table" "rank" "I", .fieldLink RX4 18 "OddNets$Table" "sign" "I", .fieldLink RX4 21 "OddNets$Table" "lastPivot" "J", .classLink RX4 25 "[[J", .arrayClass .long, .fieldLink RX4 27 "OddNets$Table" "cells" "[[J"] ++ wsX40)
def wsX4_fill : List Cond := .code yX4_fill cX4_fill 5 none :: ([.fieldLink RX4 9 "OddNets$Table" "many" "I", .fieldLink RX4 27 "OddNets$Table" "cells" "[[J", .instanceMethod yX0_joined, .initialized RX0, .selects RX0 yX0_joined yX0_joined, .code yX0_joined cX0_joined 3 (some .int), .fieldLink RX0 15 "OddNets$Net" "rows" "[I"] ++ wsX00 ++ wsX40)
def wsX4_pivotRow : List Cond := .code yX4_pivotRow cX4_pivotRow 3 (some .int) :: ([.fieldLink RX4 15 "OddNets$Table" "rank" "I", .fieldLink RX4 9 "OddNets$Table" "many" "I", .fieldLink RX4 27 "OddNets$Table" "cells" "[[J"] ++ wsX40)
def wsX4_bringUp : List Cond := .code yX4_bringUp cX4_bringUp 5 none :: ([.fieldLink RX4 15 "OddNets$Table" "rank" "I", .fieldLink RX4 9 "OddNets$Table" "many" "I", .fieldLink RX4 27 "OddNets$Table" "cells" "[[J", .fieldLink RX4 18 "OddNets$Table" "sign" "I"] ++ wsX40)
def wsX4_clearBelow : List Cond := .code yX4_clearBelow cX4_clearBelow 8 none :: ([.fieldLink RX4 21 "OddNets$Table" "lastPivot" "J", .fieldLink RX4 27 "OddNets$Table" "cells" "[[J", .fieldLink RX4 15 "OddNets$Table" "rank" "I", .fieldLink RX4 9 "OddNets$Table" "many" "I"] ++ wsX40)
def wsX4_eliminate : List Cond := .code yX4_eliminate cX4_eliminate 3 none :: ([.fieldLink RX4 15 "OddNets$Table" "rank" "I", .fieldLink RX4 18 "OddNets$Table" "sign" "I", .fieldLink RX4 21 "OddNets$Table" "lastPivot" "J", .fieldLink RX4 9 "OddNets$Table" "many" "I", .fieldLink RX4 27 "OddNets$Table" "cells" "[[J", .methodLink RX4 37 yX4_pivotRow, .instanceMethod yX4_pivotRow, .selects RX4 yX4_pivotRow yX4_pivotRow, .initialized RX4, .code yX4_pivotRow cX4_pivotRow 3 (some .int), .methodLink RX4 41 yX4_bringUp, .instanceMethod yX4_bringUp, .selects RX4 yX4_bringUp yX4_bringUp, .code yX4_bringUp cX4_bringUp 5 none, .methodLink RX4 45 yX4_clearBelow, .instanceMethod yX4_clearBelow, .selects RX4 yX4_clearBelow yX4_clearBelow, .code yX4_clearBelow cX4_clearBelow 8 none] ++ wsX40)
def wsX4_determinant : List Cond := .code yX4_determinant cX4_determinant 1 (some .long) :: ([.fieldLink RX4 15 "OddNets$Table" "rank" "I", .fieldLink RX4 9 "OddNets$Table" "many" "I", .fieldLink RX4 18 "OddNets$Table" "sign" "I", .fieldLink RX4 21 "OddNets$Table" "lastPivot" "J"] ++ wsX40)
def wsX5_init_r1 : List Cond := [Cond.methodLink RX5 1 objectInit, Cond.instanceMethod objectInit, Cond.code objectInit ⟨#[0xb1]⟩ 1 none, Cond.classLink RX5 7 RX3, Cond.instantiable RX3 2, Cond.initialized RX3, Cond.fieldLink RX5 10 "OddNets" "now" "LOddNets$Shelf;", Cond.fieldLink RX5 16 "OddNets" "images" "[LOddNets$Shelf;", Cond.classLink RX5 20 RX1, Cond.instantiable RX1 2, Cond.initialized RX1, Cond.fieldLink RX5 23 "OddNets" "pad" "LOddNets$Pad;", Cond.classLink RX5 27 RX0, Cond.instantiable RX0 2, Cond.initialized RX0, Cond.fieldLink RX5 30 "OddNets" "net" "LOddNets$Net;", Cond.fieldLink RX5 34 "OddNets" "second" "LOddNets$Net;", Cond.classLink RX5 37 RX2, Cond.instantiable RX2 1, Cond.initialized RX2, Cond.fieldLink RX5 40 "OddNets" "renumbering" "LOddNets$Renumbering;", Cond.classLink RX5 44 RX4, Cond.instantiable RX4 5, Cond.initialized RX4]
def wsX5_init_r2 : List Cond := [Cond.fieldLink RX5 47 "OddNets" "table" "LOddNets$Table;", Cond.arrayClass .int, Cond.fieldLink RX5 51 "OddNets" "marks" "[I", Cond.instanceMethod yX3_init, Cond.code yX3_init cX3_init 1 none, Cond.methodLink RX3 3 objectInit, Cond.fieldLink RX3 9 "OddNets$Shelf" "many" "I", Cond.fieldLink RX3 15 "OddNets$Shelf" "numbers" "[I", Cond.instanceMethod yX1_init, Cond.code yX1_init cX1_init 1 none, Cond.methodLink RX1 3 objectInit, Cond.fieldLink RX1 9 "OddNets$Pad" "size" "I", Cond.fieldLink RX1 15 "OddNets$Pad" "signs" "[I", Cond.instanceMethod yX0_init, Cond.code yX0_init cX0_init 1 none, Cond.methodLink RX0 3 objectInit, Cond.fieldLink RX0 9 "OddNets$Net" "many" "I", Cond.fieldLink RX0 15 "OddNets$Net" "rows" "[I", Cond.instanceMethod yX2_init, Cond.code yX2_init cX2_init 1 none, Cond.methodLink RX2 3 objectInit, Cond.fieldLink RX2 9 "OddNets$Renumbering" "at" "[I", Cond.instanceMethod yX4_init, Cond.code yX4_init cX4_init 1 none]
def wsX5_init_r3 : List Cond := [Cond.methodLink RX4 3 objectInit, Cond.fieldLink RX4 9 "OddNets$Table" "many" "I", Cond.fieldLink RX4 15 "OddNets$Table" "rank" "I", Cond.fieldLink RX4 18 "OddNets$Table" "sign" "I", Cond.fieldLink RX4 21 "OddNets$Table" "lastPivot" "J", Cond.classLink RX4 25 "[[J", Cond.arrayClass .long, Cond.fieldLink RX4 27 "OddNets$Table" "cells" "[[J", Cond.instanceMethod yX3_clear, Cond.selects RX3 yX3_clear yX3_clear, Cond.code yX3_clear cX3_clear 2 none, Cond.methodLink RX3 19 yJ7_fill_53178, Cond.static yJ7_fill_53178, Cond.initialized RJ7, Cond.code yJ7_fill_53178 cJ7_fill_53178 4 none]
def wsX5_init : List Cond := .code yX5_init cX5_init 2 none :: ((wsX5_init_r1 ++ (wsX5_init_r2 ++ wsX5_init_r3)) ++ wsX30 ++ wsX50 ++ wsX10 ++ wsX00 ++ wsX20 ++ wsX40)
def wsX5_within : List Cond := .code yX5_within cX5_within 3 (some .boolean) :: ([])
def wsX5_nodes : List Cond := .code yX5_nodes cX5_nodes 3 (some .int) :: ([.fieldLink RX5 10 "OddNets" "now" "LOddNets$Shelf;", .methodLink RX5 59 yX5_within, .static yX5_within, .initialized RX5, .code yX5_within cX5_within 3 (some .boolean), .instanceMethod yX3_clear, .initialized RX3, .selects RX3 yX3_clear yX3_clear, .code yX3_clear cX3_clear 2 none, .fieldLink RX3 9 "OddNets$Shelf" "many" "I", .fieldLink RX3 15 "OddNets$Shelf" "numbers" "[I", .methodLink RX3 19 yJ7_fill_53178, .static yJ7_fill_53178, .initialized RJ7, .code yJ7_fill_53178 cJ7_fill_53178 4 none] ++ wsX50 ++ wsX30)
def wsX5_isSlot : List Cond := .code yX5_isSlot cX5_isSlot 1 (some .boolean) :: ([.methodLink RX5 59 yX5_within, .static yX5_within, .initialized RX5, .code yX5_within cX5_within 3 (some .boolean)])
def wsX5_isNode : List Cond := .code yX5_isNode cX5_isNode 2 (some .boolean) :: ([.fieldLink RX5 10 "OddNets" "now" "LOddNets$Shelf;", .methodLink RX5 59 yX5_within, .static yX5_within, .initialized RX5, .code yX5_within cX5_within 3 (some .boolean)] ++ wsX50 ++ wsX30)
def wsX5_load : List Cond := .code yX5_load cX5_load 3 none :: ([.fieldLink RX5 10 "OddNets" "now" "LOddNets$Shelf;", .instanceMethod yX0_clear, .initialized RX0, .selects RX0 yX0_clear yX0_clear, .code yX0_clear cX0_clear 2 none, .fieldLink RX0 9 "OddNets$Net" "many" "I", .fieldLink RX0 15 "OddNets$Net" "rows" "[I", .methodLink RX0 19 yJ7_fill_53178, .static yJ7_fill_53178, .initialized RJ7, .code yJ7_fill_53178 cJ7_fill_53178 4 none, .instanceMethod yX0_takeNumber, .selects RX0 yX0_takeNumber yX0_takeNumber, .code yX0_takeNumber cX0_takeNumber 5 none, .static yX5_pairsOf, .initialized RX5, .code yX5_pairsOf cX5_pairsOf 1 (some .int), .methodLink RX0 29 yX0_connect, .instanceMethod yX0_connect, .selects RX0 yX0_connect yX0_connect, .code yX0_connect cX0_connect 4 none] ++ wsX50 ++ wsX30 ++ wsX00)
def wsX5_join_r1 : List Cond := [Cond.fieldLink RX5 30 "OddNets" "net" "LOddNets$Net;", Cond.fieldLink RX5 10 "OddNets" "now" "LOddNets$Shelf;", Cond.methodLink RX5 67 yX5_isSlot, Cond.static yX5_isSlot, Cond.initialized RX5, Cond.code yX5_isSlot cX5_isSlot 1 (some .boolean), Cond.methodLink RX5 59 yX5_within, Cond.static yX5_within, Cond.code yX5_within cX5_within 3 (some .boolean), Cond.methodLink RX5 71 yX5_isNode, Cond.instanceMethod yX5_isNode, Cond.selects RX5 yX5_isNode yX5_isNode, Cond.code yX5_isNode cX5_isNode 2 (some .boolean), Cond.methodLink RX5 74 yX5_load, Cond.instanceMethod yX5_load, Cond.selects RX5 yX5_load yX5_load, Cond.code yX5_load cX5_load 3 none, Cond.instanceMethod yX0_clear, Cond.initialized RX0, Cond.selects RX0 yX0_clear yX0_clear, Cond.code yX0_clear cX0_clear 2 none, Cond.fieldLink RX0 9 "OddNets$Net" "many" "I", Cond.fieldLink RX0 15 "OddNets$Net" "rows" "[I", Cond.methodLink RX0 19 yJ7_fill_53178]
def wsX5_join_r2 : List Cond := [Cond.static yJ7_fill_53178, Cond.initialized RJ7, Cond.code yJ7_fill_53178 cJ7_fill_53178 4 none, Cond.instanceMethod yX0_takeNumber, Cond.selects RX0 yX0_takeNumber yX0_takeNumber, Cond.code yX0_takeNumber cX0_takeNumber 5 none, Cond.static yX5_pairsOf, Cond.code yX5_pairsOf cX5_pairsOf 1 (some .int), Cond.methodLink RX0 29 yX0_connect, Cond.instanceMethod yX0_connect, Cond.selects RX0 yX0_connect yX0_connect, Cond.code yX0_connect cX0_connect 4 none, Cond.instanceMethod yX0_number, Cond.selects RX0 yX0_number yX0_number, Cond.code yX0_number cX0_number 4 (some .int), Cond.methodLink RX0 57 yX0_joined, Cond.instanceMethod yX0_joined, Cond.selects RX0 yX0_joined yX0_joined, Cond.code yX0_joined cX0_joined 3 (some .int), Cond.instanceMethod yX0_joinedPairs, Cond.selects RX0 yX0_joinedPairs yX0_joinedPairs, Cond.code yX0_joinedPairs cX0_joinedPairs 3 (some .int), Cond.methodLink RX0 66 yX0_degree, Cond.instanceMethod yX0_degree]
def wsX5_join_r3 : List Cond := [Cond.selects RX0 yX0_degree yX0_degree, Cond.code yX0_degree cX0_degree 2 (some .int), Cond.methodLink RX0 61 yJ6_bitCount_0f7a4, Cond.static yJ6_bitCount_0f7a4, Cond.initialized RJ6, Cond.code yJ6_bitCount_0f7a4 cJ6_bitCount_0f7a4 1 (some .int), Cond.constant RJ6 265 (1431655765), Cond.constant RJ6 266 (858993459), Cond.constant RJ6 267 (252645135)]
def wsX5_join : List Cond := .code yX5_join cX5_join 5 (some .int) :: ((wsX5_join_r1 ++ (wsX5_join_r2 ++ wsX5_join_r3)) ++ wsX50 ++ wsX30 ++ wsX00)
def wsX5_set : List Cond := .code yX5_set cX5_set 4 (some .int) :: ([.fieldLink RX5 10 "OddNets" "now" "LOddNets$Shelf;", .methodLink RX5 67 yX5_isSlot, .static yX5_isSlot, .initialized RX5, .code yX5_isSlot cX5_isSlot 1 (some .boolean), .methodLink RX5 59 yX5_within, .static yX5_within, .code yX5_within cX5_within 3 (some .boolean), .methodLink RX5 92 yX5_pairsOf, .static yX5_pairsOf, .code yX5_pairsOf cX5_pairsOf 1 (some .int)] ++ wsX50 ++ wsX30)
def wsX5_say : List Cond := .code yX5_say cX5_say 2 (some .int) :: ([.fieldLink RX5 23 "OddNets" "pad" "LOddNets$Pad;", .methodLink RX5 59 yX5_within, .static yX5_within, .initialized RX5, .code yX5_within cX5_within 3 (some .boolean), .instanceMethod yX1_put, .initialized RX1, .selects RX1 yX1_put yX1_put, .code yX1_put cX1_put 2 none, .fieldLink RX1 9 "OddNets$Pad" "size" "I", .fieldLink RX1 15 "OddNets$Pad" "signs" "[I"] ++ wsX50 ++ wsX10)
def wsX5_wipe : List Cond := .code yX5_wipe cX5_wipe 2 (some .int) :: ([.fieldLink RX5 23 "OddNets" "pad" "LOddNets$Pad;"] ++ wsX50 ++ wsX10)
def wsX5_triplesOf : List Cond := .code yX5_triplesOf cX5_triplesOf 1 (some .int) :: ([])
def wsX5_signsFor : List Cond := .code yX5_signsFor cX5_signsFor 2 (some .int) :: ([.fieldLink RX5 10 "OddNets" "now" "LOddNets$Shelf;", .methodLink RX5 92 yX5_pairsOf, .static yX5_pairsOf, .initialized RX5, .code yX5_pairsOf cX5_pairsOf 1 (some .int), .methodLink RX5 208 yX5_triplesOf, .static yX5_triplesOf, .code yX5_triplesOf cX5_triplesOf 1 (some .int)] ++ wsX50 ++ wsX30)
def wsX5_fault : List Cond := .code yX5_fault cX5_fault 2 (some .int) :: ([.fieldLink RX5 23 "OddNets" "pad" "LOddNets$Pad;", .methodLink RX5 59 yX5_within, .static yX5_within, .initialized RX5, .code yX5_within cX5_within 3 (some .boolean), .methodLink RX5 102 yX5_signsFor, .instanceMethod yX5_signsFor, .selects RX5 yX5_signsFor yX5_signsFor, .code yX5_signsFor cX5_signsFor 2 (some .int), .fieldLink RX5 10 "OddNets" "now" "LOddNets$Shelf;", .methodLink RX5 92 yX5_pairsOf, .static yX5_pairsOf, .code yX5_pairsOf cX5_pairsOf 1 (some .int), .methodLink RX5 208 yX5_triplesOf, .static yX5_triplesOf, .code yX5_triplesOf cX5_triplesOf 1 (some .int), .instanceMethod yX1_faultFor, .initialized RX1, .selects RX1 yX1_faultFor yX1_faultFor, .code yX1_faultFor cX1_faultFor 3 (some .int), .fieldLink RX1 9 "OddNets$Pad" "size" "I", .fieldLink RX1 15 "OddNets$Pad" "signs" "[I"] ++ wsX50 ++ wsX30 ++ wsX10)
def wsX5_read_r1 : List Cond := [Cond.fieldLink RX5 23 "OddNets" "pad" "LOddNets$Pad;", Cond.fieldLink RX5 30 "OddNets" "net" "LOddNets$Net;", Cond.fieldLink RX5 10 "OddNets" "now" "LOddNets$Shelf;", Cond.methodLink RX5 67 yX5_isSlot, Cond.static yX5_isSlot, Cond.initialized RX5, Cond.code yX5_isSlot cX5_isSlot 1 (some .boolean), Cond.methodLink RX5 59 yX5_within, Cond.static yX5_within, Cond.code yX5_within cX5_within 3 (some .boolean), Cond.methodLink RX5 102 yX5_signsFor, Cond.instanceMethod yX5_signsFor, Cond.selects RX5 yX5_signsFor yX5_signsFor, Cond.code yX5_signsFor cX5_signsFor 2 (some .int), Cond.methodLink RX5 92 yX5_pairsOf, Cond.static yX5_pairsOf, Cond.code yX5_pairsOf cX5_pairsOf 1 (some .int), Cond.methodLink RX5 208 yX5_triplesOf, Cond.static yX5_triplesOf, Cond.code yX5_triplesOf cX5_triplesOf 1 (some .int), Cond.instanceMethod yX1_faultFor, Cond.initialized RX1, Cond.selects RX1 yX1_faultFor yX1_faultFor, Cond.code yX1_faultFor cX1_faultFor 3 (some .int)]
def wsX5_read_r2 : List Cond := [Cond.fieldLink RX1 9 "OddNets$Pad" "size" "I", Cond.fieldLink RX1 15 "OddNets$Pad" "signs" "[I", Cond.instanceMethod yX0_clear, Cond.initialized RX0, Cond.selects RX0 yX0_clear yX0_clear, Cond.code yX0_clear cX0_clear 2 none, Cond.fieldLink RX0 9 "OddNets$Net" "many" "I", Cond.fieldLink RX0 15 "OddNets$Net" "rows" "[I", Cond.methodLink RX0 19 yJ7_fill_53178, Cond.static yJ7_fill_53178, Cond.initialized RJ7, Cond.code yJ7_fill_53178 cJ7_fill_53178 4 none, Cond.instanceMethod yX0_takePairs, Cond.selects RX0 yX0_takePairs yX0_takePairs, Cond.code yX0_takePairs cX0_takePairs 5 none, Cond.instanceMethod yX1_tells, Cond.selects RX1 yX1_tells yX1_tells, Cond.code yX1_tells cX1_tells 2 (some .boolean), Cond.methodLink RX0 29 yX0_connect, Cond.instanceMethod yX0_connect, Cond.selects RX0 yX0_connect yX0_connect, Cond.code yX0_connect cX0_connect 4 none, Cond.instanceMethod yX0_takeTriples, Cond.selects RX0 yX0_takeTriples yX0_takeTriples]
def wsX5_read_r3 : List Cond := [Cond.code yX0_takeTriples cX0_takeTriples 7 (some .boolean), Cond.methodLink RX0 39 yX0_isOdd, Cond.instanceMethod yX0_isOdd, Cond.selects RX0 yX0_isOdd yX0_isOdd, Cond.code yX0_isOdd cX0_isOdd 4 (some .boolean), Cond.methodLink RX0 57 yX0_joined, Cond.instanceMethod yX0_joined, Cond.selects RX0 yX0_joined yX0_joined, Cond.code yX0_joined cX0_joined 3 (some .int), Cond.instanceMethod yX0_number, Cond.selects RX0 yX0_number yX0_number, Cond.code yX0_number cX0_number 4 (some .int)]
def wsX5_read : List Cond := .code yX5_read cX5_read 3 (some .int) :: ((wsX5_read_r1 ++ (wsX5_read_r2 ++ wsX5_read_r3)) ++ wsX50 ++ wsX30 ++ wsX10 ++ wsX00)
def wsX5_turn_r1 : List Cond := [Cond.fieldLink RX5 10 "OddNets" "now" "LOddNets$Shelf;", Cond.fieldLink RX5 30 "OddNets" "net" "LOddNets$Net;", Cond.methodLink RX5 67 yX5_isSlot, Cond.static yX5_isSlot, Cond.initialized RX5, Cond.code yX5_isSlot cX5_isSlot 1 (some .boolean), Cond.methodLink RX5 59 yX5_within, Cond.static yX5_within, Cond.code yX5_within cX5_within 3 (some .boolean), Cond.methodLink RX5 74 yX5_load, Cond.instanceMethod yX5_load, Cond.selects RX5 yX5_load yX5_load, Cond.code yX5_load cX5_load 3 none, Cond.instanceMethod yX0_clear, Cond.initialized RX0, Cond.selects RX0 yX0_clear yX0_clear, Cond.code yX0_clear cX0_clear 2 none, Cond.fieldLink RX0 9 "OddNets$Net" "many" "I", Cond.fieldLink RX0 15 "OddNets$Net" "rows" "[I", Cond.methodLink RX0 19 yJ7_fill_53178, Cond.static yJ7_fill_53178, Cond.initialized RJ7, Cond.code yJ7_fill_53178 cJ7_fill_53178 4 none, Cond.instanceMethod yX0_takeNumber]
def wsX5_turn_r2 : List Cond := [Cond.selects RX0 yX0_takeNumber yX0_takeNumber, Cond.code yX0_takeNumber cX0_takeNumber 5 none, Cond.static yX5_pairsOf, Cond.code yX5_pairsOf cX5_pairsOf 1 (some .int), Cond.methodLink RX0 29 yX0_connect, Cond.instanceMethod yX0_connect, Cond.selects RX0 yX0_connect yX0_connect, Cond.code yX0_connect cX0_connect 4 none, Cond.instanceMethod yX0_switchBy, Cond.selects RX0 yX0_switchBy yX0_switchBy, Cond.code yX0_switchBy cX0_switchBy 4 none, Cond.methodLink RX0 53 yX0_allNodes, Cond.instanceMethod yX0_allNodes, Cond.selects RX0 yX0_allNodes yX0_allNodes, Cond.code yX0_allNodes cX0_allNodes 1 (some .int), Cond.instanceMethod yX0_number, Cond.selects RX0 yX0_number yX0_number, Cond.code yX0_number cX0_number 4 (some .int), Cond.methodLink RX0 57 yX0_joined, Cond.instanceMethod yX0_joined, Cond.selects RX0 yX0_joined yX0_joined, Cond.code yX0_joined cX0_joined 3 (some .int)]
def wsX5_turn : List Cond := .code yX5_turn cX5_turn 4 (some .int) :: ((wsX5_turn_r1 ++ wsX5_turn_r2) ++ wsX50 ++ wsX30 ++ wsX00)
def wsX5_of_r1 : List Cond := [Cond.fieldLink RX5 30 "OddNets" "net" "LOddNets$Net;", Cond.fieldLink RX5 10 "OddNets" "now" "LOddNets$Shelf;", Cond.methodLink RX5 67 yX5_isSlot, Cond.static yX5_isSlot, Cond.initialized RX5, Cond.code yX5_isSlot cX5_isSlot 1 (some .boolean), Cond.methodLink RX5 59 yX5_within, Cond.static yX5_within, Cond.code yX5_within cX5_within 3 (some .boolean), Cond.methodLink RX5 74 yX5_load, Cond.instanceMethod yX5_load, Cond.selects RX5 yX5_load yX5_load, Cond.code yX5_load cX5_load 3 none, Cond.instanceMethod yX0_clear, Cond.initialized RX0, Cond.selects RX0 yX0_clear yX0_clear, Cond.code yX0_clear cX0_clear 2 none, Cond.fieldLink RX0 9 "OddNets$Net" "many" "I", Cond.fieldLink RX0 15 "OddNets$Net" "rows" "[I", Cond.methodLink RX0 19 yJ7_fill_53178, Cond.static yJ7_fill_53178, Cond.initialized RJ7, Cond.code yJ7_fill_53178 cJ7_fill_53178 4 none, Cond.instanceMethod yX0_takeNumber]
def wsX5_of_r2 : List Cond := [Cond.selects RX0 yX0_takeNumber yX0_takeNumber, Cond.code yX0_takeNumber cX0_takeNumber 5 none, Cond.static yX5_pairsOf, Cond.code yX5_pairsOf cX5_pairsOf 1 (some .int), Cond.methodLink RX0 29 yX0_connect, Cond.instanceMethod yX0_connect, Cond.selects RX0 yX0_connect yX0_connect, Cond.code yX0_connect cX0_connect 4 none, Cond.instanceMethod yX0_joinedPairs, Cond.selects RX0 yX0_joinedPairs yX0_joinedPairs, Cond.code yX0_joinedPairs cX0_joinedPairs 3 (some .int), Cond.methodLink RX0 66 yX0_degree, Cond.instanceMethod yX0_degree, Cond.selects RX0 yX0_degree yX0_degree, Cond.code yX0_degree cX0_degree 2 (some .int), Cond.methodLink RX0 61 yJ6_bitCount_0f7a4, Cond.static yJ6_bitCount_0f7a4, Cond.initialized RJ6, Cond.code yJ6_bitCount_0f7a4 cJ6_bitCount_0f7a4 1 (some .int), Cond.constant RJ6 265 (1431655765), Cond.constant RJ6 266 (858993459), Cond.constant RJ6 267 (252645135), Cond.instanceMethod yX0_oddTriples, Cond.selects RX0 yX0_oddTriples yX0_oddTriples]
def wsX5_of_r3 : List Cond := [Cond.code yX0_oddTriples cX0_oddTriples 3 (some .int), Cond.methodLink RX0 72 yX0_oddTriplesAtNode, Cond.instanceMethod yX0_oddTriplesAtNode, Cond.selects RX0 yX0_oddTriplesAtNode yX0_oddTriplesAtNode, Cond.code yX0_oddTriplesAtNode cX0_oddTriplesAtNode 4 (some .int), Cond.methodLink RX0 69 yX0_oddTriplesAtPair, Cond.instanceMethod yX0_oddTriplesAtPair, Cond.selects RX0 yX0_oddTriplesAtPair yX0_oddTriplesAtPair, Cond.code yX0_oddTriplesAtPair cX0_oddTriplesAtPair 4 (some .int), Cond.methodLink RX0 57 yX0_joined, Cond.instanceMethod yX0_joined, Cond.selects RX0 yX0_joined yX0_joined, Cond.code yX0_joined cX0_joined 3 (some .int), Cond.methodLink RX0 53 yX0_allNodes, Cond.instanceMethod yX0_allNodes, Cond.selects RX0 yX0_allNodes yX0_allNodes, Cond.code yX0_allNodes cX0_allNodes 1 (some .int), Cond.instanceMethod yX0_oddTriplesOfEachPair, Cond.selects RX0 yX0_oddTriplesOfEachPair yX0_oddTriplesOfEachPair, Cond.code yX0_oddTriplesOfEachPair cX0_oddTriplesOfEachPair 4 (some .int), Cond.instanceMethod yX0_oddDegrees, Cond.selects RX0 yX0_oddDegrees yX0_oddDegrees, Cond.code yX0_oddDegrees cX0_oddDegrees 3 (some .int)]
def wsX5_of : List Cond := .code yX5_of cX5_of 3 (some .int) :: ((wsX5_of_r1 ++ (wsX5_of_r2 ++ wsX5_of_r3)) ++ wsX50 ++ wsX30 ++ wsX00)
def wsX5_node_r1 : List Cond := [Cond.fieldLink RX5 30 "OddNets" "net" "LOddNets$Net;", Cond.methodLink RX5 67 yX5_isSlot, Cond.static yX5_isSlot, Cond.initialized RX5, Cond.code yX5_isSlot cX5_isSlot 1 (some .boolean), Cond.methodLink RX5 59 yX5_within, Cond.static yX5_within, Cond.code yX5_within cX5_within 3 (some .boolean), Cond.methodLink RX5 71 yX5_isNode, Cond.instanceMethod yX5_isNode, Cond.selects RX5 yX5_isNode yX5_isNode, Cond.code yX5_isNode cX5_isNode 2 (some .boolean), Cond.fieldLink RX5 10 "OddNets" "now" "LOddNets$Shelf;", Cond.methodLink RX5 74 yX5_load, Cond.instanceMethod yX5_load, Cond.selects RX5 yX5_load yX5_load, Cond.code yX5_load cX5_load 3 none, Cond.instanceMethod yX0_clear, Cond.initialized RX0, Cond.selects RX0 yX0_clear yX0_clear, Cond.code yX0_clear cX0_clear 2 none, Cond.fieldLink RX0 9 "OddNets$Net" "many" "I", Cond.fieldLink RX0 15 "OddNets$Net" "rows" "[I", Cond.methodLink RX0 19 yJ7_fill_53178]
def wsX5_node_r2 : List Cond := [Cond.static yJ7_fill_53178, Cond.initialized RJ7, Cond.code yJ7_fill_53178 cJ7_fill_53178 4 none, Cond.instanceMethod yX0_takeNumber, Cond.selects RX0 yX0_takeNumber yX0_takeNumber, Cond.code yX0_takeNumber cX0_takeNumber 5 none, Cond.static yX5_pairsOf, Cond.code yX5_pairsOf cX5_pairsOf 1 (some .int), Cond.methodLink RX0 29 yX0_connect, Cond.instanceMethod yX0_connect, Cond.selects RX0 yX0_connect yX0_connect, Cond.code yX0_connect cX0_connect 4 none, Cond.instanceMethod yX0_degree, Cond.selects RX0 yX0_degree yX0_degree, Cond.code yX0_degree cX0_degree 2 (some .int), Cond.methodLink RX0 61 yJ6_bitCount_0f7a4, Cond.static yJ6_bitCount_0f7a4, Cond.initialized RJ6, Cond.code yJ6_bitCount_0f7a4 cJ6_bitCount_0f7a4 1 (some .int), Cond.constant RJ6 265 (1431655765), Cond.constant RJ6 266 (858993459), Cond.constant RJ6 267 (252645135), Cond.instanceMethod yX0_oddTriplesAtNode, Cond.selects RX0 yX0_oddTriplesAtNode yX0_oddTriplesAtNode]
def wsX5_node_r3 : List Cond := [Cond.code yX0_oddTriplesAtNode cX0_oddTriplesAtNode 4 (some .int), Cond.methodLink RX0 69 yX0_oddTriplesAtPair, Cond.instanceMethod yX0_oddTriplesAtPair, Cond.selects RX0 yX0_oddTriplesAtPair yX0_oddTriplesAtPair, Cond.code yX0_oddTriplesAtPair cX0_oddTriplesAtPair 4 (some .int), Cond.methodLink RX0 57 yX0_joined, Cond.instanceMethod yX0_joined, Cond.selects RX0 yX0_joined yX0_joined, Cond.code yX0_joined cX0_joined 3 (some .int), Cond.methodLink RX0 53 yX0_allNodes, Cond.instanceMethod yX0_allNodes, Cond.selects RX0 yX0_allNodes yX0_allNodes, Cond.code yX0_allNodes cX0_allNodes 1 (some .int), Cond.instanceMethod yX0_leaveAlone, Cond.selects RX0 yX0_leaveAlone yX0_leaveAlone, Cond.code yX0_leaveAlone cX0_leaveAlone 2 none, Cond.methodLink RX0 49 yX0_switchBy, Cond.instanceMethod yX0_switchBy, Cond.selects RX0 yX0_switchBy yX0_switchBy, Cond.code yX0_switchBy cX0_switchBy 4 none, Cond.instanceMethod yX0_number, Cond.selects RX0 yX0_number yX0_number, Cond.code yX0_number cX0_number 4 (some .int), Cond.instanceMethod yX0_drop]
def wsX5_node_r4 : List Cond := [Cond.selects RX0 yX0_drop yX0_drop, Cond.code yX0_drop cX0_drop 4 none]
def wsX5_node : List Cond := .code yX5_node cX5_node 4 (some .int) :: ((wsX5_node_r1 ++ (wsX5_node_r2 ++ (wsX5_node_r3 ++ wsX5_node_r4))) ++ wsX50 ++ wsX30 ++ wsX00)
def wsX5_pair_r1 : List Cond := [Cond.fieldLink RX5 30 "OddNets" "net" "LOddNets$Net;", Cond.methodLink RX5 67 yX5_isSlot, Cond.static yX5_isSlot, Cond.initialized RX5, Cond.code yX5_isSlot cX5_isSlot 1 (some .boolean), Cond.methodLink RX5 59 yX5_within, Cond.static yX5_within, Cond.code yX5_within cX5_within 3 (some .boolean), Cond.methodLink RX5 71 yX5_isNode, Cond.instanceMethod yX5_isNode, Cond.selects RX5 yX5_isNode yX5_isNode, Cond.code yX5_isNode cX5_isNode 2 (some .boolean), Cond.fieldLink RX5 10 "OddNets" "now" "LOddNets$Shelf;", Cond.methodLink RX5 74 yX5_load, Cond.instanceMethod yX5_load, Cond.selects RX5 yX5_load yX5_load, Cond.code yX5_load cX5_load 3 none, Cond.instanceMethod yX0_clear, Cond.initialized RX0, Cond.selects RX0 yX0_clear yX0_clear, Cond.code yX0_clear cX0_clear 2 none, Cond.fieldLink RX0 9 "OddNets$Net" "many" "I", Cond.fieldLink RX0 15 "OddNets$Net" "rows" "[I", Cond.methodLink RX0 19 yJ7_fill_53178]
def wsX5_pair_r2 : List Cond := [Cond.static yJ7_fill_53178, Cond.initialized RJ7, Cond.code yJ7_fill_53178 cJ7_fill_53178 4 none, Cond.instanceMethod yX0_takeNumber, Cond.selects RX0 yX0_takeNumber yX0_takeNumber, Cond.code yX0_takeNumber cX0_takeNumber 5 none, Cond.static yX5_pairsOf, Cond.code yX5_pairsOf cX5_pairsOf 1 (some .int), Cond.methodLink RX0 29 yX0_connect, Cond.instanceMethod yX0_connect, Cond.selects RX0 yX0_connect yX0_connect, Cond.code yX0_connect cX0_connect 4 none, Cond.instanceMethod yX0_joined, Cond.selects RX0 yX0_joined yX0_joined, Cond.code yX0_joined cX0_joined 3 (some .int), Cond.instanceMethod yX0_oddTriplesAtPair, Cond.selects RX0 yX0_oddTriplesAtPair yX0_oddTriplesAtPair, Cond.code yX0_oddTriplesAtPair cX0_oddTriplesAtPair 4 (some .int), Cond.methodLink RX0 57 yX0_joined, Cond.methodLink RX0 53 yX0_allNodes, Cond.instanceMethod yX0_allNodes, Cond.selects RX0 yX0_allNodes yX0_allNodes, Cond.code yX0_allNodes cX0_allNodes 1 (some .int), Cond.methodLink RX0 61 yJ6_bitCount_0f7a4]
def wsX5_pair_r3 : List Cond := [Cond.static yJ6_bitCount_0f7a4, Cond.initialized RJ6, Cond.code yJ6_bitCount_0f7a4 cJ6_bitCount_0f7a4 1 (some .int), Cond.constant RJ6 265 (1431655765), Cond.constant RJ6 266 (858993459), Cond.constant RJ6 267 (252645135), Cond.instanceMethod yX0_shared, Cond.selects RX0 yX0_shared yX0_shared, Cond.code yX0_shared cX0_shared 3 (some .int)]
def wsX5_pair : List Cond := .code yX5_pair cX5_pair 5 (some .int) :: ((wsX5_pair_r1 ++ (wsX5_pair_r2 ++ wsX5_pair_r3)) ++ wsX50 ++ wsX30 ++ wsX00)
def wsX5_fewest_r1 : List Cond := [Cond.fieldLink RX5 30 "OddNets" "net" "LOddNets$Net;", Cond.fieldLink RX5 10 "OddNets" "now" "LOddNets$Shelf;", Cond.fieldLink RX5 34 "OddNets" "second" "LOddNets$Net;", Cond.methodLink RX5 67 yX5_isSlot, Cond.static yX5_isSlot, Cond.initialized RX5, Cond.code yX5_isSlot cX5_isSlot 1 (some .boolean), Cond.methodLink RX5 59 yX5_within, Cond.static yX5_within, Cond.code yX5_within cX5_within 3 (some .boolean), Cond.methodLink RX5 74 yX5_load, Cond.instanceMethod yX5_load, Cond.selects RX5 yX5_load yX5_load, Cond.code yX5_load cX5_load 3 none, Cond.instanceMethod yX0_clear, Cond.initialized RX0, Cond.selects RX0 yX0_clear yX0_clear, Cond.code yX0_clear cX0_clear 2 none, Cond.fieldLink RX0 9 "OddNets$Net" "many" "I", Cond.fieldLink RX0 15 "OddNets$Net" "rows" "[I", Cond.methodLink RX0 19 yJ7_fill_53178, Cond.static yJ7_fill_53178, Cond.initialized RJ7, Cond.code yJ7_fill_53178 cJ7_fill_53178 4 none]
def wsX5_fewest_r2 : List Cond := [Cond.instanceMethod yX0_takeNumber, Cond.selects RX0 yX0_takeNumber yX0_takeNumber, Cond.code yX0_takeNumber cX0_takeNumber 5 none, Cond.static yX5_pairsOf, Cond.code yX5_pairsOf cX5_pairsOf 1 (some .int), Cond.methodLink RX0 29 yX0_connect, Cond.instanceMethod yX0_connect, Cond.selects RX0 yX0_connect yX0_connect, Cond.code yX0_connect cX0_connect 4 none, Cond.methodLink RX5 92 yX5_pairsOf, Cond.instanceMethod yX0_copySwitched, Cond.selects RX0 yX0_copySwitched yX0_copySwitched, Cond.code yX0_copySwitched cX0_copySwitched 3 none, Cond.methodLink RX0 43 arraycopyName, Cond.native arraycopyName, Cond.static arraycopyName, Cond.initialized "java/lang/System", Cond.methodLink RX0 49 yX0_switchBy, Cond.instanceMethod yX0_switchBy, Cond.selects RX0 yX0_switchBy yX0_switchBy, Cond.code yX0_switchBy cX0_switchBy 4 none, Cond.methodLink RX0 53 yX0_allNodes, Cond.instanceMethod yX0_allNodes, Cond.selects RX0 yX0_allNodes yX0_allNodes]
def wsX5_fewest_r3 : List Cond := [Cond.code yX0_allNodes cX0_allNodes 1 (some .int), Cond.instanceMethod yX0_joinedPairs, Cond.selects RX0 yX0_joinedPairs yX0_joinedPairs, Cond.code yX0_joinedPairs cX0_joinedPairs 3 (some .int), Cond.methodLink RX0 66 yX0_degree, Cond.instanceMethod yX0_degree, Cond.selects RX0 yX0_degree yX0_degree, Cond.code yX0_degree cX0_degree 2 (some .int), Cond.methodLink RX0 61 yJ6_bitCount_0f7a4, Cond.static yJ6_bitCount_0f7a4, Cond.initialized RJ6, Cond.code yJ6_bitCount_0f7a4 cJ6_bitCount_0f7a4 1 (some .int), Cond.constant RJ6 265 (1431655765), Cond.constant RJ6 266 (858993459), Cond.constant RJ6 267 (252645135)]
def wsX5_fewest : List Cond := .code yX5_fewest cX5_fewest 8 (some .int) :: ((wsX5_fewest_r1 ++ (wsX5_fewest_r2 ++ wsX5_fewest_r3)) ++ wsX50 ++ wsX30 ++ wsX00)
def wsX5_howManyBy_r1 : List Cond := [Cond.fieldLink RX5 30 "OddNets" "net" "LOddNets$Net;", Cond.fieldLink RX5 34 "OddNets" "second" "LOddNets$Net;", Cond.instanceMethod yX0_copySwitched, Cond.initialized RX0, Cond.selects RX0 yX0_copySwitched yX0_copySwitched, Cond.code yX0_copySwitched cX0_copySwitched 3 none, Cond.fieldLink RX0 9 "OddNets$Net" "many" "I", Cond.fieldLink RX0 15 "OddNets$Net" "rows" "[I", Cond.methodLink RX0 43 arraycopyName, Cond.native arraycopyName, Cond.static arraycopyName, Cond.initialized "java/lang/System", Cond.methodLink RX0 49 yX0_switchBy, Cond.instanceMethod yX0_switchBy, Cond.selects RX0 yX0_switchBy yX0_switchBy, Cond.code yX0_switchBy cX0_switchBy 4 none, Cond.methodLink RX0 53 yX0_allNodes, Cond.instanceMethod yX0_allNodes, Cond.selects RX0 yX0_allNodes yX0_allNodes, Cond.code yX0_allNodes cX0_allNodes 1 (some .int), Cond.instanceMethod yX0_eachDegreeIs, Cond.selects RX0 yX0_eachDegreeIs yX0_eachDegreeIs, Cond.code yX0_eachDegreeIs cX0_eachDegreeIs 3 (some .boolean), Cond.methodLink RX0 75 yX0_oddDegrees]
def wsX5_howManyBy_r2 : List Cond := [Cond.instanceMethod yX0_oddDegrees, Cond.selects RX0 yX0_oddDegrees yX0_oddDegrees, Cond.code yX0_oddDegrees cX0_oddDegrees 3 (some .int), Cond.methodLink RX0 66 yX0_degree, Cond.instanceMethod yX0_degree, Cond.selects RX0 yX0_degree yX0_degree, Cond.code yX0_degree cX0_degree 2 (some .int), Cond.methodLink RX0 61 yJ6_bitCount_0f7a4, Cond.static yJ6_bitCount_0f7a4, Cond.initialized RJ6, Cond.code yJ6_bitCount_0f7a4 cJ6_bitCount_0f7a4 1 (some .int), Cond.constant RJ6 265 (1431655765), Cond.constant RJ6 266 (858993459), Cond.constant RJ6 267 (252645135), Cond.instanceMethod yX0_isStrong, Cond.selects RX0 yX0_isStrong yX0_isStrong, Cond.code yX0_isStrong cX0_isStrong 1 (some .boolean), Cond.methodLink RX0 78 yX0_eachPairSharesAlike, Cond.instanceMethod yX0_eachPairSharesAlike, Cond.selects RX0 yX0_eachPairSharesAlike yX0_eachPairSharesAlike, Cond.code yX0_eachPairSharesAlike cX0_eachPairSharesAlike 6 (some .boolean), Cond.methodLink RX0 57 yX0_joined, Cond.instanceMethod yX0_joined, Cond.selects RX0 yX0_joined yX0_joined]
def wsX5_howManyBy_r3 : List Cond := [Cond.code yX0_joined cX0_joined 3 (some .int), Cond.methodLink RX0 81 yX0_shared, Cond.instanceMethod yX0_shared, Cond.selects RX0 yX0_shared yX0_shared, Cond.code yX0_shared cX0_shared 3 (some .int)]
def wsX5_howManyBy : List Cond := .code yX5_howManyBy cX5_howManyBy 5 (some .int) :: ((wsX5_howManyBy_r1 ++ (wsX5_howManyBy_r2 ++ wsX5_howManyBy_r3)) ++ wsX50 ++ wsX00)
def wsX5_leastSetBy_r1 : List Cond := [Cond.fieldLink RX5 30 "OddNets" "net" "LOddNets$Net;", Cond.fieldLink RX5 34 "OddNets" "second" "LOddNets$Net;", Cond.instanceMethod yX0_copySwitched, Cond.initialized RX0, Cond.selects RX0 yX0_copySwitched yX0_copySwitched, Cond.code yX0_copySwitched cX0_copySwitched 3 none, Cond.fieldLink RX0 9 "OddNets$Net" "many" "I", Cond.fieldLink RX0 15 "OddNets$Net" "rows" "[I", Cond.methodLink RX0 43 arraycopyName, Cond.native arraycopyName, Cond.static arraycopyName, Cond.initialized "java/lang/System", Cond.methodLink RX0 49 yX0_switchBy, Cond.instanceMethod yX0_switchBy, Cond.selects RX0 yX0_switchBy yX0_switchBy, Cond.code yX0_switchBy cX0_switchBy 4 none, Cond.methodLink RX0 53 yX0_allNodes, Cond.instanceMethod yX0_allNodes, Cond.selects RX0 yX0_allNodes yX0_allNodes, Cond.code yX0_allNodes cX0_allNodes 1 (some .int), Cond.instanceMethod yX0_eachDegreeIs, Cond.selects RX0 yX0_eachDegreeIs yX0_eachDegreeIs, Cond.code yX0_eachDegreeIs cX0_eachDegreeIs 3 (some .boolean), Cond.methodLink RX0 75 yX0_oddDegrees]
def wsX5_leastSetBy_r2 : List Cond := [Cond.instanceMethod yX0_oddDegrees, Cond.selects RX0 yX0_oddDegrees yX0_oddDegrees, Cond.code yX0_oddDegrees cX0_oddDegrees 3 (some .int), Cond.methodLink RX0 66 yX0_degree, Cond.instanceMethod yX0_degree, Cond.selects RX0 yX0_degree yX0_degree, Cond.code yX0_degree cX0_degree 2 (some .int), Cond.methodLink RX0 61 yJ6_bitCount_0f7a4, Cond.static yJ6_bitCount_0f7a4, Cond.initialized RJ6, Cond.code yJ6_bitCount_0f7a4 cJ6_bitCount_0f7a4 1 (some .int), Cond.constant RJ6 265 (1431655765), Cond.constant RJ6 266 (858993459), Cond.constant RJ6 267 (252645135)]
def wsX5_leastSetBy : List Cond := .code yX5_leastSetBy cX5_leastSetBy 3 (some .int) :: ((wsX5_leastSetBy_r1 ++ wsX5_leastSetBy_r2) ++ wsX50 ++ wsX00)
def wsX5_even_r1 : List Cond := [Cond.fieldLink RX5 30 "OddNets" "net" "LOddNets$Net;", Cond.methodLink RX5 67 yX5_isSlot, Cond.static yX5_isSlot, Cond.initialized RX5, Cond.code yX5_isSlot cX5_isSlot 1 (some .boolean), Cond.methodLink RX5 59 yX5_within, Cond.static yX5_within, Cond.code yX5_within cX5_within 3 (some .boolean), Cond.methodLink RX5 74 yX5_load, Cond.instanceMethod yX5_load, Cond.selects RX5 yX5_load yX5_load, Cond.code yX5_load cX5_load 3 none, Cond.fieldLink RX5 10 "OddNets" "now" "LOddNets$Shelf;", Cond.instanceMethod yX0_clear, Cond.initialized RX0, Cond.selects RX0 yX0_clear yX0_clear, Cond.code yX0_clear cX0_clear 2 none, Cond.fieldLink RX0 9 "OddNets$Net" "many" "I", Cond.fieldLink RX0 15 "OddNets$Net" "rows" "[I", Cond.methodLink RX0 19 yJ7_fill_53178, Cond.static yJ7_fill_53178, Cond.initialized RJ7, Cond.code yJ7_fill_53178 cJ7_fill_53178 4 none, Cond.instanceMethod yX0_takeNumber]
def wsX5_even_r2 : List Cond := [Cond.selects RX0 yX0_takeNumber yX0_takeNumber, Cond.code yX0_takeNumber cX0_takeNumber 5 none, Cond.static yX5_pairsOf, Cond.code yX5_pairsOf cX5_pairsOf 1 (some .int), Cond.methodLink RX0 29 yX0_connect, Cond.instanceMethod yX0_connect, Cond.selects RX0 yX0_connect yX0_connect, Cond.code yX0_connect cX0_connect 4 none, Cond.methodLink RX5 154 yX5_howManyBy, Cond.instanceMethod yX5_howManyBy, Cond.selects RX5 yX5_howManyBy yX5_howManyBy, Cond.code yX5_howManyBy cX5_howManyBy 5 (some .int), Cond.fieldLink RX5 34 "OddNets" "second" "LOddNets$Net;", Cond.instanceMethod yX0_copySwitched, Cond.selects RX0 yX0_copySwitched yX0_copySwitched, Cond.code yX0_copySwitched cX0_copySwitched 3 none, Cond.methodLink RX0 43 arraycopyName, Cond.native arraycopyName, Cond.static arraycopyName, Cond.initialized "java/lang/System", Cond.methodLink RX0 49 yX0_switchBy, Cond.instanceMethod yX0_switchBy, Cond.selects RX0 yX0_switchBy yX0_switchBy, Cond.code yX0_switchBy cX0_switchBy 4 none]
def wsX5_even_r3 : List Cond := [Cond.methodLink RX0 53 yX0_allNodes, Cond.instanceMethod yX0_allNodes, Cond.selects RX0 yX0_allNodes yX0_allNodes, Cond.code yX0_allNodes cX0_allNodes 1 (some .int), Cond.instanceMethod yX0_eachDegreeIs, Cond.selects RX0 yX0_eachDegreeIs yX0_eachDegreeIs, Cond.code yX0_eachDegreeIs cX0_eachDegreeIs 3 (some .boolean), Cond.methodLink RX0 75 yX0_oddDegrees, Cond.instanceMethod yX0_oddDegrees, Cond.selects RX0 yX0_oddDegrees yX0_oddDegrees, Cond.code yX0_oddDegrees cX0_oddDegrees 3 (some .int), Cond.methodLink RX0 66 yX0_degree, Cond.instanceMethod yX0_degree, Cond.selects RX0 yX0_degree yX0_degree, Cond.code yX0_degree cX0_degree 2 (some .int), Cond.methodLink RX0 61 yJ6_bitCount_0f7a4, Cond.static yJ6_bitCount_0f7a4, Cond.initialized RJ6, Cond.code yJ6_bitCount_0f7a4 cJ6_bitCount_0f7a4 1 (some .int), Cond.constant RJ6 265 (1431655765), Cond.constant RJ6 266 (858993459), Cond.constant RJ6 267 (252645135), Cond.instanceMethod yX0_isStrong, Cond.selects RX0 yX0_isStrong yX0_isStrong]
def wsX5_even_r4 : List Cond := [Cond.code yX0_isStrong cX0_isStrong 1 (some .boolean), Cond.methodLink RX0 78 yX0_eachPairSharesAlike, Cond.instanceMethod yX0_eachPairSharesAlike, Cond.selects RX0 yX0_eachPairSharesAlike yX0_eachPairSharesAlike, Cond.code yX0_eachPairSharesAlike cX0_eachPairSharesAlike 6 (some .boolean), Cond.methodLink RX0 57 yX0_joined, Cond.instanceMethod yX0_joined, Cond.selects RX0 yX0_joined yX0_joined, Cond.code yX0_joined cX0_joined 3 (some .int), Cond.methodLink RX0 81 yX0_shared, Cond.instanceMethod yX0_shared, Cond.selects RX0 yX0_shared yX0_shared, Cond.code yX0_shared cX0_shared 3 (some .int), Cond.methodLink RX5 158 yX5_leastSetBy, Cond.instanceMethod yX5_leastSetBy, Cond.selects RX5 yX5_leastSetBy yX5_leastSetBy, Cond.code yX5_leastSetBy cX5_leastSetBy 3 (some .int)]
def wsX5_even : List Cond := .code yX5_even cX5_even 3 (some .int) :: ((wsX5_even_r1 ++ (wsX5_even_r2 ++ (wsX5_even_r3 ++ wsX5_even_r4))) ++ wsX50 ++ wsX30 ++ wsX00)
def wsX5_by_r1 : List Cond := [Cond.fieldLink RX5 30 "OddNets" "net" "LOddNets$Net;", Cond.methodLink RX5 67 yX5_isSlot, Cond.static yX5_isSlot, Cond.initialized RX5, Cond.code yX5_isSlot cX5_isSlot 1 (some .boolean), Cond.methodLink RX5 59 yX5_within, Cond.static yX5_within, Cond.code yX5_within cX5_within 3 (some .boolean), Cond.methodLink RX5 74 yX5_load, Cond.instanceMethod yX5_load, Cond.selects RX5 yX5_load yX5_load, Cond.code yX5_load cX5_load 3 none, Cond.fieldLink RX5 10 "OddNets" "now" "LOddNets$Shelf;", Cond.instanceMethod yX0_clear, Cond.initialized RX0, Cond.selects RX0 yX0_clear yX0_clear, Cond.code yX0_clear cX0_clear 2 none, Cond.fieldLink RX0 9 "OddNets$Net" "many" "I", Cond.fieldLink RX0 15 "OddNets$Net" "rows" "[I", Cond.methodLink RX0 19 yJ7_fill_53178, Cond.static yJ7_fill_53178, Cond.initialized RJ7, Cond.code yJ7_fill_53178 cJ7_fill_53178 4 none, Cond.instanceMethod yX0_takeNumber]
def wsX5_by_r2 : List Cond := [Cond.selects RX0 yX0_takeNumber yX0_takeNumber, Cond.code yX0_takeNumber cX0_takeNumber 5 none, Cond.static yX5_pairsOf, Cond.code yX5_pairsOf cX5_pairsOf 1 (some .int), Cond.methodLink RX0 29 yX0_connect, Cond.instanceMethod yX0_connect, Cond.selects RX0 yX0_connect yX0_connect, Cond.code yX0_connect cX0_connect 4 none, Cond.methodLink RX5 158 yX5_leastSetBy, Cond.instanceMethod yX5_leastSetBy, Cond.selects RX5 yX5_leastSetBy yX5_leastSetBy, Cond.code yX5_leastSetBy cX5_leastSetBy 3 (some .int), Cond.fieldLink RX5 34 "OddNets" "second" "LOddNets$Net;", Cond.instanceMethod yX0_copySwitched, Cond.selects RX0 yX0_copySwitched yX0_copySwitched, Cond.code yX0_copySwitched cX0_copySwitched 3 none, Cond.methodLink RX0 43 arraycopyName, Cond.native arraycopyName, Cond.static arraycopyName, Cond.initialized "java/lang/System", Cond.methodLink RX0 49 yX0_switchBy, Cond.instanceMethod yX0_switchBy, Cond.selects RX0 yX0_switchBy yX0_switchBy, Cond.code yX0_switchBy cX0_switchBy 4 none]
def wsX5_by_r3 : List Cond := [Cond.methodLink RX0 53 yX0_allNodes, Cond.instanceMethod yX0_allNodes, Cond.selects RX0 yX0_allNodes yX0_allNodes, Cond.code yX0_allNodes cX0_allNodes 1 (some .int), Cond.instanceMethod yX0_eachDegreeIs, Cond.selects RX0 yX0_eachDegreeIs yX0_eachDegreeIs, Cond.code yX0_eachDegreeIs cX0_eachDegreeIs 3 (some .boolean), Cond.methodLink RX0 75 yX0_oddDegrees, Cond.instanceMethod yX0_oddDegrees, Cond.selects RX0 yX0_oddDegrees yX0_oddDegrees, Cond.code yX0_oddDegrees cX0_oddDegrees 3 (some .int), Cond.methodLink RX0 66 yX0_degree, Cond.instanceMethod yX0_degree, Cond.selects RX0 yX0_degree yX0_degree, Cond.code yX0_degree cX0_degree 2 (some .int), Cond.methodLink RX0 61 yJ6_bitCount_0f7a4, Cond.static yJ6_bitCount_0f7a4, Cond.initialized RJ6, Cond.code yJ6_bitCount_0f7a4 cJ6_bitCount_0f7a4 1 (some .int), Cond.constant RJ6 265 (1431655765), Cond.constant RJ6 266 (858993459), Cond.constant RJ6 267 (252645135), Cond.methodLink RX5 154 yX5_howManyBy, Cond.instanceMethod yX5_howManyBy]
def wsX5_by_r4 : List Cond := [Cond.selects RX5 yX5_howManyBy yX5_howManyBy, Cond.code yX5_howManyBy cX5_howManyBy 5 (some .int), Cond.instanceMethod yX0_isStrong, Cond.selects RX0 yX0_isStrong yX0_isStrong, Cond.code yX0_isStrong cX0_isStrong 1 (some .boolean), Cond.methodLink RX0 78 yX0_eachPairSharesAlike, Cond.instanceMethod yX0_eachPairSharesAlike, Cond.selects RX0 yX0_eachPairSharesAlike yX0_eachPairSharesAlike, Cond.code yX0_eachPairSharesAlike cX0_eachPairSharesAlike 6 (some .boolean), Cond.methodLink RX0 57 yX0_joined, Cond.instanceMethod yX0_joined, Cond.selects RX0 yX0_joined yX0_joined, Cond.code yX0_joined cX0_joined 3 (some .int), Cond.methodLink RX0 81 yX0_shared, Cond.instanceMethod yX0_shared, Cond.selects RX0 yX0_shared yX0_shared, Cond.code yX0_shared cX0_shared 3 (some .int)]
def wsX5_by : List Cond := .code yX5_by cX5_by 4 (some .int) :: ((wsX5_by_r1 ++ (wsX5_by_r2 ++ (wsX5_by_r3 ++ wsX5_by_r4))) ++ wsX50 ++ wsX30 ++ wsX00)
def wsX5_bringingSet_r1 : List Cond := [Cond.fieldLink RX5 30 "OddNets" "net" "LOddNets$Net;", Cond.fieldLink RX5 34 "OddNets" "second" "LOddNets$Net;", Cond.methodLink RX5 74 yX5_load, Cond.instanceMethod yX5_load, Cond.selects RX5 yX5_load yX5_load, Cond.initialized RX5, Cond.code yX5_load cX5_load 3 none, Cond.fieldLink RX5 10 "OddNets" "now" "LOddNets$Shelf;", Cond.instanceMethod yX0_clear, Cond.initialized RX0, Cond.selects RX0 yX0_clear yX0_clear, Cond.code yX0_clear cX0_clear 2 none, Cond.fieldLink RX0 9 "OddNets$Net" "many" "I", Cond.fieldLink RX0 15 "OddNets$Net" "rows" "[I", Cond.methodLink RX0 19 yJ7_fill_53178, Cond.static yJ7_fill_53178, Cond.initialized RJ7, Cond.code yJ7_fill_53178 cJ7_fill_53178 4 none, Cond.instanceMethod yX0_takeNumber, Cond.selects RX0 yX0_takeNumber yX0_takeNumber, Cond.code yX0_takeNumber cX0_takeNumber 5 none, Cond.static yX5_pairsOf, Cond.code yX5_pairsOf cX5_pairsOf 1 (some .int), Cond.methodLink RX0 29 yX0_connect]
def wsX5_bringingSet_r2 : List Cond := [Cond.instanceMethod yX0_connect, Cond.selects RX0 yX0_connect yX0_connect, Cond.code yX0_connect cX0_connect 4 none, Cond.instanceMethod yX0_switchBy, Cond.selects RX0 yX0_switchBy yX0_switchBy, Cond.code yX0_switchBy cX0_switchBy 4 none, Cond.methodLink RX0 53 yX0_allNodes, Cond.instanceMethod yX0_allNodes, Cond.selects RX0 yX0_allNodes yX0_allNodes, Cond.code yX0_allNodes cX0_allNodes 1 (some .int), Cond.instanceMethod yX0_number, Cond.selects RX0 yX0_number yX0_number, Cond.code yX0_number cX0_number 4 (some .int), Cond.methodLink RX0 57 yX0_joined, Cond.instanceMethod yX0_joined, Cond.selects RX0 yX0_joined yX0_joined, Cond.code yX0_joined cX0_joined 3 (some .int)]
def wsX5_bringingSet : List Cond := .code yX5_bringingSet cX5_bringingSet 4 (some .int) :: ((wsX5_bringingSet_r1 ++ wsX5_bringingSet_r2) ++ wsX50 ++ wsX00 ++ wsX30)
def wsX5_kindOfSlot_r1 : List Cond := [Cond.fieldLink RX5 30 "OddNets" "net" "LOddNets$Net;", Cond.fieldLink RX5 40 "OddNets" "renumbering" "LOddNets$Renumbering;", Cond.methodLink RX5 74 yX5_load, Cond.instanceMethod yX5_load, Cond.selects RX5 yX5_load yX5_load, Cond.initialized RX5, Cond.code yX5_load cX5_load 3 none, Cond.fieldLink RX5 10 "OddNets" "now" "LOddNets$Shelf;", Cond.instanceMethod yX0_clear, Cond.initialized RX0, Cond.selects RX0 yX0_clear yX0_clear, Cond.code yX0_clear cX0_clear 2 none, Cond.fieldLink RX0 9 "OddNets$Net" "many" "I", Cond.fieldLink RX0 15 "OddNets$Net" "rows" "[I", Cond.methodLink RX0 19 yJ7_fill_53178, Cond.static yJ7_fill_53178, Cond.initialized RJ7, Cond.code yJ7_fill_53178 cJ7_fill_53178 4 none, Cond.instanceMethod yX0_takeNumber, Cond.selects RX0 yX0_takeNumber yX0_takeNumber, Cond.code yX0_takeNumber cX0_takeNumber 5 none, Cond.static yX5_pairsOf, Cond.code yX5_pairsOf cX5_pairsOf 1 (some .int), Cond.methodLink RX0 29 yX0_connect]
def wsX5_kindOfSlot_r2 : List Cond := [Cond.instanceMethod yX0_connect, Cond.selects RX0 yX0_connect yX0_connect, Cond.code yX0_connect cX0_connect 4 none, Cond.instanceMethod yX2_kindOfClass, Cond.initialized RX2, Cond.selects RX2 yX2_kindOfClass yX2_kindOfClass, Cond.code yX2_kindOfClass cX2_kindOfClass 4 (some .int), Cond.fieldLink RX2 9 "OddNets$Renumbering" "at" "[I", Cond.methodLink RX2 33 Lib.Math.min.name, Cond.static Lib.Math.min.name, Cond.initialized "java/lang/Math", Cond.code Lib.Math.min.name Lib.Math.min.code 2 (some .int), Cond.instanceMethod yX0_leaveAlone, Cond.selects RX0 yX0_leaveAlone yX0_leaveAlone, Cond.code yX0_leaveAlone cX0_leaveAlone 2 none, Cond.methodLink RX0 49 yX0_switchBy, Cond.instanceMethod yX0_switchBy, Cond.selects RX0 yX0_switchBy yX0_switchBy, Cond.code yX0_switchBy cX0_switchBy 4 none, Cond.methodLink RX0 53 yX0_allNodes, Cond.instanceMethod yX0_allNodes, Cond.selects RX0 yX0_allNodes yX0_allNodes, Cond.code yX0_allNodes cX0_allNodes 1 (some .int), Cond.methodLink RX2 29 yX2_leastNumber]
def wsX5_kindOfSlot_r3 : List Cond := [Cond.static yX2_leastNumber, Cond.code yX2_leastNumber cX2_leastNumber 9 (some .int), Cond.methodLink RX2 39 yX2_numberAsGiven, Cond.static yX2_numberAsGiven, Cond.code yX2_numberAsGiven cX2_numberAsGiven 5 (some .int), Cond.instanceMethod yX0_joined, Cond.selects RX0 yX0_joined yX0_joined, Cond.code yX0_joined cX0_joined 3 (some .int), Cond.methodLink RX2 43 yX2_lowestColumn, Cond.static yX2_lowestColumn, Cond.code yX2_lowestColumn cX2_lowestColumn 6 (some .int), Cond.methodLink RX2 46 yX2_column, Cond.static yX2_column, Cond.code yX2_column cX2_column 6 (some .int), Cond.methodLink RX2 49 yX2_hasTwin, Cond.static yX2_hasTwin, Cond.code yX2_hasTwin cX2_hasTwin 4 (some .boolean), Cond.instanceMethod yX0_areTwins, Cond.selects RX0 yX0_areTwins yX0_areTwins, Cond.code yX0_areTwins cX0_areTwins 3 (some .boolean)]
def wsX5_kindOfSlot : List Cond := .code yX5_kindOfSlot cX5_kindOfSlot 2 (some .int) :: ((wsX5_kindOfSlot_r1 ++ (wsX5_kindOfSlot_r2 ++ wsX5_kindOfSlot_r3)) ++ wsX50 ++ wsX30 ++ wsX00 ++ wsX20)
def wsX5_compare_r1 : List Cond := [Cond.fieldLink RX5 30 "OddNets" "net" "LOddNets$Net;", Cond.fieldLink RX5 34 "OddNets" "second" "LOddNets$Net;", Cond.fieldLink RX5 40 "OddNets" "renumbering" "LOddNets$Renumbering;", Cond.methodLink RX5 67 yX5_isSlot, Cond.static yX5_isSlot, Cond.initialized RX5, Cond.code yX5_isSlot cX5_isSlot 1 (some .boolean), Cond.methodLink RX5 59 yX5_within, Cond.static yX5_within, Cond.code yX5_within cX5_within 3 (some .boolean), Cond.methodLink RX5 161 yX5_bringingSet, Cond.instanceMethod yX5_bringingSet, Cond.selects RX5 yX5_bringingSet yX5_bringingSet, Cond.code yX5_bringingSet cX5_bringingSet 4 (some .int), Cond.methodLink RX5 74 yX5_load, Cond.instanceMethod yX5_load, Cond.selects RX5 yX5_load yX5_load, Cond.code yX5_load cX5_load 3 none, Cond.fieldLink RX5 10 "OddNets" "now" "LOddNets$Shelf;", Cond.instanceMethod yX0_clear, Cond.initialized RX0, Cond.selects RX0 yX0_clear yX0_clear, Cond.code yX0_clear cX0_clear 2 none, Cond.fieldLink RX0 9 "OddNets$Net" "many" "I"]
def wsX5_compare_r2 : List Cond := [Cond.fieldLink RX0 15 "OddNets$Net" "rows" "[I", Cond.methodLink RX0 19 yJ7_fill_53178, Cond.static yJ7_fill_53178, Cond.initialized RJ7, Cond.code yJ7_fill_53178 cJ7_fill_53178 4 none, Cond.instanceMethod yX0_takeNumber, Cond.selects RX0 yX0_takeNumber yX0_takeNumber, Cond.code yX0_takeNumber cX0_takeNumber 5 none, Cond.static yX5_pairsOf, Cond.code yX5_pairsOf cX5_pairsOf 1 (some .int), Cond.methodLink RX0 29 yX0_connect, Cond.instanceMethod yX0_connect, Cond.selects RX0 yX0_connect yX0_connect, Cond.code yX0_connect cX0_connect 4 none, Cond.instanceMethod yX0_switchBy, Cond.selects RX0 yX0_switchBy yX0_switchBy, Cond.code yX0_switchBy cX0_switchBy 4 none, Cond.methodLink RX0 53 yX0_allNodes, Cond.instanceMethod yX0_allNodes, Cond.selects RX0 yX0_allNodes yX0_allNodes, Cond.code yX0_allNodes cX0_allNodes 1 (some .int), Cond.instanceMethod yX0_number, Cond.selects RX0 yX0_number yX0_number, Cond.code yX0_number cX0_number 4 (some .int)]
def wsX5_compare_r3 : List Cond := [Cond.methodLink RX0 57 yX0_joined, Cond.instanceMethod yX0_joined, Cond.selects RX0 yX0_joined yX0_joined, Cond.code yX0_joined cX0_joined 3 (some .int), Cond.instanceMethod yX2_brings, Cond.initialized RX2, Cond.selects RX2 yX2_brings yX2_brings, Cond.code yX2_brings cX2_brings 3 (some .boolean), Cond.fieldLink RX2 9 "OddNets$Renumbering" "at" "[I", Cond.methodLink RX2 63 yX2_canGoOn, Cond.static yX2_canGoOn, Cond.code yX2_canGoOn cX2_canGoOn 6 (some .boolean), Cond.methodLink RX2 78 yX2_goesTo, Cond.static yX2_goesTo, Cond.code yX2_goesTo cX2_goesTo 6 (some .boolean), Cond.instanceMethod yX0_degree, Cond.selects RX0 yX0_degree yX0_degree, Cond.code yX0_degree cX0_degree 2 (some .int), Cond.methodLink RX0 61 yJ6_bitCount_0f7a4, Cond.static yJ6_bitCount_0f7a4, Cond.initialized RJ6, Cond.code yJ6_bitCount_0f7a4 cJ6_bitCount_0f7a4 1 (some .int), Cond.constant RJ6 265 (1431655765), Cond.constant RJ6 266 (858993459)]
def wsX5_compare_r4 : List Cond := [Cond.constant RJ6 267 (252645135), Cond.methodLink RX5 168 yX5_kindOfSlot, Cond.instanceMethod yX5_kindOfSlot, Cond.selects RX5 yX5_kindOfSlot yX5_kindOfSlot, Cond.code yX5_kindOfSlot cX5_kindOfSlot 2 (some .int), Cond.instanceMethod yX2_kindOfClass, Cond.selects RX2 yX2_kindOfClass yX2_kindOfClass, Cond.code yX2_kindOfClass cX2_kindOfClass 4 (some .int), Cond.methodLink RX2 33 Lib.Math.min.name, Cond.static Lib.Math.min.name, Cond.initialized "java/lang/Math", Cond.code Lib.Math.min.name Lib.Math.min.code 2 (some .int), Cond.instanceMethod yX0_leaveAlone, Cond.selects RX0 yX0_leaveAlone yX0_leaveAlone, Cond.code yX0_leaveAlone cX0_leaveAlone 2 none, Cond.methodLink RX0 49 yX0_switchBy, Cond.methodLink RX2 29 yX2_leastNumber, Cond.static yX2_leastNumber, Cond.code yX2_leastNumber cX2_leastNumber 9 (some .int), Cond.methodLink RX2 39 yX2_numberAsGiven, Cond.static yX2_numberAsGiven, Cond.code yX2_numberAsGiven cX2_numberAsGiven 5 (some .int), Cond.methodLink RX2 43 yX2_lowestColumn, Cond.static yX2_lowestColumn]
def wsX5_compare_r5 : List Cond := [Cond.code yX2_lowestColumn cX2_lowestColumn 6 (some .int), Cond.methodLink RX2 46 yX2_column, Cond.static yX2_column, Cond.code yX2_column cX2_column 6 (some .int), Cond.methodLink RX2 49 yX2_hasTwin, Cond.static yX2_hasTwin, Cond.code yX2_hasTwin cX2_hasTwin 4 (some .boolean), Cond.instanceMethod yX0_areTwins, Cond.selects RX0 yX0_areTwins yX0_areTwins, Cond.code yX0_areTwins cX0_areTwins 3 (some .boolean)]
def wsX5_compare : List Cond := .code yX5_compare cX5_compare 4 (some .int) :: ((wsX5_compare_r1 ++ (wsX5_compare_r2 ++ (wsX5_compare_r3 ++ (wsX5_compare_r4 ++ wsX5_compare_r5)))) ++ wsX50 ++ wsX00 ++ wsX30 ++ wsX20)
def wsX5_kind_r1 : List Cond := [Cond.fieldLink RX5 30 "OddNets" "net" "LOddNets$Net;", Cond.fieldLink RX5 40 "OddNets" "renumbering" "LOddNets$Renumbering;", Cond.fieldLink RX5 34 "OddNets" "second" "LOddNets$Net;", Cond.methodLink RX5 67 yX5_isSlot, Cond.static yX5_isSlot, Cond.initialized RX5, Cond.code yX5_isSlot cX5_isSlot 1 (some .boolean), Cond.methodLink RX5 59 yX5_within, Cond.static yX5_within, Cond.code yX5_within cX5_within 3 (some .boolean), Cond.methodLink RX5 168 yX5_kindOfSlot, Cond.instanceMethod yX5_kindOfSlot, Cond.selects RX5 yX5_kindOfSlot yX5_kindOfSlot, Cond.code yX5_kindOfSlot cX5_kindOfSlot 2 (some .int), Cond.methodLink RX5 74 yX5_load, Cond.instanceMethod yX5_load, Cond.selects RX5 yX5_load yX5_load, Cond.code yX5_load cX5_load 3 none, Cond.fieldLink RX5 10 "OddNets" "now" "LOddNets$Shelf;", Cond.instanceMethod yX0_clear, Cond.initialized RX0, Cond.selects RX0 yX0_clear yX0_clear, Cond.code yX0_clear cX0_clear 2 none, Cond.fieldLink RX0 9 "OddNets$Net" "many" "I"]
def wsX5_kind_r2 : List Cond := [Cond.fieldLink RX0 15 "OddNets$Net" "rows" "[I", Cond.methodLink RX0 19 yJ7_fill_53178, Cond.static yJ7_fill_53178, Cond.initialized RJ7, Cond.code yJ7_fill_53178 cJ7_fill_53178 4 none, Cond.instanceMethod yX0_takeNumber, Cond.selects RX0 yX0_takeNumber yX0_takeNumber, Cond.code yX0_takeNumber cX0_takeNumber 5 none, Cond.static yX5_pairsOf, Cond.code yX5_pairsOf cX5_pairsOf 1 (some .int), Cond.methodLink RX0 29 yX0_connect, Cond.instanceMethod yX0_connect, Cond.selects RX0 yX0_connect yX0_connect, Cond.code yX0_connect cX0_connect 4 none, Cond.instanceMethod yX2_kindOfClass, Cond.initialized RX2, Cond.selects RX2 yX2_kindOfClass yX2_kindOfClass, Cond.code yX2_kindOfClass cX2_kindOfClass 4 (some .int), Cond.fieldLink RX2 9 "OddNets$Renumbering" "at" "[I", Cond.methodLink RX2 33 Lib.Math.min.name, Cond.static Lib.Math.min.name, Cond.initialized "java/lang/Math", Cond.code Lib.Math.min.name Lib.Math.min.code 2 (some .int), Cond.instanceMethod yX0_leaveAlone]
def wsX5_kind_r3 : List Cond := [Cond.selects RX0 yX0_leaveAlone yX0_leaveAlone, Cond.code yX0_leaveAlone cX0_leaveAlone 2 none, Cond.methodLink RX0 49 yX0_switchBy, Cond.instanceMethod yX0_switchBy, Cond.selects RX0 yX0_switchBy yX0_switchBy, Cond.code yX0_switchBy cX0_switchBy 4 none, Cond.methodLink RX0 53 yX0_allNodes, Cond.instanceMethod yX0_allNodes, Cond.selects RX0 yX0_allNodes yX0_allNodes, Cond.code yX0_allNodes cX0_allNodes 1 (some .int), Cond.methodLink RX2 29 yX2_leastNumber, Cond.static yX2_leastNumber, Cond.code yX2_leastNumber cX2_leastNumber 9 (some .int), Cond.methodLink RX2 39 yX2_numberAsGiven, Cond.static yX2_numberAsGiven, Cond.code yX2_numberAsGiven cX2_numberAsGiven 5 (some .int), Cond.instanceMethod yX0_joined, Cond.selects RX0 yX0_joined yX0_joined, Cond.code yX0_joined cX0_joined 3 (some .int), Cond.methodLink RX2 43 yX2_lowestColumn, Cond.static yX2_lowestColumn, Cond.code yX2_lowestColumn cX2_lowestColumn 6 (some .int), Cond.methodLink RX2 46 yX2_column, Cond.static yX2_column]
def wsX5_kind_r4 : List Cond := [Cond.code yX2_column cX2_column 6 (some .int), Cond.methodLink RX2 49 yX2_hasTwin, Cond.static yX2_hasTwin, Cond.code yX2_hasTwin cX2_hasTwin 4 (some .boolean), Cond.instanceMethod yX0_areTwins, Cond.selects RX0 yX0_areTwins yX0_areTwins, Cond.code yX0_areTwins cX0_areTwins 3 (some .boolean), Cond.instanceMethod yX2_keepersOfClass, Cond.selects RX2 yX2_keepersOfClass yX2_keepersOfClass, Cond.code yX2_keepersOfClass cX2_keepersOfClass 5 (some .int), Cond.instanceMethod yX0_copySwitched, Cond.selects RX0 yX0_copySwitched yX0_copySwitched, Cond.code yX0_copySwitched cX0_copySwitched 3 none, Cond.methodLink RX0 43 arraycopyName, Cond.native arraycopyName, Cond.static arraycopyName, Cond.initialized "java/lang/System", Cond.methodLink RX2 63 yX2_canGoOn, Cond.static yX2_canGoOn, Cond.code yX2_canGoOn cX2_canGoOn 6 (some .boolean), Cond.methodLink RX2 78 yX2_goesTo, Cond.static yX2_goesTo, Cond.code yX2_goesTo cX2_goesTo 6 (some .boolean), Cond.instanceMethod yX0_degree]
def wsX5_kind_r5 : List Cond := [Cond.selects RX0 yX0_degree yX0_degree, Cond.code yX0_degree cX0_degree 2 (some .int), Cond.methodLink RX0 61 yJ6_bitCount_0f7a4, Cond.static yJ6_bitCount_0f7a4, Cond.initialized RJ6, Cond.code yJ6_bitCount_0f7a4 cJ6_bitCount_0f7a4 1 (some .int), Cond.constant RJ6 265 (1431655765), Cond.constant RJ6 266 (858993459), Cond.constant RJ6 267 (252645135), Cond.methodLink RX2 71 yX2_keepersOfNet, Cond.instanceMethod yX2_keepersOfNet, Cond.selects RX2 yX2_keepersOfNet yX2_keepersOfNet, Cond.code yX2_keepersOfNet cX2_keepersOfNet 5 (some .int), Cond.methodLink RX2 75 yX2_placesOf, Cond.instanceMethod yX2_placesOf, Cond.selects RX2 yX2_placesOf yX2_placesOf, Cond.code yX2_placesOf cX2_placesOf 6 (some .int)]
def wsX5_kind : List Cond := .code yX5_kind cX5_kind 3 (some .int) :: ((wsX5_kind_r1 ++ (wsX5_kind_r2 ++ (wsX5_kind_r3 ++ (wsX5_kind_r4 ++ wsX5_kind_r5)))) ++ wsX50 ++ wsX30 ++ wsX00 ++ wsX20)
def wsX5_card_r1 : List Cond := [Cond.fieldLink RX5 10 "OddNets" "now" "LOddNets$Shelf;", Cond.fieldLink RX5 30 "OddNets" "net" "LOddNets$Net;", Cond.fieldLink RX5 40 "OddNets" "renumbering" "LOddNets$Renumbering;", Cond.methodLink RX5 67 yX5_isSlot, Cond.static yX5_isSlot, Cond.initialized RX5, Cond.code yX5_isSlot cX5_isSlot 1 (some .boolean), Cond.methodLink RX5 59 yX5_within, Cond.static yX5_within, Cond.code yX5_within cX5_within 3 (some .boolean), Cond.methodLink RX5 71 yX5_isNode, Cond.instanceMethod yX5_isNode, Cond.selects RX5 yX5_isNode yX5_isNode, Cond.code yX5_isNode cX5_isNode 2 (some .boolean), Cond.methodLink RX5 74 yX5_load, Cond.instanceMethod yX5_load, Cond.selects RX5 yX5_load yX5_load, Cond.code yX5_load cX5_load 3 none, Cond.instanceMethod yX0_clear, Cond.initialized RX0, Cond.selects RX0 yX0_clear yX0_clear, Cond.code yX0_clear cX0_clear 2 none, Cond.fieldLink RX0 9 "OddNets$Net" "many" "I", Cond.fieldLink RX0 15 "OddNets$Net" "rows" "[I"]
def wsX5_card_r2 : List Cond := [Cond.methodLink RX0 19 yJ7_fill_53178, Cond.static yJ7_fill_53178, Cond.initialized RJ7, Cond.code yJ7_fill_53178 cJ7_fill_53178 4 none, Cond.instanceMethod yX0_takeNumber, Cond.selects RX0 yX0_takeNumber yX0_takeNumber, Cond.code yX0_takeNumber cX0_takeNumber 5 none, Cond.static yX5_pairsOf, Cond.code yX5_pairsOf cX5_pairsOf 1 (some .int), Cond.methodLink RX0 29 yX0_connect, Cond.instanceMethod yX0_connect, Cond.selects RX0 yX0_connect yX0_connect, Cond.code yX0_connect cX0_connect 4 none, Cond.instanceMethod yX0_drop, Cond.selects RX0 yX0_drop yX0_drop, Cond.code yX0_drop cX0_drop 4 none, Cond.instanceMethod yX2_kindOfClass, Cond.initialized RX2, Cond.selects RX2 yX2_kindOfClass yX2_kindOfClass, Cond.code yX2_kindOfClass cX2_kindOfClass 4 (some .int), Cond.fieldLink RX2 9 "OddNets$Renumbering" "at" "[I", Cond.methodLink RX2 33 Lib.Math.min.name, Cond.static Lib.Math.min.name, Cond.initialized "java/lang/Math"]
def wsX5_card_r3 : List Cond := [Cond.code Lib.Math.min.name Lib.Math.min.code 2 (some .int), Cond.instanceMethod yX0_leaveAlone, Cond.selects RX0 yX0_leaveAlone yX0_leaveAlone, Cond.code yX0_leaveAlone cX0_leaveAlone 2 none, Cond.methodLink RX0 49 yX0_switchBy, Cond.instanceMethod yX0_switchBy, Cond.selects RX0 yX0_switchBy yX0_switchBy, Cond.code yX0_switchBy cX0_switchBy 4 none, Cond.methodLink RX0 53 yX0_allNodes, Cond.instanceMethod yX0_allNodes, Cond.selects RX0 yX0_allNodes yX0_allNodes, Cond.code yX0_allNodes cX0_allNodes 1 (some .int), Cond.methodLink RX2 29 yX2_leastNumber, Cond.static yX2_leastNumber, Cond.code yX2_leastNumber cX2_leastNumber 9 (some .int), Cond.methodLink RX2 39 yX2_numberAsGiven, Cond.static yX2_numberAsGiven, Cond.code yX2_numberAsGiven cX2_numberAsGiven 5 (some .int), Cond.instanceMethod yX0_joined, Cond.selects RX0 yX0_joined yX0_joined, Cond.code yX0_joined cX0_joined 3 (some .int), Cond.methodLink RX2 43 yX2_lowestColumn, Cond.static yX2_lowestColumn, Cond.code yX2_lowestColumn cX2_lowestColumn 6 (some .int)]
def wsX5_card_r4 : List Cond := [Cond.methodLink RX2 46 yX2_column, Cond.static yX2_column, Cond.code yX2_column cX2_column 6 (some .int), Cond.methodLink RX2 49 yX2_hasTwin, Cond.static yX2_hasTwin, Cond.code yX2_hasTwin cX2_hasTwin 4 (some .boolean), Cond.instanceMethod yX0_areTwins, Cond.selects RX0 yX0_areTwins yX0_areTwins, Cond.code yX0_areTwins cX0_areTwins 3 (some .boolean)]
def wsX5_card : List Cond := .code yX5_card cX5_card 3 (some .int) :: ((wsX5_card_r1 ++ (wsX5_card_r2 ++ (wsX5_card_r3 ++ wsX5_card_r4))) ++ wsX50 ++ wsX30 ++ wsX00 ++ wsX20)
def wsX5_root_r1 : List Cond := [Cond.constantLong RX5 183 (-1000000000001), Cond.constantLong RX5 185 (-1000000000002), Cond.fieldLink RX5 30 "OddNets" "net" "LOddNets$Net;", Cond.fieldLink RX5 47 "OddNets" "table" "LOddNets$Table;", Cond.fieldLink RX5 10 "OddNets" "now" "LOddNets$Shelf;", Cond.methodLink RX5 67 yX5_isSlot, Cond.static yX5_isSlot, Cond.initialized RX5, Cond.code yX5_isSlot cX5_isSlot 1 (some .boolean), Cond.methodLink RX5 59 yX5_within, Cond.static yX5_within, Cond.code yX5_within cX5_within 3 (some .boolean), Cond.methodLink RX5 74 yX5_load, Cond.instanceMethod yX5_load, Cond.selects RX5 yX5_load yX5_load, Cond.code yX5_load cX5_load 3 none, Cond.instanceMethod yX0_clear, Cond.initialized RX0, Cond.selects RX0 yX0_clear yX0_clear, Cond.code yX0_clear cX0_clear 2 none, Cond.fieldLink RX0 9 "OddNets$Net" "many" "I", Cond.fieldLink RX0 15 "OddNets$Net" "rows" "[I", Cond.methodLink RX0 19 yJ7_fill_53178, Cond.static yJ7_fill_53178]
def wsX5_root_r2 : List Cond := [Cond.initialized RJ7, Cond.code yJ7_fill_53178 cJ7_fill_53178 4 none, Cond.instanceMethod yX0_takeNumber, Cond.selects RX0 yX0_takeNumber yX0_takeNumber, Cond.code yX0_takeNumber cX0_takeNumber 5 none, Cond.static yX5_pairsOf, Cond.code yX5_pairsOf cX5_pairsOf 1 (some .int), Cond.methodLink RX0 29 yX0_connect, Cond.instanceMethod yX0_connect, Cond.selects RX0 yX0_connect yX0_connect, Cond.code yX0_connect cX0_connect 4 none, Cond.instanceMethod yX4_fill, Cond.initialized RX4, Cond.selects RX4 yX4_fill yX4_fill, Cond.code yX4_fill cX4_fill 5 none, Cond.fieldLink RX4 9 "OddNets$Table" "many" "I", Cond.fieldLink RX4 27 "OddNets$Table" "cells" "[[J", Cond.instanceMethod yX0_joined, Cond.selects RX0 yX0_joined yX0_joined, Cond.code yX0_joined cX0_joined 3 (some .int), Cond.instanceMethod yX4_eliminate, Cond.selects RX4 yX4_eliminate yX4_eliminate, Cond.code yX4_eliminate cX4_eliminate 3 none, Cond.fieldLink RX4 15 "OddNets$Table" "rank" "I"]
def wsX5_root_r3 : List Cond := [Cond.fieldLink RX4 18 "OddNets$Table" "sign" "I", Cond.fieldLink RX4 21 "OddNets$Table" "lastPivot" "J", Cond.methodLink RX4 37 yX4_pivotRow, Cond.instanceMethod yX4_pivotRow, Cond.selects RX4 yX4_pivotRow yX4_pivotRow, Cond.code yX4_pivotRow cX4_pivotRow 3 (some .int), Cond.methodLink RX4 41 yX4_bringUp, Cond.instanceMethod yX4_bringUp, Cond.selects RX4 yX4_bringUp yX4_bringUp, Cond.code yX4_bringUp cX4_bringUp 5 none, Cond.methodLink RX4 45 yX4_clearBelow, Cond.instanceMethod yX4_clearBelow, Cond.selects RX4 yX4_clearBelow yX4_clearBelow, Cond.code yX4_clearBelow cX4_clearBelow 8 none, Cond.instanceMethod yX4_determinant, Cond.selects RX4 yX4_determinant yX4_determinant, Cond.code yX4_determinant cX4_determinant 1 (some .long)]
def wsX5_root : List Cond := .code yX5_root cX5_root 4 (some .long) :: ((wsX5_root_r1 ++ (wsX5_root_r2 ++ wsX5_root_r3)) ++ wsX50 ++ wsX30 ++ wsX40 ++ wsX00)
def wsX5_image : List Cond := .code yX5_image cX5_image 2 (some .int) :: ([.fieldLink RX5 16 "OddNets" "images" "[LOddNets$Shelf;", .fieldLink RX5 10 "OddNets" "now" "LOddNets$Shelf;", .methodLink RX5 59 yX5_within, .static yX5_within, .initialized RX5, .code yX5_within cX5_within 3 (some .boolean), .instanceMethod yX3_copy, .initialized RX3, .selects RX3 yX3_copy yX3_copy, .code yX3_copy cX3_copy 2 none, .fieldLink RX3 9 "OddNets$Shelf" "many" "I", .fieldLink RX3 15 "OddNets$Shelf" "numbers" "[I", .methodLink RX3 25 arraycopyName, .native arraycopyName, .static arraycopyName, .initialized "java/lang/System"] ++ wsX50 ++ wsX30)
def wsX5_restore : List Cond := .code yX5_restore cX5_restore 2 (some .int) :: ([.fieldLink RX5 16 "OddNets" "images" "[LOddNets$Shelf;", .fieldLink RX5 10 "OddNets" "now" "LOddNets$Shelf;", .methodLink RX5 59 yX5_within, .static yX5_within, .initialized RX5, .code yX5_within cX5_within 3 (some .boolean), .instanceMethod yX3_isUnused, .initialized RX3, .selects RX3 yX3_isUnused yX3_isUnused, .code yX3_isUnused cX3_isUnused 1 (some .boolean), .fieldLink RX3 9 "OddNets$Shelf" "many" "I", .instanceMethod yX3_copy, .selects RX3 yX3_copy yX3_copy, .code yX3_copy cX3_copy 2 none, .fieldLink RX3 15 "OddNets$Shelf" "numbers" "[I", .methodLink RX3 25 arraycopyName, .native arraycopyName, .static arraycopyName, .initialized "java/lang/System"] ++ wsX50 ++ wsX30)
def wsX5_isMarkedBefore : List Cond := .code yX5_isMarkedBefore cX5_isMarkedBefore 3 (some .boolean) :: ([.fieldLink RX5 51 "OddNets" "marks" "[I"] ++ wsX50)
def wsX5_differentMarks : List Cond := .code yX5_differentMarks cX5_differentMarks 3 (some .int) :: ([.methodLink RX5 236 yX5_isMarkedBefore, .instanceMethod yX5_isMarkedBefore, .selects RX5 yX5_isMarkedBefore yX5_isMarkedBefore, .initialized RX5, .code yX5_isMarkedBefore cX5_isMarkedBefore 3 (some .boolean), .fieldLink RX5 51 "OddNets" "marks" "[I"] ++ wsX50)
def wsX5_differentClasses_r1 : List Cond := [Cond.fieldLink RX5 30 "OddNets" "net" "LOddNets$Net;", Cond.fieldLink RX5 51 "OddNets" "marks" "[I", Cond.methodLink RX5 74 yX5_load, Cond.instanceMethod yX5_load, Cond.selects RX5 yX5_load yX5_load, Cond.initialized RX5, Cond.code yX5_load cX5_load 3 none, Cond.fieldLink RX5 10 "OddNets" "now" "LOddNets$Shelf;", Cond.instanceMethod yX0_clear, Cond.initialized RX0, Cond.selects RX0 yX0_clear yX0_clear, Cond.code yX0_clear cX0_clear 2 none, Cond.fieldLink RX0 9 "OddNets$Net" "many" "I", Cond.fieldLink RX0 15 "OddNets$Net" "rows" "[I", Cond.methodLink RX0 19 yJ7_fill_53178, Cond.static yJ7_fill_53178, Cond.initialized RJ7, Cond.code yJ7_fill_53178 cJ7_fill_53178 4 none, Cond.instanceMethod yX0_takeNumber, Cond.selects RX0 yX0_takeNumber yX0_takeNumber, Cond.code yX0_takeNumber cX0_takeNumber 5 none, Cond.static yX5_pairsOf, Cond.code yX5_pairsOf cX5_pairsOf 1 (some .int), Cond.methodLink RX0 29 yX0_connect]
def wsX5_differentClasses_r2 : List Cond := [Cond.instanceMethod yX0_connect, Cond.selects RX0 yX0_connect yX0_connect, Cond.code yX0_connect cX0_connect 4 none, Cond.instanceMethod yX0_leaveAlone, Cond.selects RX0 yX0_leaveAlone yX0_leaveAlone, Cond.code yX0_leaveAlone cX0_leaveAlone 2 none, Cond.methodLink RX0 49 yX0_switchBy, Cond.instanceMethod yX0_switchBy, Cond.selects RX0 yX0_switchBy yX0_switchBy, Cond.code yX0_switchBy cX0_switchBy 4 none, Cond.methodLink RX0 53 yX0_allNodes, Cond.instanceMethod yX0_allNodes, Cond.selects RX0 yX0_allNodes yX0_allNodes, Cond.code yX0_allNodes cX0_allNodes 1 (some .int), Cond.instanceMethod yX0_number, Cond.selects RX0 yX0_number yX0_number, Cond.code yX0_number cX0_number 4 (some .int), Cond.methodLink RX0 57 yX0_joined, Cond.instanceMethod yX0_joined, Cond.selects RX0 yX0_joined yX0_joined, Cond.code yX0_joined cX0_joined 3 (some .int), Cond.methodLink RX5 233 yX5_differentMarks, Cond.instanceMethod yX5_differentMarks, Cond.selects RX5 yX5_differentMarks yX5_differentMarks]
def wsX5_differentClasses_r3 : List Cond := [Cond.code yX5_differentMarks cX5_differentMarks 3 (some .int), Cond.methodLink RX5 236 yX5_isMarkedBefore, Cond.instanceMethod yX5_isMarkedBefore, Cond.selects RX5 yX5_isMarkedBefore yX5_isMarkedBefore, Cond.code yX5_isMarkedBefore cX5_isMarkedBefore 3 (some .boolean)]
def wsX5_differentClasses : List Cond := .code yX5_differentClasses cX5_differentClasses 2 (some .int) :: ((wsX5_differentClasses_r1 ++ (wsX5_differentClasses_r2 ++ wsX5_differentClasses_r3)) ++ wsX50 ++ wsX30 ++ wsX00)
def wsX5_differentKinds_r1 : List Cond := [Cond.fieldLink RX5 51 "OddNets" "marks" "[I", Cond.methodLink RX5 168 yX5_kindOfSlot, Cond.instanceMethod yX5_kindOfSlot, Cond.selects RX5 yX5_kindOfSlot yX5_kindOfSlot, Cond.initialized RX5, Cond.code yX5_kindOfSlot cX5_kindOfSlot 2 (some .int), Cond.fieldLink RX5 30 "OddNets" "net" "LOddNets$Net;", Cond.fieldLink RX5 40 "OddNets" "renumbering" "LOddNets$Renumbering;", Cond.methodLink RX5 74 yX5_load, Cond.instanceMethod yX5_load, Cond.selects RX5 yX5_load yX5_load, Cond.code yX5_load cX5_load 3 none, Cond.fieldLink RX5 10 "OddNets" "now" "LOddNets$Shelf;", Cond.instanceMethod yX0_clear, Cond.initialized RX0, Cond.selects RX0 yX0_clear yX0_clear, Cond.code yX0_clear cX0_clear 2 none, Cond.fieldLink RX0 9 "OddNets$Net" "many" "I", Cond.fieldLink RX0 15 "OddNets$Net" "rows" "[I", Cond.methodLink RX0 19 yJ7_fill_53178, Cond.static yJ7_fill_53178, Cond.initialized RJ7, Cond.code yJ7_fill_53178 cJ7_fill_53178 4 none, Cond.instanceMethod yX0_takeNumber]
def wsX5_differentKinds_r2 : List Cond := [Cond.selects RX0 yX0_takeNumber yX0_takeNumber, Cond.code yX0_takeNumber cX0_takeNumber 5 none, Cond.static yX5_pairsOf, Cond.code yX5_pairsOf cX5_pairsOf 1 (some .int), Cond.methodLink RX0 29 yX0_connect, Cond.instanceMethod yX0_connect, Cond.selects RX0 yX0_connect yX0_connect, Cond.code yX0_connect cX0_connect 4 none, Cond.instanceMethod yX2_kindOfClass, Cond.initialized RX2, Cond.selects RX2 yX2_kindOfClass yX2_kindOfClass, Cond.code yX2_kindOfClass cX2_kindOfClass 4 (some .int), Cond.fieldLink RX2 9 "OddNets$Renumbering" "at" "[I", Cond.methodLink RX2 33 Lib.Math.min.name, Cond.static Lib.Math.min.name, Cond.initialized "java/lang/Math", Cond.code Lib.Math.min.name Lib.Math.min.code 2 (some .int), Cond.instanceMethod yX0_leaveAlone, Cond.selects RX0 yX0_leaveAlone yX0_leaveAlone, Cond.code yX0_leaveAlone cX0_leaveAlone 2 none, Cond.methodLink RX0 49 yX0_switchBy, Cond.instanceMethod yX0_switchBy, Cond.selects RX0 yX0_switchBy yX0_switchBy, Cond.code yX0_switchBy cX0_switchBy 4 none]
def wsX5_differentKinds_r3 : List Cond := [Cond.methodLink RX0 53 yX0_allNodes, Cond.instanceMethod yX0_allNodes, Cond.selects RX0 yX0_allNodes yX0_allNodes, Cond.code yX0_allNodes cX0_allNodes 1 (some .int), Cond.methodLink RX2 29 yX2_leastNumber, Cond.static yX2_leastNumber, Cond.code yX2_leastNumber cX2_leastNumber 9 (some .int), Cond.methodLink RX2 39 yX2_numberAsGiven, Cond.static yX2_numberAsGiven, Cond.code yX2_numberAsGiven cX2_numberAsGiven 5 (some .int), Cond.instanceMethod yX0_joined, Cond.selects RX0 yX0_joined yX0_joined, Cond.code yX0_joined cX0_joined 3 (some .int), Cond.methodLink RX2 43 yX2_lowestColumn, Cond.static yX2_lowestColumn, Cond.code yX2_lowestColumn cX2_lowestColumn 6 (some .int), Cond.methodLink RX2 46 yX2_column, Cond.static yX2_column, Cond.code yX2_column cX2_column 6 (some .int), Cond.methodLink RX2 49 yX2_hasTwin, Cond.static yX2_hasTwin, Cond.code yX2_hasTwin cX2_hasTwin 4 (some .boolean), Cond.instanceMethod yX0_areTwins, Cond.selects RX0 yX0_areTwins yX0_areTwins]
def wsX5_differentKinds_r4 : List Cond := [Cond.code yX0_areTwins cX0_areTwins 3 (some .boolean), Cond.methodLink RX5 233 yX5_differentMarks, Cond.instanceMethod yX5_differentMarks, Cond.selects RX5 yX5_differentMarks yX5_differentMarks, Cond.code yX5_differentMarks cX5_differentMarks 3 (some .int), Cond.methodLink RX5 236 yX5_isMarkedBefore, Cond.instanceMethod yX5_isMarkedBefore, Cond.selects RX5 yX5_isMarkedBefore yX5_isMarkedBefore, Cond.code yX5_isMarkedBefore cX5_isMarkedBefore 3 (some .boolean)]
def wsX5_differentKinds : List Cond := .code yX5_differentKinds cX5_differentKinds 2 (some .int) :: ((wsX5_differentKinds_r1 ++ (wsX5_differentKinds_r2 ++ (wsX5_differentKinds_r3 ++ wsX5_differentKinds_r4))) ++ wsX50 ++ wsX30 ++ wsX00 ++ wsX20)
def wsX5_keptImages : List Cond := .code yX5_keptImages cX5_keptImages 3 (some .int) :: ([.fieldLink RX5 16 "OddNets" "images" "[LOddNets$Shelf;", .instanceMethod yX3_isUnused, .initialized RX3, .selects RX3 yX3_isUnused yX3_isUnused, .code yX3_isUnused cX3_isUnused 1 (some .boolean), .fieldLink RX3 9 "OddNets$Shelf" "many" "I"] ++ wsX50 ++ wsX30)
def wsX5_count_r1 : List Cond := [Cond.fieldLink RX5 10 "OddNets" "now" "LOddNets$Shelf;", Cond.fieldLink RX5 23 "OddNets" "pad" "LOddNets$Pad;", Cond.methodLink RX5 92 yX5_pairsOf, Cond.static yX5_pairsOf, Cond.initialized RX5, Cond.code yX5_pairsOf cX5_pairsOf 1 (some .int), Cond.methodLink RX5 208 yX5_triplesOf, Cond.static yX5_triplesOf, Cond.code yX5_triplesOf cX5_triplesOf 1 (some .int), Cond.methodLink RX5 211 yX5_differentClasses, Cond.instanceMethod yX5_differentClasses, Cond.selects RX5 yX5_differentClasses yX5_differentClasses, Cond.code yX5_differentClasses cX5_differentClasses 2 (some .int), Cond.fieldLink RX5 30 "OddNets" "net" "LOddNets$Net;", Cond.fieldLink RX5 51 "OddNets" "marks" "[I", Cond.methodLink RX5 74 yX5_load, Cond.instanceMethod yX5_load, Cond.selects RX5 yX5_load yX5_load, Cond.code yX5_load cX5_load 3 none, Cond.instanceMethod yX0_clear, Cond.initialized RX0, Cond.selects RX0 yX0_clear yX0_clear, Cond.code yX0_clear cX0_clear 2 none, Cond.fieldLink RX0 9 "OddNets$Net" "many" "I"]
def wsX5_count_r2 : List Cond := [Cond.fieldLink RX0 15 "OddNets$Net" "rows" "[I", Cond.methodLink RX0 19 yJ7_fill_53178, Cond.static yJ7_fill_53178, Cond.initialized RJ7, Cond.code yJ7_fill_53178 cJ7_fill_53178 4 none, Cond.instanceMethod yX0_takeNumber, Cond.selects RX0 yX0_takeNumber yX0_takeNumber, Cond.code yX0_takeNumber cX0_takeNumber 5 none, Cond.methodLink RX0 29 yX0_connect, Cond.instanceMethod yX0_connect, Cond.selects RX0 yX0_connect yX0_connect, Cond.code yX0_connect cX0_connect 4 none, Cond.instanceMethod yX0_leaveAlone, Cond.selects RX0 yX0_leaveAlone yX0_leaveAlone, Cond.code yX0_leaveAlone cX0_leaveAlone 2 none, Cond.methodLink RX0 49 yX0_switchBy, Cond.instanceMethod yX0_switchBy, Cond.selects RX0 yX0_switchBy yX0_switchBy, Cond.code yX0_switchBy cX0_switchBy 4 none, Cond.methodLink RX0 53 yX0_allNodes, Cond.instanceMethod yX0_allNodes, Cond.selects RX0 yX0_allNodes yX0_allNodes, Cond.code yX0_allNodes cX0_allNodes 1 (some .int), Cond.instanceMethod yX0_number]
def wsX5_count_r3 : List Cond := [Cond.selects RX0 yX0_number yX0_number, Cond.code yX0_number cX0_number 4 (some .int), Cond.methodLink RX0 57 yX0_joined, Cond.instanceMethod yX0_joined, Cond.selects RX0 yX0_joined yX0_joined, Cond.code yX0_joined cX0_joined 3 (some .int), Cond.methodLink RX5 233 yX5_differentMarks, Cond.instanceMethod yX5_differentMarks, Cond.selects RX5 yX5_differentMarks yX5_differentMarks, Cond.code yX5_differentMarks cX5_differentMarks 3 (some .int), Cond.methodLink RX5 236 yX5_isMarkedBefore, Cond.instanceMethod yX5_isMarkedBefore, Cond.selects RX5 yX5_isMarkedBefore yX5_isMarkedBefore, Cond.code yX5_isMarkedBefore cX5_isMarkedBefore 3 (some .boolean), Cond.methodLink RX5 214 yX5_differentKinds, Cond.instanceMethod yX5_differentKinds, Cond.selects RX5 yX5_differentKinds yX5_differentKinds, Cond.code yX5_differentKinds cX5_differentKinds 2 (some .int), Cond.methodLink RX5 168 yX5_kindOfSlot, Cond.instanceMethod yX5_kindOfSlot, Cond.selects RX5 yX5_kindOfSlot yX5_kindOfSlot, Cond.code yX5_kindOfSlot cX5_kindOfSlot 2 (some .int), Cond.fieldLink RX5 40 "OddNets" "renumbering" "LOddNets$Renumbering;", Cond.instanceMethod yX2_kindOfClass]
def wsX5_count_r4 : List Cond := [Cond.initialized RX2, Cond.selects RX2 yX2_kindOfClass yX2_kindOfClass, Cond.code yX2_kindOfClass cX2_kindOfClass 4 (some .int), Cond.fieldLink RX2 9 "OddNets$Renumbering" "at" "[I", Cond.methodLink RX2 33 Lib.Math.min.name, Cond.static Lib.Math.min.name, Cond.initialized "java/lang/Math", Cond.code Lib.Math.min.name Lib.Math.min.code 2 (some .int), Cond.methodLink RX2 29 yX2_leastNumber, Cond.static yX2_leastNumber, Cond.code yX2_leastNumber cX2_leastNumber 9 (some .int), Cond.methodLink RX2 39 yX2_numberAsGiven, Cond.static yX2_numberAsGiven, Cond.code yX2_numberAsGiven cX2_numberAsGiven 5 (some .int), Cond.methodLink RX2 43 yX2_lowestColumn, Cond.static yX2_lowestColumn, Cond.code yX2_lowestColumn cX2_lowestColumn 6 (some .int), Cond.methodLink RX2 46 yX2_column, Cond.static yX2_column, Cond.code yX2_column cX2_column 6 (some .int), Cond.methodLink RX2 49 yX2_hasTwin, Cond.static yX2_hasTwin, Cond.code yX2_hasTwin cX2_hasTwin 4 (some .boolean), Cond.instanceMethod yX0_areTwins]
def wsX5_count_r5 : List Cond := [Cond.selects RX0 yX0_areTwins yX0_areTwins, Cond.code yX0_areTwins cX0_areTwins 3 (some .boolean), Cond.methodLink RX5 217 yX5_keptImages, Cond.instanceMethod yX5_keptImages, Cond.selects RX5 yX5_keptImages yX5_keptImages, Cond.code yX5_keptImages cX5_keptImages 3 (some .int), Cond.fieldLink RX5 16 "OddNets" "images" "[LOddNets$Shelf;", Cond.instanceMethod yX3_isUnused, Cond.initialized RX3, Cond.selects RX3 yX3_isUnused yX3_isUnused, Cond.code yX3_isUnused cX3_isUnused 1 (some .boolean), Cond.fieldLink RX3 9 "OddNets$Shelf" "many" "I"]
def wsX5_count : List Cond := .code yX5_count cX5_count 2 (some .int) :: ((wsX5_count_r1 ++ (wsX5_count_r2 ++ (wsX5_count_r3 ++ (wsX5_count_r4 ++ wsX5_count_r5)))) ++ wsX50 ++ wsX30 ++ wsX10 ++ wsX00 ++ wsX20)
def wsX6_init : List Cond := .code yX6_init cX6_init 1 none :: ([.methodLink RX6 1 objectInit, .instanceMethod objectInit, .code objectInit ⟨#[0xb1]⟩ 1 none, .arrayClass .int, .fieldLink RX6 7 "OddNetsModel" "state" "[I", .fieldLink RX6 13 "OddNetsModel" "images" "[I", .arrayClass .boolean, .fieldLink RX6 16 "OddNetsModel" "isKept" "[Z", .fieldLink RX6 20 "OddNetsModel" "pad" "[I", .fieldLink RX6 23 "OddNetsModel" "row" "[I", .fieldLink RX6 26 "OddNetsModel" "isUsed" "[Z", .arrayClass .long, .fieldLink RX6 29 "OddNetsModel" "table" "[J"] ++ wsX60)
def wsX6_in : List Cond := .code yX6_in cX6_in 3 (some .boolean) :: ([])
def wsX6_isSlot : List Cond := .code yX6_isSlot cX6_isSlot 1 (some .boolean) :: ([.methodLink RX6 33 yX6_in, .static yX6_in, .initialized RX6, .code yX6_in cX6_in 3 (some .boolean)])
def wsX6_isNode : List Cond := .code yX6_isNode cX6_isNode 2 (some .boolean) :: ([.fieldLink RX6 7 "OddNetsModel" "state" "[I", .methodLink RX6 33 yX6_in, .static yX6_in, .initialized RX6, .code yX6_in cX6_in 3 (some .boolean)] ++ wsX60)
def wsX6_pairs : List Cond := .code yX6_pairs cX6_pairs 1 (some .int) :: ([])
def wsX6_triples : List Cond := .code yX6_triples cX6_triples 1 (some .int) :: ([])
def wsX6_valueOf : List Cond := .code yX6_valueOf cX6_valueOf 6 (some .int) :: ([.methodLink RX6 37 yX6_pairs, .static yX6_pairs, .initialized RX6, .code yX6_pairs cX6_pairs 1 (some .int)])
def wsX6_joined : List Cond := .code yX6_joined cX6_joined 4 (some .int) :: ([.methodLink RX6 41 yX6_valueOf, .static yX6_valueOf, .initialized RX6, .code yX6_valueOf cX6_valueOf 6 (some .int), .methodLink RX6 37 yX6_pairs, .static yX6_pairs, .code yX6_pairs cX6_pairs 1 (some .int)])
def wsX6_size : List Cond := .code yX6_size cX6_size 3 (some .int) :: ([])
def wsX6_switched : List Cond := .code yX6_switched cX6_switched 6 (some .int) :: ([.methodLink RX6 41 yX6_valueOf, .static yX6_valueOf, .initialized RX6, .code yX6_valueOf cX6_valueOf 6 (some .int), .methodLink RX6 37 yX6_pairs, .static yX6_pairs, .code yX6_pairs cX6_pairs 1 (some .int)])
def wsX6_neighbours : List Cond := .code yX6_neighbours cX6_neighbours 5 (some .int) :: ([.methodLink RX6 45 yX6_joined, .static yX6_joined, .initialized RX6, .code yX6_joined cX6_joined 4 (some .int), .methodLink RX6 41 yX6_valueOf, .static yX6_valueOf, .code yX6_valueOf cX6_valueOf 6 (some .int), .methodLink RX6 37 yX6_pairs, .static yX6_pairs, .code yX6_pairs cX6_pairs 1 (some .int)])
def wsX6_degree : List Cond := .code yX6_degree cX6_degree 3 (some .int) :: ([.methodLink RX6 49 yX6_neighbours, .static yX6_neighbours, .initialized RX6, .code yX6_neighbours cX6_neighbours 5 (some .int), .methodLink RX6 45 yX6_joined, .static yX6_joined, .code yX6_joined cX6_joined 4 (some .int), .methodLink RX6 41 yX6_valueOf, .static yX6_valueOf, .code yX6_valueOf cX6_valueOf 6 (some .int), .methodLink RX6 37 yX6_pairs, .static yX6_pairs, .code yX6_pairs cX6_pairs 1 (some .int), .methodLink RX6 52 yX6_size, .static yX6_size, .code yX6_size cX6_size 3 (some .int)])
def wsX6_alone : List Cond := .code yX6_alone cX6_alone 3 (some .int) :: ([.methodLink RX6 49 yX6_neighbours, .static yX6_neighbours, .initialized RX6, .code yX6_neighbours cX6_neighbours 5 (some .int), .methodLink RX6 45 yX6_joined, .static yX6_joined, .code yX6_joined cX6_joined 4 (some .int), .methodLink RX6 41 yX6_valueOf, .static yX6_valueOf, .code yX6_valueOf cX6_valueOf 6 (some .int), .methodLink RX6 37 yX6_pairs, .static yX6_pairs, .code yX6_pairs cX6_pairs 1 (some .int), .methodLink RX6 55 yX6_switched, .static yX6_switched, .code yX6_switched cX6_switched 6 (some .int)])
def wsX6_isOdd : List Cond := .code yX6_isOdd cX6_isOdd 5 (some .boolean) :: ([.methodLink RX6 45 yX6_joined, .static yX6_joined, .initialized RX6, .code yX6_joined cX6_joined 4 (some .int), .methodLink RX6 41 yX6_valueOf, .static yX6_valueOf, .code yX6_valueOf cX6_valueOf 6 (some .int), .methodLink RX6 37 yX6_pairs, .static yX6_pairs, .code yX6_pairs cX6_pairs 1 (some .int)])
def wsX6_oddOfPair : List Cond := .code yX6_oddOfPair cX6_oddOfPair 6 (some .int) :: ([.methodLink RX6 58 yX6_isOdd, .static yX6_isOdd, .initialized RX6, .code yX6_isOdd cX6_isOdd 5 (some .boolean), .methodLink RX6 45 yX6_joined, .static yX6_joined, .code yX6_joined cX6_joined 4 (some .int), .methodLink RX6 41 yX6_valueOf, .static yX6_valueOf, .code yX6_valueOf cX6_valueOf 6 (some .int), .methodLink RX6 37 yX6_pairs, .static yX6_pairs, .code yX6_pairs cX6_pairs 1 (some .int)])
def wsX6_oddOfNode : List Cond := .code yX6_oddOfNode cX6_oddOfNode 5 (some .int) :: ([.methodLink RX6 62 yX6_oddOfPair, .static yX6_oddOfPair, .initialized RX6, .code yX6_oddOfPair cX6_oddOfPair 6 (some .int), .methodLink RX6 58 yX6_isOdd, .static yX6_isOdd, .code yX6_isOdd cX6_isOdd 5 (some .boolean), .methodLink RX6 45 yX6_joined, .static yX6_joined, .code yX6_joined cX6_joined 4 (some .int), .methodLink RX6 41 yX6_valueOf, .static yX6_valueOf, .code yX6_valueOf cX6_valueOf 6 (some .int), .methodLink RX6 37 yX6_pairs, .static yX6_pairs, .code yX6_pairs cX6_pairs 1 (some .int)])
def wsX6_oddOfNet : List Cond := .code yX6_oddOfNet cX6_oddOfNet 4 (some .int) :: ([.methodLink RX6 65 yX6_oddOfNode, .static yX6_oddOfNode, .initialized RX6, .code yX6_oddOfNode cX6_oddOfNode 5 (some .int), .methodLink RX6 62 yX6_oddOfPair, .static yX6_oddOfPair, .code yX6_oddOfPair cX6_oddOfPair 6 (some .int), .methodLink RX6 58 yX6_isOdd, .static yX6_isOdd, .code yX6_isOdd cX6_isOdd 5 (some .boolean), .methodLink RX6 45 yX6_joined, .static yX6_joined, .code yX6_joined cX6_joined 4 (some .int), .methodLink RX6 41 yX6_valueOf, .static yX6_valueOf, .code yX6_valueOf cX6_valueOf 6 (some .int), .methodLink RX6 37 yX6_pairs, .static yX6_pairs, .code yX6_pairs cX6_pairs 1 (some .int)])
def wsX6_without : List Cond := .code yX6_without cX6_without 6 (some .int) :: ([.methodLink RX6 45 yX6_joined, .static yX6_joined, .initialized RX6, .code yX6_joined cX6_joined 4 (some .int), .methodLink RX6 41 yX6_valueOf, .static yX6_valueOf, .code yX6_valueOf cX6_valueOf 6 (some .int), .methodLink RX6 37 yX6_pairs, .static yX6_pairs, .code yX6_pairs cX6_pairs 1 (some .int)])
def wsX6_netOf : List Cond := .code yX6_netOf cX6_netOf 2 (some .int) :: ([.fieldLink RX6 7 "OddNetsModel" "state" "[I"] ++ wsX60)
def wsX6_many : List Cond := .code yX6_many cX6_many 1 (some .int) :: ([.fieldLink RX6 7 "OddNetsModel" "state" "[I"] ++ wsX60)
def wsX6_nodes : List Cond := .code yX6_nodes cX6_nodes 4 (some .int) :: ([.fieldLink RX6 7 "OddNetsModel" "state" "[I", .methodLink RX6 33 yX6_in, .static yX6_in, .initialized RX6, .code yX6_in cX6_in 3 (some .boolean), .methodLink RX6 68 yX6_many, .instanceMethod yX6_many, .selects RX6 yX6_many yX6_many, .code yX6_many cX6_many 1 (some .int)] ++ wsX60)
def wsX6_join_r1 : List Cond := [Cond.fieldLink RX6 7 "OddNetsModel" "state" "[I", Cond.methodLink RX6 72 yX6_isSlot, Cond.static yX6_isSlot, Cond.initialized RX6, Cond.code yX6_isSlot cX6_isSlot 1 (some .boolean), Cond.methodLink RX6 33 yX6_in, Cond.static yX6_in, Cond.code yX6_in cX6_in 3 (some .boolean), Cond.methodLink RX6 76 yX6_isNode, Cond.instanceMethod yX6_isNode, Cond.selects RX6 yX6_isNode yX6_isNode, Cond.code yX6_isNode cX6_isNode 2 (some .boolean), Cond.methodLink RX6 68 yX6_many, Cond.instanceMethod yX6_many, Cond.selects RX6 yX6_many yX6_many, Cond.code yX6_many cX6_many 1 (some .int), Cond.methodLink RX6 41 yX6_valueOf, Cond.static yX6_valueOf, Cond.code yX6_valueOf cX6_valueOf 6 (some .int), Cond.methodLink RX6 37 yX6_pairs, Cond.static yX6_pairs, Cond.code yX6_pairs cX6_pairs 1 (some .int), Cond.methodLink RX6 79 yX6_netOf, Cond.instanceMethod yX6_netOf]
def wsX6_join_r2 : List Cond := [Cond.selects RX6 yX6_netOf yX6_netOf, Cond.code yX6_netOf cX6_netOf 2 (some .int), Cond.methodLink RX6 52 yX6_size, Cond.static yX6_size, Cond.code yX6_size cX6_size 3 (some .int)]
def wsX6_join : List Cond := .code yX6_join cX6_join 6 (some .int) :: ((wsX6_join_r1 ++ wsX6_join_r2) ++ wsX60)
def wsX6_hold : List Cond := .code yX6_hold cX6_hold 3 (some .int) :: ([.fieldLink RX6 7 "OddNetsModel" "state" "[I"] ++ wsX60)
def wsX6_set : List Cond := .code yX6_set cX6_set 4 (some .int) :: ([.fieldLink RX6 7 "OddNetsModel" "state" "[I", .methodLink RX6 72 yX6_isSlot, .static yX6_isSlot, .initialized RX6, .code yX6_isSlot cX6_isSlot 1 (some .boolean), .methodLink RX6 33 yX6_in, .static yX6_in, .code yX6_in cX6_in 3 (some .boolean), .methodLink RX6 68 yX6_many, .instanceMethod yX6_many, .selects RX6 yX6_many yX6_many, .code yX6_many cX6_many 1 (some .int), .methodLink RX6 37 yX6_pairs, .static yX6_pairs, .code yX6_pairs cX6_pairs 1 (some .int), .methodLink RX6 79 yX6_netOf, .instanceMethod yX6_netOf, .selects RX6 yX6_netOf yX6_netOf, .code yX6_netOf cX6_netOf 2 (some .int)] ++ wsX60)
def wsX6_say : List Cond := .code yX6_say cX6_say 2 (some .int) :: ([.fieldLink RX6 82 "OddNetsModel" "said" "I", .fieldLink RX6 20 "OddNetsModel" "pad" "[I", .methodLink RX6 33 yX6_in, .static yX6_in, .initialized RX6, .code yX6_in cX6_in 3 (some .boolean)] ++ wsX60)
def wsX6_wipe : List Cond := .code yX6_wipe cX6_wipe 2 (some .int) :: ([.fieldLink RX6 82 "OddNetsModel" "said" "I"] ++ wsX60)
def wsX6_faultAs : List Cond := .code yX6_faultAs cX6_faultAs 4 (some .int) :: ([.fieldLink RX6 82 "OddNetsModel" "said" "I", .fieldLink RX6 20 "OddNetsModel" "pad" "[I", .methodLink RX6 68 yX6_many, .instanceMethod yX6_many, .selects RX6 yX6_many yX6_many, .initialized RX6, .code yX6_many cX6_many 1 (some .int), .fieldLink RX6 7 "OddNetsModel" "state" "[I", .methodLink RX6 37 yX6_pairs, .static yX6_pairs, .code yX6_pairs cX6_pairs 1 (some .int), .methodLink RX6 86 yX6_triples, .static yX6_triples, .code yX6_triples cX6_triples 1 (some .int), .methodLink RX6 33 yX6_in, .static yX6_in, .code yX6_in cX6_in 3 (some .boolean)] ++ wsX60)
def wsX6_fault : List Cond := .code yX6_fault cX6_fault 2 (some .int) :: ([.methodLink RX6 33 yX6_in, .static yX6_in, .initialized RX6, .code yX6_in cX6_in 3 (some .boolean), .methodLink RX6 89 yX6_faultAs, .instanceMethod yX6_faultAs, .selects RX6 yX6_faultAs yX6_faultAs, .code yX6_faultAs cX6_faultAs 4 (some .int), .fieldLink RX6 82 "OddNetsModel" "said" "I", .fieldLink RX6 20 "OddNetsModel" "pad" "[I", .methodLink RX6 68 yX6_many, .instanceMethod yX6_many, .selects RX6 yX6_many yX6_many, .code yX6_many cX6_many 1 (some .int), .fieldLink RX6 7 "OddNetsModel" "state" "[I", .methodLink RX6 37 yX6_pairs, .static yX6_pairs, .code yX6_pairs cX6_pairs 1 (some .int), .methodLink RX6 86 yX6_triples, .static yX6_triples, .code yX6_triples cX6_triples 1 (some .int)] ++ wsX60)
def wsX6_placeOf : List Cond := .code yX6_placeOf cX6_placeOf 8 (some .int) :: ([.methodLink RX6 68 yX6_many, .instanceMethod yX6_many, .selects RX6 yX6_many yX6_many, .initialized RX6, .code yX6_many cX6_many 1 (some .int), .fieldLink RX6 7 "OddNetsModel" "state" "[I"] ++ wsX60)
def wsX6_told : List Cond := .code yX6_told cX6_told 4 (some .int) :: ([.fieldLink RX6 20 "OddNetsModel" "pad" "[I", .methodLink RX6 92 yX6_placeOf, .instanceMethod yX6_placeOf, .selects RX6 yX6_placeOf yX6_placeOf, .initialized RX6, .code yX6_placeOf cX6_placeOf 8 (some .int), .methodLink RX6 68 yX6_many, .instanceMethod yX6_many, .selects RX6 yX6_many yX6_many, .code yX6_many cX6_many 1 (some .int), .fieldLink RX6 7 "OddNetsModel" "state" "[I"] ++ wsX60)
def wsX6_fitFour : List Cond := .code yX6_fitFour cX6_fitFour 5 (some .boolean) :: ([.methodLink RX6 95 yX6_told, .instanceMethod yX6_told, .selects RX6 yX6_told yX6_told, .initialized RX6, .code yX6_told cX6_told 4 (some .int), .fieldLink RX6 20 "OddNetsModel" "pad" "[I", .methodLink RX6 92 yX6_placeOf, .instanceMethod yX6_placeOf, .selects RX6 yX6_placeOf yX6_placeOf, .code yX6_placeOf cX6_placeOf 8 (some .int), .methodLink RX6 68 yX6_many, .instanceMethod yX6_many, .selects RX6 yX6_many yX6_many, .code yX6_many cX6_many 1 (some .int), .fieldLink RX6 7 "OddNetsModel" "state" "[I"] ++ wsX60)
def wsX6_areFit : List Cond := .code yX6_areFit cX6_areFit 6 (some .boolean) :: ([.methodLink RX6 68 yX6_many, .instanceMethod yX6_many, .selects RX6 yX6_many yX6_many, .initialized RX6, .code yX6_many cX6_many 1 (some .int), .fieldLink RX6 7 "OddNetsModel" "state" "[I", .methodLink RX6 98 yX6_fitFour, .instanceMethod yX6_fitFour, .selects RX6 yX6_fitFour yX6_fitFour, .code yX6_fitFour cX6_fitFour 5 (some .boolean), .methodLink RX6 95 yX6_told, .instanceMethod yX6_told, .selects RX6 yX6_told yX6_told, .code yX6_told cX6_told 4 (some .int), .fieldLink RX6 20 "OddNetsModel" "pad" "[I", .methodLink RX6 92 yX6_placeOf, .instanceMethod yX6_placeOf, .selects RX6 yX6_placeOf yX6_placeOf, .code yX6_placeOf cX6_placeOf 8 (some .int)] ++ wsX60)
def wsX6_netOfPad : List Cond := .code yX6_netOfPad cX6_netOfPad 3 (some .int) :: ([.fieldLink RX6 82 "OddNetsModel" "said" "I", .fieldLink RX6 20 "OddNetsModel" "pad" "[I"] ++ wsX60)
def wsX6_netOfTriples : List Cond := .code yX6_netOfTriples cX6_netOfTriples 4 (some .int) :: ([.methodLink RX6 68 yX6_many, .instanceMethod yX6_many, .selects RX6 yX6_many yX6_many, .initialized RX6, .code yX6_many cX6_many 1 (some .int), .fieldLink RX6 7 "OddNetsModel" "state" "[I", .methodLink RX6 95 yX6_told, .instanceMethod yX6_told, .selects RX6 yX6_told yX6_told, .code yX6_told cX6_told 4 (some .int), .fieldLink RX6 20 "OddNetsModel" "pad" "[I", .methodLink RX6 92 yX6_placeOf, .instanceMethod yX6_placeOf, .selects RX6 yX6_placeOf yX6_placeOf, .code yX6_placeOf cX6_placeOf 8 (some .int), .methodLink RX6 41 yX6_valueOf, .static yX6_valueOf, .code yX6_valueOf cX6_valueOf 6 (some .int), .methodLink RX6 37 yX6_pairs, .static yX6_pairs, .code yX6_pairs cX6_pairs 1 (some .int)] ++ wsX60)
def wsX6_read_r1 : List Cond := [Cond.fieldLink RX6 82 "OddNetsModel" "said" "I", Cond.methodLink RX6 72 yX6_isSlot, Cond.static yX6_isSlot, Cond.initialized RX6, Cond.code yX6_isSlot cX6_isSlot 1 (some .boolean), Cond.methodLink RX6 33 yX6_in, Cond.static yX6_in, Cond.code yX6_in cX6_in 3 (some .boolean), Cond.methodLink RX6 89 yX6_faultAs, Cond.instanceMethod yX6_faultAs, Cond.selects RX6 yX6_faultAs yX6_faultAs, Cond.code yX6_faultAs cX6_faultAs 4 (some .int), Cond.fieldLink RX6 20 "OddNetsModel" "pad" "[I", Cond.methodLink RX6 68 yX6_many, Cond.instanceMethod yX6_many, Cond.selects RX6 yX6_many yX6_many, Cond.code yX6_many cX6_many 1 (some .int), Cond.fieldLink RX6 7 "OddNetsModel" "state" "[I", Cond.methodLink RX6 37 yX6_pairs, Cond.static yX6_pairs, Cond.code yX6_pairs cX6_pairs 1 (some .int), Cond.methodLink RX6 86 yX6_triples, Cond.static yX6_triples, Cond.code yX6_triples cX6_triples 1 (some .int)]
def wsX6_read_r2 : List Cond := [Cond.methodLink RX6 102 yX6_areFit, Cond.instanceMethod yX6_areFit, Cond.selects RX6 yX6_areFit yX6_areFit, Cond.code yX6_areFit cX6_areFit 6 (some .boolean), Cond.methodLink RX6 98 yX6_fitFour, Cond.instanceMethod yX6_fitFour, Cond.selects RX6 yX6_fitFour yX6_fitFour, Cond.code yX6_fitFour cX6_fitFour 5 (some .boolean), Cond.methodLink RX6 95 yX6_told, Cond.instanceMethod yX6_told, Cond.selects RX6 yX6_told yX6_told, Cond.code yX6_told cX6_told 4 (some .int), Cond.methodLink RX6 92 yX6_placeOf, Cond.instanceMethod yX6_placeOf, Cond.selects RX6 yX6_placeOf yX6_placeOf, Cond.code yX6_placeOf cX6_placeOf 8 (some .int), Cond.methodLink RX6 106 yX6_netOfPad, Cond.instanceMethod yX6_netOfPad, Cond.selects RX6 yX6_netOfPad yX6_netOfPad, Cond.code yX6_netOfPad cX6_netOfPad 3 (some .int), Cond.methodLink RX6 109 yX6_netOfTriples, Cond.instanceMethod yX6_netOfTriples, Cond.selects RX6 yX6_netOfTriples yX6_netOfTriples, Cond.code yX6_netOfTriples cX6_netOfTriples 4 (some .int)]
def wsX6_read_r3 : List Cond := [Cond.methodLink RX6 41 yX6_valueOf, Cond.static yX6_valueOf, Cond.code yX6_valueOf cX6_valueOf 6 (some .int), Cond.methodLink RX6 112 yX6_hold, Cond.instanceMethod yX6_hold, Cond.selects RX6 yX6_hold yX6_hold, Cond.code yX6_hold cX6_hold 3 (some .int)]
def wsX6_read : List Cond := .code yX6_read cX6_read 4 (some .int) :: ((wsX6_read_r1 ++ (wsX6_read_r2 ++ wsX6_read_r3)) ++ wsX60)
def wsX6_turn_r1 : List Cond := [Cond.methodLink RX6 72 yX6_isSlot, Cond.static yX6_isSlot, Cond.initialized RX6, Cond.code yX6_isSlot cX6_isSlot 1 (some .boolean), Cond.methodLink RX6 33 yX6_in, Cond.static yX6_in, Cond.code yX6_in cX6_in 3 (some .boolean), Cond.methodLink RX6 68 yX6_many, Cond.instanceMethod yX6_many, Cond.selects RX6 yX6_many yX6_many, Cond.code yX6_many cX6_many 1 (some .int), Cond.fieldLink RX6 7 "OddNetsModel" "state" "[I", Cond.methodLink RX6 79 yX6_netOf, Cond.instanceMethod yX6_netOf, Cond.selects RX6 yX6_netOf yX6_netOf, Cond.code yX6_netOf cX6_netOf 2 (some .int), Cond.methodLink RX6 55 yX6_switched, Cond.static yX6_switched, Cond.code yX6_switched cX6_switched 6 (some .int), Cond.methodLink RX6 41 yX6_valueOf, Cond.static yX6_valueOf, Cond.code yX6_valueOf cX6_valueOf 6 (some .int), Cond.methodLink RX6 37 yX6_pairs, Cond.static yX6_pairs]
def wsX6_turn_r2 : List Cond := [Cond.code yX6_pairs cX6_pairs 1 (some .int), Cond.methodLink RX6 112 yX6_hold, Cond.instanceMethod yX6_hold, Cond.selects RX6 yX6_hold yX6_hold, Cond.code yX6_hold cX6_hold 3 (some .int)]
def wsX6_turn : List Cond := .code yX6_turn cX6_turn 4 (some .int) :: ((wsX6_turn_r1 ++ wsX6_turn_r2) ++ wsX60)
def wsX6_regular : List Cond := .code yX6_regular cX6_regular 6 (some .int) :: ([.methodLink RX6 68 yX6_many, .instanceMethod yX6_many, .selects RX6 yX6_many yX6_many, .initialized RX6, .code yX6_many cX6_many 1 (some .int), .fieldLink RX6 7 "OddNetsModel" "state" "[I", .methodLink RX6 62 yX6_oddOfPair, .static yX6_oddOfPair, .code yX6_oddOfPair cX6_oddOfPair 6 (some .int), .methodLink RX6 58 yX6_isOdd, .static yX6_isOdd, .code yX6_isOdd cX6_isOdd 5 (some .boolean), .methodLink RX6 45 yX6_joined, .static yX6_joined, .code yX6_joined cX6_joined 4 (some .int), .methodLink RX6 41 yX6_valueOf, .static yX6_valueOf, .code yX6_valueOf cX6_valueOf 6 (some .int), .methodLink RX6 37 yX6_pairs, .static yX6_pairs, .code yX6_pairs cX6_pairs 1 (some .int)] ++ wsX60)
def wsX6_oddNodes : List Cond := .code yX6_oddNodes cX6_oddNodes 4 (some .int) :: ([.methodLink RX6 68 yX6_many, .instanceMethod yX6_many, .selects RX6 yX6_many yX6_many, .initialized RX6, .code yX6_many cX6_many 1 (some .int), .fieldLink RX6 7 "OddNetsModel" "state" "[I", .methodLink RX6 116 yX6_degree, .static yX6_degree, .code yX6_degree cX6_degree 3 (some .int), .methodLink RX6 49 yX6_neighbours, .static yX6_neighbours, .code yX6_neighbours cX6_neighbours 5 (some .int), .methodLink RX6 45 yX6_joined, .static yX6_joined, .code yX6_joined cX6_joined 4 (some .int), .methodLink RX6 41 yX6_valueOf, .static yX6_valueOf, .code yX6_valueOf cX6_valueOf 6 (some .int), .methodLink RX6 37 yX6_pairs, .static yX6_pairs, .code yX6_pairs cX6_pairs 1 (some .int), .methodLink RX6 52 yX6_size, .static yX6_size, .code yX6_size cX6_size 3 (some .int)] ++ wsX60)
def wsX6_of_r1 : List Cond := [Cond.methodLink RX6 72 yX6_isSlot, Cond.static yX6_isSlot, Cond.initialized RX6, Cond.code yX6_isSlot cX6_isSlot 1 (some .boolean), Cond.methodLink RX6 33 yX6_in, Cond.static yX6_in, Cond.code yX6_in cX6_in 3 (some .boolean), Cond.methodLink RX6 79 yX6_netOf, Cond.instanceMethod yX6_netOf, Cond.selects RX6 yX6_netOf yX6_netOf, Cond.code yX6_netOf cX6_netOf 2 (some .int), Cond.fieldLink RX6 7 "OddNetsModel" "state" "[I", Cond.methodLink RX6 52 yX6_size, Cond.static yX6_size, Cond.code yX6_size cX6_size 3 (some .int), Cond.methodLink RX6 68 yX6_many, Cond.instanceMethod yX6_many, Cond.selects RX6 yX6_many yX6_many, Cond.code yX6_many cX6_many 1 (some .int), Cond.methodLink RX6 119 yX6_oddOfNet, Cond.static yX6_oddOfNet, Cond.code yX6_oddOfNet cX6_oddOfNet 4 (some .int), Cond.methodLink RX6 65 yX6_oddOfNode, Cond.static yX6_oddOfNode]
def wsX6_of_r2 : List Cond := [Cond.code yX6_oddOfNode cX6_oddOfNode 5 (some .int), Cond.methodLink RX6 62 yX6_oddOfPair, Cond.static yX6_oddOfPair, Cond.code yX6_oddOfPair cX6_oddOfPair 6 (some .int), Cond.methodLink RX6 58 yX6_isOdd, Cond.static yX6_isOdd, Cond.code yX6_isOdd cX6_isOdd 5 (some .boolean), Cond.methodLink RX6 45 yX6_joined, Cond.static yX6_joined, Cond.code yX6_joined cX6_joined 4 (some .int), Cond.methodLink RX6 41 yX6_valueOf, Cond.static yX6_valueOf, Cond.code yX6_valueOf cX6_valueOf 6 (some .int), Cond.methodLink RX6 37 yX6_pairs, Cond.static yX6_pairs, Cond.code yX6_pairs cX6_pairs 1 (some .int), Cond.methodLink RX6 122 yX6_regular, Cond.instanceMethod yX6_regular, Cond.selects RX6 yX6_regular yX6_regular, Cond.code yX6_regular cX6_regular 6 (some .int), Cond.methodLink RX6 125 yX6_oddNodes, Cond.instanceMethod yX6_oddNodes, Cond.selects RX6 yX6_oddNodes yX6_oddNodes, Cond.code yX6_oddNodes cX6_oddNodes 4 (some .int)]
def wsX6_of_r3 : List Cond := [Cond.methodLink RX6 116 yX6_degree, Cond.static yX6_degree, Cond.code yX6_degree cX6_degree 3 (some .int), Cond.methodLink RX6 49 yX6_neighbours, Cond.static yX6_neighbours, Cond.code yX6_neighbours cX6_neighbours 5 (some .int)]
def wsX6_of : List Cond := .code yX6_of cX6_of 4 (some .int) :: ((wsX6_of_r1 ++ (wsX6_of_r2 ++ wsX6_of_r3)) ++ wsX60)
def wsX6_node_r1 : List Cond := [Cond.methodLink RX6 72 yX6_isSlot, Cond.static yX6_isSlot, Cond.initialized RX6, Cond.code yX6_isSlot cX6_isSlot 1 (some .boolean), Cond.methodLink RX6 33 yX6_in, Cond.static yX6_in, Cond.code yX6_in cX6_in 3 (some .boolean), Cond.methodLink RX6 76 yX6_isNode, Cond.instanceMethod yX6_isNode, Cond.selects RX6 yX6_isNode yX6_isNode, Cond.code yX6_isNode cX6_isNode 2 (some .boolean), Cond.fieldLink RX6 7 "OddNetsModel" "state" "[I", Cond.methodLink RX6 79 yX6_netOf, Cond.instanceMethod yX6_netOf, Cond.selects RX6 yX6_netOf yX6_netOf, Cond.code yX6_netOf cX6_netOf 2 (some .int), Cond.methodLink RX6 68 yX6_many, Cond.instanceMethod yX6_many, Cond.selects RX6 yX6_many yX6_many, Cond.code yX6_many cX6_many 1 (some .int), Cond.methodLink RX6 116 yX6_degree, Cond.static yX6_degree, Cond.code yX6_degree cX6_degree 3 (some .int), Cond.methodLink RX6 49 yX6_neighbours]
def wsX6_node_r2 : List Cond := [Cond.static yX6_neighbours, Cond.code yX6_neighbours cX6_neighbours 5 (some .int), Cond.methodLink RX6 45 yX6_joined, Cond.static yX6_joined, Cond.code yX6_joined cX6_joined 4 (some .int), Cond.methodLink RX6 41 yX6_valueOf, Cond.static yX6_valueOf, Cond.code yX6_valueOf cX6_valueOf 6 (some .int), Cond.methodLink RX6 37 yX6_pairs, Cond.static yX6_pairs, Cond.code yX6_pairs cX6_pairs 1 (some .int), Cond.methodLink RX6 52 yX6_size, Cond.static yX6_size, Cond.code yX6_size cX6_size 3 (some .int), Cond.methodLink RX6 65 yX6_oddOfNode, Cond.static yX6_oddOfNode, Cond.code yX6_oddOfNode cX6_oddOfNode 5 (some .int), Cond.methodLink RX6 62 yX6_oddOfPair, Cond.static yX6_oddOfPair, Cond.code yX6_oddOfPair cX6_oddOfPair 6 (some .int), Cond.methodLink RX6 58 yX6_isOdd, Cond.static yX6_isOdd, Cond.code yX6_isOdd cX6_isOdd 5 (some .boolean), Cond.methodLink RX6 128 yX6_alone]
def wsX6_node_r3 : List Cond := [Cond.static yX6_alone, Cond.code yX6_alone cX6_alone 3 (some .int), Cond.methodLink RX6 55 yX6_switched, Cond.static yX6_switched, Cond.code yX6_switched cX6_switched 6 (some .int), Cond.methodLink RX6 131 yX6_without, Cond.static yX6_without, Cond.code yX6_without cX6_without 6 (some .int)]
def wsX6_node : List Cond := .code yX6_node cX6_node 5 (some .int) :: ((wsX6_node_r1 ++ (wsX6_node_r2 ++ wsX6_node_r3)) ++ wsX60)
def wsX6_common : List Cond := .code yX6_common cX6_common 4 (some .int) :: ([.methodLink RX6 49 yX6_neighbours, .static yX6_neighbours, .initialized RX6, .code yX6_neighbours cX6_neighbours 5 (some .int), .methodLink RX6 45 yX6_joined, .static yX6_joined, .code yX6_joined cX6_joined 4 (some .int), .methodLink RX6 41 yX6_valueOf, .static yX6_valueOf, .code yX6_valueOf cX6_valueOf 6 (some .int), .methodLink RX6 37 yX6_pairs, .static yX6_pairs, .code yX6_pairs cX6_pairs 1 (some .int), .methodLink RX6 52 yX6_size, .static yX6_size, .code yX6_size cX6_size 3 (some .int)])
def wsX6_pair_r1 : List Cond := [Cond.methodLink RX6 72 yX6_isSlot, Cond.static yX6_isSlot, Cond.initialized RX6, Cond.code yX6_isSlot cX6_isSlot 1 (some .boolean), Cond.methodLink RX6 33 yX6_in, Cond.static yX6_in, Cond.code yX6_in cX6_in 3 (some .boolean), Cond.methodLink RX6 76 yX6_isNode, Cond.instanceMethod yX6_isNode, Cond.selects RX6 yX6_isNode yX6_isNode, Cond.code yX6_isNode cX6_isNode 2 (some .boolean), Cond.fieldLink RX6 7 "OddNetsModel" "state" "[I", Cond.methodLink RX6 79 yX6_netOf, Cond.instanceMethod yX6_netOf, Cond.selects RX6 yX6_netOf yX6_netOf, Cond.code yX6_netOf cX6_netOf 2 (some .int), Cond.methodLink RX6 68 yX6_many, Cond.instanceMethod yX6_many, Cond.selects RX6 yX6_many yX6_many, Cond.code yX6_many cX6_many 1 (some .int), Cond.methodLink RX6 45 yX6_joined, Cond.static yX6_joined, Cond.code yX6_joined cX6_joined 4 (some .int), Cond.methodLink RX6 41 yX6_valueOf]
def wsX6_pair_r2 : List Cond := [Cond.static yX6_valueOf, Cond.code yX6_valueOf cX6_valueOf 6 (some .int), Cond.methodLink RX6 37 yX6_pairs, Cond.static yX6_pairs, Cond.code yX6_pairs cX6_pairs 1 (some .int), Cond.methodLink RX6 62 yX6_oddOfPair, Cond.static yX6_oddOfPair, Cond.code yX6_oddOfPair cX6_oddOfPair 6 (some .int), Cond.methodLink RX6 58 yX6_isOdd, Cond.static yX6_isOdd, Cond.code yX6_isOdd cX6_isOdd 5 (some .boolean), Cond.methodLink RX6 134 yX6_common, Cond.static yX6_common, Cond.code yX6_common cX6_common 4 (some .int), Cond.methodLink RX6 49 yX6_neighbours, Cond.static yX6_neighbours, Cond.code yX6_neighbours cX6_neighbours 5 (some .int), Cond.methodLink RX6 52 yX6_size, Cond.static yX6_size, Cond.code yX6_size cX6_size 3 (some .int)]
def wsX6_pair : List Cond := .code yX6_pair cX6_pair 6 (some .int) :: ((wsX6_pair_r1 ++ wsX6_pair_r2) ++ wsX60)
def wsX6_fewest_r1 : List Cond := [Cond.fieldLink RX6 137 "OddNetsModel" "leastSize" "I", Cond.fieldLink RX6 140 "OddNetsModel" "leastSet" "I", Cond.fieldLink RX6 143 "OddNetsModel" "found" "I", Cond.methodLink RX6 72 yX6_isSlot, Cond.static yX6_isSlot, Cond.initialized RX6, Cond.code yX6_isSlot cX6_isSlot 1 (some .boolean), Cond.methodLink RX6 33 yX6_in, Cond.static yX6_in, Cond.code yX6_in cX6_in 3 (some .boolean), Cond.methodLink RX6 68 yX6_many, Cond.instanceMethod yX6_many, Cond.selects RX6 yX6_many yX6_many, Cond.code yX6_many cX6_many 1 (some .int), Cond.fieldLink RX6 7 "OddNetsModel" "state" "[I", Cond.methodLink RX6 79 yX6_netOf, Cond.instanceMethod yX6_netOf, Cond.selects RX6 yX6_netOf yX6_netOf, Cond.code yX6_netOf cX6_netOf 2 (some .int), Cond.methodLink RX6 55 yX6_switched, Cond.static yX6_switched, Cond.code yX6_switched cX6_switched 6 (some .int), Cond.methodLink RX6 41 yX6_valueOf, Cond.static yX6_valueOf]
def wsX6_fewest_r2 : List Cond := [Cond.code yX6_valueOf cX6_valueOf 6 (some .int), Cond.methodLink RX6 37 yX6_pairs, Cond.static yX6_pairs, Cond.code yX6_pairs cX6_pairs 1 (some .int), Cond.methodLink RX6 52 yX6_size, Cond.static yX6_size, Cond.code yX6_size cX6_size 3 (some .int)]
def wsX6_fewest : List Cond := .code yX6_fewest cX6_fewest 5 (some .int) :: ((wsX6_fewest_r1 ++ wsX6_fewest_r2) ++ wsX60)
def wsX6_beginFound : List Cond := .code yX6_beginFound cX6_beginFound 1 none :: ([.fieldLink RX6 143 "OddNetsModel" "found" "I", .fieldLink RX6 140 "OddNetsModel" "leastSet" "I"] ++ wsX60)
def wsX6_find : List Cond := .code yX6_find cX6_find 2 none :: ([.fieldLink RX6 143 "OddNetsModel" "found" "I", .fieldLink RX6 140 "OddNetsModel" "leastSet" "I"] ++ wsX60)
def wsX6_even_r1 : List Cond := [Cond.fieldLink RX6 143 "OddNetsModel" "found" "I", Cond.fieldLink RX6 140 "OddNetsModel" "leastSet" "I", Cond.methodLink RX6 72 yX6_isSlot, Cond.static yX6_isSlot, Cond.initialized RX6, Cond.code yX6_isSlot cX6_isSlot 1 (some .boolean), Cond.methodLink RX6 33 yX6_in, Cond.static yX6_in, Cond.code yX6_in cX6_in 3 (some .boolean), Cond.methodLink RX6 146 yX6_beginFound, Cond.instanceMethod yX6_beginFound, Cond.selects RX6 yX6_beginFound yX6_beginFound, Cond.code yX6_beginFound cX6_beginFound 1 none, Cond.methodLink RX6 68 yX6_many, Cond.instanceMethod yX6_many, Cond.selects RX6 yX6_many yX6_many, Cond.code yX6_many cX6_many 1 (some .int), Cond.fieldLink RX6 7 "OddNetsModel" "state" "[I", Cond.methodLink RX6 79 yX6_netOf, Cond.instanceMethod yX6_netOf, Cond.selects RX6 yX6_netOf yX6_netOf, Cond.code yX6_netOf cX6_netOf 2 (some .int), Cond.methodLink RX6 55 yX6_switched, Cond.static yX6_switched]
def wsX6_even_r2 : List Cond := [Cond.code yX6_switched cX6_switched 6 (some .int), Cond.methodLink RX6 41 yX6_valueOf, Cond.static yX6_valueOf, Cond.code yX6_valueOf cX6_valueOf 6 (some .int), Cond.methodLink RX6 37 yX6_pairs, Cond.static yX6_pairs, Cond.code yX6_pairs cX6_pairs 1 (some .int), Cond.methodLink RX6 125 yX6_oddNodes, Cond.instanceMethod yX6_oddNodes, Cond.selects RX6 yX6_oddNodes yX6_oddNodes, Cond.code yX6_oddNodes cX6_oddNodes 4 (some .int), Cond.methodLink RX6 116 yX6_degree, Cond.static yX6_degree, Cond.code yX6_degree cX6_degree 3 (some .int), Cond.methodLink RX6 49 yX6_neighbours, Cond.static yX6_neighbours, Cond.code yX6_neighbours cX6_neighbours 5 (some .int), Cond.methodLink RX6 45 yX6_joined, Cond.static yX6_joined, Cond.code yX6_joined cX6_joined 4 (some .int), Cond.methodLink RX6 52 yX6_size, Cond.static yX6_size, Cond.code yX6_size cX6_size 3 (some .int), Cond.methodLink RX6 149 yX6_find]
def wsX6_even_r3 : List Cond := [Cond.instanceMethod yX6_find, Cond.selects RX6 yX6_find yX6_find, Cond.code yX6_find cX6_find 2 none]
def wsX6_even : List Cond := .code yX6_even cX6_even 4 (some .int) :: ((wsX6_even_r1 ++ (wsX6_even_r2 ++ wsX6_even_r3)) ++ wsX60)
def wsX6_isBy : List Cond := .code yX6_isBy cX6_isBy 5 (some .boolean) :: ([.methodLink RX6 68 yX6_many, .instanceMethod yX6_many, .selects RX6 yX6_many yX6_many, .initialized RX6, .code yX6_many cX6_many 1 (some .int), .fieldLink RX6 7 "OddNetsModel" "state" "[I", .methodLink RX6 116 yX6_degree, .static yX6_degree, .code yX6_degree cX6_degree 3 (some .int), .methodLink RX6 49 yX6_neighbours, .static yX6_neighbours, .code yX6_neighbours cX6_neighbours 5 (some .int), .methodLink RX6 45 yX6_joined, .static yX6_joined, .code yX6_joined cX6_joined 4 (some .int), .methodLink RX6 41 yX6_valueOf, .static yX6_valueOf, .code yX6_valueOf cX6_valueOf 6 (some .int), .methodLink RX6 37 yX6_pairs, .static yX6_pairs, .code yX6_pairs cX6_pairs 1 (some .int), .methodLink RX6 52 yX6_size, .static yX6_size, .code yX6_size cX6_size 3 (some .int)] ++ wsX60)
def wsX6_isEvenly : List Cond := .code yX6_isEvenly cX6_isEvenly 8 (some .boolean) :: ([.methodLink RX6 68 yX6_many, .instanceMethod yX6_many, .selects RX6 yX6_many yX6_many, .initialized RX6, .code yX6_many cX6_many 1 (some .int), .fieldLink RX6 7 "OddNetsModel" "state" "[I", .methodLink RX6 45 yX6_joined, .static yX6_joined, .code yX6_joined cX6_joined 4 (some .int), .methodLink RX6 41 yX6_valueOf, .static yX6_valueOf, .code yX6_valueOf cX6_valueOf 6 (some .int), .methodLink RX6 37 yX6_pairs, .static yX6_pairs, .code yX6_pairs cX6_pairs 1 (some .int), .methodLink RX6 134 yX6_common, .static yX6_common, .code yX6_common cX6_common 4 (some .int), .methodLink RX6 49 yX6_neighbours, .static yX6_neighbours, .code yX6_neighbours cX6_neighbours 5 (some .int), .methodLink RX6 52 yX6_size, .static yX6_size, .code yX6_size cX6_size 3 (some .int)] ++ wsX60)
def wsX6_by_r1 : List Cond := [Cond.fieldLink RX6 143 "OddNetsModel" "found" "I", Cond.fieldLink RX6 140 "OddNetsModel" "leastSet" "I", Cond.methodLink RX6 72 yX6_isSlot, Cond.static yX6_isSlot, Cond.initialized RX6, Cond.code yX6_isSlot cX6_isSlot 1 (some .boolean), Cond.methodLink RX6 33 yX6_in, Cond.static yX6_in, Cond.code yX6_in cX6_in 3 (some .boolean), Cond.methodLink RX6 146 yX6_beginFound, Cond.instanceMethod yX6_beginFound, Cond.selects RX6 yX6_beginFound yX6_beginFound, Cond.code yX6_beginFound cX6_beginFound 1 none, Cond.methodLink RX6 68 yX6_many, Cond.instanceMethod yX6_many, Cond.selects RX6 yX6_many yX6_many, Cond.code yX6_many cX6_many 1 (some .int), Cond.fieldLink RX6 7 "OddNetsModel" "state" "[I", Cond.methodLink RX6 79 yX6_netOf, Cond.instanceMethod yX6_netOf, Cond.selects RX6 yX6_netOf yX6_netOf, Cond.code yX6_netOf cX6_netOf 2 (some .int), Cond.methodLink RX6 55 yX6_switched, Cond.static yX6_switched]
def wsX6_by_r2 : List Cond := [Cond.code yX6_switched cX6_switched 6 (some .int), Cond.methodLink RX6 41 yX6_valueOf, Cond.static yX6_valueOf, Cond.code yX6_valueOf cX6_valueOf 6 (some .int), Cond.methodLink RX6 37 yX6_pairs, Cond.static yX6_pairs, Cond.code yX6_pairs cX6_pairs 1 (some .int), Cond.methodLink RX6 153 yX6_isBy, Cond.instanceMethod yX6_isBy, Cond.selects RX6 yX6_isBy yX6_isBy, Cond.code yX6_isBy cX6_isBy 5 (some .boolean), Cond.methodLink RX6 116 yX6_degree, Cond.static yX6_degree, Cond.code yX6_degree cX6_degree 3 (some .int), Cond.methodLink RX6 49 yX6_neighbours, Cond.static yX6_neighbours, Cond.code yX6_neighbours cX6_neighbours 5 (some .int), Cond.methodLink RX6 45 yX6_joined, Cond.static yX6_joined, Cond.code yX6_joined cX6_joined 4 (some .int), Cond.methodLink RX6 52 yX6_size, Cond.static yX6_size, Cond.code yX6_size cX6_size 3 (some .int), Cond.methodLink RX6 149 yX6_find]
def wsX6_by_r3 : List Cond := [Cond.instanceMethod yX6_find, Cond.selects RX6 yX6_find yX6_find, Cond.code yX6_find cX6_find 2 none, Cond.methodLink RX6 157 yX6_isEvenly, Cond.instanceMethod yX6_isEvenly, Cond.selects RX6 yX6_isEvenly yX6_isEvenly, Cond.code yX6_isEvenly cX6_isEvenly 8 (some .boolean), Cond.methodLink RX6 134 yX6_common, Cond.static yX6_common, Cond.code yX6_common cX6_common 4 (some .int)]
def wsX6_by : List Cond := .code yX6_by cX6_by 7 (some .int) :: ((wsX6_by_r1 ++ (wsX6_by_r2 ++ wsX6_by_r3)) ++ wsX60)
def wsX6_orders : List Cond := .code yX6_orders cX6_orders 3 (some .int) :: ([])
def wsX6_layRank : List Cond := .code yX6_layRank cX6_layRank 7 none :: ([.fieldLink RX6 23 "OddNetsModel" "row" "[I", .fieldLink RX6 26 "OddNetsModel" "isUsed" "[Z"] ++ wsX60)
def wsX6_renumbered : List Cond := .code yX6_renumbered cX6_renumbered 6 (some .int) :: ([.fieldLink RX6 23 "OddNetsModel" "row" "[I", .methodLink RX6 45 yX6_joined, .static yX6_joined, .initialized RX6, .code yX6_joined cX6_joined 4 (some .int), .methodLink RX6 41 yX6_valueOf, .static yX6_valueOf, .code yX6_valueOf cX6_valueOf 6 (some .int), .methodLink RX6 37 yX6_pairs, .static yX6_pairs, .code yX6_pairs cX6_pairs 1 (some .int)] ++ wsX60)
def wsX6_kindOf_r1 : List Cond := [Cond.fieldLink RX6 23 "OddNetsModel" "row" "[I", Cond.methodLink RX6 128 yX6_alone, Cond.static yX6_alone, Cond.initialized RX6, Cond.code yX6_alone cX6_alone 3 (some .int), Cond.methodLink RX6 49 yX6_neighbours, Cond.static yX6_neighbours, Cond.code yX6_neighbours cX6_neighbours 5 (some .int), Cond.methodLink RX6 45 yX6_joined, Cond.static yX6_joined, Cond.code yX6_joined cX6_joined 4 (some .int), Cond.methodLink RX6 41 yX6_valueOf, Cond.static yX6_valueOf, Cond.code yX6_valueOf cX6_valueOf 6 (some .int), Cond.methodLink RX6 37 yX6_pairs, Cond.static yX6_pairs, Cond.code yX6_pairs cX6_pairs 1 (some .int), Cond.methodLink RX6 55 yX6_switched, Cond.static yX6_switched, Cond.code yX6_switched cX6_switched 6 (some .int), Cond.methodLink RX6 160 yX6_orders, Cond.static yX6_orders, Cond.code yX6_orders cX6_orders 3 (some .int), Cond.methodLink RX6 163 yX6_layRank]
def wsX6_kindOf_r2 : List Cond := [Cond.instanceMethod yX6_layRank, Cond.selects RX6 yX6_layRank yX6_layRank, Cond.code yX6_layRank cX6_layRank 7 none, Cond.fieldLink RX6 26 "OddNetsModel" "isUsed" "[Z", Cond.methodLink RX6 167 yX6_renumbered, Cond.instanceMethod yX6_renumbered, Cond.selects RX6 yX6_renumbered yX6_renumbered, Cond.code yX6_renumbered cX6_renumbered 6 (some .int)]
def wsX6_kindOf : List Cond := .code yX6_kindOf cX6_kindOf 8 (some .int) :: ((wsX6_kindOf_r1 ++ wsX6_kindOf_r2) ++ wsX60)
def wsX6_comesTo_r1 : List Cond := [Cond.methodLink RX6 128 yX6_alone, Cond.static yX6_alone, Cond.initialized RX6, Cond.code yX6_alone cX6_alone 3 (some .int), Cond.methodLink RX6 49 yX6_neighbours, Cond.static yX6_neighbours, Cond.code yX6_neighbours cX6_neighbours 5 (some .int), Cond.methodLink RX6 45 yX6_joined, Cond.static yX6_joined, Cond.code yX6_joined cX6_joined 4 (some .int), Cond.methodLink RX6 41 yX6_valueOf, Cond.static yX6_valueOf, Cond.code yX6_valueOf cX6_valueOf 6 (some .int), Cond.methodLink RX6 37 yX6_pairs, Cond.static yX6_pairs, Cond.code yX6_pairs cX6_pairs 1 (some .int), Cond.methodLink RX6 55 yX6_switched, Cond.static yX6_switched, Cond.code yX6_switched cX6_switched 6 (some .int), Cond.methodLink RX6 160 yX6_orders, Cond.static yX6_orders, Cond.code yX6_orders cX6_orders 3 (some .int), Cond.methodLink RX6 163 yX6_layRank, Cond.instanceMethod yX6_layRank]
def wsX6_comesTo_r2 : List Cond := [Cond.selects RX6 yX6_layRank yX6_layRank, Cond.code yX6_layRank cX6_layRank 7 none, Cond.fieldLink RX6 23 "OddNetsModel" "row" "[I", Cond.fieldLink RX6 26 "OddNetsModel" "isUsed" "[Z", Cond.methodLink RX6 167 yX6_renumbered, Cond.instanceMethod yX6_renumbered, Cond.selects RX6 yX6_renumbered yX6_renumbered, Cond.code yX6_renumbered cX6_renumbered 6 (some .int)]
def wsX6_comesTo : List Cond := .code yX6_comesTo cX6_comesTo 9 (some .int) :: ((wsX6_comesTo_r1 ++ wsX6_comesTo_r2) ++ wsX60)
def wsX6_setBetween : List Cond := .code yX6_setBetween cX6_setBetween 4 (some .int) :: ([.methodLink RX6 68 yX6_many, .instanceMethod yX6_many, .selects RX6 yX6_many yX6_many, .initialized RX6, .code yX6_many cX6_many 1 (some .int), .fieldLink RX6 7 "OddNetsModel" "state" "[I", .methodLink RX6 49 yX6_neighbours, .static yX6_neighbours, .code yX6_neighbours cX6_neighbours 5 (some .int), .methodLink RX6 45 yX6_joined, .static yX6_joined, .code yX6_joined cX6_joined 4 (some .int), .methodLink RX6 41 yX6_valueOf, .static yX6_valueOf, .code yX6_valueOf cX6_valueOf 6 (some .int), .methodLink RX6 37 yX6_pairs, .static yX6_pairs, .code yX6_pairs cX6_pairs 1 (some .int), .methodLink RX6 55 yX6_switched, .static yX6_switched, .code yX6_switched cX6_switched 6 (some .int)] ++ wsX60)
def wsX6_compare_r1 : List Cond := [Cond.methodLink RX6 72 yX6_isSlot, Cond.static yX6_isSlot, Cond.initialized RX6, Cond.code yX6_isSlot cX6_isSlot 1 (some .boolean), Cond.methodLink RX6 33 yX6_in, Cond.static yX6_in, Cond.code yX6_in cX6_in 3 (some .boolean), Cond.methodLink RX6 79 yX6_netOf, Cond.instanceMethod yX6_netOf, Cond.selects RX6 yX6_netOf yX6_netOf, Cond.code yX6_netOf cX6_netOf 2 (some .int), Cond.fieldLink RX6 7 "OddNetsModel" "state" "[I", Cond.methodLink RX6 170 yX6_setBetween, Cond.instanceMethod yX6_setBetween, Cond.selects RX6 yX6_setBetween yX6_setBetween, Cond.code yX6_setBetween cX6_setBetween 4 (some .int), Cond.methodLink RX6 68 yX6_many, Cond.instanceMethod yX6_many, Cond.selects RX6 yX6_many yX6_many, Cond.code yX6_many cX6_many 1 (some .int), Cond.methodLink RX6 49 yX6_neighbours, Cond.static yX6_neighbours, Cond.code yX6_neighbours cX6_neighbours 5 (some .int), Cond.methodLink RX6 45 yX6_joined]
def wsX6_compare_r2 : List Cond := [Cond.static yX6_joined, Cond.code yX6_joined cX6_joined 4 (some .int), Cond.methodLink RX6 41 yX6_valueOf, Cond.static yX6_valueOf, Cond.code yX6_valueOf cX6_valueOf 6 (some .int), Cond.methodLink RX6 37 yX6_pairs, Cond.static yX6_pairs, Cond.code yX6_pairs cX6_pairs 1 (some .int), Cond.methodLink RX6 55 yX6_switched, Cond.static yX6_switched, Cond.code yX6_switched cX6_switched 6 (some .int), Cond.methodLink RX6 173 yX6_comesTo, Cond.instanceMethod yX6_comesTo, Cond.selects RX6 yX6_comesTo yX6_comesTo, Cond.code yX6_comesTo cX6_comesTo 9 (some .int), Cond.methodLink RX6 128 yX6_alone, Cond.static yX6_alone, Cond.code yX6_alone cX6_alone 3 (some .int), Cond.methodLink RX6 160 yX6_orders, Cond.static yX6_orders, Cond.code yX6_orders cX6_orders 3 (some .int), Cond.methodLink RX6 163 yX6_layRank, Cond.instanceMethod yX6_layRank, Cond.selects RX6 yX6_layRank yX6_layRank]
def wsX6_compare_r3 : List Cond := [Cond.code yX6_layRank cX6_layRank 7 none, Cond.fieldLink RX6 23 "OddNetsModel" "row" "[I", Cond.fieldLink RX6 26 "OddNetsModel" "isUsed" "[Z", Cond.methodLink RX6 167 yX6_renumbered, Cond.instanceMethod yX6_renumbered, Cond.selects RX6 yX6_renumbered yX6_renumbered, Cond.code yX6_renumbered cX6_renumbered 6 (some .int)]
def wsX6_compare : List Cond := .code yX6_compare cX6_compare 6 (some .int) :: ((wsX6_compare_r1 ++ (wsX6_compare_r2 ++ wsX6_compare_r3)) ++ wsX60)
def wsX6_kind_r1 : List Cond := [Cond.methodLink RX6 72 yX6_isSlot, Cond.static yX6_isSlot, Cond.initialized RX6, Cond.code yX6_isSlot cX6_isSlot 1 (some .boolean), Cond.methodLink RX6 33 yX6_in, Cond.static yX6_in, Cond.code yX6_in cX6_in 3 (some .boolean), Cond.methodLink RX6 79 yX6_netOf, Cond.instanceMethod yX6_netOf, Cond.selects RX6 yX6_netOf yX6_netOf, Cond.code yX6_netOf cX6_netOf 2 (some .int), Cond.fieldLink RX6 7 "OddNetsModel" "state" "[I", Cond.methodLink RX6 68 yX6_many, Cond.instanceMethod yX6_many, Cond.selects RX6 yX6_many yX6_many, Cond.code yX6_many cX6_many 1 (some .int), Cond.methodLink RX6 177 yX6_kindOf, Cond.instanceMethod yX6_kindOf, Cond.selects RX6 yX6_kindOf yX6_kindOf, Cond.code yX6_kindOf cX6_kindOf 8 (some .int), Cond.fieldLink RX6 23 "OddNetsModel" "row" "[I", Cond.methodLink RX6 128 yX6_alone, Cond.static yX6_alone, Cond.code yX6_alone cX6_alone 3 (some .int)]
def wsX6_kind_r2 : List Cond := [Cond.methodLink RX6 49 yX6_neighbours, Cond.static yX6_neighbours, Cond.code yX6_neighbours cX6_neighbours 5 (some .int), Cond.methodLink RX6 45 yX6_joined, Cond.static yX6_joined, Cond.code yX6_joined cX6_joined 4 (some .int), Cond.methodLink RX6 41 yX6_valueOf, Cond.static yX6_valueOf, Cond.code yX6_valueOf cX6_valueOf 6 (some .int), Cond.methodLink RX6 37 yX6_pairs, Cond.static yX6_pairs, Cond.code yX6_pairs cX6_pairs 1 (some .int), Cond.methodLink RX6 55 yX6_switched, Cond.static yX6_switched, Cond.code yX6_switched cX6_switched 6 (some .int), Cond.methodLink RX6 160 yX6_orders, Cond.static yX6_orders, Cond.code yX6_orders cX6_orders 3 (some .int), Cond.methodLink RX6 163 yX6_layRank, Cond.instanceMethod yX6_layRank, Cond.selects RX6 yX6_layRank yX6_layRank, Cond.code yX6_layRank cX6_layRank 7 none, Cond.fieldLink RX6 26 "OddNetsModel" "isUsed" "[Z", Cond.methodLink RX6 167 yX6_renumbered]
def wsX6_kind_r3 : List Cond := [Cond.instanceMethod yX6_renumbered, Cond.selects RX6 yX6_renumbered yX6_renumbered, Cond.code yX6_renumbered cX6_renumbered 6 (some .int), Cond.methodLink RX6 173 yX6_comesTo, Cond.instanceMethod yX6_comesTo, Cond.selects RX6 yX6_comesTo yX6_comesTo, Cond.code yX6_comesTo cX6_comesTo 9 (some .int)]
def wsX6_kind : List Cond := .code yX6_kind cX6_kind 4 (some .int) :: ((wsX6_kind_r1 ++ (wsX6_kind_r2 ++ wsX6_kind_r3)) ++ wsX60)
def wsX6_card_r1 : List Cond := [Cond.methodLink RX6 72 yX6_isSlot, Cond.static yX6_isSlot, Cond.initialized RX6, Cond.code yX6_isSlot cX6_isSlot 1 (some .boolean), Cond.methodLink RX6 33 yX6_in, Cond.static yX6_in, Cond.code yX6_in cX6_in 3 (some .boolean), Cond.methodLink RX6 76 yX6_isNode, Cond.instanceMethod yX6_isNode, Cond.selects RX6 yX6_isNode yX6_isNode, Cond.code yX6_isNode cX6_isNode 2 (some .boolean), Cond.fieldLink RX6 7 "OddNetsModel" "state" "[I", Cond.methodLink RX6 68 yX6_many, Cond.instanceMethod yX6_many, Cond.selects RX6 yX6_many yX6_many, Cond.code yX6_many cX6_many 1 (some .int), Cond.methodLink RX6 79 yX6_netOf, Cond.instanceMethod yX6_netOf, Cond.selects RX6 yX6_netOf yX6_netOf, Cond.code yX6_netOf cX6_netOf 2 (some .int), Cond.methodLink RX6 131 yX6_without, Cond.static yX6_without, Cond.code yX6_without cX6_without 6 (some .int), Cond.methodLink RX6 45 yX6_joined]
def wsX6_card_r2 : List Cond := [Cond.static yX6_joined, Cond.code yX6_joined cX6_joined 4 (some .int), Cond.methodLink RX6 41 yX6_valueOf, Cond.static yX6_valueOf, Cond.code yX6_valueOf cX6_valueOf 6 (some .int), Cond.methodLink RX6 37 yX6_pairs, Cond.static yX6_pairs, Cond.code yX6_pairs cX6_pairs 1 (some .int), Cond.methodLink RX6 177 yX6_kindOf, Cond.instanceMethod yX6_kindOf, Cond.selects RX6 yX6_kindOf yX6_kindOf, Cond.code yX6_kindOf cX6_kindOf 8 (some .int), Cond.fieldLink RX6 23 "OddNetsModel" "row" "[I", Cond.methodLink RX6 128 yX6_alone, Cond.static yX6_alone, Cond.code yX6_alone cX6_alone 3 (some .int), Cond.methodLink RX6 49 yX6_neighbours, Cond.static yX6_neighbours, Cond.code yX6_neighbours cX6_neighbours 5 (some .int), Cond.methodLink RX6 55 yX6_switched, Cond.static yX6_switched, Cond.code yX6_switched cX6_switched 6 (some .int), Cond.methodLink RX6 160 yX6_orders, Cond.static yX6_orders]
def wsX6_card_r3 : List Cond := [Cond.code yX6_orders cX6_orders 3 (some .int), Cond.methodLink RX6 163 yX6_layRank, Cond.instanceMethod yX6_layRank, Cond.selects RX6 yX6_layRank yX6_layRank, Cond.code yX6_layRank cX6_layRank 7 none, Cond.fieldLink RX6 26 "OddNetsModel" "isUsed" "[Z", Cond.methodLink RX6 167 yX6_renumbered, Cond.instanceMethod yX6_renumbered, Cond.selects RX6 yX6_renumbered yX6_renumbered, Cond.code yX6_renumbered cX6_renumbered 6 (some .int)]
def wsX6_card : List Cond := .code yX6_card cX6_card 3 (some .int) :: ((wsX6_card_r1 ++ (wsX6_card_r2 ++ wsX6_card_r3)) ++ wsX60)
def wsX6_layTable : List Cond := .code yX6_layTable cX6_layTable 5 none :: ([.fieldLink RX6 29 "OddNetsModel" "table" "[J", .methodLink RX6 68 yX6_many, .instanceMethod yX6_many, .selects RX6 yX6_many yX6_many, .initialized RX6, .code yX6_many cX6_many 1 (some .int), .fieldLink RX6 7 "OddNetsModel" "state" "[I", .methodLink RX6 45 yX6_joined, .static yX6_joined, .code yX6_joined cX6_joined 4 (some .int), .methodLink RX6 41 yX6_valueOf, .static yX6_valueOf, .code yX6_valueOf cX6_valueOf 6 (some .int), .methodLink RX6 37 yX6_pairs, .static yX6_pairs, .code yX6_pairs cX6_pairs 1 (some .int)] ++ wsX60)
def wsX6_swapRows : List Cond := .code yX6_swapRows cX6_swapRows 6 none :: ([.fieldLink RX6 29 "OddNetsModel" "table" "[J", .methodLink RX6 68 yX6_many, .instanceMethod yX6_many, .selects RX6 yX6_many yX6_many, .initialized RX6, .code yX6_many cX6_many 1 (some .int), .fieldLink RX6 7 "OddNetsModel" "state" "[I"] ++ wsX60)
def wsX6_rowWith : List Cond := .code yX6_rowWith cX6_rowWith 4 (some .int) :: ([.fieldLink RX6 29 "OddNetsModel" "table" "[J", .methodLink RX6 68 yX6_many, .instanceMethod yX6_many, .selects RX6 yX6_many yX6_many, .initialized RX6, .code yX6_many cX6_many 1 (some .int), .fieldLink RX6 7 "OddNetsModel" "state" "[I"] ++ wsX60)
def wsX6_clearBelow : List Cond := .code yX6_clearBelow cX6_clearBelow 11 none :: ([.fieldLink RX6 29 "OddNetsModel" "table" "[J", .methodLink RX6 68 yX6_many, .instanceMethod yX6_many, .selects RX6 yX6_many yX6_many, .initialized RX6, .code yX6_many cX6_many 1 (some .int), .fieldLink RX6 7 "OddNetsModel" "state" "[I"] ++ wsX60)
def wsX6_workOut : List Cond := .code yX6_workOut cX6_workOut 6 none :: ([.fieldLink RX6 180 "OddNetsModel" "rank" "I", .fieldLink RX6 29 "OddNetsModel" "table" "[J", .fieldLink RX6 193 "OddNetsModel" "determinant" "J", .methodLink RX6 68 yX6_many, .instanceMethod yX6_many, .selects RX6 yX6_many yX6_many, .initialized RX6, .code yX6_many cX6_many 1 (some .int), .fieldLink RX6 7 "OddNetsModel" "state" "[I", .methodLink RX6 183 yX6_rowWith, .instanceMethod yX6_rowWith, .selects RX6 yX6_rowWith yX6_rowWith, .code yX6_rowWith cX6_rowWith 4 (some .int), .methodLink RX6 186 yX6_swapRows, .instanceMethod yX6_swapRows, .selects RX6 yX6_swapRows yX6_swapRows, .code yX6_swapRows cX6_swapRows 6 none, .methodLink RX6 189 yX6_clearBelow, .instanceMethod yX6_clearBelow, .selects RX6 yX6_clearBelow yX6_clearBelow, .code yX6_clearBelow cX6_clearBelow 11 none] ++ wsX60)
def wsX6_root_r1 : List Cond := [Cond.constantLong RX6 197 (-1000000000001), Cond.constantLong RX6 199 (-1000000000002), Cond.fieldLink RX6 193 "OddNetsModel" "determinant" "J", Cond.fieldLink RX6 180 "OddNetsModel" "rank" "I", Cond.methodLink RX6 72 yX6_isSlot, Cond.static yX6_isSlot, Cond.initialized RX6, Cond.code yX6_isSlot cX6_isSlot 1 (some .boolean), Cond.methodLink RX6 33 yX6_in, Cond.static yX6_in, Cond.code yX6_in cX6_in 3 (some .boolean), Cond.methodLink RX6 79 yX6_netOf, Cond.instanceMethod yX6_netOf, Cond.selects RX6 yX6_netOf yX6_netOf, Cond.code yX6_netOf cX6_netOf 2 (some .int), Cond.fieldLink RX6 7 "OddNetsModel" "state" "[I", Cond.methodLink RX6 201 yX6_layTable, Cond.instanceMethod yX6_layTable, Cond.selects RX6 yX6_layTable yX6_layTable, Cond.code yX6_layTable cX6_layTable 5 none, Cond.fieldLink RX6 29 "OddNetsModel" "table" "[J", Cond.methodLink RX6 68 yX6_many, Cond.instanceMethod yX6_many, Cond.selects RX6 yX6_many yX6_many]
def wsX6_root_r2 : List Cond := [Cond.code yX6_many cX6_many 1 (some .int), Cond.methodLink RX6 45 yX6_joined, Cond.static yX6_joined, Cond.code yX6_joined cX6_joined 4 (some .int), Cond.methodLink RX6 41 yX6_valueOf, Cond.static yX6_valueOf, Cond.code yX6_valueOf cX6_valueOf 6 (some .int), Cond.methodLink RX6 37 yX6_pairs, Cond.static yX6_pairs, Cond.code yX6_pairs cX6_pairs 1 (some .int), Cond.methodLink RX6 204 yX6_workOut, Cond.instanceMethod yX6_workOut, Cond.selects RX6 yX6_workOut yX6_workOut, Cond.code yX6_workOut cX6_workOut 6 none, Cond.methodLink RX6 183 yX6_rowWith, Cond.instanceMethod yX6_rowWith, Cond.selects RX6 yX6_rowWith yX6_rowWith, Cond.code yX6_rowWith cX6_rowWith 4 (some .int), Cond.methodLink RX6 186 yX6_swapRows, Cond.instanceMethod yX6_swapRows, Cond.selects RX6 yX6_swapRows yX6_swapRows, Cond.code yX6_swapRows cX6_swapRows 6 none, Cond.methodLink RX6 189 yX6_clearBelow, Cond.instanceMethod yX6_clearBelow]
def wsX6_root_r3 : List Cond := [Cond.selects RX6 yX6_clearBelow yX6_clearBelow, Cond.code yX6_clearBelow cX6_clearBelow 11 none]
def wsX6_root : List Cond := .code yX6_root cX6_root 4 (some .long) :: ((wsX6_root_r1 ++ (wsX6_root_r2 ++ wsX6_root_r3)) ++ wsX60)
def wsX6_image : List Cond := .code yX6_image cX6_image 3 (some .int) :: ([.fieldLink RX6 13 "OddNetsModel" "images" "[I", .fieldLink RX6 7 "OddNetsModel" "state" "[I", .fieldLink RX6 16 "OddNetsModel" "isKept" "[Z", .methodLink RX6 33 yX6_in, .static yX6_in, .initialized RX6, .code yX6_in cX6_in 3 (some .boolean)] ++ wsX60)
def wsX6_restore : List Cond := .code yX6_restore cX6_restore 3 (some .int) :: ([.fieldLink RX6 16 "OddNetsModel" "isKept" "[Z", .fieldLink RX6 7 "OddNetsModel" "state" "[I", .fieldLink RX6 13 "OddNetsModel" "images" "[I", .methodLink RX6 33 yX6_in, .static yX6_in, .initialized RX6, .code yX6_in cX6_in 3 (some .boolean)] ++ wsX60)
def wsX6_classes_r1 : List Cond := [Cond.methodLink RX6 68 yX6_many, Cond.instanceMethod yX6_many, Cond.selects RX6 yX6_many yX6_many, Cond.initialized RX6, Cond.code yX6_many cX6_many 1 (some .int), Cond.fieldLink RX6 7 "OddNetsModel" "state" "[I", Cond.methodLink RX6 79 yX6_netOf, Cond.instanceMethod yX6_netOf, Cond.selects RX6 yX6_netOf yX6_netOf, Cond.code yX6_netOf cX6_netOf 2 (some .int), Cond.methodLink RX6 173 yX6_comesTo, Cond.instanceMethod yX6_comesTo, Cond.selects RX6 yX6_comesTo yX6_comesTo, Cond.code yX6_comesTo cX6_comesTo 9 (some .int), Cond.methodLink RX6 128 yX6_alone, Cond.static yX6_alone, Cond.code yX6_alone cX6_alone 3 (some .int), Cond.methodLink RX6 49 yX6_neighbours, Cond.static yX6_neighbours, Cond.code yX6_neighbours cX6_neighbours 5 (some .int), Cond.methodLink RX6 45 yX6_joined, Cond.static yX6_joined, Cond.code yX6_joined cX6_joined 4 (some .int), Cond.methodLink RX6 41 yX6_valueOf]
def wsX6_classes_r2 : List Cond := [Cond.static yX6_valueOf, Cond.code yX6_valueOf cX6_valueOf 6 (some .int), Cond.methodLink RX6 37 yX6_pairs, Cond.static yX6_pairs, Cond.code yX6_pairs cX6_pairs 1 (some .int), Cond.methodLink RX6 55 yX6_switched, Cond.static yX6_switched, Cond.code yX6_switched cX6_switched 6 (some .int), Cond.methodLink RX6 160 yX6_orders, Cond.static yX6_orders, Cond.code yX6_orders cX6_orders 3 (some .int), Cond.methodLink RX6 163 yX6_layRank, Cond.instanceMethod yX6_layRank, Cond.selects RX6 yX6_layRank yX6_layRank, Cond.code yX6_layRank cX6_layRank 7 none, Cond.fieldLink RX6 23 "OddNetsModel" "row" "[I", Cond.fieldLink RX6 26 "OddNetsModel" "isUsed" "[Z", Cond.methodLink RX6 167 yX6_renumbered, Cond.instanceMethod yX6_renumbered, Cond.selects RX6 yX6_renumbered yX6_renumbered, Cond.code yX6_renumbered cX6_renumbered 6 (some .int), Cond.methodLink RX6 170 yX6_setBetween, Cond.instanceMethod yX6_setBetween, Cond.selects RX6 yX6_setBetween yX6_setBetween]
def wsX6_classes_r3 : List Cond := [Cond.code yX6_setBetween cX6_setBetween 4 (some .int)]
def wsX6_classes : List Cond := .code yX6_classes cX6_classes 6 (some .int) :: ((wsX6_classes_r1 ++ (wsX6_classes_r2 ++ wsX6_classes_r3)) ++ wsX60)
def wsX6_count_r1 : List Cond := [Cond.fieldLink RX6 82 "OddNetsModel" "said" "I", Cond.fieldLink RX6 16 "OddNetsModel" "isKept" "[Z", Cond.methodLink RX6 68 yX6_many, Cond.instanceMethod yX6_many, Cond.selects RX6 yX6_many yX6_many, Cond.initialized RX6, Cond.code yX6_many cX6_many 1 (some .int), Cond.fieldLink RX6 7 "OddNetsModel" "state" "[I", Cond.methodLink RX6 37 yX6_pairs, Cond.static yX6_pairs, Cond.code yX6_pairs cX6_pairs 1 (some .int), Cond.methodLink RX6 86 yX6_triples, Cond.static yX6_triples, Cond.code yX6_triples cX6_triples 1 (some .int), Cond.methodLink RX6 207 yX6_classes, Cond.instanceMethod yX6_classes, Cond.selects RX6 yX6_classes yX6_classes, Cond.code yX6_classes cX6_classes 6 (some .int), Cond.methodLink RX6 79 yX6_netOf, Cond.instanceMethod yX6_netOf, Cond.selects RX6 yX6_netOf yX6_netOf, Cond.code yX6_netOf cX6_netOf 2 (some .int), Cond.methodLink RX6 173 yX6_comesTo, Cond.instanceMethod yX6_comesTo]
def wsX6_count_r2 : List Cond := [Cond.selects RX6 yX6_comesTo yX6_comesTo, Cond.code yX6_comesTo cX6_comesTo 9 (some .int), Cond.methodLink RX6 128 yX6_alone, Cond.static yX6_alone, Cond.code yX6_alone cX6_alone 3 (some .int), Cond.methodLink RX6 49 yX6_neighbours, Cond.static yX6_neighbours, Cond.code yX6_neighbours cX6_neighbours 5 (some .int), Cond.methodLink RX6 45 yX6_joined, Cond.static yX6_joined, Cond.code yX6_joined cX6_joined 4 (some .int), Cond.methodLink RX6 41 yX6_valueOf, Cond.static yX6_valueOf, Cond.code yX6_valueOf cX6_valueOf 6 (some .int), Cond.methodLink RX6 55 yX6_switched, Cond.static yX6_switched, Cond.code yX6_switched cX6_switched 6 (some .int), Cond.methodLink RX6 160 yX6_orders, Cond.static yX6_orders, Cond.code yX6_orders cX6_orders 3 (some .int), Cond.methodLink RX6 163 yX6_layRank, Cond.instanceMethod yX6_layRank, Cond.selects RX6 yX6_layRank yX6_layRank, Cond.code yX6_layRank cX6_layRank 7 none]
def wsX6_count_r3 : List Cond := [Cond.fieldLink RX6 23 "OddNetsModel" "row" "[I", Cond.fieldLink RX6 26 "OddNetsModel" "isUsed" "[Z", Cond.methodLink RX6 167 yX6_renumbered, Cond.instanceMethod yX6_renumbered, Cond.selects RX6 yX6_renumbered yX6_renumbered, Cond.code yX6_renumbered cX6_renumbered 6 (some .int), Cond.methodLink RX6 170 yX6_setBetween, Cond.instanceMethod yX6_setBetween, Cond.selects RX6 yX6_setBetween yX6_setBetween, Cond.code yX6_setBetween cX6_setBetween 4 (some .int)]
def wsX6_count : List Cond := .code yX6_count cX6_count 2 (some .int) :: ((wsX6_count_r1 ++ (wsX6_count_r2 ++ wsX6_count_r3)) ++ wsX60)
def wsJ9_min_7cf53 : List Cond := .code yJ9_min_7cf53 cJ9_min_7cf53 2 (some .int) :: ([])
def wsL_law_r1 : List Cond := [Cond.classLink RL 7 RX5, Cond.instantiable RX5 8, Cond.initialized RX5, Cond.classLink RL 10 RX6, Cond.instantiable RX6 13, Cond.initialized RX6, Cond.methodLink RL 9 yX5_init, Cond.instanceMethod yX5_init, Cond.code yX5_init cX5_init 2 none, Cond.methodLink RX5 1 objectInit, Cond.instanceMethod objectInit, Cond.code objectInit ⟨#[0xb1]⟩ 1 none, Cond.classLink RX5 7 RX3, Cond.instantiable RX3 2, Cond.initialized RX3, Cond.fieldLink RX5 10 "OddNets" "now" "LOddNets$Shelf;", Cond.fieldLink RX5 16 "OddNets" "images" "[LOddNets$Shelf;", Cond.classLink RX5 20 RX1, Cond.instantiable RX1 2, Cond.initialized RX1, Cond.fieldLink RX5 23 "OddNets" "pad" "LOddNets$Pad;", Cond.classLink RX5 27 RX0, Cond.instantiable RX0 2, Cond.initialized RX0]
def wsL_law_r2 : List Cond := [Cond.fieldLink RX5 30 "OddNets" "net" "LOddNets$Net;", Cond.fieldLink RX5 34 "OddNets" "second" "LOddNets$Net;", Cond.classLink RX5 37 RX2, Cond.instantiable RX2 1, Cond.initialized RX2, Cond.fieldLink RX5 40 "OddNets" "renumbering" "LOddNets$Renumbering;", Cond.classLink RX5 44 RX4, Cond.instantiable RX4 5, Cond.initialized RX4, Cond.fieldLink RX5 47 "OddNets" "table" "LOddNets$Table;", Cond.arrayClass .int, Cond.fieldLink RX5 51 "OddNets" "marks" "[I", Cond.instanceMethod yX3_init, Cond.code yX3_init cX3_init 1 none, Cond.methodLink RX3 3 objectInit, Cond.fieldLink RX3 9 "OddNets$Shelf" "many" "I", Cond.fieldLink RX3 15 "OddNets$Shelf" "numbers" "[I", Cond.instanceMethod yX1_init, Cond.code yX1_init cX1_init 1 none, Cond.methodLink RX1 3 objectInit, Cond.fieldLink RX1 9 "OddNets$Pad" "size" "I", Cond.fieldLink RX1 15 "OddNets$Pad" "signs" "[I", Cond.instanceMethod yX0_init, Cond.code yX0_init cX0_init 1 none]
def wsL_law_r3 : List Cond := [Cond.methodLink RX0 3 objectInit, Cond.fieldLink RX0 9 "OddNets$Net" "many" "I", Cond.fieldLink RX0 15 "OddNets$Net" "rows" "[I", Cond.instanceMethod yX2_init, Cond.code yX2_init cX2_init 1 none, Cond.methodLink RX2 3 objectInit, Cond.fieldLink RX2 9 "OddNets$Renumbering" "at" "[I", Cond.instanceMethod yX4_init, Cond.code yX4_init cX4_init 1 none, Cond.methodLink RX4 3 objectInit, Cond.fieldLink RX4 9 "OddNets$Table" "many" "I", Cond.fieldLink RX4 15 "OddNets$Table" "rank" "I", Cond.fieldLink RX4 18 "OddNets$Table" "sign" "I", Cond.fieldLink RX4 21 "OddNets$Table" "lastPivot" "J", Cond.classLink RX4 25 "[[J", Cond.arrayClass .long, Cond.fieldLink RX4 27 "OddNets$Table" "cells" "[[J", Cond.instanceMethod yX3_clear, Cond.selects RX3 yX3_clear yX3_clear, Cond.code yX3_clear cX3_clear 2 none, Cond.methodLink RX3 19 yJ7_fill_53178, Cond.static yJ7_fill_53178, Cond.initialized RJ7, Cond.code yJ7_fill_53178 cJ7_fill_53178 4 none]
def wsL_law_r4 : List Cond := [Cond.methodLink RL 12 yX6_init, Cond.instanceMethod yX6_init, Cond.code yX6_init cX6_init 1 none, Cond.methodLink RX6 1 objectInit, Cond.fieldLink RX6 7 "OddNetsModel" "state" "[I", Cond.fieldLink RX6 13 "OddNetsModel" "images" "[I", Cond.arrayClass .boolean, Cond.fieldLink RX6 16 "OddNetsModel" "isKept" "[Z", Cond.fieldLink RX6 20 "OddNetsModel" "pad" "[I", Cond.fieldLink RX6 23 "OddNetsModel" "row" "[I", Cond.fieldLink RX6 26 "OddNetsModel" "isUsed" "[Z", Cond.fieldLink RX6 29 "OddNetsModel" "table" "[J", Cond.methodLink RL 13 yX5_nodes, Cond.instanceMethod yX5_nodes, Cond.selects RX5 yX5_nodes yX5_nodes, Cond.code yX5_nodes cX5_nodes 3 (some .int), Cond.methodLink RX5 59 yX5_within, Cond.static yX5_within, Cond.code yX5_within cX5_within 3 (some .boolean), Cond.methodLink RL 17 yX6_nodes, Cond.instanceMethod yX6_nodes, Cond.selects RX6 yX6_nodes yX6_nodes, Cond.code yX6_nodes cX6_nodes 4 (some .int), Cond.methodLink RX6 33 yX6_in]
def wsL_law_r5 : List Cond := [Cond.static yX6_in, Cond.code yX6_in cX6_in 3 (some .boolean), Cond.methodLink RX6 68 yX6_many, Cond.instanceMethod yX6_many, Cond.selects RX6 yX6_many yX6_many, Cond.code yX6_many cX6_many 1 (some .int), Cond.methodLink RL 18 yX5_join, Cond.instanceMethod yX5_join, Cond.selects RX5 yX5_join yX5_join, Cond.code yX5_join cX5_join 5 (some .int), Cond.methodLink RX5 67 yX5_isSlot, Cond.static yX5_isSlot, Cond.code yX5_isSlot cX5_isSlot 1 (some .boolean), Cond.methodLink RX5 71 yX5_isNode, Cond.instanceMethod yX5_isNode, Cond.selects RX5 yX5_isNode yX5_isNode, Cond.code yX5_isNode cX5_isNode 2 (some .boolean), Cond.methodLink RX5 74 yX5_load, Cond.instanceMethod yX5_load, Cond.selects RX5 yX5_load yX5_load, Cond.code yX5_load cX5_load 3 none, Cond.instanceMethod yX0_clear, Cond.selects RX0 yX0_clear yX0_clear, Cond.code yX0_clear cX0_clear 2 none]
def wsL_law_r6 : List Cond := [Cond.methodLink RX0 19 yJ7_fill_53178, Cond.instanceMethod yX0_takeNumber, Cond.selects RX0 yX0_takeNumber yX0_takeNumber, Cond.code yX0_takeNumber cX0_takeNumber 5 none, Cond.static yX5_pairsOf, Cond.code yX5_pairsOf cX5_pairsOf 1 (some .int), Cond.methodLink RX0 29 yX0_connect, Cond.instanceMethod yX0_connect, Cond.selects RX0 yX0_connect yX0_connect, Cond.code yX0_connect cX0_connect 4 none, Cond.instanceMethod yX0_number, Cond.selects RX0 yX0_number yX0_number, Cond.code yX0_number cX0_number 4 (some .int), Cond.methodLink RX0 57 yX0_joined, Cond.instanceMethod yX0_joined, Cond.selects RX0 yX0_joined yX0_joined, Cond.code yX0_joined cX0_joined 3 (some .int), Cond.instanceMethod yX0_joinedPairs, Cond.selects RX0 yX0_joinedPairs yX0_joinedPairs, Cond.code yX0_joinedPairs cX0_joinedPairs 3 (some .int), Cond.methodLink RX0 66 yX0_degree, Cond.instanceMethod yX0_degree, Cond.selects RX0 yX0_degree yX0_degree, Cond.code yX0_degree cX0_degree 2 (some .int)]
def wsL_law_r7 : List Cond := [Cond.methodLink RX0 61 yJ6_bitCount_0f7a4, Cond.static yJ6_bitCount_0f7a4, Cond.initialized RJ6, Cond.code yJ6_bitCount_0f7a4 cJ6_bitCount_0f7a4 1 (some .int), Cond.constant RJ6 265 (1431655765), Cond.constant RJ6 266 (858993459), Cond.constant RJ6 267 (252645135), Cond.methodLink RL 22 yX6_join, Cond.instanceMethod yX6_join, Cond.selects RX6 yX6_join yX6_join, Cond.code yX6_join cX6_join 6 (some .int), Cond.methodLink RX6 72 yX6_isSlot, Cond.static yX6_isSlot, Cond.code yX6_isSlot cX6_isSlot 1 (some .boolean), Cond.methodLink RX6 76 yX6_isNode, Cond.instanceMethod yX6_isNode, Cond.selects RX6 yX6_isNode yX6_isNode, Cond.code yX6_isNode cX6_isNode 2 (some .boolean), Cond.methodLink RX6 41 yX6_valueOf, Cond.static yX6_valueOf, Cond.code yX6_valueOf cX6_valueOf 6 (some .int), Cond.methodLink RX6 37 yX6_pairs, Cond.static yX6_pairs, Cond.code yX6_pairs cX6_pairs 1 (some .int)]
def wsL_law_r8 : List Cond := [Cond.methodLink RX6 79 yX6_netOf, Cond.instanceMethod yX6_netOf, Cond.selects RX6 yX6_netOf yX6_netOf, Cond.code yX6_netOf cX6_netOf 2 (some .int), Cond.methodLink RX6 52 yX6_size, Cond.static yX6_size, Cond.code yX6_size cX6_size 3 (some .int), Cond.methodLink RL 23 yX5_set, Cond.instanceMethod yX5_set, Cond.selects RX5 yX5_set yX5_set, Cond.code yX5_set cX5_set 4 (some .int), Cond.methodLink RX5 92 yX5_pairsOf, Cond.methodLink RL 27 yX6_set, Cond.instanceMethod yX6_set, Cond.selects RX6 yX6_set yX6_set, Cond.code yX6_set cX6_set 4 (some .int), Cond.methodLink RL 28 yX5_say, Cond.instanceMethod yX5_say, Cond.selects RX5 yX5_say yX5_say, Cond.code yX5_say cX5_say 2 (some .int), Cond.instanceMethod yX1_put, Cond.selects RX1 yX1_put yX1_put, Cond.code yX1_put cX1_put 2 none, Cond.methodLink RL 31 yX6_say]
def wsL_law_r9 : List Cond := [Cond.instanceMethod yX6_say, Cond.selects RX6 yX6_say yX6_say, Cond.code yX6_say cX6_say 2 (some .int), Cond.fieldLink RX6 82 "OddNetsModel" "said" "I", Cond.methodLink RL 32 yX5_wipe, Cond.instanceMethod yX5_wipe, Cond.selects RX5 yX5_wipe yX5_wipe, Cond.code yX5_wipe cX5_wipe 2 (some .int), Cond.methodLink RL 36 yX6_wipe, Cond.instanceMethod yX6_wipe, Cond.selects RX6 yX6_wipe yX6_wipe, Cond.code yX6_wipe cX6_wipe 2 (some .int), Cond.methodLink RL 37 yX5_fault, Cond.instanceMethod yX5_fault, Cond.selects RX5 yX5_fault yX5_fault, Cond.code yX5_fault cX5_fault 2 (some .int), Cond.methodLink RX5 102 yX5_signsFor, Cond.instanceMethod yX5_signsFor, Cond.selects RX5 yX5_signsFor yX5_signsFor, Cond.code yX5_signsFor cX5_signsFor 2 (some .int), Cond.methodLink RX5 208 yX5_triplesOf, Cond.static yX5_triplesOf, Cond.code yX5_triplesOf cX5_triplesOf 1 (some .int), Cond.instanceMethod yX1_faultFor]
def wsL_law_r10 : List Cond := [Cond.selects RX1 yX1_faultFor yX1_faultFor, Cond.code yX1_faultFor cX1_faultFor 3 (some .int), Cond.methodLink RL 40 yX6_fault, Cond.instanceMethod yX6_fault, Cond.selects RX6 yX6_fault yX6_fault, Cond.code yX6_fault cX6_fault 2 (some .int), Cond.methodLink RX6 89 yX6_faultAs, Cond.instanceMethod yX6_faultAs, Cond.selects RX6 yX6_faultAs yX6_faultAs, Cond.code yX6_faultAs cX6_faultAs 4 (some .int), Cond.methodLink RX6 86 yX6_triples, Cond.static yX6_triples, Cond.code yX6_triples cX6_triples 1 (some .int), Cond.methodLink RL 41 yX5_read, Cond.instanceMethod yX5_read, Cond.selects RX5 yX5_read yX5_read, Cond.code yX5_read cX5_read 3 (some .int), Cond.instanceMethod yX0_takePairs, Cond.selects RX0 yX0_takePairs yX0_takePairs, Cond.code yX0_takePairs cX0_takePairs 5 none, Cond.instanceMethod yX1_tells, Cond.selects RX1 yX1_tells yX1_tells, Cond.code yX1_tells cX1_tells 2 (some .boolean), Cond.instanceMethod yX0_takeTriples]
def wsL_law_r11 : List Cond := [Cond.selects RX0 yX0_takeTriples yX0_takeTriples, Cond.code yX0_takeTriples cX0_takeTriples 7 (some .boolean), Cond.methodLink RX0 39 yX0_isOdd, Cond.instanceMethod yX0_isOdd, Cond.selects RX0 yX0_isOdd yX0_isOdd, Cond.code yX0_isOdd cX0_isOdd 4 (some .boolean), Cond.methodLink RL 44 yX6_read, Cond.instanceMethod yX6_read, Cond.selects RX6 yX6_read yX6_read, Cond.code yX6_read cX6_read 4 (some .int), Cond.methodLink RX6 102 yX6_areFit, Cond.instanceMethod yX6_areFit, Cond.selects RX6 yX6_areFit yX6_areFit, Cond.code yX6_areFit cX6_areFit 6 (some .boolean), Cond.methodLink RX6 98 yX6_fitFour, Cond.instanceMethod yX6_fitFour, Cond.selects RX6 yX6_fitFour yX6_fitFour, Cond.code yX6_fitFour cX6_fitFour 5 (some .boolean), Cond.methodLink RX6 95 yX6_told, Cond.instanceMethod yX6_told, Cond.selects RX6 yX6_told yX6_told, Cond.code yX6_told cX6_told 4 (some .int), Cond.methodLink RX6 92 yX6_placeOf, Cond.instanceMethod yX6_placeOf]
def wsL_law_r12 : List Cond := [Cond.selects RX6 yX6_placeOf yX6_placeOf, Cond.code yX6_placeOf cX6_placeOf 8 (some .int), Cond.methodLink RX6 106 yX6_netOfPad, Cond.instanceMethod yX6_netOfPad, Cond.selects RX6 yX6_netOfPad yX6_netOfPad, Cond.code yX6_netOfPad cX6_netOfPad 3 (some .int), Cond.methodLink RX6 109 yX6_netOfTriples, Cond.instanceMethod yX6_netOfTriples, Cond.selects RX6 yX6_netOfTriples yX6_netOfTriples, Cond.code yX6_netOfTriples cX6_netOfTriples 4 (some .int), Cond.methodLink RX6 112 yX6_hold, Cond.instanceMethod yX6_hold, Cond.selects RX6 yX6_hold yX6_hold, Cond.code yX6_hold cX6_hold 3 (some .int), Cond.methodLink RL 45 yX5_turn, Cond.instanceMethod yX5_turn, Cond.selects RX5 yX5_turn yX5_turn, Cond.code yX5_turn cX5_turn 4 (some .int), Cond.instanceMethod yX0_switchBy, Cond.selects RX0 yX0_switchBy yX0_switchBy, Cond.code yX0_switchBy cX0_switchBy 4 none, Cond.methodLink RX0 53 yX0_allNodes, Cond.instanceMethod yX0_allNodes, Cond.selects RX0 yX0_allNodes yX0_allNodes]
def wsL_law_r13 : List Cond := [Cond.code yX0_allNodes cX0_allNodes 1 (some .int), Cond.methodLink RL 49 yX6_turn, Cond.instanceMethod yX6_turn, Cond.selects RX6 yX6_turn yX6_turn, Cond.code yX6_turn cX6_turn 4 (some .int), Cond.methodLink RX6 55 yX6_switched, Cond.static yX6_switched, Cond.code yX6_switched cX6_switched 6 (some .int), Cond.methodLink RL 50 yX5_of, Cond.instanceMethod yX5_of, Cond.selects RX5 yX5_of yX5_of, Cond.code yX5_of cX5_of 3 (some .int), Cond.instanceMethod yX0_oddTriples, Cond.selects RX0 yX0_oddTriples yX0_oddTriples, Cond.code yX0_oddTriples cX0_oddTriples 3 (some .int), Cond.methodLink RX0 72 yX0_oddTriplesAtNode, Cond.instanceMethod yX0_oddTriplesAtNode, Cond.selects RX0 yX0_oddTriplesAtNode yX0_oddTriplesAtNode, Cond.code yX0_oddTriplesAtNode cX0_oddTriplesAtNode 4 (some .int), Cond.methodLink RX0 69 yX0_oddTriplesAtPair, Cond.instanceMethod yX0_oddTriplesAtPair, Cond.selects RX0 yX0_oddTriplesAtPair yX0_oddTriplesAtPair, Cond.code yX0_oddTriplesAtPair cX0_oddTriplesAtPair 4 (some .int), Cond.instanceMethod yX0_oddTriplesOfEachPair]
def wsL_law_r14 : List Cond := [Cond.selects RX0 yX0_oddTriplesOfEachPair yX0_oddTriplesOfEachPair, Cond.code yX0_oddTriplesOfEachPair cX0_oddTriplesOfEachPair 4 (some .int), Cond.instanceMethod yX0_oddDegrees, Cond.selects RX0 yX0_oddDegrees yX0_oddDegrees, Cond.code yX0_oddDegrees cX0_oddDegrees 3 (some .int), Cond.methodLink RL 53 yX6_of, Cond.instanceMethod yX6_of, Cond.selects RX6 yX6_of yX6_of, Cond.code yX6_of cX6_of 4 (some .int), Cond.methodLink RX6 119 yX6_oddOfNet, Cond.static yX6_oddOfNet, Cond.code yX6_oddOfNet cX6_oddOfNet 4 (some .int), Cond.methodLink RX6 65 yX6_oddOfNode, Cond.static yX6_oddOfNode, Cond.code yX6_oddOfNode cX6_oddOfNode 5 (some .int), Cond.methodLink RX6 62 yX6_oddOfPair, Cond.static yX6_oddOfPair, Cond.code yX6_oddOfPair cX6_oddOfPair 6 (some .int), Cond.methodLink RX6 58 yX6_isOdd, Cond.static yX6_isOdd, Cond.code yX6_isOdd cX6_isOdd 5 (some .boolean), Cond.methodLink RX6 45 yX6_joined, Cond.static yX6_joined, Cond.code yX6_joined cX6_joined 4 (some .int)]
def wsL_law_r15 : List Cond := [Cond.methodLink RX6 122 yX6_regular, Cond.instanceMethod yX6_regular, Cond.selects RX6 yX6_regular yX6_regular, Cond.code yX6_regular cX6_regular 6 (some .int), Cond.methodLink RX6 125 yX6_oddNodes, Cond.instanceMethod yX6_oddNodes, Cond.selects RX6 yX6_oddNodes yX6_oddNodes, Cond.code yX6_oddNodes cX6_oddNodes 4 (some .int), Cond.methodLink RX6 116 yX6_degree, Cond.static yX6_degree, Cond.code yX6_degree cX6_degree 3 (some .int), Cond.methodLink RX6 49 yX6_neighbours, Cond.static yX6_neighbours, Cond.code yX6_neighbours cX6_neighbours 5 (some .int), Cond.methodLink RL 54 yX5_node, Cond.instanceMethod yX5_node, Cond.selects RX5 yX5_node yX5_node, Cond.code yX5_node cX5_node 4 (some .int), Cond.instanceMethod yX0_leaveAlone, Cond.selects RX0 yX0_leaveAlone yX0_leaveAlone, Cond.code yX0_leaveAlone cX0_leaveAlone 2 none, Cond.methodLink RX0 49 yX0_switchBy, Cond.instanceMethod yX0_drop, Cond.selects RX0 yX0_drop yX0_drop]
def wsL_law_r16 : List Cond := [Cond.code yX0_drop cX0_drop 4 none, Cond.methodLink RL 57 yX6_node, Cond.instanceMethod yX6_node, Cond.selects RX6 yX6_node yX6_node, Cond.code yX6_node cX6_node 5 (some .int), Cond.methodLink RX6 128 yX6_alone, Cond.static yX6_alone, Cond.code yX6_alone cX6_alone 3 (some .int), Cond.methodLink RX6 131 yX6_without, Cond.static yX6_without, Cond.code yX6_without cX6_without 6 (some .int), Cond.methodLink RL 58 yX5_pair, Cond.instanceMethod yX5_pair, Cond.selects RX5 yX5_pair yX5_pair, Cond.code yX5_pair cX5_pair 5 (some .int), Cond.instanceMethod yX0_shared, Cond.selects RX0 yX0_shared yX0_shared, Cond.code yX0_shared cX0_shared 3 (some .int), Cond.methodLink RL 61 yX6_pair, Cond.instanceMethod yX6_pair, Cond.selects RX6 yX6_pair yX6_pair, Cond.code yX6_pair cX6_pair 6 (some .int), Cond.methodLink RX6 134 yX6_common, Cond.static yX6_common]
def wsL_law_r17 : List Cond := [Cond.code yX6_common cX6_common 4 (some .int), Cond.methodLink RL 62 yX5_fewest, Cond.instanceMethod yX5_fewest, Cond.selects RX5 yX5_fewest yX5_fewest, Cond.code yX5_fewest cX5_fewest 8 (some .int), Cond.instanceMethod yX0_copySwitched, Cond.selects RX0 yX0_copySwitched yX0_copySwitched, Cond.code yX0_copySwitched cX0_copySwitched 3 none, Cond.methodLink RX0 43 arraycopyName, Cond.native arraycopyName, Cond.static arraycopyName, Cond.initialized "java/lang/System", Cond.methodLink RL 65 yX6_fewest, Cond.instanceMethod yX6_fewest, Cond.selects RX6 yX6_fewest yX6_fewest, Cond.code yX6_fewest cX6_fewest 5 (some .int), Cond.fieldLink RX6 137 "OddNetsModel" "leastSize" "I", Cond.fieldLink RX6 140 "OddNetsModel" "leastSet" "I", Cond.fieldLink RX6 143 "OddNetsModel" "found" "I", Cond.methodLink RL 66 yX5_even, Cond.instanceMethod yX5_even, Cond.selects RX5 yX5_even yX5_even, Cond.code yX5_even cX5_even 3 (some .int), Cond.methodLink RX5 154 yX5_howManyBy]
def wsL_law_r18 : List Cond := [Cond.instanceMethod yX5_howManyBy, Cond.selects RX5 yX5_howManyBy yX5_howManyBy, Cond.code yX5_howManyBy cX5_howManyBy 5 (some .int), Cond.instanceMethod yX0_eachDegreeIs, Cond.selects RX0 yX0_eachDegreeIs yX0_eachDegreeIs, Cond.code yX0_eachDegreeIs cX0_eachDegreeIs 3 (some .boolean), Cond.methodLink RX0 75 yX0_oddDegrees, Cond.instanceMethod yX0_isStrong, Cond.selects RX0 yX0_isStrong yX0_isStrong, Cond.code yX0_isStrong cX0_isStrong 1 (some .boolean), Cond.methodLink RX0 78 yX0_eachPairSharesAlike, Cond.instanceMethod yX0_eachPairSharesAlike, Cond.selects RX0 yX0_eachPairSharesAlike yX0_eachPairSharesAlike, Cond.code yX0_eachPairSharesAlike cX0_eachPairSharesAlike 6 (some .boolean), Cond.methodLink RX0 81 yX0_shared, Cond.methodLink RX5 158 yX5_leastSetBy, Cond.instanceMethod yX5_leastSetBy, Cond.selects RX5 yX5_leastSetBy yX5_leastSetBy, Cond.code yX5_leastSetBy cX5_leastSetBy 3 (some .int), Cond.methodLink RL 69 yX6_even, Cond.instanceMethod yX6_even, Cond.selects RX6 yX6_even yX6_even, Cond.code yX6_even cX6_even 4 (some .int), Cond.methodLink RX6 146 yX6_beginFound]
def wsL_law_r19 : List Cond := [Cond.instanceMethod yX6_beginFound, Cond.selects RX6 yX6_beginFound yX6_beginFound, Cond.code yX6_beginFound cX6_beginFound 1 none, Cond.methodLink RX6 149 yX6_find, Cond.instanceMethod yX6_find, Cond.selects RX6 yX6_find yX6_find, Cond.code yX6_find cX6_find 2 none, Cond.methodLink RL 70 yX5_by, Cond.instanceMethod yX5_by, Cond.selects RX5 yX5_by yX5_by, Cond.code yX5_by cX5_by 4 (some .int), Cond.methodLink RL 73 yX6_by, Cond.instanceMethod yX6_by, Cond.selects RX6 yX6_by yX6_by, Cond.code yX6_by cX6_by 7 (some .int), Cond.methodLink RX6 153 yX6_isBy, Cond.instanceMethod yX6_isBy, Cond.selects RX6 yX6_isBy yX6_isBy, Cond.code yX6_isBy cX6_isBy 5 (some .boolean), Cond.methodLink RX6 157 yX6_isEvenly, Cond.instanceMethod yX6_isEvenly, Cond.selects RX6 yX6_isEvenly yX6_isEvenly, Cond.code yX6_isEvenly cX6_isEvenly 8 (some .boolean), Cond.methodLink RL 74 yX5_compare]
def wsL_law_r20 : List Cond := [Cond.instanceMethod yX5_compare, Cond.selects RX5 yX5_compare yX5_compare, Cond.code yX5_compare cX5_compare 4 (some .int), Cond.methodLink RX5 161 yX5_bringingSet, Cond.instanceMethod yX5_bringingSet, Cond.selects RX5 yX5_bringingSet yX5_bringingSet, Cond.code yX5_bringingSet cX5_bringingSet 4 (some .int), Cond.instanceMethod yX2_brings, Cond.selects RX2 yX2_brings yX2_brings, Cond.code yX2_brings cX2_brings 3 (some .boolean), Cond.methodLink RX2 63 yX2_canGoOn, Cond.static yX2_canGoOn, Cond.code yX2_canGoOn cX2_canGoOn 6 (some .boolean), Cond.methodLink RX2 78 yX2_goesTo, Cond.static yX2_goesTo, Cond.code yX2_goesTo cX2_goesTo 6 (some .boolean), Cond.methodLink RX5 168 yX5_kindOfSlot, Cond.instanceMethod yX5_kindOfSlot, Cond.selects RX5 yX5_kindOfSlot yX5_kindOfSlot, Cond.code yX5_kindOfSlot cX5_kindOfSlot 2 (some .int), Cond.instanceMethod yX2_kindOfClass, Cond.selects RX2 yX2_kindOfClass yX2_kindOfClass, Cond.code yX2_kindOfClass cX2_kindOfClass 4 (some .int), Cond.methodLink RX2 33 Lib.Math.min.name]
def wsL_law_r21 : List Cond := [Cond.static Lib.Math.min.name, Cond.initialized "java/lang/Math", Cond.code Lib.Math.min.name Lib.Math.min.code 2 (some .int), Cond.methodLink RX2 29 yX2_leastNumber, Cond.static yX2_leastNumber, Cond.code yX2_leastNumber cX2_leastNumber 9 (some .int), Cond.methodLink RX2 39 yX2_numberAsGiven, Cond.static yX2_numberAsGiven, Cond.code yX2_numberAsGiven cX2_numberAsGiven 5 (some .int), Cond.methodLink RX2 43 yX2_lowestColumn, Cond.static yX2_lowestColumn, Cond.code yX2_lowestColumn cX2_lowestColumn 6 (some .int), Cond.methodLink RX2 46 yX2_column, Cond.static yX2_column, Cond.code yX2_column cX2_column 6 (some .int), Cond.methodLink RX2 49 yX2_hasTwin, Cond.static yX2_hasTwin, Cond.code yX2_hasTwin cX2_hasTwin 4 (some .boolean), Cond.instanceMethod yX0_areTwins, Cond.selects RX0 yX0_areTwins yX0_areTwins, Cond.code yX0_areTwins cX0_areTwins 3 (some .boolean), Cond.methodLink RL 77 yX6_compare, Cond.instanceMethod yX6_compare, Cond.selects RX6 yX6_compare yX6_compare]
def wsL_law_r22 : List Cond := [Cond.code yX6_compare cX6_compare 6 (some .int), Cond.methodLink RX6 170 yX6_setBetween, Cond.instanceMethod yX6_setBetween, Cond.selects RX6 yX6_setBetween yX6_setBetween, Cond.code yX6_setBetween cX6_setBetween 4 (some .int), Cond.methodLink RX6 173 yX6_comesTo, Cond.instanceMethod yX6_comesTo, Cond.selects RX6 yX6_comesTo yX6_comesTo, Cond.code yX6_comesTo cX6_comesTo 9 (some .int), Cond.methodLink RX6 160 yX6_orders, Cond.static yX6_orders, Cond.code yX6_orders cX6_orders 3 (some .int), Cond.methodLink RX6 163 yX6_layRank, Cond.instanceMethod yX6_layRank, Cond.selects RX6 yX6_layRank yX6_layRank, Cond.code yX6_layRank cX6_layRank 7 none, Cond.methodLink RX6 167 yX6_renumbered, Cond.instanceMethod yX6_renumbered, Cond.selects RX6 yX6_renumbered yX6_renumbered, Cond.code yX6_renumbered cX6_renumbered 6 (some .int), Cond.methodLink RL 78 yX5_kind, Cond.instanceMethod yX5_kind, Cond.selects RX5 yX5_kind yX5_kind, Cond.code yX5_kind cX5_kind 3 (some .int)]
def wsL_law_r23 : List Cond := [Cond.instanceMethod yX2_keepersOfClass, Cond.selects RX2 yX2_keepersOfClass yX2_keepersOfClass, Cond.code yX2_keepersOfClass cX2_keepersOfClass 5 (some .int), Cond.methodLink RX2 71 yX2_keepersOfNet, Cond.instanceMethod yX2_keepersOfNet, Cond.selects RX2 yX2_keepersOfNet yX2_keepersOfNet, Cond.code yX2_keepersOfNet cX2_keepersOfNet 5 (some .int), Cond.methodLink RX2 75 yX2_placesOf, Cond.instanceMethod yX2_placesOf, Cond.selects RX2 yX2_placesOf yX2_placesOf, Cond.code yX2_placesOf cX2_placesOf 6 (some .int), Cond.methodLink RL 81 yX6_kind, Cond.instanceMethod yX6_kind, Cond.selects RX6 yX6_kind yX6_kind, Cond.code yX6_kind cX6_kind 4 (some .int), Cond.methodLink RX6 177 yX6_kindOf, Cond.instanceMethod yX6_kindOf, Cond.selects RX6 yX6_kindOf yX6_kindOf, Cond.code yX6_kindOf cX6_kindOf 8 (some .int), Cond.methodLink RL 82 yX5_card, Cond.instanceMethod yX5_card, Cond.selects RX5 yX5_card yX5_card, Cond.code yX5_card cX5_card 3 (some .int), Cond.methodLink RL 85 yX6_card]
def wsL_law_r24 : List Cond := [Cond.instanceMethod yX6_card, Cond.selects RX6 yX6_card yX6_card, Cond.code yX6_card cX6_card 3 (some .int), Cond.methodLink RL 86 yX5_root, Cond.instanceMethod yX5_root, Cond.selects RX5 yX5_root yX5_root, Cond.code yX5_root cX5_root 4 (some .long), Cond.constantLong RX5 183 (-1000000000001), Cond.constantLong RX5 185 (-1000000000002), Cond.instanceMethod yX4_fill, Cond.selects RX4 yX4_fill yX4_fill, Cond.code yX4_fill cX4_fill 5 none, Cond.instanceMethod yX4_eliminate, Cond.selects RX4 yX4_eliminate yX4_eliminate, Cond.code yX4_eliminate cX4_eliminate 3 none, Cond.methodLink RX4 37 yX4_pivotRow, Cond.instanceMethod yX4_pivotRow, Cond.selects RX4 yX4_pivotRow yX4_pivotRow, Cond.code yX4_pivotRow cX4_pivotRow 3 (some .int), Cond.methodLink RX4 41 yX4_bringUp, Cond.instanceMethod yX4_bringUp, Cond.selects RX4 yX4_bringUp yX4_bringUp, Cond.code yX4_bringUp cX4_bringUp 5 none, Cond.methodLink RX4 45 yX4_clearBelow]
def wsL_law_r25 : List Cond := [Cond.instanceMethod yX4_clearBelow, Cond.selects RX4 yX4_clearBelow yX4_clearBelow, Cond.code yX4_clearBelow cX4_clearBelow 8 none, Cond.instanceMethod yX4_determinant, Cond.selects RX4 yX4_determinant yX4_determinant, Cond.code yX4_determinant cX4_determinant 1 (some .long), Cond.methodLink RL 90 yX6_root, Cond.instanceMethod yX6_root, Cond.selects RX6 yX6_root yX6_root, Cond.code yX6_root cX6_root 4 (some .long), Cond.constantLong RX6 197 (-1000000000001), Cond.constantLong RX6 199 (-1000000000002), Cond.fieldLink RX6 193 "OddNetsModel" "determinant" "J", Cond.fieldLink RX6 180 "OddNetsModel" "rank" "I", Cond.methodLink RX6 201 yX6_layTable, Cond.instanceMethod yX6_layTable, Cond.selects RX6 yX6_layTable yX6_layTable, Cond.code yX6_layTable cX6_layTable 5 none, Cond.methodLink RX6 204 yX6_workOut, Cond.instanceMethod yX6_workOut, Cond.selects RX6 yX6_workOut yX6_workOut, Cond.code yX6_workOut cX6_workOut 6 none, Cond.methodLink RX6 183 yX6_rowWith, Cond.instanceMethod yX6_rowWith]
def wsL_law_r26 : List Cond := [Cond.selects RX6 yX6_rowWith yX6_rowWith, Cond.code yX6_rowWith cX6_rowWith 4 (some .int), Cond.methodLink RX6 186 yX6_swapRows, Cond.instanceMethod yX6_swapRows, Cond.selects RX6 yX6_swapRows yX6_swapRows, Cond.code yX6_swapRows cX6_swapRows 6 none, Cond.methodLink RX6 189 yX6_clearBelow, Cond.instanceMethod yX6_clearBelow, Cond.selects RX6 yX6_clearBelow yX6_clearBelow, Cond.code yX6_clearBelow cX6_clearBelow 11 none, Cond.methodLink RL 91 yX5_image, Cond.instanceMethod yX5_image, Cond.selects RX5 yX5_image yX5_image, Cond.code yX5_image cX5_image 2 (some .int), Cond.instanceMethod yX3_copy, Cond.selects RX3 yX3_copy yX3_copy, Cond.code yX3_copy cX3_copy 2 none, Cond.methodLink RX3 25 arraycopyName, Cond.methodLink RL 94 yX6_image, Cond.instanceMethod yX6_image, Cond.selects RX6 yX6_image yX6_image, Cond.code yX6_image cX6_image 3 (some .int), Cond.methodLink RL 95 yX5_restore, Cond.instanceMethod yX5_restore]
def wsL_law_r27 : List Cond := [Cond.selects RX5 yX5_restore yX5_restore, Cond.code yX5_restore cX5_restore 2 (some .int), Cond.instanceMethod yX3_isUnused, Cond.selects RX3 yX3_isUnused yX3_isUnused, Cond.code yX3_isUnused cX3_isUnused 1 (some .boolean), Cond.methodLink RL 98 yX6_restore, Cond.instanceMethod yX6_restore, Cond.selects RX6 yX6_restore yX6_restore, Cond.code yX6_restore cX6_restore 3 (some .int), Cond.methodLink RL 99 yX5_count, Cond.instanceMethod yX5_count, Cond.selects RX5 yX5_count yX5_count, Cond.code yX5_count cX5_count 2 (some .int), Cond.methodLink RX5 211 yX5_differentClasses, Cond.instanceMethod yX5_differentClasses, Cond.selects RX5 yX5_differentClasses yX5_differentClasses, Cond.code yX5_differentClasses cX5_differentClasses 2 (some .int), Cond.methodLink RX5 233 yX5_differentMarks, Cond.instanceMethod yX5_differentMarks, Cond.selects RX5 yX5_differentMarks yX5_differentMarks, Cond.code yX5_differentMarks cX5_differentMarks 3 (some .int), Cond.methodLink RX5 236 yX5_isMarkedBefore, Cond.instanceMethod yX5_isMarkedBefore, Cond.selects RX5 yX5_isMarkedBefore yX5_isMarkedBefore]
def wsL_law_r28 : List Cond := [Cond.code yX5_isMarkedBefore cX5_isMarkedBefore 3 (some .boolean), Cond.methodLink RX5 214 yX5_differentKinds, Cond.instanceMethod yX5_differentKinds, Cond.selects RX5 yX5_differentKinds yX5_differentKinds, Cond.code yX5_differentKinds cX5_differentKinds 2 (some .int), Cond.methodLink RX5 217 yX5_keptImages, Cond.instanceMethod yX5_keptImages, Cond.selects RX5 yX5_keptImages yX5_keptImages, Cond.code yX5_keptImages cX5_keptImages 3 (some .int), Cond.methodLink RL 102 yX6_count, Cond.instanceMethod yX6_count, Cond.selects RX6 yX6_count yX6_count, Cond.code yX6_count cX6_count 2 (some .int), Cond.methodLink RX6 207 yX6_classes, Cond.instanceMethod yX6_classes, Cond.selects RX6 yX6_classes yX6_classes, Cond.code yX6_classes cX6_classes 6 (some .int)]
def wsL_law : List Cond := (wsL_law_r1 ++ (wsL_law_r2 ++ (wsL_law_r3 ++ (wsL_law_r4 ++ (wsL_law_r5 ++ (wsL_law_r6 ++ (wsL_law_r7 ++ (wsL_law_r8 ++ (wsL_law_r9 ++ (wsL_law_r10 ++ (wsL_law_r11 ++ (wsL_law_r12 ++ (wsL_law_r13 ++ (wsL_law_r14 ++ (wsL_law_r15 ++ (wsL_law_r16 ++ (wsL_law_r17 ++ (wsL_law_r18 ++ (wsL_law_r19 ++ (wsL_law_r20 ++ (wsL_law_r21 ++ (wsL_law_r22 ++ (wsL_law_r23 ++ (wsL_law_r24 ++ (wsL_law_r25 ++ (wsL_law_r26 ++ (wsL_law_r27 ++ wsL_law_r28))))))))))))))))))))))))))) ++ wsX50 ++ wsX60 ++ wsX30 ++ wsX10 ++ wsX00 ++ wsX20 ++ wsX40 ++ ([] : List Cond)
end
section
set_option maxRecDepth 20000 in
theorem wsL_in_1 : ∀ w ∈ wsL_law_r1, w ∈ lw_tbl := by decide +kernel
set_option maxRecDepth 20000 in
theorem wsL_in_2 : ∀ w ∈ wsL_law_r2, w ∈ lw_tbl := by decide +kernel
set_option maxRecDepth 20000 in
theorem wsL_in_3 : ∀ w ∈ wsL_law_r3, w ∈ lw_tbl := by decide +kernel
set_option maxRecDepth 20000 in
theorem wsL_in_4 : ∀ w ∈ wsL_law_r4, w ∈ lw_tbl := by decide +kernel
set_option maxRecDepth 20000 in
theorem wsL_in_5 : ∀ w ∈ wsL_law_r5, w ∈ lw_tbl := by decide +kernel
set_option maxRecDepth 20000 in
theorem wsL_in_6 : ∀ w ∈ wsL_law_r6, w ∈ lw_tbl := by decide +kernel
set_option maxRecDepth 20000 in
theorem wsL_in_7 : ∀ w ∈ wsL_law_r7, w ∈ lw_tbl := by decide +kernel
set_option maxRecDepth 20000 in
theorem wsL_in_8 : ∀ w ∈ wsL_law_r8, w ∈ lw_tbl := by decide +kernel
set_option maxRecDepth 20000 in
theorem wsL_in_9 : ∀ w ∈ wsL_law_r9, w ∈ lw_tbl := by decide +kernel
set_option maxRecDepth 20000 in
theorem wsL_in_10 : ∀ w ∈ wsL_law_r10, w ∈ lw_tbl := by decide +kernel
set_option maxRecDepth 20000 in
theorem wsL_in_11 : ∀ w ∈ wsL_law_r11, w ∈ lw_tbl := by decide +kernel
set_option maxRecDepth 20000 in
theorem wsL_in_12 : ∀ w ∈ wsL_law_r12, w ∈ lw_tbl := by decide +kernel
set_option maxRecDepth 20000 in
theorem wsL_in_13 : ∀ w ∈ wsL_law_r13, w ∈ lw_tbl := by decide +kernel
set_option maxRecDepth 20000 in
theorem wsL_in_14 : ∀ w ∈ wsL_law_r14, w ∈ lw_tbl := by decide +kernel
set_option maxRecDepth 20000 in
theorem wsL_in_15 : ∀ w ∈ wsL_law_r15, w ∈ lw_tbl := by decide +kernel
set_option maxRecDepth 20000 in
theorem wsL_in_16 : ∀ w ∈ wsL_law_r16, w ∈ lw_tbl := by decide +kernel
set_option maxRecDepth 20000 in
theorem wsL_in_17 : ∀ w ∈ wsL_law_r17, w ∈ lw_tbl := by decide +kernel
set_option maxRecDepth 20000 in
theorem wsL_in_18 : ∀ w ∈ wsL_law_r18, w ∈ lw_tbl := by decide +kernel
set_option maxRecDepth 20000 in
theorem wsL_in_19 : ∀ w ∈ wsL_law_r19, w ∈ lw_tbl := by decide +kernel
set_option maxRecDepth 20000 in
theorem wsL_in_20 : ∀ w ∈ wsL_law_r20, w ∈ lw_tbl := by decide +kernel
set_option maxRecDepth 20000 in
theorem wsL_in_21 : ∀ w ∈ wsL_law_r21, w ∈ lw_tbl := by decide +kernel
set_option maxRecDepth 20000 in
theorem wsL_in_22 : ∀ w ∈ wsL_law_r22, w ∈ lw_tbl := by decide +kernel
set_option maxRecDepth 20000 in
theorem wsL_in_23 : ∀ w ∈ wsL_law_r23, w ∈ lw_tbl := by decide +kernel
set_option maxRecDepth 20000 in
theorem wsL_in_24 : ∀ w ∈ wsL_law_r24, w ∈ lw_tbl := by decide +kernel
set_option maxRecDepth 20000 in
theorem wsL_in_25 : ∀ w ∈ wsL_law_r25, w ∈ lw_tbl := by decide +kernel
set_option maxRecDepth 20000 in
theorem wsL_in_26 : ∀ w ∈ wsL_law_r26, w ∈ lw_tbl := by decide +kernel
set_option maxRecDepth 20000 in
theorem wsL_in_27 : ∀ w ∈ wsL_law_r27, w ∈ lw_tbl := by decide +kernel
set_option maxRecDepth 20000 in
theorem wsL_in_28 : ∀ w ∈ wsL_law_r28, w ∈ lw_tbl := by decide +kernel
set_option maxRecDepth 20000 in
theorem wsL_in_wsX50 : ∀ w ∈ wsX50, w ∈ lw_tbl := by decide +kernel
set_option maxRecDepth 20000 in
theorem wsL_in_wsX60 : ∀ w ∈ wsX60, w ∈ lw_tbl := by decide +kernel
set_option maxRecDepth 20000 in
theorem wsL_in_wsX30 : ∀ w ∈ wsX30, w ∈ lw_tbl := by decide +kernel
set_option maxRecDepth 20000 in
theorem wsL_in_wsX10 : ∀ w ∈ wsX10, w ∈ lw_tbl := by decide +kernel
set_option maxRecDepth 20000 in
theorem wsL_in_wsX00 : ∀ w ∈ wsX00, w ∈ lw_tbl := by decide +kernel
set_option maxRecDepth 20000 in
theorem wsL_in_wsX20 : ∀ w ∈ wsX20, w ∈ lw_tbl := by decide +kernel
set_option maxRecDepth 20000 in
theorem wsL_in_wsX40 : ∀ w ∈ wsX40, w ∈ lw_tbl := by decide +kernel
theorem wsL_law_in : ∀ w ∈ wsL_law, w ∈ lw_tbl := List.forall_mem_append.mpr ⟨List.forall_mem_append.mpr ⟨List.forall_mem_append.mpr ⟨List.forall_mem_append.mpr ⟨List.forall_mem_append.mpr ⟨List.forall_mem_append.mpr ⟨List.forall_mem_append.mpr ⟨List.forall_mem_append.mpr ⟨List.forall_mem_append.mpr ⟨wsL_in_1, List.forall_mem_append.mpr ⟨wsL_in_2, List.forall_mem_append.mpr ⟨wsL_in_3, List.forall_mem_append.mpr ⟨wsL_in_4, List.forall_mem_append.mpr ⟨wsL_in_5, List.forall_mem_append.mpr ⟨wsL_in_6, List.forall_mem_append.mpr ⟨wsL_in_7, List.forall_mem_append.mpr ⟨wsL_in_8, List.forall_mem_append.mpr ⟨wsL_in_9, List.forall_mem_append.mpr ⟨wsL_in_10, List.forall_mem_append.mpr ⟨wsL_in_11, List.forall_mem_append.mpr ⟨wsL_in_12, List.forall_mem_append.mpr ⟨wsL_in_13, List.forall_mem_append.mpr ⟨wsL_in_14, List.forall_mem_append.mpr ⟨wsL_in_15, List.forall_mem_append.mpr ⟨wsL_in_16, List.forall_mem_append.mpr ⟨wsL_in_17, List.forall_mem_append.mpr ⟨wsL_in_18, List.forall_mem_append.mpr ⟨wsL_in_19, List.forall_mem_append.mpr ⟨wsL_in_20, List.forall_mem_append.mpr ⟨wsL_in_21, List.forall_mem_append.mpr ⟨wsL_in_22, List.forall_mem_append.mpr ⟨wsL_in_23, List.forall_mem_append.mpr ⟨wsL_in_24, List.forall_mem_append.mpr ⟨wsL_in_25, List.forall_mem_append.mpr ⟨wsL_in_26, List.forall_mem_append.mpr ⟨wsL_in_27, wsL_in_28⟩⟩⟩⟩⟩⟩⟩⟩⟩⟩⟩⟩⟩⟩⟩⟩⟩⟩⟩⟩⟩⟩⟩⟩⟩⟩⟩, wsL_in_wsX50⟩, wsL_in_wsX60⟩, wsL_in_wsX30⟩, wsL_in_wsX10⟩, wsL_in_wsX00⟩, wsL_in_wsX20⟩, wsL_in_wsX40⟩, fun _ h => absurd h List.not_mem_nil⟩
theorem inlX0 : ∀ w ∈ wsX00, w ∈ wsL_law := fun _ h => List.mem_append_left _ (List.mem_append_left _ (List.mem_append_left _ (List.mem_append_right _ h)))
theorem inX0 : ∀ w ∈ wsX00, w ∈ lw_tbl := fun w h => wsL_law_in w (inlX0 w h)
theorem inlX1 : ∀ w ∈ wsX10, w ∈ wsL_law := fun _ h => List.mem_append_left _ (List.mem_append_left _ (List.mem_append_left _ (List.mem_append_left _ (List.mem_append_right _ h))))
theorem inX1 : ∀ w ∈ wsX10, w ∈ lw_tbl := fun w h => wsL_law_in w (inlX1 w h)
theorem inlX2 : ∀ w ∈ wsX20, w ∈ wsL_law := fun _ h => List.mem_append_left _ (List.mem_append_left _ (List.mem_append_right _ h))
theorem inX2 : ∀ w ∈ wsX20, w ∈ lw_tbl := fun w h => wsL_law_in w (inlX2 w h)
theorem inlX3 : ∀ w ∈ wsX30, w ∈ wsL_law := fun _ h => List.mem_append_left _ (List.mem_append_left _ (List.mem_append_left _ (List.mem_append_left _ (List.mem_append_left _ (List.mem_append_right _ h)))))
theorem inX3 : ∀ w ∈ wsX30, w ∈ lw_tbl := fun w h => wsL_law_in w (inlX3 w h)
theorem inlX4 : ∀ w ∈ wsX40, w ∈ wsL_law := fun _ h => List.mem_append_left _ (List.mem_append_right _ h)
theorem inX4 : ∀ w ∈ wsX40, w ∈ lw_tbl := fun w h => wsL_law_in w (inlX4 w h)
theorem inlX5 : ∀ w ∈ wsX50, w ∈ wsL_law := fun _ h => List.mem_append_left _ (List.mem_append_left _ (List.mem_append_left _ (List.mem_append_left _ (List.mem_append_left _ (List.mem_append_left _ (List.mem_append_left _ (List.mem_append_right _ h)))))))
theorem inX5 : ∀ w ∈ wsX50, w ∈ lw_tbl := fun w h => wsL_law_in w (inlX5 w h)
theorem inlX6 : ∀ w ∈ wsX60, w ∈ wsL_law := fun _ h => List.mem_append_left _ (List.mem_append_left _ (List.mem_append_left _ (List.mem_append_left _ (List.mem_append_left _ (List.mem_append_left _ (List.mem_append_right _ h))))))
theorem inX6 : ∀ w ∈ wsX60, w ∈ lw_tbl := fun w h => wsL_law_in w (inlX6 w h)
theorem inJ6 : ∀ w ∈ wsJ60, w ∈ lw_tbl := by decide +kernel
theorem inJ9 : ∀ w ∈ wsJ90, w ∈ lw_tbl := by decide +kernel
theorem inJ10 : ∀ w ∈ wsJ100, w ∈ lw_tbl := by decide +kernel
theorem inJ7 : ∀ w ∈ wsJ70, w ∈ lw_tbl := by decide +kernel
end
section
theorem dX0_init_0 : decode cX0_init 0 = .ok (.aload_n 0, 1) := by decide +kernel
theorem dX0_init_1 : decode cX0_init 1 = .ok (.invokespecial 3, 3) := by decide +kernel
theorem dX0_init_4 : decode cX0_init 4 = .ok (.aload_n 0, 1) := by decide +kernel
theorem dX0_init_5 : decode cX0_init 5 = .ok (.iconst 0, 1) := by decide +kernel
theorem dX0_init_6 : decode cX0_init 6 = .ok (.putfield 9, 3) := by decide +kernel
theorem dX0_init_9 : decode cX0_init 9 = .ok (.aload_n 0, 1) := by decide +kernel
theorem dX0_init_10 : decode cX0_init 10 = .ok (.bipush 7, 2) := by decide +kernel
theorem dX0_init_12 : decode cX0_init 12 = .ok (.newarray .int, 2) := by decide +kernel
theorem dX0_init_14 : decode cX0_init 14 = .ok (.putfield 15, 3) := by decide +kernel
theorem dX0_init_17 : decode cX0_init 17 = .ok (.return_, 1) := by decide +kernel
set_option maxRecDepth 20000 in
theorem ggX0_clear_J7_fill_53178 : GoodIn wsX0_clear wsJ7_fill_53178 := goodIn_r _ [6] (by decide +kernel) (by decide +kernel)
set_option maxRecDepth 20000 in
theorem gX0_clear_J7_fill_53178 : GoodIn wsX0_clear (va_wsS RX0 19 yJ7_fill_53178 wsJ7_fill_53178) := goodIn_app (goodIn_of _ (by decide +kernel)) ggX0_clear_J7_fill_53178
theorem dX0_clear_0 : decode cX0_clear 0 = .ok (.aload_n 0, 1) := by decide +kernel
theorem dX0_clear_1 : decode cX0_clear 1 = .ok (.iload_n 1, 1) := by decide +kernel
theorem dX0_clear_2 : decode cX0_clear 2 = .ok (.putfield 9, 3) := by decide +kernel
theorem dX0_clear_5 : decode cX0_clear 5 = .ok (.aload_n 0, 1) := by decide +kernel
theorem dX0_clear_6 : decode cX0_clear 6 = .ok (.getfield 15, 3) := by decide +kernel
theorem dX0_clear_9 : decode cX0_clear 9 = .ok (.iconst 0, 1) := by decide +kernel
theorem dX0_clear_10 : decode cX0_clear 10 = .ok (.invokestatic 19, 3) := by decide +kernel
theorem dX0_clear_13 : decode cX0_clear 13 = .ok (.return_, 1) := by decide +kernel
theorem dX0_connect_0 : decode cX0_connect 0 = .ok (.iload_n 3, 1) := by decide +kernel
theorem dX0_connect_1 : decode cX0_connect 1 = .ok (.ifCond .eq 30, 3) := by decide +kernel
theorem dX0_connect_4 : decode cX0_connect 4 = .ok (.aload_n 0, 1) := by decide +kernel
theorem dX0_connect_5 : decode cX0_connect 5 = .ok (.getfield 15, 3) := by decide +kernel
theorem dX0_connect_8 : decode cX0_connect 8 = .ok (.iload_n 1, 1) := by decide +kernel
theorem dX0_connect_9 : decode cX0_connect 9 = .ok (.dup2, 1) := by decide +kernel
theorem dX0_connect_10 : decode cX0_connect 10 = .ok (.iaload, 1) := by decide +kernel
theorem dX0_connect_11 : decode cX0_connect 11 = .ok (.iconst 1, 1) := by decide +kernel
theorem dX0_connect_12 : decode cX0_connect 12 = .ok (.iload_n 2, 1) := by decide +kernel
theorem dX0_connect_13 : decode cX0_connect 13 = .ok (.ishl, 1) := by decide +kernel
theorem dX0_connect_14 : decode cX0_connect 14 = .ok (.ior, 1) := by decide +kernel
theorem dX0_connect_15 : decode cX0_connect 15 = .ok (.iastore, 1) := by decide +kernel
theorem dX0_connect_16 : decode cX0_connect 16 = .ok (.aload_n 0, 1) := by decide +kernel
theorem dX0_connect_17 : decode cX0_connect 17 = .ok (.getfield 15, 3) := by decide +kernel
theorem dX0_connect_20 : decode cX0_connect 20 = .ok (.iload_n 2, 1) := by decide +kernel
theorem dX0_connect_21 : decode cX0_connect 21 = .ok (.dup2, 1) := by decide +kernel
theorem dX0_connect_22 : decode cX0_connect 22 = .ok (.iaload, 1) := by decide +kernel
theorem dX0_connect_23 : decode cX0_connect 23 = .ok (.iconst 1, 1) := by decide +kernel
theorem dX0_connect_24 : decode cX0_connect 24 = .ok (.iload_n 1, 1) := by decide +kernel
theorem dX0_connect_25 : decode cX0_connect 25 = .ok (.ishl, 1) := by decide +kernel
theorem dX0_connect_26 : decode cX0_connect 26 = .ok (.ior, 1) := by decide +kernel
theorem dX0_connect_27 : decode cX0_connect 27 = .ok (.iastore, 1) := by decide +kernel
theorem dX0_connect_28 : decode cX0_connect 28 = .ok (.goto 31, 3) := by decide +kernel
theorem dX0_connect_31 : decode cX0_connect 31 = .ok (.aload_n 0, 1) := by decide +kernel
theorem dX0_connect_32 : decode cX0_connect 32 = .ok (.getfield 15, 3) := by decide +kernel
theorem dX0_connect_35 : decode cX0_connect 35 = .ok (.iload_n 1, 1) := by decide +kernel
theorem dX0_connect_36 : decode cX0_connect 36 = .ok (.dup2, 1) := by decide +kernel
theorem dX0_connect_37 : decode cX0_connect 37 = .ok (.iaload, 1) := by decide +kernel
theorem dX0_connect_38 : decode cX0_connect 38 = .ok (.iconst 1, 1) := by decide +kernel
theorem dX0_connect_39 : decode cX0_connect 39 = .ok (.iload_n 2, 1) := by decide +kernel
theorem dX0_connect_40 : decode cX0_connect 40 = .ok (.ishl, 1) := by decide +kernel
theorem dX0_connect_41 : decode cX0_connect 41 = .ok (.iconst (-1), 1) := by decide +kernel
theorem dX0_connect_42 : decode cX0_connect 42 = .ok (.ixor, 1) := by decide +kernel
theorem dX0_connect_43 : decode cX0_connect 43 = .ok (.iand, 1) := by decide +kernel
theorem dX0_connect_44 : decode cX0_connect 44 = .ok (.iastore, 1) := by decide +kernel
theorem dX0_connect_45 : decode cX0_connect 45 = .ok (.aload_n 0, 1) := by decide +kernel
theorem dX0_connect_46 : decode cX0_connect 46 = .ok (.getfield 15, 3) := by decide +kernel
theorem dX0_connect_49 : decode cX0_connect 49 = .ok (.iload_n 2, 1) := by decide +kernel
theorem dX0_connect_50 : decode cX0_connect 50 = .ok (.dup2, 1) := by decide +kernel
theorem dX0_connect_51 : decode cX0_connect 51 = .ok (.iaload, 1) := by decide +kernel
theorem dX0_connect_52 : decode cX0_connect 52 = .ok (.iconst 1, 1) := by decide +kernel
theorem dX0_connect_53 : decode cX0_connect 53 = .ok (.iload_n 1, 1) := by decide +kernel
theorem dX0_connect_54 : decode cX0_connect 54 = .ok (.ishl, 1) := by decide +kernel
theorem dX0_connect_55 : decode cX0_connect 55 = .ok (.iconst (-1), 1) := by decide +kernel
theorem dX0_connect_56 : decode cX0_connect 56 = .ok (.ixor, 1) := by decide +kernel
theorem dX0_connect_57 : decode cX0_connect 57 = .ok (.iand, 1) := by decide +kernel
theorem dX0_connect_58 : decode cX0_connect 58 = .ok (.iastore, 1) := by decide +kernel
theorem dX0_connect_59 : decode cX0_connect 59 = .ok (.return_, 1) := by decide +kernel
set_option maxRecDepth 20000 in
theorem ggX0_takeNumber_X5_pairsOf : GoodIn wsX0_takeNumber wsX5_pairsOf := goodIn_r _ [4] (by decide +kernel) (by decide +kernel)
set_option maxRecDepth 20000 in
theorem gX0_takeNumber_X5_pairsOf_n25 : GoodIn wsX0_takeNumber (wsX5_pairsOf) := ggX0_takeNumber_X5_pairsOf
set_option maxRecDepth 20000 in
theorem ggX0_takeNumber_X0_connect : GoodIn wsX0_takeNumber wsX0_connect := goodIn_r _ [9, 10, 11, 12] (by decide +kernel) (by decide +kernel)
set_option maxRecDepth 20000 in
theorem gX0_takeNumber_X0_connect : GoodIn wsX0_takeNumber (wsV RX0 29 RX0 yX0_connect wsX0_connect) := goodIn_app (goodIn_of _ (by decide +kernel)) ggX0_takeNumber_X0_connect
theorem dX0_takeNumber_0 : decode cX0_takeNumber 0 = .ok (.aload_n 0, 1) := by decide +kernel
theorem dX0_takeNumber_1 : decode cX0_takeNumber 1 = .ok (.getfield 9, 3) := by decide +kernel
theorem dX0_takeNumber_4 : decode cX0_takeNumber 4 = .ok (.invokestatic 25, 3) := by decide +kernel
theorem dX0_takeNumber_7 : decode cX0_takeNumber 7 = .ok (.istore_n 2, 1) := by decide +kernel
theorem dX0_takeNumber_8 : decode cX0_takeNumber 8 = .ok (.iconst 0, 1) := by decide +kernel
theorem dX0_takeNumber_9 : decode cX0_takeNumber 9 = .ok (.istore_n 3, 1) := by decide +kernel
theorem dX0_takeNumber_10 : decode cX0_takeNumber 10 = .ok (.iload_n 3, 1) := by decide +kernel
theorem dX0_takeNumber_11 : decode cX0_takeNumber 11 = .ok (.aload_n 0, 1) := by decide +kernel
theorem dX0_takeNumber_12 : decode cX0_takeNumber 12 = .ok (.getfield 9, 3) := by decide +kernel
theorem dX0_takeNumber_15 : decode cX0_takeNumber 15 = .ok (.if_icmp .ge 53, 3) := by decide +kernel
theorem dX0_takeNumber_18 : decode cX0_takeNumber 18 = .ok (.iload_n 3, 1) := by decide +kernel
theorem dX0_takeNumber_19 : decode cX0_takeNumber 19 = .ok (.iconst 1, 1) := by decide +kernel
theorem dX0_takeNumber_20 : decode cX0_takeNumber 20 = .ok (.iadd, 1) := by decide +kernel
theorem dX0_takeNumber_21 : decode cX0_takeNumber 21 = .ok (.istore 4, 2) := by decide +kernel
theorem dX0_takeNumber_23 : decode cX0_takeNumber 23 = .ok (.iload 4, 2) := by decide +kernel
theorem dX0_takeNumber_25 : decode cX0_takeNumber 25 = .ok (.aload_n 0, 1) := by decide +kernel
theorem dX0_takeNumber_26 : decode cX0_takeNumber 26 = .ok (.getfield 9, 3) := by decide +kernel
theorem dX0_takeNumber_29 : decode cX0_takeNumber 29 = .ok (.if_icmp .ge 33, 3) := by decide +kernel
theorem dX0_takeNumber_32 : decode cX0_takeNumber 32 = .ok (.iinc 2 (-1), 3) := by decide +kernel
theorem dX0_takeNumber_35 : decode cX0_takeNumber 35 = .ok (.aload_n 0, 1) := by decide +kernel
theorem dX0_takeNumber_36 : decode cX0_takeNumber 36 = .ok (.iload_n 3, 1) := by decide +kernel
theorem dX0_takeNumber_37 : decode cX0_takeNumber 37 = .ok (.iload 4, 2) := by decide +kernel
theorem dX0_takeNumber_39 : decode cX0_takeNumber 39 = .ok (.iload_n 1, 1) := by decide +kernel
theorem dX0_takeNumber_40 : decode cX0_takeNumber 40 = .ok (.iload_n 2, 1) := by decide +kernel
theorem dX0_takeNumber_41 : decode cX0_takeNumber 41 = .ok (.ishr, 1) := by decide +kernel
theorem dX0_takeNumber_42 : decode cX0_takeNumber 42 = .ok (.iconst 1, 1) := by decide +kernel
theorem dX0_takeNumber_43 : decode cX0_takeNumber 43 = .ok (.iand, 1) := by decide +kernel
theorem dX0_takeNumber_44 : decode cX0_takeNumber 44 = .ok (.iconst 1, 1) := by decide +kernel
theorem dX0_takeNumber_45 : decode cX0_takeNumber 45 = .ok (.if_icmp .ne 7, 3) := by decide +kernel
theorem dX0_takeNumber_48 : decode cX0_takeNumber 48 = .ok (.iconst 1, 1) := by decide +kernel
theorem dX0_takeNumber_49 : decode cX0_takeNumber 49 = .ok (.goto 4, 3) := by decide +kernel
theorem dX0_takeNumber_52 : decode cX0_takeNumber 52 = .ok (.iconst 0, 1) := by decide +kernel
theorem dX0_takeNumber_53 : decode cX0_takeNumber 53 = .ok (.invokevirtual 29, 3) := by decide +kernel
theorem dX0_takeNumber_56 : decode cX0_takeNumber 56 = .ok (.iinc 4 1, 3) := by decide +kernel
theorem dX0_takeNumber_59 : decode cX0_takeNumber 59 = .ok (.goto (-36), 3) := by decide +kernel
theorem dX0_takeNumber_62 : decode cX0_takeNumber 62 = .ok (.iinc 3 1, 3) := by decide +kernel
theorem dX0_takeNumber_65 : decode cX0_takeNumber 65 = .ok (.goto (-55), 3) := by decide +kernel
theorem dX0_takeNumber_68 : decode cX0_takeNumber 68 = .ok (.return_, 1) := by decide +kernel
set_option maxRecDepth 20000 in
theorem ggX0_takePairs_X1_tells : GoodIn wsX0_takePairs wsX1_tells := goodIn_r _ [5, 6, 7, 16, 17] (by decide +kernel) (by decide +kernel)
set_option maxRecDepth 20000 in
theorem gX0_takePairs_X1_tells_n33 : GoodIn wsX0_takePairs (wsX1_tells) := ggX0_takePairs_X1_tells
set_option maxRecDepth 20000 in
theorem ggX0_takePairs_X0_connect : GoodIn wsX0_takePairs wsX0_connect := goodIn_r _ [12, 13, 14, 15] (by decide +kernel) (by decide +kernel)
set_option maxRecDepth 20000 in
theorem gX0_takePairs_X0_connect : GoodIn wsX0_takePairs (wsV RX0 29 RX0 yX0_connect wsX0_connect) := goodIn_app (goodIn_of _ (by decide +kernel)) ggX0_takePairs_X0_connect
theorem dX0_takePairs_0 : decode cX0_takePairs 0 = .ok (.iconst 0, 1) := by decide +kernel
theorem dX0_takePairs_1 : decode cX0_takePairs 1 = .ok (.istore_n 2, 1) := by decide +kernel
theorem dX0_takePairs_2 : decode cX0_takePairs 2 = .ok (.iconst 0, 1) := by decide +kernel
theorem dX0_takePairs_3 : decode cX0_takePairs 3 = .ok (.istore_n 3, 1) := by decide +kernel
theorem dX0_takePairs_4 : decode cX0_takePairs 4 = .ok (.iload_n 3, 1) := by decide +kernel
theorem dX0_takePairs_5 : decode cX0_takePairs 5 = .ok (.aload_n 0, 1) := by decide +kernel
theorem dX0_takePairs_6 : decode cX0_takePairs 6 = .ok (.getfield 9, 3) := by decide +kernel
theorem dX0_takePairs_9 : decode cX0_takePairs 9 = .ok (.if_icmp .ge 44, 3) := by decide +kernel
theorem dX0_takePairs_12 : decode cX0_takePairs 12 = .ok (.iload_n 3, 1) := by decide +kernel
theorem dX0_takePairs_13 : decode cX0_takePairs 13 = .ok (.iconst 1, 1) := by decide +kernel
theorem dX0_takePairs_14 : decode cX0_takePairs 14 = .ok (.iadd, 1) := by decide +kernel
theorem dX0_takePairs_15 : decode cX0_takePairs 15 = .ok (.istore 4, 2) := by decide +kernel
theorem dX0_takePairs_17 : decode cX0_takePairs 17 = .ok (.iload 4, 2) := by decide +kernel
theorem dX0_takePairs_19 : decode cX0_takePairs 19 = .ok (.aload_n 0, 1) := by decide +kernel
theorem dX0_takePairs_20 : decode cX0_takePairs 20 = .ok (.getfield 9, 3) := by decide +kernel
theorem dX0_takePairs_23 : decode cX0_takePairs 23 = .ok (.if_icmp .ge 24, 3) := by decide +kernel
theorem dX0_takePairs_26 : decode cX0_takePairs 26 = .ok (.aload_n 0, 1) := by decide +kernel
theorem dX0_takePairs_27 : decode cX0_takePairs 27 = .ok (.iload_n 3, 1) := by decide +kernel
theorem dX0_takePairs_28 : decode cX0_takePairs 28 = .ok (.iload 4, 2) := by decide +kernel
theorem dX0_takePairs_30 : decode cX0_takePairs 30 = .ok (.aload_n 1, 1) := by decide +kernel
theorem dX0_takePairs_31 : decode cX0_takePairs 31 = .ok (.iload_n 2, 1) := by decide +kernel
theorem dX0_takePairs_32 : decode cX0_takePairs 32 = .ok (.invokevirtual 33, 3) := by decide +kernel
theorem dX0_takePairs_35 : decode cX0_takePairs 35 = .ok (.invokevirtual 29, 3) := by decide +kernel
theorem dX0_takePairs_38 : decode cX0_takePairs 38 = .ok (.iinc 2 1, 3) := by decide +kernel
theorem dX0_takePairs_41 : decode cX0_takePairs 41 = .ok (.iinc 4 1, 3) := by decide +kernel
theorem dX0_takePairs_44 : decode cX0_takePairs 44 = .ok (.goto (-27), 3) := by decide +kernel
theorem dX0_takePairs_47 : decode cX0_takePairs 47 = .ok (.iinc 3 1, 3) := by decide +kernel
theorem dX0_takePairs_50 : decode cX0_takePairs 50 = .ok (.goto (-46), 3) := by decide +kernel
theorem dX0_takePairs_53 : decode cX0_takePairs 53 = .ok (.return_, 1) := by decide +kernel
set_option maxRecDepth 20000 in
theorem ggX0_takeTriples_X1_tells : GoodIn wsX0_takeTriples wsX1_tells := goodIn_r _ [5, 6, 7, 24, 25] (by decide +kernel) (by decide +kernel)
set_option maxRecDepth 20000 in
theorem gX0_takeTriples_X1_tells_n33 : GoodIn wsX0_takeTriples (wsX1_tells) := ggX0_takeTriples_X1_tells
set_option maxRecDepth 20000 in
theorem ggX0_takeTriples_X0_connect : GoodIn wsX0_takeTriples wsX0_connect := goodIn_r _ [12, 13, 22, 23] (by decide +kernel) (by decide +kernel)
set_option maxRecDepth 20000 in
theorem gX0_takeTriples_X0_connect : GoodIn wsX0_takeTriples (wsV RX0 29 RX0 yX0_connect wsX0_connect) := goodIn_app (goodIn_of _ (by decide +kernel)) ggX0_takeTriples_X0_connect
set_option maxRecDepth 20000 in
theorem ggX0_takeTriples_X0_isOdd : GoodIn wsX0_takeTriples wsX0_isOdd := goodIn_r _ [17, 18, 19, 20, 11, 21, 13, 22, 23] (by decide +kernel) (by decide +kernel)
set_option maxRecDepth 20000 in
theorem gX0_takeTriples_X0_isOdd : GoodIn wsX0_takeTriples (wsV RX0 39 RX0 yX0_isOdd wsX0_isOdd) := goodIn_app (goodIn_of _ (by decide +kernel)) ggX0_takeTriples_X0_isOdd
theorem dX0_takeTriples_0 : decode cX0_takeTriples 0 = .ok (.iconst 0, 1) := by decide +kernel
theorem dX0_takeTriples_1 : decode cX0_takeTriples 1 = .ok (.istore_n 2, 1) := by decide +kernel
theorem dX0_takeTriples_2 : decode cX0_takeTriples 2 = .ok (.iconst 0, 1) := by decide +kernel
theorem dX0_takeTriples_3 : decode cX0_takeTriples 3 = .ok (.istore_n 3, 1) := by decide +kernel
theorem dX0_takeTriples_4 : decode cX0_takeTriples 4 = .ok (.iload_n 3, 1) := by decide +kernel
theorem dX0_takeTriples_5 : decode cX0_takeTriples 5 = .ok (.aload_n 0, 1) := by decide +kernel
theorem dX0_takeTriples_6 : decode cX0_takeTriples 6 = .ok (.getfield 9, 3) := by decide +kernel
theorem dX0_takeTriples_9 : decode cX0_takeTriples 9 = .ok (.if_icmp .ge 93, 3) := by decide +kernel
theorem dX0_takeTriples_12 : decode cX0_takeTriples 12 = .ok (.iload_n 3, 1) := by decide +kernel
theorem dX0_takeTriples_13 : decode cX0_takeTriples 13 = .ok (.iconst 1, 1) := by decide +kernel
theorem dX0_takeTriples_14 : decode cX0_takeTriples 14 = .ok (.iadd, 1) := by decide +kernel
theorem dX0_takeTriples_15 : decode cX0_takeTriples 15 = .ok (.istore 4, 2) := by decide +kernel
theorem dX0_takeTriples_17 : decode cX0_takeTriples 17 = .ok (.iload 4, 2) := by decide +kernel
theorem dX0_takeTriples_19 : decode cX0_takeTriples 19 = .ok (.aload_n 0, 1) := by decide +kernel
theorem dX0_takeTriples_20 : decode cX0_takeTriples 20 = .ok (.getfield 9, 3) := by decide +kernel
theorem dX0_takeTriples_23 : decode cX0_takeTriples 23 = .ok (.if_icmp .ge 73, 3) := by decide +kernel
theorem dX0_takeTriples_26 : decode cX0_takeTriples 26 = .ok (.iload 4, 2) := by decide +kernel
theorem dX0_takeTriples_28 : decode cX0_takeTriples 28 = .ok (.iconst 1, 1) := by decide +kernel
theorem dX0_takeTriples_29 : decode cX0_takeTriples 29 = .ok (.iadd, 1) := by decide +kernel
theorem dX0_takeTriples_30 : decode cX0_takeTriples 30 = .ok (.istore 5, 2) := by decide +kernel
theorem dX0_takeTriples_32 : decode cX0_takeTriples 32 = .ok (.iload 5, 2) := by decide +kernel
theorem dX0_takeTriples_34 : decode cX0_takeTriples 34 = .ok (.aload_n 0, 1) := by decide +kernel
theorem dX0_takeTriples_35 : decode cX0_takeTriples 35 = .ok (.getfield 9, 3) := by decide +kernel
theorem dX0_takeTriples_38 : decode cX0_takeTriples 38 = .ok (.if_icmp .ge 52, 3) := by decide +kernel
theorem dX0_takeTriples_41 : decode cX0_takeTriples 41 = .ok (.aload_n 1, 1) := by decide +kernel
theorem dX0_takeTriples_42 : decode cX0_takeTriples 42 = .ok (.iload_n 2, 1) := by decide +kernel
theorem dX0_takeTriples_43 : decode cX0_takeTriples 43 = .ok (.invokevirtual 33, 3) := by decide +kernel
theorem dX0_takeTriples_46 : decode cX0_takeTriples 46 = .ok (.istore 6, 2) := by decide +kernel
theorem dX0_takeTriples_48 : decode cX0_takeTriples 48 = .ok (.iload_n 3, 1) := by decide +kernel
theorem dX0_takeTriples_49 : decode cX0_takeTriples 49 = .ok (.ifCond .ne 16, 3) := by decide +kernel
theorem dX0_takeTriples_52 : decode cX0_takeTriples 52 = .ok (.aload_n 0, 1) := by decide +kernel
theorem dX0_takeTriples_53 : decode cX0_takeTriples 53 = .ok (.iload 4, 2) := by decide +kernel
theorem dX0_takeTriples_55 : decode cX0_takeTriples 55 = .ok (.iload 5, 2) := by decide +kernel
theorem dX0_takeTriples_57 : decode cX0_takeTriples 57 = .ok (.iload 6, 2) := by decide +kernel
theorem dX0_takeTriples_59 : decode cX0_takeTriples 59 = .ok (.invokevirtual 29, 3) := by decide +kernel
theorem dX0_takeTriples_62 : decode cX0_takeTriples 62 = .ok (.goto 19, 3) := by decide +kernel
theorem dX0_takeTriples_65 : decode cX0_takeTriples 65 = .ok (.aload_n 0, 1) := by decide +kernel
theorem dX0_takeTriples_66 : decode cX0_takeTriples 66 = .ok (.iload_n 3, 1) := by decide +kernel
theorem dX0_takeTriples_67 : decode cX0_takeTriples 67 = .ok (.iload 4, 2) := by decide +kernel
theorem dX0_takeTriples_69 : decode cX0_takeTriples 69 = .ok (.iload 5, 2) := by decide +kernel
theorem dX0_takeTriples_71 : decode cX0_takeTriples 71 = .ok (.invokevirtual 39, 3) := by decide +kernel
theorem dX0_takeTriples_74 : decode cX0_takeTriples 74 = .ok (.iload 6, 2) := by decide +kernel
theorem dX0_takeTriples_76 : decode cX0_takeTriples 76 = .ok (.if_icmp .eq 5, 3) := by decide +kernel
theorem dX0_takeTriples_79 : decode cX0_takeTriples 79 = .ok (.iconst 0, 1) := by decide +kernel
theorem dX0_takeTriples_80 : decode cX0_takeTriples 80 = .ok (.ireturn, 1) := by decide +kernel
theorem dX0_takeTriples_81 : decode cX0_takeTriples 81 = .ok (.iinc 2 1, 3) := by decide +kernel
theorem dX0_takeTriples_84 : decode cX0_takeTriples 84 = .ok (.iinc 5 1, 3) := by decide +kernel
theorem dX0_takeTriples_87 : decode cX0_takeTriples 87 = .ok (.goto (-55), 3) := by decide +kernel
theorem dX0_takeTriples_90 : decode cX0_takeTriples 90 = .ok (.iinc 4 1, 3) := by decide +kernel
theorem dX0_takeTriples_93 : decode cX0_takeTriples 93 = .ok (.goto (-76), 3) := by decide +kernel
theorem dX0_takeTriples_96 : decode cX0_takeTriples 96 = .ok (.iinc 3 1, 3) := by decide +kernel
theorem dX0_takeTriples_99 : decode cX0_takeTriples 99 = .ok (.goto (-95), 3) := by decide +kernel
theorem dX0_takeTriples_102 : decode cX0_takeTriples 102 = .ok (.iconst 1, 1) := by decide +kernel
theorem dX0_takeTriples_103 : decode cX0_takeTriples 103 = .ok (.ireturn, 1) := by decide +kernel
set_option maxRecDepth 20000 in
theorem ggX0_copySwitched_X0_switchBy : GoodIn wsX0_copySwitched wsX0_switchBy := goodIn_r _ [11, 1, 2, 12, 13, 14, 10, 15, 16, 17] (by decide +kernel) (by decide +kernel)
set_option maxRecDepth 20000 in
theorem gX0_copySwitched_X0_switchBy : GoodIn wsX0_copySwitched (wsV RX0 49 RX0 yX0_switchBy wsX0_switchBy) := goodIn_app (goodIn_of _ (by decide +kernel)) ggX0_copySwitched_X0_switchBy
theorem dX0_copySwitched_0 : decode cX0_copySwitched 0 = .ok (.aload_n 0, 1) := by decide +kernel
theorem dX0_copySwitched_1 : decode cX0_copySwitched 1 = .ok (.aload_n 1, 1) := by decide +kernel
theorem dX0_copySwitched_2 : decode cX0_copySwitched 2 = .ok (.getfield 9, 3) := by decide +kernel
theorem dX0_copySwitched_5 : decode cX0_copySwitched 5 = .ok (.putfield 9, 3) := by decide +kernel
theorem dX0_copySwitched_8 : decode cX0_copySwitched 8 = .ok (.aload_n 1, 1) := by decide +kernel
theorem dX0_copySwitched_9 : decode cX0_copySwitched 9 = .ok (.getfield 15, 3) := by decide +kernel
theorem dX0_copySwitched_12 : decode cX0_copySwitched 12 = .ok (.iconst 0, 1) := by decide +kernel
theorem dX0_copySwitched_13 : decode cX0_copySwitched 13 = .ok (.aload_n 0, 1) := by decide +kernel
theorem dX0_copySwitched_14 : decode cX0_copySwitched 14 = .ok (.getfield 15, 3) := by decide +kernel
theorem dX0_copySwitched_17 : decode cX0_copySwitched 17 = .ok (.iconst 0, 1) := by decide +kernel
theorem dX0_copySwitched_18 : decode cX0_copySwitched 18 = .ok (.bipush 7, 2) := by decide +kernel
theorem dX0_copySwitched_20 : decode cX0_copySwitched 20 = .ok (.invokestatic 43, 3) := by decide +kernel
theorem dX0_copySwitched_23 : decode cX0_copySwitched 23 = .ok (.aload_n 0, 1) := by decide +kernel
theorem dX0_copySwitched_24 : decode cX0_copySwitched 24 = .ok (.iload_n 2, 1) := by decide +kernel
theorem dX0_copySwitched_25 : decode cX0_copySwitched 25 = .ok (.invokevirtual 49, 3) := by decide +kernel
theorem dX0_copySwitched_28 : decode cX0_copySwitched 28 = .ok (.return_, 1) := by decide +kernel
set_option maxRecDepth 20000 in
theorem ggX0_switchBy_X0_allNodes : GoodIn wsX0_switchBy wsX0_allNodes := goodIn_r _ [7, 1, 8, 9] (by decide +kernel) (by decide +kernel)
set_option maxRecDepth 20000 in
theorem gX0_switchBy_X0_allNodes : GoodIn wsX0_switchBy (wsV RX0 53 RX0 yX0_allNodes wsX0_allNodes) := goodIn_app (goodIn_of _ (by decide +kernel)) ggX0_switchBy_X0_allNodes
theorem dX0_switchBy_0 : decode cX0_switchBy 0 = .ok (.aload_n 0, 1) := by decide +kernel
theorem dX0_switchBy_1 : decode cX0_switchBy 1 = .ok (.invokevirtual 53, 3) := by decide +kernel
theorem dX0_switchBy_4 : decode cX0_switchBy 4 = .ok (.iload_n 1, 1) := by decide +kernel
theorem dX0_switchBy_5 : decode cX0_switchBy 5 = .ok (.iconst (-1), 1) := by decide +kernel
theorem dX0_switchBy_6 : decode cX0_switchBy 6 = .ok (.ixor, 1) := by decide +kernel
theorem dX0_switchBy_7 : decode cX0_switchBy 7 = .ok (.iand, 1) := by decide +kernel
theorem dX0_switchBy_8 : decode cX0_switchBy 8 = .ok (.istore_n 2, 1) := by decide +kernel
theorem dX0_switchBy_9 : decode cX0_switchBy 9 = .ok (.iconst 0, 1) := by decide +kernel
theorem dX0_switchBy_10 : decode cX0_switchBy 10 = .ok (.istore_n 3, 1) := by decide +kernel
theorem dX0_switchBy_11 : decode cX0_switchBy 11 = .ok (.iload_n 3, 1) := by decide +kernel
theorem dX0_switchBy_12 : decode cX0_switchBy 12 = .ok (.aload_n 0, 1) := by decide +kernel
theorem dX0_switchBy_13 : decode cX0_switchBy 13 = .ok (.getfield 9, 3) := by decide +kernel
theorem dX0_switchBy_16 : decode cX0_switchBy 16 = .ok (.if_icmp .ge 32, 3) := by decide +kernel
theorem dX0_switchBy_19 : decode cX0_switchBy 19 = .ok (.aload_n 0, 1) := by decide +kernel
theorem dX0_switchBy_20 : decode cX0_switchBy 20 = .ok (.getfield 15, 3) := by decide +kernel
theorem dX0_switchBy_23 : decode cX0_switchBy 23 = .ok (.iload_n 3, 1) := by decide +kernel
theorem dX0_switchBy_24 : decode cX0_switchBy 24 = .ok (.dup2, 1) := by decide +kernel
theorem dX0_switchBy_25 : decode cX0_switchBy 25 = .ok (.iaload, 1) := by decide +kernel
theorem dX0_switchBy_26 : decode cX0_switchBy 26 = .ok (.iload_n 1, 1) := by decide +kernel
theorem dX0_switchBy_27 : decode cX0_switchBy 27 = .ok (.iload_n 3, 1) := by decide +kernel
theorem dX0_switchBy_28 : decode cX0_switchBy 28 = .ok (.ishr, 1) := by decide +kernel
theorem dX0_switchBy_29 : decode cX0_switchBy 29 = .ok (.iconst 1, 1) := by decide +kernel
theorem dX0_switchBy_30 : decode cX0_switchBy 30 = .ok (.iand, 1) := by decide +kernel
theorem dX0_switchBy_31 : decode cX0_switchBy 31 = .ok (.iconst 1, 1) := by decide +kernel
theorem dX0_switchBy_32 : decode cX0_switchBy 32 = .ok (.if_icmp .ne 7, 3) := by decide +kernel
theorem dX0_switchBy_35 : decode cX0_switchBy 35 = .ok (.iload_n 2, 1) := by decide +kernel
theorem dX0_switchBy_36 : decode cX0_switchBy 36 = .ok (.goto 4, 3) := by decide +kernel
theorem dX0_switchBy_39 : decode cX0_switchBy 39 = .ok (.iload_n 1, 1) := by decide +kernel
theorem dX0_switchBy_40 : decode cX0_switchBy 40 = .ok (.ixor, 1) := by decide +kernel
theorem dX0_switchBy_41 : decode cX0_switchBy 41 = .ok (.iastore, 1) := by decide +kernel
theorem dX0_switchBy_42 : decode cX0_switchBy 42 = .ok (.iinc 3 1, 3) := by decide +kernel
theorem dX0_switchBy_45 : decode cX0_switchBy 45 = .ok (.goto (-34), 3) := by decide +kernel
theorem dX0_switchBy_48 : decode cX0_switchBy 48 = .ok (.return_, 1) := by decide +kernel
set_option maxRecDepth 20000 in
theorem ggX0_leaveAlone_X0_switchBy : GoodIn wsX0_leaveAlone wsX0_switchBy := goodIn_r _ [6, 7, 1, 8, 9, 10, 5, 11, 12, 13] (by decide +kernel) (by decide +kernel)
set_option maxRecDepth 20000 in
theorem gX0_leaveAlone_X0_switchBy : GoodIn wsX0_leaveAlone (wsV RX0 49 RX0 yX0_switchBy wsX0_switchBy) := goodIn_app (goodIn_of _ (by decide +kernel)) ggX0_leaveAlone_X0_switchBy
theorem dX0_leaveAlone_0 : decode cX0_leaveAlone 0 = .ok (.aload_n 0, 1) := by decide +kernel
theorem dX0_leaveAlone_1 : decode cX0_leaveAlone 1 = .ok (.aload_n 0, 1) := by decide +kernel
theorem dX0_leaveAlone_2 : decode cX0_leaveAlone 2 = .ok (.getfield 15, 3) := by decide +kernel
theorem dX0_leaveAlone_5 : decode cX0_leaveAlone 5 = .ok (.iload_n 1, 1) := by decide +kernel
theorem dX0_leaveAlone_6 : decode cX0_leaveAlone 6 = .ok (.iaload, 1) := by decide +kernel
theorem dX0_leaveAlone_7 : decode cX0_leaveAlone 7 = .ok (.invokevirtual 49, 3) := by decide +kernel
theorem dX0_leaveAlone_10 : decode cX0_leaveAlone 10 = .ok (.return_, 1) := by decide +kernel
theorem dX0_drop_0 : decode cX0_drop 0 = .ok (.iconst 1, 1) := by decide +kernel
theorem dX0_drop_1 : decode cX0_drop 1 = .ok (.iload_n 1, 1) := by decide +kernel
theorem dX0_drop_2 : decode cX0_drop 2 = .ok (.ishl, 1) := by decide +kernel
theorem dX0_drop_3 : decode cX0_drop 3 = .ok (.iconst 1, 1) := by decide +kernel
theorem dX0_drop_4 : decode cX0_drop 4 = .ok (.isub, 1) := by decide +kernel
theorem dX0_drop_5 : decode cX0_drop 5 = .ok (.istore_n 2, 1) := by decide +kernel
theorem dX0_drop_6 : decode cX0_drop 6 = .ok (.iload_n 1, 1) := by decide +kernel
theorem dX0_drop_7 : decode cX0_drop 7 = .ok (.istore_n 3, 1) := by decide +kernel
theorem dX0_drop_8 : decode cX0_drop 8 = .ok (.iload_n 3, 1) := by decide +kernel
theorem dX0_drop_9 : decode cX0_drop 9 = .ok (.aload_n 0, 1) := by decide +kernel
theorem dX0_drop_10 : decode cX0_drop 10 = .ok (.getfield 9, 3) := by decide +kernel
theorem dX0_drop_13 : decode cX0_drop 13 = .ok (.iconst 1, 1) := by decide +kernel
theorem dX0_drop_14 : decode cX0_drop 14 = .ok (.isub, 1) := by decide +kernel
theorem dX0_drop_15 : decode cX0_drop 15 = .ok (.if_icmp .ge 23, 3) := by decide +kernel
theorem dX0_drop_18 : decode cX0_drop 18 = .ok (.aload_n 0, 1) := by decide +kernel
theorem dX0_drop_19 : decode cX0_drop 19 = .ok (.getfield 15, 3) := by decide +kernel
theorem dX0_drop_22 : decode cX0_drop 22 = .ok (.iload_n 3, 1) := by decide +kernel
theorem dX0_drop_23 : decode cX0_drop 23 = .ok (.aload_n 0, 1) := by decide +kernel
theorem dX0_drop_24 : decode cX0_drop 24 = .ok (.getfield 15, 3) := by decide +kernel
theorem dX0_drop_27 : decode cX0_drop 27 = .ok (.iload_n 3, 1) := by decide +kernel
theorem dX0_drop_28 : decode cX0_drop 28 = .ok (.iconst 1, 1) := by decide +kernel
theorem dX0_drop_29 : decode cX0_drop 29 = .ok (.iadd, 1) := by decide +kernel
theorem dX0_drop_30 : decode cX0_drop 30 = .ok (.iaload, 1) := by decide +kernel
theorem dX0_drop_31 : decode cX0_drop 31 = .ok (.iastore, 1) := by decide +kernel
theorem dX0_drop_32 : decode cX0_drop 32 = .ok (.iinc 3 1, 3) := by decide +kernel
theorem dX0_drop_35 : decode cX0_drop 35 = .ok (.goto (-27), 3) := by decide +kernel
theorem dX0_drop_38 : decode cX0_drop 38 = .ok (.aload_n 0, 1) := by decide +kernel
theorem dX0_drop_39 : decode cX0_drop 39 = .ok (.dup, 1) := by decide +kernel
theorem dX0_drop_40 : decode cX0_drop 40 = .ok (.getfield 9, 3) := by decide +kernel
theorem dX0_drop_43 : decode cX0_drop 43 = .ok (.iconst 1, 1) := by decide +kernel
theorem dX0_drop_44 : decode cX0_drop 44 = .ok (.isub, 1) := by decide +kernel
theorem dX0_drop_45 : decode cX0_drop 45 = .ok (.putfield 9, 3) := by decide +kernel
theorem dX0_drop_48 : decode cX0_drop 48 = .ok (.iconst 0, 1) := by decide +kernel
theorem dX0_drop_49 : decode cX0_drop 49 = .ok (.istore_n 3, 1) := by decide +kernel
theorem dX0_drop_50 : decode cX0_drop 50 = .ok (.iload_n 3, 1) := by decide +kernel
theorem dX0_drop_51 : decode cX0_drop 51 = .ok (.aload_n 0, 1) := by decide +kernel
theorem dX0_drop_52 : decode cX0_drop 52 = .ok (.getfield 9, 3) := by decide +kernel
theorem dX0_drop_55 : decode cX0_drop 55 = .ok (.if_icmp .ge 36, 3) := by decide +kernel
theorem dX0_drop_58 : decode cX0_drop 58 = .ok (.aload_n 0, 1) := by decide +kernel
theorem dX0_drop_59 : decode cX0_drop 59 = .ok (.getfield 15, 3) := by decide +kernel
theorem dX0_drop_62 : decode cX0_drop 62 = .ok (.iload_n 3, 1) := by decide +kernel
theorem dX0_drop_63 : decode cX0_drop 63 = .ok (.aload_n 0, 1) := by decide +kernel
theorem dX0_drop_64 : decode cX0_drop 64 = .ok (.getfield 15, 3) := by decide +kernel
theorem dX0_drop_67 : decode cX0_drop 67 = .ok (.iload_n 3, 1) := by decide +kernel
theorem dX0_drop_68 : decode cX0_drop 68 = .ok (.iaload, 1) := by decide +kernel
theorem dX0_drop_69 : decode cX0_drop 69 = .ok (.iload_n 2, 1) := by decide +kernel
theorem dX0_drop_70 : decode cX0_drop 70 = .ok (.iand, 1) := by decide +kernel
theorem dX0_drop_71 : decode cX0_drop 71 = .ok (.aload_n 0, 1) := by decide +kernel
theorem dX0_drop_72 : decode cX0_drop 72 = .ok (.getfield 15, 3) := by decide +kernel
theorem dX0_drop_75 : decode cX0_drop 75 = .ok (.iload_n 3, 1) := by decide +kernel
theorem dX0_drop_76 : decode cX0_drop 76 = .ok (.iaload, 1) := by decide +kernel
theorem dX0_drop_77 : decode cX0_drop 77 = .ok (.iconst 1, 1) := by decide +kernel
theorem dX0_drop_78 : decode cX0_drop 78 = .ok (.ishr, 1) := by decide +kernel
theorem dX0_drop_79 : decode cX0_drop 79 = .ok (.iload_n 2, 1) := by decide +kernel
theorem dX0_drop_80 : decode cX0_drop 80 = .ok (.iconst (-1), 1) := by decide +kernel
theorem dX0_drop_81 : decode cX0_drop 81 = .ok (.ixor, 1) := by decide +kernel
theorem dX0_drop_82 : decode cX0_drop 82 = .ok (.iand, 1) := by decide +kernel
theorem dX0_drop_83 : decode cX0_drop 83 = .ok (.ior, 1) := by decide +kernel
theorem dX0_drop_84 : decode cX0_drop 84 = .ok (.iastore, 1) := by decide +kernel
theorem dX0_drop_85 : decode cX0_drop 85 = .ok (.iinc 3 1, 3) := by decide +kernel
theorem dX0_drop_88 : decode cX0_drop 88 = .ok (.goto (-38), 3) := by decide +kernel
theorem dX0_drop_91 : decode cX0_drop 91 = .ok (.return_, 1) := by decide +kernel
theorem dX0_allNodes_0 : decode cX0_allNodes 0 = .ok (.iconst 1, 1) := by decide +kernel
theorem dX0_allNodes_1 : decode cX0_allNodes 1 = .ok (.aload_n 0, 1) := by decide +kernel
theorem dX0_allNodes_2 : decode cX0_allNodes 2 = .ok (.getfield 9, 3) := by decide +kernel
theorem dX0_allNodes_5 : decode cX0_allNodes 5 = .ok (.ishl, 1) := by decide +kernel
theorem dX0_allNodes_6 : decode cX0_allNodes 6 = .ok (.iconst 1, 1) := by decide +kernel
theorem dX0_allNodes_7 : decode cX0_allNodes 7 = .ok (.isub, 1) := by decide +kernel
theorem dX0_allNodes_8 : decode cX0_allNodes 8 = .ok (.ireturn, 1) := by decide +kernel
set_option maxRecDepth 20000 in
theorem ggX0_number_X0_joined : GoodIn wsX0_number wsX0_joined := goodIn_r _ [6, 7, 8, 9] (by decide +kernel) (by decide +kernel)
set_option maxRecDepth 20000 in
theorem gX0_number_X0_joined : GoodIn wsX0_number (wsV RX0 57 RX0 yX0_joined wsX0_joined) := goodIn_app (goodIn_of _ (by decide +kernel)) ggX0_number_X0_joined
theorem dX0_number_0 : decode cX0_number 0 = .ok (.iconst 0, 1) := by decide +kernel
theorem dX0_number_1 : decode cX0_number 1 = .ok (.istore_n 1, 1) := by decide +kernel
theorem dX0_number_2 : decode cX0_number 2 = .ok (.iconst 0, 1) := by decide +kernel
theorem dX0_number_3 : decode cX0_number 3 = .ok (.istore_n 2, 1) := by decide +kernel
theorem dX0_number_4 : decode cX0_number 4 = .ok (.iload_n 2, 1) := by decide +kernel
theorem dX0_number_5 : decode cX0_number 5 = .ok (.aload_n 0, 1) := by decide +kernel
theorem dX0_number_6 : decode cX0_number 6 = .ok (.getfield 9, 3) := by decide +kernel
theorem dX0_number_9 : decode cX0_number 9 = .ok (.if_icmp .ge 38, 3) := by decide +kernel
theorem dX0_number_12 : decode cX0_number 12 = .ok (.iload_n 2, 1) := by decide +kernel
theorem dX0_number_13 : decode cX0_number 13 = .ok (.iconst 1, 1) := by decide +kernel
theorem dX0_number_14 : decode cX0_number 14 = .ok (.iadd, 1) := by decide +kernel
theorem dX0_number_15 : decode cX0_number 15 = .ok (.istore_n 3, 1) := by decide +kernel
theorem dX0_number_16 : decode cX0_number 16 = .ok (.iload_n 3, 1) := by decide +kernel
theorem dX0_number_17 : decode cX0_number 17 = .ok (.aload_n 0, 1) := by decide +kernel
theorem dX0_number_18 : decode cX0_number 18 = .ok (.getfield 9, 3) := by decide +kernel
theorem dX0_number_21 : decode cX0_number 21 = .ok (.if_icmp .ge 20, 3) := by decide +kernel
theorem dX0_number_24 : decode cX0_number 24 = .ok (.iload_n 1, 1) := by decide +kernel
theorem dX0_number_25 : decode cX0_number 25 = .ok (.iconst 1, 1) := by decide +kernel
theorem dX0_number_26 : decode cX0_number 26 = .ok (.ishl, 1) := by decide +kernel
theorem dX0_number_27 : decode cX0_number 27 = .ok (.aload_n 0, 1) := by decide +kernel
theorem dX0_number_28 : decode cX0_number 28 = .ok (.iload_n 2, 1) := by decide +kernel
theorem dX0_number_29 : decode cX0_number 29 = .ok (.iload_n 3, 1) := by decide +kernel
theorem dX0_number_30 : decode cX0_number 30 = .ok (.invokevirtual 57, 3) := by decide +kernel
theorem dX0_number_33 : decode cX0_number 33 = .ok (.ior, 1) := by decide +kernel
theorem dX0_number_34 : decode cX0_number 34 = .ok (.istore_n 1, 1) := by decide +kernel
theorem dX0_number_35 : decode cX0_number 35 = .ok (.iinc 3 1, 3) := by decide +kernel
theorem dX0_number_38 : decode cX0_number 38 = .ok (.goto (-22), 3) := by decide +kernel
theorem dX0_number_41 : decode cX0_number 41 = .ok (.iinc 2 1, 3) := by decide +kernel
theorem dX0_number_44 : decode cX0_number 44 = .ok (.goto (-40), 3) := by decide +kernel
theorem dX0_number_47 : decode cX0_number 47 = .ok (.iload_n 1, 1) := by decide +kernel
theorem dX0_number_48 : decode cX0_number 48 = .ok (.ireturn, 1) := by decide +kernel
theorem dX0_joined_0 : decode cX0_joined 0 = .ok (.aload_n 0, 1) := by decide +kernel
theorem dX0_joined_1 : decode cX0_joined 1 = .ok (.getfield 15, 3) := by decide +kernel
theorem dX0_joined_4 : decode cX0_joined 4 = .ok (.iload_n 1, 1) := by decide +kernel
theorem dX0_joined_5 : decode cX0_joined 5 = .ok (.iaload, 1) := by decide +kernel
theorem dX0_joined_6 : decode cX0_joined 6 = .ok (.iload_n 2, 1) := by decide +kernel
theorem dX0_joined_7 : decode cX0_joined 7 = .ok (.ishr, 1) := by decide +kernel
theorem dX0_joined_8 : decode cX0_joined 8 = .ok (.iconst 1, 1) := by decide +kernel
theorem dX0_joined_9 : decode cX0_joined 9 = .ok (.iand, 1) := by decide +kernel
theorem dX0_joined_10 : decode cX0_joined 10 = .ok (.ireturn, 1) := by decide +kernel
set_option maxRecDepth 20000 in
theorem ggX0_degree_J6_bitCount_0f7a4 : GoodIn wsX0_degree wsJ6_bitCount_0f7a4 := goodIn_r _ [5, 6, 7, 8] (by decide +kernel) (by decide +kernel)
set_option maxRecDepth 20000 in
theorem gX0_degree_J6_bitCount_0f7a4 : GoodIn wsX0_degree (va_wsS RX0 61 yJ6_bitCount_0f7a4 wsJ6_bitCount_0f7a4) := goodIn_app (goodIn_of _ (by decide +kernel)) ggX0_degree_J6_bitCount_0f7a4
theorem dX0_degree_0 : decode cX0_degree 0 = .ok (.aload_n 0, 1) := by decide +kernel
theorem dX0_degree_1 : decode cX0_degree 1 = .ok (.getfield 15, 3) := by decide +kernel
theorem dX0_degree_4 : decode cX0_degree 4 = .ok (.iload_n 1, 1) := by decide +kernel
theorem dX0_degree_5 : decode cX0_degree 5 = .ok (.iaload, 1) := by decide +kernel
theorem dX0_degree_6 : decode cX0_degree 6 = .ok (.invokestatic 61, 3) := by decide +kernel
theorem dX0_degree_9 : decode cX0_degree 9 = .ok (.ireturn, 1) := by decide +kernel
set_option maxRecDepth 20000 in
theorem ggX0_shared_J6_bitCount_0f7a4 : GoodIn wsX0_shared wsJ6_bitCount_0f7a4 := goodIn_r _ [5, 6, 7, 8] (by decide +kernel) (by decide +kernel)
set_option maxRecDepth 20000 in
theorem gX0_shared_J6_bitCount_0f7a4 : GoodIn wsX0_shared (va_wsS RX0 61 yJ6_bitCount_0f7a4 wsJ6_bitCount_0f7a4) := goodIn_app (goodIn_of _ (by decide +kernel)) ggX0_shared_J6_bitCount_0f7a4
theorem dX0_shared_0 : decode cX0_shared 0 = .ok (.aload_n 0, 1) := by decide +kernel
theorem dX0_shared_1 : decode cX0_shared 1 = .ok (.getfield 15, 3) := by decide +kernel
theorem dX0_shared_4 : decode cX0_shared 4 = .ok (.iload_n 1, 1) := by decide +kernel
theorem dX0_shared_5 : decode cX0_shared 5 = .ok (.iaload, 1) := by decide +kernel
theorem dX0_shared_6 : decode cX0_shared 6 = .ok (.aload_n 0, 1) := by decide +kernel
theorem dX0_shared_7 : decode cX0_shared 7 = .ok (.getfield 15, 3) := by decide +kernel
theorem dX0_shared_10 : decode cX0_shared 10 = .ok (.iload_n 2, 1) := by decide +kernel
theorem dX0_shared_11 : decode cX0_shared 11 = .ok (.iaload, 1) := by decide +kernel
theorem dX0_shared_12 : decode cX0_shared 12 = .ok (.iand, 1) := by decide +kernel
theorem dX0_shared_13 : decode cX0_shared 13 = .ok (.invokestatic 61, 3) := by decide +kernel
theorem dX0_shared_16 : decode cX0_shared 16 = .ok (.ireturn, 1) := by decide +kernel
set_option maxRecDepth 20000 in
theorem ggX0_joinedPairs_X0_degree : GoodIn wsX0_joinedPairs wsX0_degree := goodIn_r _ [6, 7, 8, 9, 10, 11, 12, 13, 14, 15, 16] (by decide +kernel) (by decide +kernel)
set_option maxRecDepth 20000 in
theorem gX0_joinedPairs_X0_degree : GoodIn wsX0_joinedPairs (wsV RX0 66 RX0 yX0_degree wsX0_degree) := goodIn_app (goodIn_of _ (by decide +kernel)) ggX0_joinedPairs_X0_degree
theorem dX0_joinedPairs_0 : decode cX0_joinedPairs 0 = .ok (.iconst 0, 1) := by decide +kernel
theorem dX0_joinedPairs_1 : decode cX0_joinedPairs 1 = .ok (.istore_n 1, 1) := by decide +kernel
theorem dX0_joinedPairs_2 : decode cX0_joinedPairs 2 = .ok (.iconst 0, 1) := by decide +kernel
theorem dX0_joinedPairs_3 : decode cX0_joinedPairs 3 = .ok (.istore_n 2, 1) := by decide +kernel
theorem dX0_joinedPairs_4 : decode cX0_joinedPairs 4 = .ok (.iload_n 2, 1) := by decide +kernel
theorem dX0_joinedPairs_5 : decode cX0_joinedPairs 5 = .ok (.aload_n 0, 1) := by decide +kernel
theorem dX0_joinedPairs_6 : decode cX0_joinedPairs 6 = .ok (.getfield 9, 3) := by decide +kernel
theorem dX0_joinedPairs_9 : decode cX0_joinedPairs 9 = .ok (.if_icmp .ge 17, 3) := by decide +kernel
theorem dX0_joinedPairs_12 : decode cX0_joinedPairs 12 = .ok (.iload_n 1, 1) := by decide +kernel
theorem dX0_joinedPairs_13 : decode cX0_joinedPairs 13 = .ok (.aload_n 0, 1) := by decide +kernel
theorem dX0_joinedPairs_14 : decode cX0_joinedPairs 14 = .ok (.iload_n 2, 1) := by decide +kernel
theorem dX0_joinedPairs_15 : decode cX0_joinedPairs 15 = .ok (.invokevirtual 66, 3) := by decide +kernel
theorem dX0_joinedPairs_18 : decode cX0_joinedPairs 18 = .ok (.iadd, 1) := by decide +kernel
theorem dX0_joinedPairs_19 : decode cX0_joinedPairs 19 = .ok (.istore_n 1, 1) := by decide +kernel
theorem dX0_joinedPairs_20 : decode cX0_joinedPairs 20 = .ok (.iinc 2 1, 3) := by decide +kernel
theorem dX0_joinedPairs_23 : decode cX0_joinedPairs 23 = .ok (.goto (-19), 3) := by decide +kernel
theorem dX0_joinedPairs_26 : decode cX0_joinedPairs 26 = .ok (.iload_n 1, 1) := by decide +kernel
theorem dX0_joinedPairs_27 : decode cX0_joinedPairs 27 = .ok (.iconst 2, 1) := by decide +kernel
theorem dX0_joinedPairs_28 : decode cX0_joinedPairs 28 = .ok (.idiv, 1) := by decide +kernel
theorem dX0_joinedPairs_29 : decode cX0_joinedPairs 29 = .ok (.ireturn, 1) := by decide +kernel
set_option maxRecDepth 20000 in
theorem ggX0_isOdd_X0_joined : GoodIn wsX0_isOdd wsX0_joined := goodIn_r _ [5, 6, 7, 8] (by decide +kernel) (by decide +kernel)
set_option maxRecDepth 20000 in
theorem gX0_isOdd_X0_joined : GoodIn wsX0_isOdd (wsV RX0 57 RX0 yX0_joined wsX0_joined) := goodIn_app (goodIn_of _ (by decide +kernel)) ggX0_isOdd_X0_joined
theorem dX0_isOdd_0 : decode cX0_isOdd 0 = .ok (.aload_n 0, 1) := by decide +kernel
theorem dX0_isOdd_1 : decode cX0_isOdd 1 = .ok (.iload_n 1, 1) := by decide +kernel
theorem dX0_isOdd_2 : decode cX0_isOdd 2 = .ok (.iload_n 2, 1) := by decide +kernel
theorem dX0_isOdd_3 : decode cX0_isOdd 3 = .ok (.invokevirtual 57, 3) := by decide +kernel
theorem dX0_isOdd_6 : decode cX0_isOdd 6 = .ok (.aload_n 0, 1) := by decide +kernel
theorem dX0_isOdd_7 : decode cX0_isOdd 7 = .ok (.iload_n 1, 1) := by decide +kernel
theorem dX0_isOdd_8 : decode cX0_isOdd 8 = .ok (.iload_n 3, 1) := by decide +kernel
theorem dX0_isOdd_9 : decode cX0_isOdd 9 = .ok (.invokevirtual 57, 3) := by decide +kernel
theorem dX0_isOdd_12 : decode cX0_isOdd 12 = .ok (.ixor, 1) := by decide +kernel
theorem dX0_isOdd_13 : decode cX0_isOdd 13 = .ok (.aload_n 0, 1) := by decide +kernel
theorem dX0_isOdd_14 : decode cX0_isOdd 14 = .ok (.iload_n 2, 1) := by decide +kernel
theorem dX0_isOdd_15 : decode cX0_isOdd 15 = .ok (.iload_n 3, 1) := by decide +kernel
theorem dX0_isOdd_16 : decode cX0_isOdd 16 = .ok (.invokevirtual 57, 3) := by decide +kernel
theorem dX0_isOdd_19 : decode cX0_isOdd 19 = .ok (.ixor, 1) := by decide +kernel
theorem dX0_isOdd_20 : decode cX0_isOdd 20 = .ok (.iconst 1, 1) := by decide +kernel
theorem dX0_isOdd_21 : decode cX0_isOdd 21 = .ok (.if_icmp .ne 7, 3) := by decide +kernel
theorem dX0_isOdd_24 : decode cX0_isOdd 24 = .ok (.iconst 1, 1) := by decide +kernel
theorem dX0_isOdd_25 : decode cX0_isOdd 25 = .ok (.goto 4, 3) := by decide +kernel
theorem dX0_isOdd_28 : decode cX0_isOdd 28 = .ok (.iconst 0, 1) := by decide +kernel
theorem dX0_isOdd_29 : decode cX0_isOdd 29 = .ok (.ireturn, 1) := by decide +kernel
set_option maxRecDepth 20000 in
theorem ggX0_oddTriplesAtPair_X0_joined : GoodIn wsX0_oddTriplesAtPair wsX0_joined := goodIn_r _ [6, 1, 19, 20] (by decide +kernel) (by decide +kernel)
set_option maxRecDepth 20000 in
theorem gX0_oddTriplesAtPair_X0_joined : GoodIn wsX0_oddTriplesAtPair (wsV RX0 57 RX0 yX0_joined wsX0_joined) := goodIn_app (goodIn_of _ (by decide +kernel)) ggX0_oddTriplesAtPair_X0_joined
set_option maxRecDepth 20000 in
theorem ggX0_oddTriplesAtPair_X0_allNodes : GoodIn wsX0_oddTriplesAtPair wsX0_allNodes := goodIn_r _ [10, 11, 19, 20] (by decide +kernel) (by decide +kernel)
set_option maxRecDepth 20000 in
theorem gX0_oddTriplesAtPair_X0_allNodes : GoodIn wsX0_oddTriplesAtPair (wsV RX0 53 RX0 yX0_allNodes wsX0_allNodes) := goodIn_app (goodIn_of _ (by decide +kernel)) ggX0_oddTriplesAtPair_X0_allNodes
set_option maxRecDepth 20000 in
theorem ggX0_oddTriplesAtPair_J6_bitCount_0f7a4 : GoodIn wsX0_oddTriplesAtPair wsJ6_bitCount_0f7a4 := goodIn_r _ [15, 16, 17, 18] (by decide +kernel) (by decide +kernel)
set_option maxRecDepth 20000 in
theorem gX0_oddTriplesAtPair_J6_bitCount_0f7a4 : GoodIn wsX0_oddTriplesAtPair (va_wsS RX0 61 yJ6_bitCount_0f7a4 wsJ6_bitCount_0f7a4) := goodIn_app (goodIn_of _ (by decide +kernel)) ggX0_oddTriplesAtPair_J6_bitCount_0f7a4
theorem dX0_oddTriplesAtPair_0 : decode cX0_oddTriplesAtPair 0 = .ok (.aload_n 0, 1) := by decide +kernel
theorem dX0_oddTriplesAtPair_1 : decode cX0_oddTriplesAtPair 1 = .ok (.getfield 15, 3) := by decide +kernel
theorem dX0_oddTriplesAtPair_4 : decode cX0_oddTriplesAtPair 4 = .ok (.iload_n 1, 1) := by decide +kernel
theorem dX0_oddTriplesAtPair_5 : decode cX0_oddTriplesAtPair 5 = .ok (.iaload, 1) := by decide +kernel
theorem dX0_oddTriplesAtPair_6 : decode cX0_oddTriplesAtPair 6 = .ok (.aload_n 0, 1) := by decide +kernel
theorem dX0_oddTriplesAtPair_7 : decode cX0_oddTriplesAtPair 7 = .ok (.getfield 15, 3) := by decide +kernel
theorem dX0_oddTriplesAtPair_10 : decode cX0_oddTriplesAtPair 10 = .ok (.iload_n 2, 1) := by decide +kernel
theorem dX0_oddTriplesAtPair_11 : decode cX0_oddTriplesAtPair 11 = .ok (.iaload, 1) := by decide +kernel
theorem dX0_oddTriplesAtPair_12 : decode cX0_oddTriplesAtPair 12 = .ok (.ixor, 1) := by decide +kernel
theorem dX0_oddTriplesAtPair_13 : decode cX0_oddTriplesAtPair 13 = .ok (.istore_n 3, 1) := by decide +kernel
theorem dX0_oddTriplesAtPair_14 : decode cX0_oddTriplesAtPair 14 = .ok (.aload_n 0, 1) := by decide +kernel
theorem dX0_oddTriplesAtPair_15 : decode cX0_oddTriplesAtPair 15 = .ok (.iload_n 1, 1) := by decide +kernel
theorem dX0_oddTriplesAtPair_16 : decode cX0_oddTriplesAtPair 16 = .ok (.iload_n 2, 1) := by decide +kernel
theorem dX0_oddTriplesAtPair_17 : decode cX0_oddTriplesAtPair 17 = .ok (.invokevirtual 57, 3) := by decide +kernel
theorem dX0_oddTriplesAtPair_20 : decode cX0_oddTriplesAtPair 20 = .ok (.iconst 1, 1) := by decide +kernel
theorem dX0_oddTriplesAtPair_21 : decode cX0_oddTriplesAtPair 21 = .ok (.if_icmp .ne 7, 3) := by decide +kernel
theorem dX0_oddTriplesAtPair_24 : decode cX0_oddTriplesAtPair 24 = .ok (.iload_n 3, 1) := by decide +kernel
theorem dX0_oddTriplesAtPair_25 : decode cX0_oddTriplesAtPair 25 = .ok (.iconst (-1), 1) := by decide +kernel
theorem dX0_oddTriplesAtPair_26 : decode cX0_oddTriplesAtPair 26 = .ok (.ixor, 1) := by decide +kernel
theorem dX0_oddTriplesAtPair_27 : decode cX0_oddTriplesAtPair 27 = .ok (.istore_n 3, 1) := by decide +kernel
theorem dX0_oddTriplesAtPair_28 : decode cX0_oddTriplesAtPair 28 = .ok (.iload_n 3, 1) := by decide +kernel
theorem dX0_oddTriplesAtPair_29 : decode cX0_oddTriplesAtPair 29 = .ok (.aload_n 0, 1) := by decide +kernel
theorem dX0_oddTriplesAtPair_30 : decode cX0_oddTriplesAtPair 30 = .ok (.invokevirtual 53, 3) := by decide +kernel
theorem dX0_oddTriplesAtPair_33 : decode cX0_oddTriplesAtPair 33 = .ok (.iand, 1) := by decide +kernel
theorem dX0_oddTriplesAtPair_34 : decode cX0_oddTriplesAtPair 34 = .ok (.iconst 1, 1) := by decide +kernel
theorem dX0_oddTriplesAtPair_35 : decode cX0_oddTriplesAtPair 35 = .ok (.iload_n 1, 1) := by decide +kernel
theorem dX0_oddTriplesAtPair_36 : decode cX0_oddTriplesAtPair 36 = .ok (.ishl, 1) := by decide +kernel
theorem dX0_oddTriplesAtPair_37 : decode cX0_oddTriplesAtPair 37 = .ok (.iconst 1, 1) := by decide +kernel
theorem dX0_oddTriplesAtPair_38 : decode cX0_oddTriplesAtPair 38 = .ok (.iload_n 2, 1) := by decide +kernel
theorem dX0_oddTriplesAtPair_39 : decode cX0_oddTriplesAtPair 39 = .ok (.ishl, 1) := by decide +kernel
theorem dX0_oddTriplesAtPair_40 : decode cX0_oddTriplesAtPair 40 = .ok (.ior, 1) := by decide +kernel
theorem dX0_oddTriplesAtPair_41 : decode cX0_oddTriplesAtPair 41 = .ok (.iconst (-1), 1) := by decide +kernel
theorem dX0_oddTriplesAtPair_42 : decode cX0_oddTriplesAtPair 42 = .ok (.ixor, 1) := by decide +kernel
theorem dX0_oddTriplesAtPair_43 : decode cX0_oddTriplesAtPair 43 = .ok (.iand, 1) := by decide +kernel
theorem dX0_oddTriplesAtPair_44 : decode cX0_oddTriplesAtPair 44 = .ok (.invokestatic 61, 3) := by decide +kernel
theorem dX0_oddTriplesAtPair_47 : decode cX0_oddTriplesAtPair 47 = .ok (.ireturn, 1) := by decide +kernel
set_option maxRecDepth 20000 in
theorem ggX0_oddTriplesAtNode_X0_oddTriplesAtPair : GoodIn wsX0_oddTriplesAtNode wsX0_oddTriplesAtPair := goodIn_r _ [6, 7, 8, 9, 10, 5, 11, 12, 13, 14, 15, 1, 16, 17, 18, 19, 20, 21, 22, 23, 24] (by decide +kernel) (by decide +kernel)
set_option maxRecDepth 20000 in
theorem gX0_oddTriplesAtNode_X0_oddTriplesAtPair : GoodIn wsX0_oddTriplesAtNode (wsV RX0 69 RX0 yX0_oddTriplesAtPair wsX0_oddTriplesAtPair) := goodIn_app (goodIn_of _ (by decide +kernel)) ggX0_oddTriplesAtNode_X0_oddTriplesAtPair
theorem dX0_oddTriplesAtNode_0 : decode cX0_oddTriplesAtNode 0 = .ok (.iconst 0, 1) := by decide +kernel
theorem dX0_oddTriplesAtNode_1 : decode cX0_oddTriplesAtNode 1 = .ok (.istore_n 2, 1) := by decide +kernel
theorem dX0_oddTriplesAtNode_2 : decode cX0_oddTriplesAtNode 2 = .ok (.iconst 0, 1) := by decide +kernel
theorem dX0_oddTriplesAtNode_3 : decode cX0_oddTriplesAtNode 3 = .ok (.istore_n 3, 1) := by decide +kernel
theorem dX0_oddTriplesAtNode_4 : decode cX0_oddTriplesAtNode 4 = .ok (.iload_n 3, 1) := by decide +kernel
theorem dX0_oddTriplesAtNode_5 : decode cX0_oddTriplesAtNode 5 = .ok (.aload_n 0, 1) := by decide +kernel
theorem dX0_oddTriplesAtNode_6 : decode cX0_oddTriplesAtNode 6 = .ok (.getfield 9, 3) := by decide +kernel
theorem dX0_oddTriplesAtNode_9 : decode cX0_oddTriplesAtNode 9 = .ok (.if_icmp .ge 23, 3) := by decide +kernel
theorem dX0_oddTriplesAtNode_12 : decode cX0_oddTriplesAtNode 12 = .ok (.iload_n 3, 1) := by decide +kernel
theorem dX0_oddTriplesAtNode_13 : decode cX0_oddTriplesAtNode 13 = .ok (.iload_n 1, 1) := by decide +kernel
theorem dX0_oddTriplesAtNode_14 : decode cX0_oddTriplesAtNode 14 = .ok (.if_icmp .eq 12, 3) := by decide +kernel
theorem dX0_oddTriplesAtNode_17 : decode cX0_oddTriplesAtNode 17 = .ok (.iload_n 2, 1) := by decide +kernel
theorem dX0_oddTriplesAtNode_18 : decode cX0_oddTriplesAtNode 18 = .ok (.aload_n 0, 1) := by decide +kernel
theorem dX0_oddTriplesAtNode_19 : decode cX0_oddTriplesAtNode 19 = .ok (.iload_n 1, 1) := by decide +kernel
theorem dX0_oddTriplesAtNode_20 : decode cX0_oddTriplesAtNode 20 = .ok (.iload_n 3, 1) := by decide +kernel
theorem dX0_oddTriplesAtNode_21 : decode cX0_oddTriplesAtNode 21 = .ok (.invokevirtual 69, 3) := by decide +kernel
theorem dX0_oddTriplesAtNode_24 : decode cX0_oddTriplesAtNode 24 = .ok (.iadd, 1) := by decide +kernel
theorem dX0_oddTriplesAtNode_25 : decode cX0_oddTriplesAtNode 25 = .ok (.istore_n 2, 1) := by decide +kernel
theorem dX0_oddTriplesAtNode_26 : decode cX0_oddTriplesAtNode 26 = .ok (.iinc 3 1, 3) := by decide +kernel
theorem dX0_oddTriplesAtNode_29 : decode cX0_oddTriplesAtNode 29 = .ok (.goto (-25), 3) := by decide +kernel
theorem dX0_oddTriplesAtNode_32 : decode cX0_oddTriplesAtNode 32 = .ok (.iload_n 2, 1) := by decide +kernel
theorem dX0_oddTriplesAtNode_33 : decode cX0_oddTriplesAtNode 33 = .ok (.iconst 2, 1) := by decide +kernel
theorem dX0_oddTriplesAtNode_34 : decode cX0_oddTriplesAtNode 34 = .ok (.idiv, 1) := by decide +kernel
theorem dX0_oddTriplesAtNode_35 : decode cX0_oddTriplesAtNode 35 = .ok (.ireturn, 1) := by decide +kernel
set_option maxRecDepth 20000 in
theorem ggX0_oddTriples_X0_oddTriplesAtNode : GoodIn wsX0_oddTriples wsX0_oddTriplesAtNode := goodIn_r _ [6, 1, 7, 8, 9, 5, 10, 11, 12, 13, 14, 15, 16, 17, 18, 19, 20, 21, 22, 23, 24, 25, 26, 27, 28] (by decide +kernel) (by decide +kernel)
set_option maxRecDepth 20000 in
theorem gX0_oddTriples_X0_oddTriplesAtNode : GoodIn wsX0_oddTriples (wsV RX0 72 RX0 yX0_oddTriplesAtNode wsX0_oddTriplesAtNode) := goodIn_app (goodIn_of _ (by decide +kernel)) ggX0_oddTriples_X0_oddTriplesAtNode
theorem dX0_oddTriples_0 : decode cX0_oddTriples 0 = .ok (.iconst 0, 1) := by decide +kernel
theorem dX0_oddTriples_1 : decode cX0_oddTriples 1 = .ok (.istore_n 1, 1) := by decide +kernel
theorem dX0_oddTriples_2 : decode cX0_oddTriples 2 = .ok (.iconst 0, 1) := by decide +kernel
theorem dX0_oddTriples_3 : decode cX0_oddTriples 3 = .ok (.istore_n 2, 1) := by decide +kernel
theorem dX0_oddTriples_4 : decode cX0_oddTriples 4 = .ok (.iload_n 2, 1) := by decide +kernel
theorem dX0_oddTriples_5 : decode cX0_oddTriples 5 = .ok (.aload_n 0, 1) := by decide +kernel
theorem dX0_oddTriples_6 : decode cX0_oddTriples 6 = .ok (.getfield 9, 3) := by decide +kernel
theorem dX0_oddTriples_9 : decode cX0_oddTriples 9 = .ok (.if_icmp .ge 17, 3) := by decide +kernel
theorem dX0_oddTriples_12 : decode cX0_oddTriples 12 = .ok (.iload_n 1, 1) := by decide +kernel
theorem dX0_oddTriples_13 : decode cX0_oddTriples 13 = .ok (.aload_n 0, 1) := by decide +kernel
theorem dX0_oddTriples_14 : decode cX0_oddTriples 14 = .ok (.iload_n 2, 1) := by decide +kernel
theorem dX0_oddTriples_15 : decode cX0_oddTriples 15 = .ok (.invokevirtual 72, 3) := by decide +kernel
theorem dX0_oddTriples_18 : decode cX0_oddTriples 18 = .ok (.iadd, 1) := by decide +kernel
theorem dX0_oddTriples_19 : decode cX0_oddTriples 19 = .ok (.istore_n 1, 1) := by decide +kernel
theorem dX0_oddTriples_20 : decode cX0_oddTriples 20 = .ok (.iinc 2 1, 3) := by decide +kernel
theorem dX0_oddTriples_23 : decode cX0_oddTriples 23 = .ok (.goto (-19), 3) := by decide +kernel
theorem dX0_oddTriples_26 : decode cX0_oddTriples 26 = .ok (.iload_n 1, 1) := by decide +kernel
theorem dX0_oddTriples_27 : decode cX0_oddTriples 27 = .ok (.iconst 3, 1) := by decide +kernel
theorem dX0_oddTriples_28 : decode cX0_oddTriples 28 = .ok (.idiv, 1) := by decide +kernel
theorem dX0_oddTriples_29 : decode cX0_oddTriples 29 = .ok (.ireturn, 1) := by decide +kernel
set_option maxRecDepth 20000 in
theorem ggX0_oddTriplesOfEachPair_X0_oddTriplesAtPair : GoodIn wsX0_oddTriplesOfEachPair wsX0_oddTriplesAtPair := goodIn_r _ [6, 7, 8, 9, 10, 5, 11, 12, 13, 14, 15, 1, 16, 17, 18, 19, 20, 21, 22, 23, 24] (by decide +kernel) (by decide +kernel)
set_option maxRecDepth 20000 in
theorem gX0_oddTriplesOfEachPair_X0_oddTriplesAtPair : GoodIn wsX0_oddTriplesOfEachPair (wsV RX0 69 RX0 yX0_oddTriplesAtPair wsX0_oddTriplesAtPair) := goodIn_app (goodIn_of _ (by decide +kernel)) ggX0_oddTriplesOfEachPair_X0_oddTriplesAtPair
theorem dX0_oddTriplesOfEachPair_0 : decode cX0_oddTriplesOfEachPair 0 = .ok (.aload_n 0, 1) := by decide +kernel
theorem dX0_oddTriplesOfEachPair_1 : decode cX0_oddTriplesOfEachPair 1 = .ok (.iconst 0, 1) := by decide +kernel
theorem dX0_oddTriplesOfEachPair_2 : decode cX0_oddTriplesOfEachPair 2 = .ok (.iconst 1, 1) := by decide +kernel
theorem dX0_oddTriplesOfEachPair_3 : decode cX0_oddTriplesOfEachPair 3 = .ok (.invokevirtual 69, 3) := by decide +kernel
theorem dX0_oddTriplesOfEachPair_6 : decode cX0_oddTriplesOfEachPair 6 = .ok (.istore_n 1, 1) := by decide +kernel
theorem dX0_oddTriplesOfEachPair_7 : decode cX0_oddTriplesOfEachPair 7 = .ok (.iconst 0, 1) := by decide +kernel
theorem dX0_oddTriplesOfEachPair_8 : decode cX0_oddTriplesOfEachPair 8 = .ok (.istore_n 2, 1) := by decide +kernel
theorem dX0_oddTriplesOfEachPair_9 : decode cX0_oddTriplesOfEachPair 9 = .ok (.iload_n 2, 1) := by decide +kernel
theorem dX0_oddTriplesOfEachPair_10 : decode cX0_oddTriplesOfEachPair 10 = .ok (.aload_n 0, 1) := by decide +kernel
theorem dX0_oddTriplesOfEachPair_11 : decode cX0_oddTriplesOfEachPair 11 = .ok (.getfield 9, 3) := by decide +kernel
theorem dX0_oddTriplesOfEachPair_14 : decode cX0_oddTriplesOfEachPair 14 = .ok (.if_icmp .ge 40, 3) := by decide +kernel
theorem dX0_oddTriplesOfEachPair_17 : decode cX0_oddTriplesOfEachPair 17 = .ok (.iload_n 2, 1) := by decide +kernel
theorem dX0_oddTriplesOfEachPair_18 : decode cX0_oddTriplesOfEachPair 18 = .ok (.iconst 1, 1) := by decide +kernel
theorem dX0_oddTriplesOfEachPair_19 : decode cX0_oddTriplesOfEachPair 19 = .ok (.iadd, 1) := by decide +kernel
theorem dX0_oddTriplesOfEachPair_20 : decode cX0_oddTriplesOfEachPair 20 = .ok (.istore_n 3, 1) := by decide +kernel
theorem dX0_oddTriplesOfEachPair_21 : decode cX0_oddTriplesOfEachPair 21 = .ok (.iload_n 3, 1) := by decide +kernel
theorem dX0_oddTriplesOfEachPair_22 : decode cX0_oddTriplesOfEachPair 22 = .ok (.aload_n 0, 1) := by decide +kernel
theorem dX0_oddTriplesOfEachPair_23 : decode cX0_oddTriplesOfEachPair 23 = .ok (.getfield 9, 3) := by decide +kernel
theorem dX0_oddTriplesOfEachPair_26 : decode cX0_oddTriplesOfEachPair 26 = .ok (.if_icmp .ge 22, 3) := by decide +kernel
theorem dX0_oddTriplesOfEachPair_29 : decode cX0_oddTriplesOfEachPair 29 = .ok (.aload_n 0, 1) := by decide +kernel
theorem dX0_oddTriplesOfEachPair_30 : decode cX0_oddTriplesOfEachPair 30 = .ok (.iload_n 2, 1) := by decide +kernel
theorem dX0_oddTriplesOfEachPair_31 : decode cX0_oddTriplesOfEachPair 31 = .ok (.iload_n 3, 1) := by decide +kernel
theorem dX0_oddTriplesOfEachPair_32 : decode cX0_oddTriplesOfEachPair 32 = .ok (.invokevirtual 69, 3) := by decide +kernel
theorem dX0_oddTriplesOfEachPair_35 : decode cX0_oddTriplesOfEachPair 35 = .ok (.iload_n 1, 1) := by decide +kernel
theorem dX0_oddTriplesOfEachPair_36 : decode cX0_oddTriplesOfEachPair 36 = .ok (.if_icmp .eq 6, 3) := by decide +kernel
theorem dX0_oddTriplesOfEachPair_39 : decode cX0_oddTriplesOfEachPair 39 = .ok (.bipush (-6), 2) := by decide +kernel
theorem dX0_oddTriplesOfEachPair_41 : decode cX0_oddTriplesOfEachPair 41 = .ok (.ireturn, 1) := by decide +kernel
theorem dX0_oddTriplesOfEachPair_42 : decode cX0_oddTriplesOfEachPair 42 = .ok (.iinc 3 1, 3) := by decide +kernel
theorem dX0_oddTriplesOfEachPair_45 : decode cX0_oddTriplesOfEachPair 45 = .ok (.goto (-24), 3) := by decide +kernel
theorem dX0_oddTriplesOfEachPair_48 : decode cX0_oddTriplesOfEachPair 48 = .ok (.iinc 2 1, 3) := by decide +kernel
theorem dX0_oddTriplesOfEachPair_51 : decode cX0_oddTriplesOfEachPair 51 = .ok (.goto (-42), 3) := by decide +kernel
theorem dX0_oddTriplesOfEachPair_54 : decode cX0_oddTriplesOfEachPair 54 = .ok (.iload_n 1, 1) := by decide +kernel
theorem dX0_oddTriplesOfEachPair_55 : decode cX0_oddTriplesOfEachPair 55 = .ok (.ireturn, 1) := by decide +kernel
set_option maxRecDepth 20000 in
theorem ggX0_oddDegrees_X0_degree : GoodIn wsX0_oddDegrees wsX0_degree := goodIn_r _ [6, 7, 8, 9, 10, 11, 12, 13, 14, 15, 16] (by decide +kernel) (by decide +kernel)
set_option maxRecDepth 20000 in
theorem gX0_oddDegrees_X0_degree : GoodIn wsX0_oddDegrees (wsV RX0 66 RX0 yX0_degree wsX0_degree) := goodIn_app (goodIn_of _ (by decide +kernel)) ggX0_oddDegrees_X0_degree
theorem dX0_oddDegrees_0 : decode cX0_oddDegrees 0 = .ok (.iconst 0, 1) := by decide +kernel
theorem dX0_oddDegrees_1 : decode cX0_oddDegrees 1 = .ok (.istore_n 1, 1) := by decide +kernel
theorem dX0_oddDegrees_2 : decode cX0_oddDegrees 2 = .ok (.iconst 0, 1) := by decide +kernel
theorem dX0_oddDegrees_3 : decode cX0_oddDegrees 3 = .ok (.istore_n 2, 1) := by decide +kernel
theorem dX0_oddDegrees_4 : decode cX0_oddDegrees 4 = .ok (.iload_n 2, 1) := by decide +kernel
theorem dX0_oddDegrees_5 : decode cX0_oddDegrees 5 = .ok (.aload_n 0, 1) := by decide +kernel
theorem dX0_oddDegrees_6 : decode cX0_oddDegrees 6 = .ok (.getfield 9, 3) := by decide +kernel
theorem dX0_oddDegrees_9 : decode cX0_oddDegrees 9 = .ok (.if_icmp .ge 21, 3) := by decide +kernel
theorem dX0_oddDegrees_12 : decode cX0_oddDegrees 12 = .ok (.iload_n 1, 1) := by decide +kernel
theorem dX0_oddDegrees_13 : decode cX0_oddDegrees 13 = .ok (.aload_n 0, 1) := by decide +kernel
theorem dX0_oddDegrees_14 : decode cX0_oddDegrees 14 = .ok (.iload_n 2, 1) := by decide +kernel
theorem dX0_oddDegrees_15 : decode cX0_oddDegrees 15 = .ok (.invokevirtual 66, 3) := by decide +kernel
theorem dX0_oddDegrees_18 : decode cX0_oddDegrees 18 = .ok (.iconst 1, 1) := by decide +kernel
theorem dX0_oddDegrees_19 : decode cX0_oddDegrees 19 = .ok (.iand, 1) := by decide +kernel
theorem dX0_oddDegrees_20 : decode cX0_oddDegrees 20 = .ok (.iload_n 2, 1) := by decide +kernel
theorem dX0_oddDegrees_21 : decode cX0_oddDegrees 21 = .ok (.ishl, 1) := by decide +kernel
theorem dX0_oddDegrees_22 : decode cX0_oddDegrees 22 = .ok (.ior, 1) := by decide +kernel
theorem dX0_oddDegrees_23 : decode cX0_oddDegrees 23 = .ok (.istore_n 1, 1) := by decide +kernel
theorem dX0_oddDegrees_24 : decode cX0_oddDegrees 24 = .ok (.iinc 2 1, 3) := by decide +kernel
theorem dX0_oddDegrees_27 : decode cX0_oddDegrees 27 = .ok (.goto (-23), 3) := by decide +kernel
theorem dX0_oddDegrees_30 : decode cX0_oddDegrees 30 = .ok (.iload_n 1, 1) := by decide +kernel
theorem dX0_oddDegrees_31 : decode cX0_oddDegrees 31 = .ok (.ireturn, 1) := by decide +kernel
set_option maxRecDepth 20000 in
theorem ggX0_eachDegreeIs_X0_oddDegrees : GoodIn wsX0_eachDegreeIs wsX0_oddDegrees := goodIn_r _ [6, 1, 7, 8, 9, 5, 10, 11, 12, 13, 14, 15, 16, 17, 18, 19, 20] (by decide +kernel) (by decide +kernel)
set_option maxRecDepth 20000 in
theorem gX0_eachDegreeIs_X0_oddDegrees : GoodIn wsX0_eachDegreeIs (wsV RX0 75 RX0 yX0_oddDegrees wsX0_oddDegrees) := goodIn_app (goodIn_of _ (by decide +kernel)) ggX0_eachDegreeIs_X0_oddDegrees
set_option maxRecDepth 20000 in
theorem ggX0_eachDegreeIs_X0_degree : GoodIn wsX0_eachDegreeIs wsX0_degree := goodIn_r _ [10, 11, 12, 13, 14, 15, 16, 17, 18, 19, 20] (by decide +kernel) (by decide +kernel)
set_option maxRecDepth 20000 in
theorem gX0_eachDegreeIs_X0_degree : GoodIn wsX0_eachDegreeIs (wsV RX0 66 RX0 yX0_degree wsX0_degree) := goodIn_app (goodIn_of _ (by decide +kernel)) ggX0_eachDegreeIs_X0_degree
theorem dX0_eachDegreeIs_0 : decode cX0_eachDegreeIs 0 = .ok (.iload_n 1, 1) := by decide +kernel
theorem dX0_eachDegreeIs_1 : decode cX0_eachDegreeIs 1 = .ok (.iconst (-1), 1) := by decide +kernel
theorem dX0_eachDegreeIs_2 : decode cX0_eachDegreeIs 2 = .ok (.if_icmp .ne 16, 3) := by decide +kernel
theorem dX0_eachDegreeIs_5 : decode cX0_eachDegreeIs 5 = .ok (.aload_n 0, 1) := by decide +kernel
theorem dX0_eachDegreeIs_6 : decode cX0_eachDegreeIs 6 = .ok (.invokevirtual 75, 3) := by decide +kernel
theorem dX0_eachDegreeIs_9 : decode cX0_eachDegreeIs 9 = .ok (.ifCond .ne 7, 3) := by decide +kernel
theorem dX0_eachDegreeIs_12 : decode cX0_eachDegreeIs 12 = .ok (.iconst 1, 1) := by decide +kernel
theorem dX0_eachDegreeIs_13 : decode cX0_eachDegreeIs 13 = .ok (.goto 4, 3) := by decide +kernel
theorem dX0_eachDegreeIs_16 : decode cX0_eachDegreeIs 16 = .ok (.iconst 0, 1) := by decide +kernel
theorem dX0_eachDegreeIs_17 : decode cX0_eachDegreeIs 17 = .ok (.ireturn, 1) := by decide +kernel
theorem dX0_eachDegreeIs_18 : decode cX0_eachDegreeIs 18 = .ok (.iconst 0, 1) := by decide +kernel
theorem dX0_eachDegreeIs_19 : decode cX0_eachDegreeIs 19 = .ok (.istore_n 2, 1) := by decide +kernel
theorem dX0_eachDegreeIs_20 : decode cX0_eachDegreeIs 20 = .ok (.iload_n 2, 1) := by decide +kernel
theorem dX0_eachDegreeIs_21 : decode cX0_eachDegreeIs 21 = .ok (.aload_n 0, 1) := by decide +kernel
theorem dX0_eachDegreeIs_22 : decode cX0_eachDegreeIs 22 = .ok (.getfield 9, 3) := by decide +kernel
theorem dX0_eachDegreeIs_25 : decode cX0_eachDegreeIs 25 = .ok (.if_icmp .ge 20, 3) := by decide +kernel
theorem dX0_eachDegreeIs_28 : decode cX0_eachDegreeIs 28 = .ok (.aload_n 0, 1) := by decide +kernel
theorem dX0_eachDegreeIs_29 : decode cX0_eachDegreeIs 29 = .ok (.iload_n 2, 1) := by decide +kernel
theorem dX0_eachDegreeIs_30 : decode cX0_eachDegreeIs 30 = .ok (.invokevirtual 66, 3) := by decide +kernel
theorem dX0_eachDegreeIs_33 : decode cX0_eachDegreeIs 33 = .ok (.iload_n 1, 1) := by decide +kernel
theorem dX0_eachDegreeIs_34 : decode cX0_eachDegreeIs 34 = .ok (.if_icmp .eq 5, 3) := by decide +kernel
theorem dX0_eachDegreeIs_37 : decode cX0_eachDegreeIs 37 = .ok (.iconst 0, 1) := by decide +kernel
theorem dX0_eachDegreeIs_38 : decode cX0_eachDegreeIs 38 = .ok (.ireturn, 1) := by decide +kernel
theorem dX0_eachDegreeIs_39 : decode cX0_eachDegreeIs 39 = .ok (.iinc 2 1, 3) := by decide +kernel
theorem dX0_eachDegreeIs_42 : decode cX0_eachDegreeIs 42 = .ok (.goto (-22), 3) := by decide +kernel
theorem dX0_eachDegreeIs_45 : decode cX0_eachDegreeIs 45 = .ok (.iconst 1, 1) := by decide +kernel
theorem dX0_eachDegreeIs_46 : decode cX0_eachDegreeIs 46 = .ok (.ireturn, 1) := by decide +kernel
set_option maxRecDepth 20000 in
theorem ggX0_isStrong_X0_eachPairSharesAlike : GoodIn wsX0_isStrong wsX0_eachPairSharesAlike := goodIn_r _ [5, 6, 7, 8, 9, 4, 10, 11, 12, 13, 14, 15, 16, 17, 18, 19, 20, 21, 22, 23, 24] (by decide +kernel) (by decide +kernel)
set_option maxRecDepth 20000 in
theorem gX0_isStrong_X0_eachPairSharesAlike : GoodIn wsX0_isStrong (wsV RX0 78 RX0 yX0_eachPairSharesAlike wsX0_eachPairSharesAlike) := goodIn_app (goodIn_of _ (by decide +kernel)) ggX0_isStrong_X0_eachPairSharesAlike
theorem dX0_isStrong_0 : decode cX0_isStrong 0 = .ok (.aload_n 0, 1) := by decide +kernel
theorem dX0_isStrong_1 : decode cX0_isStrong 1 = .ok (.iconst 1, 1) := by decide +kernel
theorem dX0_isStrong_2 : decode cX0_isStrong 2 = .ok (.invokevirtual 78, 3) := by decide +kernel
theorem dX0_isStrong_5 : decode cX0_isStrong 5 = .ok (.ifCond .eq 15, 3) := by decide +kernel
theorem dX0_isStrong_8 : decode cX0_isStrong 8 = .ok (.aload_n 0, 1) := by decide +kernel
theorem dX0_isStrong_9 : decode cX0_isStrong 9 = .ok (.iconst 0, 1) := by decide +kernel
theorem dX0_isStrong_10 : decode cX0_isStrong 10 = .ok (.invokevirtual 78, 3) := by decide +kernel
theorem dX0_isStrong_13 : decode cX0_isStrong 13 = .ok (.ifCond .eq 7, 3) := by decide +kernel
theorem dX0_isStrong_16 : decode cX0_isStrong 16 = .ok (.iconst 1, 1) := by decide +kernel
theorem dX0_isStrong_17 : decode cX0_isStrong 17 = .ok (.goto 4, 3) := by decide +kernel
theorem dX0_isStrong_20 : decode cX0_isStrong 20 = .ok (.iconst 0, 1) := by decide +kernel
theorem dX0_isStrong_21 : decode cX0_isStrong 21 = .ok (.ireturn, 1) := by decide +kernel
set_option maxRecDepth 20000 in
theorem ggX0_eachPairSharesAlike_X0_joined : GoodIn wsX0_eachPairSharesAlike wsX0_joined := goodIn_r _ [6, 7, 19, 20] (by decide +kernel) (by decide +kernel)
set_option maxRecDepth 20000 in
theorem gX0_eachPairSharesAlike_X0_joined : GoodIn wsX0_eachPairSharesAlike (wsV RX0 57 RX0 yX0_joined wsX0_joined) := goodIn_app (goodIn_of _ (by decide +kernel)) ggX0_eachPairSharesAlike_X0_joined
set_option maxRecDepth 20000 in
theorem ggX0_eachPairSharesAlike_X0_shared : GoodIn wsX0_eachPairSharesAlike wsX0_shared := goodIn_r _ [11, 7, 12, 13, 14, 15, 16, 17, 18, 19, 20] (by decide +kernel) (by decide +kernel)
set_option maxRecDepth 20000 in
theorem gX0_eachPairSharesAlike_X0_shared : GoodIn wsX0_eachPairSharesAlike (wsV RX0 81 RX0 yX0_shared wsX0_shared) := goodIn_app (goodIn_of _ (by decide +kernel)) ggX0_eachPairSharesAlike_X0_shared
theorem dX0_eachPairSharesAlike_0 : decode cX0_eachPairSharesAlike 0 = .ok (.bipush (-6), 2) := by decide +kernel
theorem dX0_eachPairSharesAlike_2 : decode cX0_eachPairSharesAlike 2 = .ok (.istore_n 2, 1) := by decide +kernel
theorem dX0_eachPairSharesAlike_3 : decode cX0_eachPairSharesAlike 3 = .ok (.iconst 0, 1) := by decide +kernel
theorem dX0_eachPairSharesAlike_4 : decode cX0_eachPairSharesAlike 4 = .ok (.istore_n 3, 1) := by decide +kernel
theorem dX0_eachPairSharesAlike_5 : decode cX0_eachPairSharesAlike 5 = .ok (.iload_n 3, 1) := by decide +kernel
theorem dX0_eachPairSharesAlike_6 : decode cX0_eachPairSharesAlike 6 = .ok (.aload_n 0, 1) := by decide +kernel
theorem dX0_eachPairSharesAlike_7 : decode cX0_eachPairSharesAlike 7 = .ok (.getfield 9, 3) := by decide +kernel
theorem dX0_eachPairSharesAlike_10 : decode cX0_eachPairSharesAlike 10 = .ok (.if_icmp .ge 66, 3) := by decide +kernel
theorem dX0_eachPairSharesAlike_13 : decode cX0_eachPairSharesAlike 13 = .ok (.iload_n 3, 1) := by decide +kernel
theorem dX0_eachPairSharesAlike_14 : decode cX0_eachPairSharesAlike 14 = .ok (.iconst 1, 1) := by decide +kernel
theorem dX0_eachPairSharesAlike_15 : decode cX0_eachPairSharesAlike 15 = .ok (.iadd, 1) := by decide +kernel
theorem dX0_eachPairSharesAlike_16 : decode cX0_eachPairSharesAlike 16 = .ok (.istore 4, 2) := by decide +kernel
theorem dX0_eachPairSharesAlike_18 : decode cX0_eachPairSharesAlike 18 = .ok (.iload 4, 2) := by decide +kernel
theorem dX0_eachPairSharesAlike_20 : decode cX0_eachPairSharesAlike 20 = .ok (.aload_n 0, 1) := by decide +kernel
theorem dX0_eachPairSharesAlike_21 : decode cX0_eachPairSharesAlike 21 = .ok (.getfield 9, 3) := by decide +kernel
theorem dX0_eachPairSharesAlike_24 : decode cX0_eachPairSharesAlike 24 = .ok (.if_icmp .ge 46, 3) := by decide +kernel
theorem dX0_eachPairSharesAlike_27 : decode cX0_eachPairSharesAlike 27 = .ok (.aload_n 0, 1) := by decide +kernel
theorem dX0_eachPairSharesAlike_28 : decode cX0_eachPairSharesAlike 28 = .ok (.iload_n 3, 1) := by decide +kernel
theorem dX0_eachPairSharesAlike_29 : decode cX0_eachPairSharesAlike 29 = .ok (.iload 4, 2) := by decide +kernel
theorem dX0_eachPairSharesAlike_31 : decode cX0_eachPairSharesAlike 31 = .ok (.invokevirtual 57, 3) := by decide +kernel
theorem dX0_eachPairSharesAlike_34 : decode cX0_eachPairSharesAlike 34 = .ok (.iload_n 1, 1) := by decide +kernel
theorem dX0_eachPairSharesAlike_35 : decode cX0_eachPairSharesAlike 35 = .ok (.if_icmp .ne 29, 3) := by decide +kernel
theorem dX0_eachPairSharesAlike_38 : decode cX0_eachPairSharesAlike 38 = .ok (.aload_n 0, 1) := by decide +kernel
theorem dX0_eachPairSharesAlike_39 : decode cX0_eachPairSharesAlike 39 = .ok (.iload_n 3, 1) := by decide +kernel
theorem dX0_eachPairSharesAlike_40 : decode cX0_eachPairSharesAlike 40 = .ok (.iload 4, 2) := by decide +kernel
theorem dX0_eachPairSharesAlike_42 : decode cX0_eachPairSharesAlike 42 = .ok (.invokevirtual 81, 3) := by decide +kernel
theorem dX0_eachPairSharesAlike_45 : decode cX0_eachPairSharesAlike 45 = .ok (.istore 5, 2) := by decide +kernel
theorem dX0_eachPairSharesAlike_47 : decode cX0_eachPairSharesAlike 47 = .ok (.iload_n 2, 1) := by decide +kernel
theorem dX0_eachPairSharesAlike_48 : decode cX0_eachPairSharesAlike 48 = .ok (.bipush (-6), 2) := by decide +kernel
theorem dX0_eachPairSharesAlike_50 : decode cX0_eachPairSharesAlike 50 = .ok (.if_icmp .eq 11, 3) := by decide +kernel
theorem dX0_eachPairSharesAlike_53 : decode cX0_eachPairSharesAlike 53 = .ok (.iload_n 2, 1) := by decide +kernel
theorem dX0_eachPairSharesAlike_54 : decode cX0_eachPairSharesAlike 54 = .ok (.iload 5, 2) := by decide +kernel
theorem dX0_eachPairSharesAlike_56 : decode cX0_eachPairSharesAlike 56 = .ok (.if_icmp .eq 5, 3) := by decide +kernel
theorem dX0_eachPairSharesAlike_59 : decode cX0_eachPairSharesAlike 59 = .ok (.iconst 0, 1) := by decide +kernel
theorem dX0_eachPairSharesAlike_60 : decode cX0_eachPairSharesAlike 60 = .ok (.ireturn, 1) := by decide +kernel
theorem dX0_eachPairSharesAlike_61 : decode cX0_eachPairSharesAlike 61 = .ok (.iload 5, 2) := by decide +kernel
theorem dX0_eachPairSharesAlike_63 : decode cX0_eachPairSharesAlike 63 = .ok (.istore_n 2, 1) := by decide +kernel
theorem dX0_eachPairSharesAlike_64 : decode cX0_eachPairSharesAlike 64 = .ok (.iinc 4 1, 3) := by decide +kernel
theorem dX0_eachPairSharesAlike_67 : decode cX0_eachPairSharesAlike 67 = .ok (.goto (-49), 3) := by decide +kernel
theorem dX0_eachPairSharesAlike_70 : decode cX0_eachPairSharesAlike 70 = .ok (.iinc 3 1, 3) := by decide +kernel
theorem dX0_eachPairSharesAlike_73 : decode cX0_eachPairSharesAlike 73 = .ok (.goto (-68), 3) := by decide +kernel
theorem dX0_eachPairSharesAlike_76 : decode cX0_eachPairSharesAlike 76 = .ok (.iconst 1, 1) := by decide +kernel
theorem dX0_eachPairSharesAlike_77 : decode cX0_eachPairSharesAlike 77 = .ok (.ireturn, 1) := by decide +kernel
theorem dX0_areTwins_0 : decode cX0_areTwins 0 = .ok (.aload_n 0, 1) := by decide +kernel
theorem dX0_areTwins_1 : decode cX0_areTwins 1 = .ok (.getfield 15, 3) := by decide +kernel
theorem dX0_areTwins_4 : decode cX0_areTwins 4 = .ok (.iload_n 1, 1) := by decide +kernel
theorem dX0_areTwins_5 : decode cX0_areTwins 5 = .ok (.iaload, 1) := by decide +kernel
theorem dX0_areTwins_6 : decode cX0_areTwins 6 = .ok (.aload_n 0, 1) := by decide +kernel
theorem dX0_areTwins_7 : decode cX0_areTwins 7 = .ok (.getfield 15, 3) := by decide +kernel
theorem dX0_areTwins_10 : decode cX0_areTwins 10 = .ok (.iload_n 2, 1) := by decide +kernel
theorem dX0_areTwins_11 : decode cX0_areTwins 11 = .ok (.iaload, 1) := by decide +kernel
theorem dX0_areTwins_12 : decode cX0_areTwins 12 = .ok (.ixor, 1) := by decide +kernel
theorem dX0_areTwins_13 : decode cX0_areTwins 13 = .ok (.iconst 1, 1) := by decide +kernel
theorem dX0_areTwins_14 : decode cX0_areTwins 14 = .ok (.iload_n 1, 1) := by decide +kernel
theorem dX0_areTwins_15 : decode cX0_areTwins 15 = .ok (.ishl, 1) := by decide +kernel
theorem dX0_areTwins_16 : decode cX0_areTwins 16 = .ok (.iconst 1, 1) := by decide +kernel
theorem dX0_areTwins_17 : decode cX0_areTwins 17 = .ok (.iload_n 2, 1) := by decide +kernel
theorem dX0_areTwins_18 : decode cX0_areTwins 18 = .ok (.ishl, 1) := by decide +kernel
theorem dX0_areTwins_19 : decode cX0_areTwins 19 = .ok (.ior, 1) := by decide +kernel
theorem dX0_areTwins_20 : decode cX0_areTwins 20 = .ok (.iconst (-1), 1) := by decide +kernel
theorem dX0_areTwins_21 : decode cX0_areTwins 21 = .ok (.ixor, 1) := by decide +kernel
theorem dX0_areTwins_22 : decode cX0_areTwins 22 = .ok (.iand, 1) := by decide +kernel
theorem dX0_areTwins_23 : decode cX0_areTwins 23 = .ok (.ifCond .ne 7, 3) := by decide +kernel
theorem dX0_areTwins_26 : decode cX0_areTwins 26 = .ok (.iconst 1, 1) := by decide +kernel
theorem dX0_areTwins_27 : decode cX0_areTwins 27 = .ok (.goto 4, 3) := by decide +kernel
theorem dX0_areTwins_30 : decode cX0_areTwins 30 = .ok (.iconst 0, 1) := by decide +kernel
theorem dX0_areTwins_31 : decode cX0_areTwins 31 = .ok (.ireturn, 1) := by decide +kernel
theorem dX1_init_0 : decode cX1_init 0 = .ok (.aload_n 0, 1) := by decide +kernel
theorem dX1_init_1 : decode cX1_init 1 = .ok (.invokespecial 3, 3) := by decide +kernel
theorem dX1_init_4 : decode cX1_init 4 = .ok (.aload_n 0, 1) := by decide +kernel
theorem dX1_init_5 : decode cX1_init 5 = .ok (.iconst 0, 1) := by decide +kernel
theorem dX1_init_6 : decode cX1_init 6 = .ok (.putfield 9, 3) := by decide +kernel
theorem dX1_init_9 : decode cX1_init 9 = .ok (.aload_n 0, 1) := by decide +kernel
theorem dX1_init_10 : decode cX1_init 10 = .ok (.bipush 35, 2) := by decide +kernel
theorem dX1_init_12 : decode cX1_init 12 = .ok (.newarray .int, 2) := by decide +kernel
theorem dX1_init_14 : decode cX1_init 14 = .ok (.putfield 15, 3) := by decide +kernel
theorem dX1_init_17 : decode cX1_init 17 = .ok (.return_, 1) := by decide +kernel
theorem dX1_put_0 : decode cX1_put 0 = .ok (.aload_n 0, 1) := by decide +kernel
theorem dX1_put_1 : decode cX1_put 1 = .ok (.getfield 9, 3) := by decide +kernel
theorem dX1_put_4 : decode cX1_put 4 = .ok (.bipush 35, 2) := by decide +kernel
theorem dX1_put_6 : decode cX1_put 6 = .ok (.if_icmp .ge 23, 3) := by decide +kernel
theorem dX1_put_9 : decode cX1_put 9 = .ok (.aload_n 0, 1) := by decide +kernel
theorem dX1_put_10 : decode cX1_put 10 = .ok (.getfield 15, 3) := by decide +kernel
theorem dX1_put_13 : decode cX1_put 13 = .ok (.aload_n 0, 1) := by decide +kernel
theorem dX1_put_14 : decode cX1_put 14 = .ok (.getfield 9, 3) := by decide +kernel
theorem dX1_put_17 : decode cX1_put 17 = .ok (.iload_n 1, 1) := by decide +kernel
theorem dX1_put_18 : decode cX1_put 18 = .ok (.iastore, 1) := by decide +kernel
theorem dX1_put_19 : decode cX1_put 19 = .ok (.aload_n 0, 1) := by decide +kernel
theorem dX1_put_20 : decode cX1_put 20 = .ok (.dup, 1) := by decide +kernel
theorem dX1_put_21 : decode cX1_put 21 = .ok (.getfield 9, 3) := by decide +kernel
theorem dX1_put_24 : decode cX1_put 24 = .ok (.iconst 1, 1) := by decide +kernel
theorem dX1_put_25 : decode cX1_put 25 = .ok (.iadd, 1) := by decide +kernel
theorem dX1_put_26 : decode cX1_put 26 = .ok (.putfield 9, 3) := by decide +kernel
theorem dX1_put_29 : decode cX1_put 29 = .ok (.return_, 1) := by decide +kernel
theorem dX1_tells_0 : decode cX1_tells 0 = .ok (.iload_n 1, 1) := by decide +kernel
theorem dX1_tells_1 : decode cX1_tells 1 = .ok (.ifCond .lt 26, 3) := by decide +kernel
theorem dX1_tells_4 : decode cX1_tells 4 = .ok (.iload_n 1, 1) := by decide +kernel
theorem dX1_tells_5 : decode cX1_tells 5 = .ok (.aload_n 0, 1) := by decide +kernel
theorem dX1_tells_6 : decode cX1_tells 6 = .ok (.getfield 9, 3) := by decide +kernel
theorem dX1_tells_9 : decode cX1_tells 9 = .ok (.if_icmp .ge 18, 3) := by decide +kernel
theorem dX1_tells_12 : decode cX1_tells 12 = .ok (.aload_n 0, 1) := by decide +kernel
theorem dX1_tells_13 : decode cX1_tells 13 = .ok (.getfield 15, 3) := by decide +kernel
theorem dX1_tells_16 : decode cX1_tells 16 = .ok (.iload_n 1, 1) := by decide +kernel
theorem dX1_tells_17 : decode cX1_tells 17 = .ok (.iaload, 1) := by decide +kernel
theorem dX1_tells_18 : decode cX1_tells 18 = .ok (.bipush 49, 2) := by decide +kernel
theorem dX1_tells_20 : decode cX1_tells 20 = .ok (.if_icmp .ne 7, 3) := by decide +kernel
theorem dX1_tells_23 : decode cX1_tells 23 = .ok (.iconst 1, 1) := by decide +kernel
theorem dX1_tells_24 : decode cX1_tells 24 = .ok (.goto 4, 3) := by decide +kernel
theorem dX1_tells_27 : decode cX1_tells 27 = .ok (.iconst 0, 1) := by decide +kernel
theorem dX1_tells_28 : decode cX1_tells 28 = .ok (.ireturn, 1) := by decide +kernel
theorem dX1_faultFor_0 : decode cX1_faultFor 0 = .ok (.iconst 0, 1) := by decide +kernel
theorem dX1_faultFor_1 : decode cX1_faultFor 1 = .ok (.istore_n 2, 1) := by decide +kernel
theorem dX1_faultFor_2 : decode cX1_faultFor 2 = .ok (.iload_n 2, 1) := by decide +kernel
theorem dX1_faultFor_3 : decode cX1_faultFor 3 = .ok (.aload_n 0, 1) := by decide +kernel
theorem dX1_faultFor_4 : decode cX1_faultFor 4 = .ok (.getfield 9, 3) := by decide +kernel
theorem dX1_faultFor_7 : decode cX1_faultFor 7 = .ok (.if_icmp .ge 38, 3) := by decide +kernel
theorem dX1_faultFor_10 : decode cX1_faultFor 10 = .ok (.iload_n 2, 1) := by decide +kernel
theorem dX1_faultFor_11 : decode cX1_faultFor 11 = .ok (.iload_n 1, 1) := by decide +kernel
theorem dX1_faultFor_12 : decode cX1_faultFor 12 = .ok (.if_icmp .ge 25, 3) := by decide +kernel
theorem dX1_faultFor_15 : decode cX1_faultFor 15 = .ok (.aload_n 0, 1) := by decide +kernel
theorem dX1_faultFor_16 : decode cX1_faultFor 16 = .ok (.getfield 15, 3) := by decide +kernel
theorem dX1_faultFor_19 : decode cX1_faultFor 19 = .ok (.iload_n 2, 1) := by decide +kernel
theorem dX1_faultFor_20 : decode cX1_faultFor 20 = .ok (.iaload, 1) := by decide +kernel
theorem dX1_faultFor_21 : decode cX1_faultFor 21 = .ok (.bipush 48, 2) := by decide +kernel
theorem dX1_faultFor_23 : decode cX1_faultFor 23 = .ok (.if_icmp .eq 16, 3) := by decide +kernel
theorem dX1_faultFor_26 : decode cX1_faultFor 26 = .ok (.aload_n 0, 1) := by decide +kernel
theorem dX1_faultFor_27 : decode cX1_faultFor 27 = .ok (.getfield 15, 3) := by decide +kernel
theorem dX1_faultFor_30 : decode cX1_faultFor 30 = .ok (.iload_n 2, 1) := by decide +kernel
theorem dX1_faultFor_31 : decode cX1_faultFor 31 = .ok (.iaload, 1) := by decide +kernel
theorem dX1_faultFor_32 : decode cX1_faultFor 32 = .ok (.bipush 49, 2) := by decide +kernel
theorem dX1_faultFor_34 : decode cX1_faultFor 34 = .ok (.if_icmp .eq 5, 3) := by decide +kernel
theorem dX1_faultFor_37 : decode cX1_faultFor 37 = .ok (.iload_n 2, 1) := by decide +kernel
theorem dX1_faultFor_38 : decode cX1_faultFor 38 = .ok (.ireturn, 1) := by decide +kernel
theorem dX1_faultFor_39 : decode cX1_faultFor 39 = .ok (.iinc 2 1, 3) := by decide +kernel
theorem dX1_faultFor_42 : decode cX1_faultFor 42 = .ok (.goto (-40), 3) := by decide +kernel
theorem dX1_faultFor_45 : decode cX1_faultFor 45 = .ok (.aload_n 0, 1) := by decide +kernel
theorem dX1_faultFor_46 : decode cX1_faultFor 46 = .ok (.getfield 9, 3) := by decide +kernel
theorem dX1_faultFor_49 : decode cX1_faultFor 49 = .ok (.iload_n 1, 1) := by decide +kernel
theorem dX1_faultFor_50 : decode cX1_faultFor 50 = .ok (.if_icmp .ge 10, 3) := by decide +kernel
theorem dX1_faultFor_53 : decode cX1_faultFor 53 = .ok (.aload_n 0, 1) := by decide +kernel
theorem dX1_faultFor_54 : decode cX1_faultFor 54 = .ok (.getfield 9, 3) := by decide +kernel
theorem dX1_faultFor_57 : decode cX1_faultFor 57 = .ok (.goto 5, 3) := by decide +kernel
theorem dX1_faultFor_60 : decode cX1_faultFor 60 = .ok (.bipush (-6), 2) := by decide +kernel
theorem dX1_faultFor_62 : decode cX1_faultFor 62 = .ok (.ireturn, 1) := by decide +kernel
theorem dX2_init_0 : decode cX2_init 0 = .ok (.aload_n 0, 1) := by decide +kernel
theorem dX2_init_1 : decode cX2_init 1 = .ok (.invokespecial 3, 3) := by decide +kernel
theorem dX2_init_4 : decode cX2_init 4 = .ok (.aload_n 0, 1) := by decide +kernel
theorem dX2_init_5 : decode cX2_init 5 = .ok (.bipush 7, 2) := by decide +kernel
theorem dX2_init_7 : decode cX2_init 7 = .ok (.newarray .int, 2) := by decide +kernel
theorem dX2_init_9 : decode cX2_init 9 = .ok (.putfield 9, 3) := by decide +kernel
theorem dX2_init_12 : decode cX2_init 12 = .ok (.return_, 1) := by decide +kernel
set_option maxRecDepth 20000 in
theorem ggX2_kindOfClass_X5_pairsOf : GoodIn wsX2_kindOfClass wsX5_pairsOf := goodIn_r _ [8] (by decide +kernel) (by decide +kernel)
set_option maxRecDepth 20000 in
theorem gX2_kindOfClass_X5_pairsOf_n21 : GoodIn wsX2_kindOfClass (wsX5_pairsOf) := ggX2_kindOfClass_X5_pairsOf
set_option maxRecDepth 20000 in
theorem ggX2_kindOfClass_X0_leaveAlone : GoodIn wsX2_kindOfClass wsX0_leaveAlone := goodIn_r _ [12, 13, 14, 15, 16, 10, 17, 18, 19, 20, 21, 22, 45, 46] (by decide +kernel) (by decide +kernel)
set_option maxRecDepth 20000 in
theorem gX2_kindOfClass_X0_leaveAlone_n25 : GoodIn wsX2_kindOfClass (wsX0_leaveAlone) := ggX2_kindOfClass_X0_leaveAlone
set_option maxRecDepth 20000 in
theorem ggX2_kindOfClass_X2_leastNumber : GoodIn wsX2_kindOfClass wsX2_leastNumber := goodIn_r _ [26, 2, 3, 4, 5, 27, 28, 25, 29, 30, 10, 31, 32, 13, 33, 34, 35, 36, 37, 38, 6, 7, 8, 39, 40, 41, 42, 43, 44, 23, 24, 45, 46] (by decide +kernel) (by decide +kernel)
set_option maxRecDepth 20000 in
theorem gX2_kindOfClass_X2_leastNumber : GoodIn wsX2_kindOfClass (va_wsS RX2 29 yX2_leastNumber wsX2_leastNumber) := goodIn_app (goodIn_of _ (by decide +kernel)) ggX2_kindOfClass_X2_leastNumber
theorem dX2_kindOfClass_0 : decode cX2_kindOfClass 0 = .ok (.iconst 1, 1) := by decide +kernel
theorem dX2_kindOfClass_1 : decode cX2_kindOfClass 1 = .ok (.aload_n 1, 1) := by decide +kernel
theorem dX2_kindOfClass_2 : decode cX2_kindOfClass 2 = .ok (.getfield 15, 3) := by decide +kernel
theorem dX2_kindOfClass_5 : decode cX2_kindOfClass 5 = .ok (.invokestatic 21, 3) := by decide +kernel
theorem dX2_kindOfClass_8 : decode cX2_kindOfClass 8 = .ok (.ishl, 1) := by decide +kernel
theorem dX2_kindOfClass_9 : decode cX2_kindOfClass 9 = .ok (.iconst 1, 1) := by decide +kernel
theorem dX2_kindOfClass_10 : decode cX2_kindOfClass 10 = .ok (.isub, 1) := by decide +kernel
theorem dX2_kindOfClass_11 : decode cX2_kindOfClass 11 = .ok (.istore_n 2, 1) := by decide +kernel
theorem dX2_kindOfClass_12 : decode cX2_kindOfClass 12 = .ok (.iconst 0, 1) := by decide +kernel
theorem dX2_kindOfClass_13 : decode cX2_kindOfClass 13 = .ok (.istore_n 3, 1) := by decide +kernel
theorem dX2_kindOfClass_14 : decode cX2_kindOfClass 14 = .ok (.iload_n 3, 1) := by decide +kernel
theorem dX2_kindOfClass_15 : decode cX2_kindOfClass 15 = .ok (.aload_n 1, 1) := by decide +kernel
theorem dX2_kindOfClass_16 : decode cX2_kindOfClass 16 = .ok (.getfield 15, 3) := by decide +kernel
theorem dX2_kindOfClass_19 : decode cX2_kindOfClass 19 = .ok (.if_icmp .ge 38, 3) := by decide +kernel
theorem dX2_kindOfClass_22 : decode cX2_kindOfClass 22 = .ok (.aload_n 1, 1) := by decide +kernel
theorem dX2_kindOfClass_23 : decode cX2_kindOfClass 23 = .ok (.iload_n 3, 1) := by decide +kernel
theorem dX2_kindOfClass_24 : decode cX2_kindOfClass 24 = .ok (.invokevirtual 25, 3) := by decide +kernel
theorem dX2_kindOfClass_27 : decode cX2_kindOfClass 27 = .ok (.aload_n 0, 1) := by decide +kernel
theorem dX2_kindOfClass_28 : decode cX2_kindOfClass 28 = .ok (.getfield 9, 3) := by decide +kernel
theorem dX2_kindOfClass_31 : decode cX2_kindOfClass 31 = .ok (.iconst 0, 1) := by decide +kernel
theorem dX2_kindOfClass_32 : decode cX2_kindOfClass 32 = .ok (.iload_n 3, 1) := by decide +kernel
theorem dX2_kindOfClass_33 : decode cX2_kindOfClass 33 = .ok (.iastore, 1) := by decide +kernel
theorem dX2_kindOfClass_34 : decode cX2_kindOfClass 34 = .ok (.iload_n 2, 1) := by decide +kernel
theorem dX2_kindOfClass_35 : decode cX2_kindOfClass 35 = .ok (.aload_n 1, 1) := by decide +kernel
theorem dX2_kindOfClass_36 : decode cX2_kindOfClass 36 = .ok (.aload_n 0, 1) := by decide +kernel
theorem dX2_kindOfClass_37 : decode cX2_kindOfClass 37 = .ok (.getfield 9, 3) := by decide +kernel
theorem dX2_kindOfClass_40 : decode cX2_kindOfClass 40 = .ok (.iconst 1, 1) := by decide +kernel
theorem dX2_kindOfClass_41 : decode cX2_kindOfClass 41 = .ok (.iconst 1, 1) := by decide +kernel
theorem dX2_kindOfClass_42 : decode cX2_kindOfClass 42 = .ok (.iload_n 3, 1) := by decide +kernel
theorem dX2_kindOfClass_43 : decode cX2_kindOfClass 43 = .ok (.ishl, 1) := by decide +kernel
theorem dX2_kindOfClass_44 : decode cX2_kindOfClass 44 = .ok (.invokestatic 29, 3) := by decide +kernel
theorem dX2_kindOfClass_47 : decode cX2_kindOfClass 47 = .ok (.invokestatic 33, 3) := by decide +kernel
theorem dX2_kindOfClass_50 : decode cX2_kindOfClass 50 = .ok (.istore_n 2, 1) := by decide +kernel
theorem dX2_kindOfClass_51 : decode cX2_kindOfClass 51 = .ok (.iinc 3 1, 3) := by decide +kernel
theorem dX2_kindOfClass_54 : decode cX2_kindOfClass 54 = .ok (.goto (-40), 3) := by decide +kernel
theorem dX2_kindOfClass_57 : decode cX2_kindOfClass 57 = .ok (.iload_n 2, 1) := by decide +kernel
theorem dX2_kindOfClass_58 : decode cX2_kindOfClass 58 = .ok (.ireturn, 1) := by decide +kernel
set_option maxRecDepth 20000 in
theorem ggX2_leastNumber_X2_numberAsGiven : GoodIn wsX2_leastNumber wsX2_numberAsGiven := goodIn_r _ [8, 9, 10, 11, 12, 13, 31, 32] (by decide +kernel) (by decide +kernel)
set_option maxRecDepth 20000 in
theorem gX2_leastNumber_X2_numberAsGiven : GoodIn wsX2_leastNumber (va_wsS RX2 39 yX2_numberAsGiven wsX2_numberAsGiven) := goodIn_app (goodIn_of _ (by decide +kernel)) ggX2_leastNumber_X2_numberAsGiven
set_option maxRecDepth 20000 in
theorem ggX2_leastNumber_X2_lowestColumn : GoodIn wsX2_leastNumber wsX2_lowestColumn := goodIn_r _ [16, 1, 2, 3, 4, 17, 18, 7, 19, 31, 32] (by decide +kernel) (by decide +kernel)
set_option maxRecDepth 20000 in
theorem gX2_leastNumber_X2_lowestColumn : GoodIn wsX2_leastNumber (va_wsS RX2 43 yX2_lowestColumn wsX2_lowestColumn) := goodIn_app (goodIn_of _ (by decide +kernel)) ggX2_leastNumber_X2_lowestColumn
set_option maxRecDepth 20000 in
theorem ggX2_leastNumber_X5_pairsOf : GoodIn wsX2_leastNumber wsX5_pairsOf := goodIn_r _ [22] (by decide +kernel) (by decide +kernel)
set_option maxRecDepth 20000 in
theorem gX2_leastNumber_X5_pairsOf_n21 : GoodIn wsX2_leastNumber (wsX5_pairsOf) := ggX2_leastNumber_X5_pairsOf
set_option maxRecDepth 20000 in
theorem ggX2_leastNumber_X2_column : GoodIn wsX2_leastNumber wsX2_column := goodIn_r _ [19, 31, 32] (by decide +kernel) (by decide +kernel)
set_option maxRecDepth 20000 in
theorem gX2_leastNumber_X2_column : GoodIn wsX2_leastNumber (va_wsS RX2 46 yX2_column wsX2_column) := goodIn_app (goodIn_of _ (by decide +kernel)) ggX2_leastNumber_X2_column
set_option maxRecDepth 20000 in
theorem ggX2_leastNumber_X2_hasTwin : GoodIn wsX2_leastNumber wsX2_hasTwin := goodIn_r _ [25, 26, 10, 27, 28, 13, 31, 32] (by decide +kernel) (by decide +kernel)
set_option maxRecDepth 20000 in
theorem gX2_leastNumber_X2_hasTwin : GoodIn wsX2_leastNumber (va_wsS RX2 49 yX2_hasTwin wsX2_hasTwin) := goodIn_app (goodIn_of _ (by decide +kernel)) ggX2_leastNumber_X2_hasTwin
set_option maxRecDepth 20000 in
theorem ggX2_leastNumber_X2_leastNumber : GoodIn wsX2_leastNumber wsX2_leastNumber := goodIn_r _ [0, 1, 2, 3, 4, 5, 6, 7, 8, 9, 10, 11, 12, 13, 14, 15, 16, 17, 18, 19, 20, 21, 22, 23, 24, 25, 26, 27, 28, 29, 30, 31, 32] (by decide +kernel) (by decide +kernel)
set_option maxRecDepth 20000 in
theorem gX2_leastNumber_X2_leastNumber : GoodIn wsX2_leastNumber (va_wsS RX2 29 yX2_leastNumber wsX2_leastNumber) := goodIn_app (goodIn_of _ (by decide +kernel)) ggX2_leastNumber_X2_leastNumber
theorem dX2_leastNumber_0 : decode cX2_leastNumber 0 = .ok (.iload_n 2, 1) := by decide +kernel
theorem dX2_leastNumber_1 : decode cX2_leastNumber 1 = .ok (.aload_n 0, 1) := by decide +kernel
theorem dX2_leastNumber_2 : decode cX2_leastNumber 2 = .ok (.getfield 15, 3) := by decide +kernel
theorem dX2_leastNumber_5 : decode cX2_leastNumber 5 = .ok (.if_icmp .lt 9, 3) := by decide +kernel
theorem dX2_leastNumber_8 : decode cX2_leastNumber 8 = .ok (.aload_n 0, 1) := by decide +kernel
theorem dX2_leastNumber_9 : decode cX2_leastNumber 9 = .ok (.aload_n 1, 1) := by decide +kernel
theorem dX2_leastNumber_10 : decode cX2_leastNumber 10 = .ok (.invokestatic 39, 3) := by decide +kernel
theorem dX2_leastNumber_13 : decode cX2_leastNumber 13 = .ok (.ireturn, 1) := by decide +kernel
theorem dX2_leastNumber_14 : decode cX2_leastNumber 14 = .ok (.aload_n 0, 1) := by decide +kernel
theorem dX2_leastNumber_15 : decode cX2_leastNumber 15 = .ok (.aload_n 1, 1) := by decide +kernel
theorem dX2_leastNumber_16 : decode cX2_leastNumber 16 = .ok (.iload_n 2, 1) := by decide +kernel
theorem dX2_leastNumber_17 : decode cX2_leastNumber 17 = .ok (.iload_n 3, 1) := by decide +kernel
theorem dX2_leastNumber_18 : decode cX2_leastNumber 18 = .ok (.invokestatic 43, 3) := by decide +kernel
theorem dX2_leastNumber_21 : decode cX2_leastNumber 21 = .ok (.istore 4, 2) := by decide +kernel
theorem dX2_leastNumber_23 : decode cX2_leastNumber 23 = .ok (.iconst 1, 1) := by decide +kernel
theorem dX2_leastNumber_24 : decode cX2_leastNumber 24 = .ok (.aload_n 0, 1) := by decide +kernel
theorem dX2_leastNumber_25 : decode cX2_leastNumber 25 = .ok (.getfield 15, 3) := by decide +kernel
theorem dX2_leastNumber_28 : decode cX2_leastNumber 28 = .ok (.invokestatic 21, 3) := by decide +kernel
theorem dX2_leastNumber_31 : decode cX2_leastNumber 31 = .ok (.ishl, 1) := by decide +kernel
theorem dX2_leastNumber_32 : decode cX2_leastNumber 32 = .ok (.iconst 1, 1) := by decide +kernel
theorem dX2_leastNumber_33 : decode cX2_leastNumber 33 = .ok (.isub, 1) := by decide +kernel
theorem dX2_leastNumber_34 : decode cX2_leastNumber 34 = .ok (.istore 5, 2) := by decide +kernel
theorem dX2_leastNumber_36 : decode cX2_leastNumber 36 = .ok (.iconst 0, 1) := by decide +kernel
theorem dX2_leastNumber_37 : decode cX2_leastNumber 37 = .ok (.istore 6, 2) := by decide +kernel
theorem dX2_leastNumber_39 : decode cX2_leastNumber 39 = .ok (.iconst 0, 1) := by decide +kernel
theorem dX2_leastNumber_40 : decode cX2_leastNumber 40 = .ok (.istore 7, 2) := by decide +kernel
theorem dX2_leastNumber_42 : decode cX2_leastNumber 42 = .ok (.iload 7, 2) := by decide +kernel
theorem dX2_leastNumber_44 : decode cX2_leastNumber 44 = .ok (.aload_n 0, 1) := by decide +kernel
theorem dX2_leastNumber_45 : decode cX2_leastNumber 45 = .ok (.getfield 15, 3) := by decide +kernel
theorem dX2_leastNumber_48 : decode cX2_leastNumber 48 = .ok (.if_icmp .ge 89, 3) := by decide +kernel
theorem dX2_leastNumber_51 : decode cX2_leastNumber 51 = .ok (.iload_n 3, 1) := by decide +kernel
theorem dX2_leastNumber_52 : decode cX2_leastNumber 52 = .ok (.iload 7, 2) := by decide +kernel
theorem dX2_leastNumber_54 : decode cX2_leastNumber 54 = .ok (.ishr, 1) := by decide +kernel
theorem dX2_leastNumber_55 : decode cX2_leastNumber 55 = .ok (.iconst 1, 1) := by decide +kernel
theorem dX2_leastNumber_56 : decode cX2_leastNumber 56 = .ok (.iand, 1) := by decide +kernel
theorem dX2_leastNumber_57 : decode cX2_leastNumber 57 = .ok (.ifCond .ne 7, 3) := by decide +kernel
theorem dX2_leastNumber_60 : decode cX2_leastNumber 60 = .ok (.iconst 1, 1) := by decide +kernel
theorem dX2_leastNumber_61 : decode cX2_leastNumber 61 = .ok (.goto 4, 3) := by decide +kernel
theorem dX2_leastNumber_64 : decode cX2_leastNumber 64 = .ok (.iconst 0, 1) := by decide +kernel
theorem dX2_leastNumber_65 : decode cX2_leastNumber 65 = .ok (.istore 8, 2) := by decide +kernel
theorem dX2_leastNumber_67 : decode cX2_leastNumber 67 = .ok (.iload 8, 2) := by decide +kernel
theorem dX2_leastNumber_69 : decode cX2_leastNumber 69 = .ok (.ifCond .eq 62, 3) := by decide +kernel
theorem dX2_leastNumber_72 : decode cX2_leastNumber 72 = .ok (.aload_n 0, 1) := by decide +kernel
theorem dX2_leastNumber_73 : decode cX2_leastNumber 73 = .ok (.aload_n 1, 1) := by decide +kernel
theorem dX2_leastNumber_74 : decode cX2_leastNumber 74 = .ok (.iload_n 2, 1) := by decide +kernel
theorem dX2_leastNumber_75 : decode cX2_leastNumber 75 = .ok (.iload 7, 2) := by decide +kernel
theorem dX2_leastNumber_77 : decode cX2_leastNumber 77 = .ok (.invokestatic 46, 3) := by decide +kernel
theorem dX2_leastNumber_80 : decode cX2_leastNumber 80 = .ok (.iload 4, 2) := by decide +kernel
theorem dX2_leastNumber_82 : decode cX2_leastNumber 82 = .ok (.if_icmp .ne 49, 3) := by decide +kernel
theorem dX2_leastNumber_85 : decode cX2_leastNumber 85 = .ok (.aload_n 0, 1) := by decide +kernel
theorem dX2_leastNumber_86 : decode cX2_leastNumber 86 = .ok (.iload 7, 2) := by decide +kernel
theorem dX2_leastNumber_88 : decode cX2_leastNumber 88 = .ok (.iload 6, 2) := by decide +kernel
theorem dX2_leastNumber_90 : decode cX2_leastNumber 90 = .ok (.invokestatic 49, 3) := by decide +kernel
theorem dX2_leastNumber_93 : decode cX2_leastNumber 93 = .ok (.ifCond .ne 38, 3) := by decide +kernel
theorem dX2_leastNumber_96 : decode cX2_leastNumber 96 = .ok (.iload 6, 2) := by decide +kernel
theorem dX2_leastNumber_98 : decode cX2_leastNumber 98 = .ok (.iconst 1, 1) := by decide +kernel
theorem dX2_leastNumber_99 : decode cX2_leastNumber 99 = .ok (.iload 7, 2) := by decide +kernel
theorem dX2_leastNumber_101 : decode cX2_leastNumber 101 = .ok (.ishl, 1) := by decide +kernel
theorem dX2_leastNumber_102 : decode cX2_leastNumber 102 = .ok (.ior, 1) := by decide +kernel
theorem dX2_leastNumber_103 : decode cX2_leastNumber 103 = .ok (.istore 6, 2) := by decide +kernel
theorem dX2_leastNumber_105 : decode cX2_leastNumber 105 = .ok (.aload_n 1, 1) := by decide +kernel
theorem dX2_leastNumber_106 : decode cX2_leastNumber 106 = .ok (.iload_n 2, 1) := by decide +kernel
theorem dX2_leastNumber_107 : decode cX2_leastNumber 107 = .ok (.iload 7, 2) := by decide +kernel
theorem dX2_leastNumber_109 : decode cX2_leastNumber 109 = .ok (.iastore, 1) := by decide +kernel
theorem dX2_leastNumber_110 : decode cX2_leastNumber 110 = .ok (.iload 5, 2) := by decide +kernel
theorem dX2_leastNumber_112 : decode cX2_leastNumber 112 = .ok (.aload_n 0, 1) := by decide +kernel
theorem dX2_leastNumber_113 : decode cX2_leastNumber 113 = .ok (.aload_n 1, 1) := by decide +kernel
theorem dX2_leastNumber_114 : decode cX2_leastNumber 114 = .ok (.iload_n 2, 1) := by decide +kernel
theorem dX2_leastNumber_115 : decode cX2_leastNumber 115 = .ok (.iconst 1, 1) := by decide +kernel
theorem dX2_leastNumber_116 : decode cX2_leastNumber 116 = .ok (.iadd, 1) := by decide +kernel
theorem dX2_leastNumber_117 : decode cX2_leastNumber 117 = .ok (.iload_n 3, 1) := by decide +kernel
theorem dX2_leastNumber_118 : decode cX2_leastNumber 118 = .ok (.iconst 1, 1) := by decide +kernel
theorem dX2_leastNumber_119 : decode cX2_leastNumber 119 = .ok (.iload 7, 2) := by decide +kernel
theorem dX2_leastNumber_121 : decode cX2_leastNumber 121 = .ok (.ishl, 1) := by decide +kernel
theorem dX2_leastNumber_122 : decode cX2_leastNumber 122 = .ok (.ior, 1) := by decide +kernel
theorem dX2_leastNumber_123 : decode cX2_leastNumber 123 = .ok (.invokestatic 29, 3) := by decide +kernel
theorem dX2_leastNumber_126 : decode cX2_leastNumber 126 = .ok (.invokestatic 33, 3) := by decide +kernel
theorem dX2_leastNumber_129 : decode cX2_leastNumber 129 = .ok (.istore 5, 2) := by decide +kernel
theorem dX2_leastNumber_131 : decode cX2_leastNumber 131 = .ok (.iinc 7 1, 3) := by decide +kernel
theorem dX2_leastNumber_134 : decode cX2_leastNumber 134 = .ok (.goto (-92), 3) := by decide +kernel
theorem dX2_leastNumber_137 : decode cX2_leastNumber 137 = .ok (.iload 5, 2) := by decide +kernel
theorem dX2_leastNumber_139 : decode cX2_leastNumber 139 = .ok (.ireturn, 1) := by decide +kernel
set_option maxRecDepth 20000 in
theorem ggX2_lowestColumn_X2_column : GoodIn wsX2_lowestColumn wsX2_column := goodIn_r _ [8, 9, 10] (by decide +kernel) (by decide +kernel)
set_option maxRecDepth 20000 in
theorem gX2_lowestColumn_X2_column : GoodIn wsX2_lowestColumn (va_wsS RX2 46 yX2_column wsX2_column) := goodIn_app (goodIn_of _ (by decide +kernel)) ggX2_lowestColumn_X2_column
theorem dX2_lowestColumn_0 : decode cX2_lowestColumn 0 = .ok (.sipush 128, 3) := by decide +kernel
theorem dX2_lowestColumn_3 : decode cX2_lowestColumn 3 = .ok (.istore 4, 2) := by decide +kernel
theorem dX2_lowestColumn_5 : decode cX2_lowestColumn 5 = .ok (.iconst 0, 1) := by decide +kernel
theorem dX2_lowestColumn_6 : decode cX2_lowestColumn 6 = .ok (.istore 5, 2) := by decide +kernel
theorem dX2_lowestColumn_8 : decode cX2_lowestColumn 8 = .ok (.iload 5, 2) := by decide +kernel
theorem dX2_lowestColumn_10 : decode cX2_lowestColumn 10 = .ok (.aload_n 0, 1) := by decide +kernel
theorem dX2_lowestColumn_11 : decode cX2_lowestColumn 11 = .ok (.getfield 15, 3) := by decide +kernel
theorem dX2_lowestColumn_14 : decode cX2_lowestColumn 14 = .ok (.if_icmp .ge 33, 3) := by decide +kernel
theorem dX2_lowestColumn_17 : decode cX2_lowestColumn 17 = .ok (.iload_n 3, 1) := by decide +kernel
theorem dX2_lowestColumn_18 : decode cX2_lowestColumn 18 = .ok (.iload 5, 2) := by decide +kernel
theorem dX2_lowestColumn_20 : decode cX2_lowestColumn 20 = .ok (.ishr, 1) := by decide +kernel
theorem dX2_lowestColumn_21 : decode cX2_lowestColumn 21 = .ok (.iconst 1, 1) := by decide +kernel
theorem dX2_lowestColumn_22 : decode cX2_lowestColumn 22 = .ok (.iand, 1) := by decide +kernel
theorem dX2_lowestColumn_23 : decode cX2_lowestColumn 23 = .ok (.ifCond .ne 18, 3) := by decide +kernel
theorem dX2_lowestColumn_26 : decode cX2_lowestColumn 26 = .ok (.iload 4, 2) := by decide +kernel
theorem dX2_lowestColumn_28 : decode cX2_lowestColumn 28 = .ok (.aload_n 0, 1) := by decide +kernel
theorem dX2_lowestColumn_29 : decode cX2_lowestColumn 29 = .ok (.aload_n 1, 1) := by decide +kernel
theorem dX2_lowestColumn_30 : decode cX2_lowestColumn 30 = .ok (.iload_n 2, 1) := by decide +kernel
theorem dX2_lowestColumn_31 : decode cX2_lowestColumn 31 = .ok (.iload 5, 2) := by decide +kernel
theorem dX2_lowestColumn_33 : decode cX2_lowestColumn 33 = .ok (.invokestatic 46, 3) := by decide +kernel
theorem dX2_lowestColumn_36 : decode cX2_lowestColumn 36 = .ok (.invokestatic 33, 3) := by decide +kernel
theorem dX2_lowestColumn_39 : decode cX2_lowestColumn 39 = .ok (.istore 4, 2) := by decide +kernel
theorem dX2_lowestColumn_41 : decode cX2_lowestColumn 41 = .ok (.iinc 5 1, 3) := by decide +kernel
theorem dX2_lowestColumn_44 : decode cX2_lowestColumn 44 = .ok (.goto (-36), 3) := by decide +kernel
theorem dX2_lowestColumn_47 : decode cX2_lowestColumn 47 = .ok (.iload 4, 2) := by decide +kernel
theorem dX2_lowestColumn_49 : decode cX2_lowestColumn 49 = .ok (.ireturn, 1) := by decide +kernel
theorem dX2_column_0 : decode cX2_column 0 = .ok (.iconst 0, 1) := by decide +kernel
theorem dX2_column_1 : decode cX2_column 1 = .ok (.istore 4, 2) := by decide +kernel
theorem dX2_column_3 : decode cX2_column 3 = .ok (.iconst 0, 1) := by decide +kernel
theorem dX2_column_4 : decode cX2_column 4 = .ok (.istore 5, 2) := by decide +kernel
theorem dX2_column_6 : decode cX2_column 6 = .ok (.iload 5, 2) := by decide +kernel
theorem dX2_column_8 : decode cX2_column 8 = .ok (.iload_n 2, 1) := by decide +kernel
theorem dX2_column_9 : decode cX2_column 9 = .ok (.if_icmp .ge 29, 3) := by decide +kernel
theorem dX2_column_12 : decode cX2_column 12 = .ok (.iload 4, 2) := by decide +kernel
theorem dX2_column_14 : decode cX2_column 14 = .ok (.iconst 1, 1) := by decide +kernel
theorem dX2_column_15 : decode cX2_column 15 = .ok (.ishl, 1) := by decide +kernel
theorem dX2_column_16 : decode cX2_column 16 = .ok (.aload_n 0, 1) := by decide +kernel
theorem dX2_column_17 : decode cX2_column 17 = .ok (.getfield 53, 3) := by decide +kernel
theorem dX2_column_20 : decode cX2_column 20 = .ok (.aload_n 1, 1) := by decide +kernel
theorem dX2_column_21 : decode cX2_column 21 = .ok (.iload 5, 2) := by decide +kernel
theorem dX2_column_23 : decode cX2_column 23 = .ok (.iaload, 1) := by decide +kernel
theorem dX2_column_24 : decode cX2_column 24 = .ok (.iaload, 1) := by decide +kernel
theorem dX2_column_25 : decode cX2_column 25 = .ok (.iload_n 3, 1) := by decide +kernel
theorem dX2_column_26 : decode cX2_column 26 = .ok (.ishr, 1) := by decide +kernel
theorem dX2_column_27 : decode cX2_column 27 = .ok (.iconst 1, 1) := by decide +kernel
theorem dX2_column_28 : decode cX2_column 28 = .ok (.iand, 1) := by decide +kernel
theorem dX2_column_29 : decode cX2_column 29 = .ok (.ior, 1) := by decide +kernel
theorem dX2_column_30 : decode cX2_column 30 = .ok (.istore 4, 2) := by decide +kernel
theorem dX2_column_32 : decode cX2_column 32 = .ok (.iinc 5 1, 3) := by decide +kernel
theorem dX2_column_35 : decode cX2_column 35 = .ok (.goto (-29), 3) := by decide +kernel
theorem dX2_column_38 : decode cX2_column 38 = .ok (.iload 4, 2) := by decide +kernel
theorem dX2_column_40 : decode cX2_column 40 = .ok (.ireturn, 1) := by decide +kernel
set_option maxRecDepth 20000 in
theorem ggX2_hasTwin_X0_areTwins : GoodIn wsX2_hasTwin wsX0_areTwins := goodIn_r _ [4, 5, 6, 7] (by decide +kernel) (by decide +kernel)
set_option maxRecDepth 20000 in
theorem gX2_hasTwin_X0_areTwins_n56 : GoodIn wsX2_hasTwin (wsX0_areTwins) := ggX2_hasTwin_X0_areTwins
theorem dX2_hasTwin_0 : decode cX2_hasTwin 0 = .ok (.iconst 0, 1) := by decide +kernel
theorem dX2_hasTwin_1 : decode cX2_hasTwin 1 = .ok (.istore_n 3, 1) := by decide +kernel
theorem dX2_hasTwin_2 : decode cX2_hasTwin 2 = .ok (.iload_n 3, 1) := by decide +kernel
theorem dX2_hasTwin_3 : decode cX2_hasTwin 3 = .ok (.aload_n 0, 1) := by decide +kernel
theorem dX2_hasTwin_4 : decode cX2_hasTwin 4 = .ok (.getfield 15, 3) := by decide +kernel
theorem dX2_hasTwin_7 : decode cX2_hasTwin 7 = .ok (.if_icmp .ge 29, 3) := by decide +kernel
theorem dX2_hasTwin_10 : decode cX2_hasTwin 10 = .ok (.iload_n 2, 1) := by decide +kernel
theorem dX2_hasTwin_11 : decode cX2_hasTwin 11 = .ok (.iload_n 3, 1) := by decide +kernel
theorem dX2_hasTwin_12 : decode cX2_hasTwin 12 = .ok (.ishr, 1) := by decide +kernel
theorem dX2_hasTwin_13 : decode cX2_hasTwin 13 = .ok (.iconst 1, 1) := by decide +kernel
theorem dX2_hasTwin_14 : decode cX2_hasTwin 14 = .ok (.iand, 1) := by decide +kernel
theorem dX2_hasTwin_15 : decode cX2_hasTwin 15 = .ok (.iconst 1, 1) := by decide +kernel
theorem dX2_hasTwin_16 : decode cX2_hasTwin 16 = .ok (.if_icmp .ne 14, 3) := by decide +kernel
theorem dX2_hasTwin_19 : decode cX2_hasTwin 19 = .ok (.aload_n 0, 1) := by decide +kernel
theorem dX2_hasTwin_20 : decode cX2_hasTwin 20 = .ok (.iload_n 1, 1) := by decide +kernel
theorem dX2_hasTwin_21 : decode cX2_hasTwin 21 = .ok (.iload_n 3, 1) := by decide +kernel
theorem dX2_hasTwin_22 : decode cX2_hasTwin 22 = .ok (.invokevirtual 56, 3) := by decide +kernel
theorem dX2_hasTwin_25 : decode cX2_hasTwin 25 = .ok (.ifCond .eq 5, 3) := by decide +kernel
theorem dX2_hasTwin_28 : decode cX2_hasTwin 28 = .ok (.iconst 1, 1) := by decide +kernel
theorem dX2_hasTwin_29 : decode cX2_hasTwin 29 = .ok (.ireturn, 1) := by decide +kernel
theorem dX2_hasTwin_30 : decode cX2_hasTwin 30 = .ok (.iinc 3 1, 3) := by decide +kernel
theorem dX2_hasTwin_33 : decode cX2_hasTwin 33 = .ok (.goto (-31), 3) := by decide +kernel
theorem dX2_hasTwin_36 : decode cX2_hasTwin 36 = .ok (.iconst 0, 1) := by decide +kernel
theorem dX2_hasTwin_37 : decode cX2_hasTwin 37 = .ok (.ireturn, 1) := by decide +kernel
set_option maxRecDepth 20000 in
theorem ggX2_numberAsGiven_X0_joined : GoodIn wsX2_numberAsGiven wsX0_joined := goodIn_r _ [4, 5, 6, 7] (by decide +kernel) (by decide +kernel)
set_option maxRecDepth 20000 in
theorem gX2_numberAsGiven_X0_joined_n60 : GoodIn wsX2_numberAsGiven (wsX0_joined) := ggX2_numberAsGiven_X0_joined
theorem dX2_numberAsGiven_0 : decode cX2_numberAsGiven 0 = .ok (.iconst 0, 1) := by decide +kernel
theorem dX2_numberAsGiven_1 : decode cX2_numberAsGiven 1 = .ok (.istore_n 2, 1) := by decide +kernel
theorem dX2_numberAsGiven_2 : decode cX2_numberAsGiven 2 = .ok (.iconst 0, 1) := by decide +kernel
theorem dX2_numberAsGiven_3 : decode cX2_numberAsGiven 3 = .ok (.istore_n 3, 1) := by decide +kernel
theorem dX2_numberAsGiven_4 : decode cX2_numberAsGiven 4 = .ok (.iload_n 3, 1) := by decide +kernel
theorem dX2_numberAsGiven_5 : decode cX2_numberAsGiven 5 = .ok (.aload_n 0, 1) := by decide +kernel
theorem dX2_numberAsGiven_6 : decode cX2_numberAsGiven 6 = .ok (.getfield 15, 3) := by decide +kernel
theorem dX2_numberAsGiven_9 : decode cX2_numberAsGiven 9 = .ok (.if_icmp .ge 45, 3) := by decide +kernel
theorem dX2_numberAsGiven_12 : decode cX2_numberAsGiven 12 = .ok (.iload_n 3, 1) := by decide +kernel
theorem dX2_numberAsGiven_13 : decode cX2_numberAsGiven 13 = .ok (.iconst 1, 1) := by decide +kernel
theorem dX2_numberAsGiven_14 : decode cX2_numberAsGiven 14 = .ok (.iadd, 1) := by decide +kernel
theorem dX2_numberAsGiven_15 : decode cX2_numberAsGiven 15 = .ok (.istore 4, 2) := by decide +kernel
theorem dX2_numberAsGiven_17 : decode cX2_numberAsGiven 17 = .ok (.iload 4, 2) := by decide +kernel
theorem dX2_numberAsGiven_19 : decode cX2_numberAsGiven 19 = .ok (.aload_n 0, 1) := by decide +kernel
theorem dX2_numberAsGiven_20 : decode cX2_numberAsGiven 20 = .ok (.getfield 15, 3) := by decide +kernel
theorem dX2_numberAsGiven_23 : decode cX2_numberAsGiven 23 = .ok (.if_icmp .ge 25, 3) := by decide +kernel
theorem dX2_numberAsGiven_26 : decode cX2_numberAsGiven 26 = .ok (.iload_n 2, 1) := by decide +kernel
theorem dX2_numberAsGiven_27 : decode cX2_numberAsGiven 27 = .ok (.iconst 1, 1) := by decide +kernel
theorem dX2_numberAsGiven_28 : decode cX2_numberAsGiven 28 = .ok (.ishl, 1) := by decide +kernel
theorem dX2_numberAsGiven_29 : decode cX2_numberAsGiven 29 = .ok (.aload_n 0, 1) := by decide +kernel
theorem dX2_numberAsGiven_30 : decode cX2_numberAsGiven 30 = .ok (.aload_n 1, 1) := by decide +kernel
theorem dX2_numberAsGiven_31 : decode cX2_numberAsGiven 31 = .ok (.iload_n 3, 1) := by decide +kernel
theorem dX2_numberAsGiven_32 : decode cX2_numberAsGiven 32 = .ok (.iaload, 1) := by decide +kernel
theorem dX2_numberAsGiven_33 : decode cX2_numberAsGiven 33 = .ok (.aload_n 1, 1) := by decide +kernel
theorem dX2_numberAsGiven_34 : decode cX2_numberAsGiven 34 = .ok (.iload 4, 2) := by decide +kernel
theorem dX2_numberAsGiven_36 : decode cX2_numberAsGiven 36 = .ok (.iaload, 1) := by decide +kernel
end
section
theorem dX2_numberAsGiven_37 : decode cX2_numberAsGiven 37 = .ok (.invokevirtual 60, 3) := by decide +kernel
theorem dX2_numberAsGiven_40 : decode cX2_numberAsGiven 40 = .ok (.ior, 1) := by decide +kernel
theorem dX2_numberAsGiven_41 : decode cX2_numberAsGiven 41 = .ok (.istore_n 2, 1) := by decide +kernel
theorem dX2_numberAsGiven_42 : decode cX2_numberAsGiven 42 = .ok (.iinc 4 1, 3) := by decide +kernel
theorem dX2_numberAsGiven_45 : decode cX2_numberAsGiven 45 = .ok (.goto (-28), 3) := by decide +kernel
theorem dX2_numberAsGiven_48 : decode cX2_numberAsGiven 48 = .ok (.iinc 3 1, 3) := by decide +kernel
theorem dX2_numberAsGiven_51 : decode cX2_numberAsGiven 51 = .ok (.goto (-47), 3) := by decide +kernel
theorem dX2_numberAsGiven_54 : decode cX2_numberAsGiven 54 = .ok (.iload_n 2, 1) := by decide +kernel
theorem dX2_numberAsGiven_55 : decode cX2_numberAsGiven 55 = .ok (.ireturn, 1) := by decide +kernel
set_option maxRecDepth 20000 in
theorem ggX2_brings_X2_canGoOn : GoodIn wsX2_brings wsX2_canGoOn := goodIn_r _ [5, 6, 7, 4, 8, 9, 10, 11, 12, 13, 14, 15, 16, 17, 18, 19, 20, 21, 22, 23, 2, 3, 25, 26] (by decide +kernel) (by decide +kernel)
set_option maxRecDepth 20000 in
theorem gX2_brings_X2_canGoOn : GoodIn wsX2_brings (va_wsS RX2 63 yX2_canGoOn wsX2_canGoOn) := goodIn_app (goodIn_of _ (by decide +kernel)) ggX2_brings_X2_canGoOn
theorem dX2_brings_0 : decode cX2_brings 0 = .ok (.aload_n 1, 1) := by decide +kernel
theorem dX2_brings_1 : decode cX2_brings 1 = .ok (.aload_n 2, 1) := by decide +kernel
theorem dX2_brings_2 : decode cX2_brings 2 = .ok (.aload_n 0, 1) := by decide +kernel
theorem dX2_brings_3 : decode cX2_brings 3 = .ok (.getfield 9, 3) := by decide +kernel
theorem dX2_brings_6 : decode cX2_brings 6 = .ok (.iconst 0, 1) := by decide +kernel
theorem dX2_brings_7 : decode cX2_brings 7 = .ok (.iconst 0, 1) := by decide +kernel
theorem dX2_brings_8 : decode cX2_brings 8 = .ok (.invokestatic 63, 3) := by decide +kernel
theorem dX2_brings_11 : decode cX2_brings 11 = .ok (.ireturn, 1) := by decide +kernel
set_option maxRecDepth 20000 in
theorem ggX2_keepersOfClass_X0_leaveAlone : GoodIn wsX2_keepersOfClass wsX0_leaveAlone := goodIn_r _ [5, 6, 7, 8, 9, 3, 10, 11, 12, 13, 14, 15, 51, 52] (by decide +kernel) (by decide +kernel)
set_option maxRecDepth 20000 in
theorem gX2_keepersOfClass_X0_leaveAlone_n25 : GoodIn wsX2_keepersOfClass (wsX0_leaveAlone) := ggX2_keepersOfClass_X0_leaveAlone
set_option maxRecDepth 20000 in
theorem ggX2_keepersOfClass_X0_copySwitched : GoodIn wsX2_keepersOfClass wsX0_copySwitched := goodIn_r _ [18, 11, 6, 19, 20, 21, 22, 7, 8, 9, 3, 10, 12, 13, 14, 15, 51, 52] (by decide +kernel) (by decide +kernel)
set_option maxRecDepth 20000 in
theorem gX2_keepersOfClass_X0_copySwitched_n67 : GoodIn wsX2_keepersOfClass (wsX0_copySwitched) := ggX2_keepersOfClass_X0_copySwitched
set_option maxRecDepth 20000 in
theorem ggX2_keepersOfClass_X2_canGoOn : GoodIn wsX2_keepersOfClass wsX2_canGoOn := goodIn_r _ [26, 27, 28, 25, 29, 30, 3, 31, 32, 6, 33, 34, 35, 36, 37, 38, 39, 40, 41, 42, 23, 24, 51, 52] (by decide +kernel) (by decide +kernel)
set_option maxRecDepth 20000 in
theorem gX2_keepersOfClass_X2_canGoOn : GoodIn wsX2_keepersOfClass (va_wsS RX2 63 yX2_canGoOn wsX2_canGoOn) := goodIn_app (goodIn_of _ (by decide +kernel)) ggX2_keepersOfClass_X2_canGoOn
set_option maxRecDepth 20000 in
theorem ggX2_keepersOfClass_X2_keepersOfNet : GoodIn wsX2_keepersOfClass wsX2_keepersOfNet := goodIn_r _ [46, 1, 47, 48, 49, 25, 50, 27, 28, 29, 30, 3, 31, 32, 6, 33, 34, 35, 36, 37, 38, 39, 40, 41, 42, 23, 24, 26, 53, 51, 52] (by decide +kernel) (by decide +kernel)
set_option maxRecDepth 20000 in
theorem gX2_keepersOfClass_X2_keepersOfNet : GoodIn wsX2_keepersOfClass (wsV RX2 71 RX2 yX2_keepersOfNet wsX2_keepersOfNet) := goodIn_app (goodIn_of _ (by decide +kernel)) ggX2_keepersOfClass_X2_keepersOfNet
theorem dX2_keepersOfClass_0 : decode cX2_keepersOfClass 0 = .ok (.aload_n 1, 1) := by decide +kernel
theorem dX2_keepersOfClass_1 : decode cX2_keepersOfClass 1 = .ok (.iconst 0, 1) := by decide +kernel
theorem dX2_keepersOfClass_2 : decode cX2_keepersOfClass 2 = .ok (.invokevirtual 25, 3) := by decide +kernel
theorem dX2_keepersOfClass_5 : decode cX2_keepersOfClass 5 = .ok (.iconst 0, 1) := by decide +kernel
theorem dX2_keepersOfClass_6 : decode cX2_keepersOfClass 6 = .ok (.istore_n 3, 1) := by decide +kernel
theorem dX2_keepersOfClass_7 : decode cX2_keepersOfClass 7 = .ok (.iconst 0, 1) := by decide +kernel
theorem dX2_keepersOfClass_8 : decode cX2_keepersOfClass 8 = .ok (.istore 4, 2) := by decide +kernel
theorem dX2_keepersOfClass_10 : decode cX2_keepersOfClass 10 = .ok (.iload 4, 2) := by decide +kernel
theorem dX2_keepersOfClass_12 : decode cX2_keepersOfClass 12 = .ok (.aload_n 1, 1) := by decide +kernel
theorem dX2_keepersOfClass_13 : decode cX2_keepersOfClass 13 = .ok (.getfield 15, 3) := by decide +kernel
theorem dX2_keepersOfClass_16 : decode cX2_keepersOfClass 16 = .ok (.if_icmp .ge 49, 3) := by decide +kernel
theorem dX2_keepersOfClass_19 : decode cX2_keepersOfClass 19 = .ok (.aload_n 2, 1) := by decide +kernel
theorem dX2_keepersOfClass_20 : decode cX2_keepersOfClass 20 = .ok (.aload_n 1, 1) := by decide +kernel
theorem dX2_keepersOfClass_21 : decode cX2_keepersOfClass 21 = .ok (.aload_n 1, 1) := by decide +kernel
theorem dX2_keepersOfClass_22 : decode cX2_keepersOfClass 22 = .ok (.getfield 53, 3) := by decide +kernel
theorem dX2_keepersOfClass_25 : decode cX2_keepersOfClass 25 = .ok (.iload 4, 2) := by decide +kernel
theorem dX2_keepersOfClass_27 : decode cX2_keepersOfClass 27 = .ok (.iaload, 1) := by decide +kernel
theorem dX2_keepersOfClass_28 : decode cX2_keepersOfClass 28 = .ok (.invokevirtual 67, 3) := by decide +kernel
theorem dX2_keepersOfClass_31 : decode cX2_keepersOfClass 31 = .ok (.aload_n 0, 1) := by decide +kernel
theorem dX2_keepersOfClass_32 : decode cX2_keepersOfClass 32 = .ok (.getfield 9, 3) := by decide +kernel
theorem dX2_keepersOfClass_35 : decode cX2_keepersOfClass 35 = .ok (.iconst 0, 1) := by decide +kernel
theorem dX2_keepersOfClass_36 : decode cX2_keepersOfClass 36 = .ok (.iload 4, 2) := by decide +kernel
theorem dX2_keepersOfClass_38 : decode cX2_keepersOfClass 38 = .ok (.iastore, 1) := by decide +kernel
theorem dX2_keepersOfClass_39 : decode cX2_keepersOfClass 39 = .ok (.aload_n 1, 1) := by decide +kernel
theorem dX2_keepersOfClass_40 : decode cX2_keepersOfClass 40 = .ok (.aload_n 2, 1) := by decide +kernel
theorem dX2_keepersOfClass_41 : decode cX2_keepersOfClass 41 = .ok (.aload_n 0, 1) := by decide +kernel
theorem dX2_keepersOfClass_42 : decode cX2_keepersOfClass 42 = .ok (.getfield 9, 3) := by decide +kernel
theorem dX2_keepersOfClass_45 : decode cX2_keepersOfClass 45 = .ok (.iconst 1, 1) := by decide +kernel
theorem dX2_keepersOfClass_46 : decode cX2_keepersOfClass 46 = .ok (.iconst 1, 1) := by decide +kernel
theorem dX2_keepersOfClass_47 : decode cX2_keepersOfClass 47 = .ok (.iload 4, 2) := by decide +kernel
theorem dX2_keepersOfClass_49 : decode cX2_keepersOfClass 49 = .ok (.ishl, 1) := by decide +kernel
theorem dX2_keepersOfClass_50 : decode cX2_keepersOfClass 50 = .ok (.invokestatic 63, 3) := by decide +kernel
theorem dX2_keepersOfClass_53 : decode cX2_keepersOfClass 53 = .ok (.ifCond .eq 6, 3) := by decide +kernel
theorem dX2_keepersOfClass_56 : decode cX2_keepersOfClass 56 = .ok (.iinc 3 1, 3) := by decide +kernel
theorem dX2_keepersOfClass_59 : decode cX2_keepersOfClass 59 = .ok (.iinc 4 1, 3) := by decide +kernel
theorem dX2_keepersOfClass_62 : decode cX2_keepersOfClass 62 = .ok (.goto (-52), 3) := by decide +kernel
theorem dX2_keepersOfClass_65 : decode cX2_keepersOfClass 65 = .ok (.iload_n 3, 1) := by decide +kernel
theorem dX2_keepersOfClass_66 : decode cX2_keepersOfClass 66 = .ok (.aload_n 0, 1) := by decide +kernel
theorem dX2_keepersOfClass_67 : decode cX2_keepersOfClass 67 = .ok (.aload_n 1, 1) := by decide +kernel
theorem dX2_keepersOfClass_68 : decode cX2_keepersOfClass 68 = .ok (.iconst 1, 1) := by decide +kernel
theorem dX2_keepersOfClass_69 : decode cX2_keepersOfClass 69 = .ok (.invokevirtual 71, 3) := by decide +kernel
theorem dX2_keepersOfClass_72 : decode cX2_keepersOfClass 72 = .ok (.imul, 1) := by decide +kernel
theorem dX2_keepersOfClass_73 : decode cX2_keepersOfClass 73 = .ok (.ireturn, 1) := by decide +kernel
set_option maxRecDepth 20000 in
theorem ggX2_keepersOfNet_X2_placesOf : GoodIn wsX2_keepersOfNet wsX2_placesOf := goodIn_r _ [6, 1, 7, 8, 5, 9, 10, 11, 12, 13, 14, 15, 16, 17, 18, 19, 20, 21, 22, 23, 24, 25, 26, 27, 29, 30, 28] (by decide +kernel) (by decide +kernel)
set_option maxRecDepth 20000 in
theorem gX2_keepersOfNet_X2_placesOf : GoodIn wsX2_keepersOfNet (wsV RX2 75 RX2 yX2_placesOf wsX2_placesOf) := goodIn_app (goodIn_of _ (by decide +kernel)) ggX2_keepersOfNet_X2_placesOf
theorem dX2_keepersOfNet_0 : decode cX2_keepersOfNet 0 = .ok (.iconst 0, 1) := by decide +kernel
theorem dX2_keepersOfNet_1 : decode cX2_keepersOfNet 1 = .ok (.istore_n 3, 1) := by decide +kernel
theorem dX2_keepersOfNet_2 : decode cX2_keepersOfNet 2 = .ok (.iload_n 3, 1) := by decide +kernel
theorem dX2_keepersOfNet_3 : decode cX2_keepersOfNet 3 = .ok (.iload_n 2, 1) := by decide +kernel
theorem dX2_keepersOfNet_4 : decode cX2_keepersOfNet 4 = .ok (.if_icmp .ge 16, 3) := by decide +kernel
theorem dX2_keepersOfNet_7 : decode cX2_keepersOfNet 7 = .ok (.aload_n 0, 1) := by decide +kernel
theorem dX2_keepersOfNet_8 : decode cX2_keepersOfNet 8 = .ok (.getfield 9, 3) := by decide +kernel
theorem dX2_keepersOfNet_11 : decode cX2_keepersOfNet 11 = .ok (.iload_n 3, 1) := by decide +kernel
theorem dX2_keepersOfNet_12 : decode cX2_keepersOfNet 12 = .ok (.iload_n 3, 1) := by decide +kernel
theorem dX2_keepersOfNet_13 : decode cX2_keepersOfNet 13 = .ok (.iastore, 1) := by decide +kernel
theorem dX2_keepersOfNet_14 : decode cX2_keepersOfNet 14 = .ok (.iinc 3 1, 3) := by decide +kernel
theorem dX2_keepersOfNet_17 : decode cX2_keepersOfNet 17 = .ok (.goto (-15), 3) := by decide +kernel
theorem dX2_keepersOfNet_20 : decode cX2_keepersOfNet 20 = .ok (.iconst 1, 1) := by decide +kernel
theorem dX2_keepersOfNet_21 : decode cX2_keepersOfNet 21 = .ok (.istore_n 3, 1) := by decide +kernel
theorem dX2_keepersOfNet_22 : decode cX2_keepersOfNet 22 = .ok (.iload_n 2, 1) := by decide +kernel
theorem dX2_keepersOfNet_23 : decode cX2_keepersOfNet 23 = .ok (.istore 4, 2) := by decide +kernel
theorem dX2_keepersOfNet_25 : decode cX2_keepersOfNet 25 = .ok (.iload 4, 2) := by decide +kernel
theorem dX2_keepersOfNet_27 : decode cX2_keepersOfNet 27 = .ok (.aload_n 1, 1) := by decide +kernel
theorem dX2_keepersOfNet_28 : decode cX2_keepersOfNet 28 = .ok (.getfield 15, 3) := by decide +kernel
theorem dX2_keepersOfNet_31 : decode cX2_keepersOfNet 31 = .ok (.if_icmp .ge 28, 3) := by decide +kernel
theorem dX2_keepersOfNet_34 : decode cX2_keepersOfNet 34 = .ok (.iload_n 3, 1) := by decide +kernel
theorem dX2_keepersOfNet_35 : decode cX2_keepersOfNet 35 = .ok (.aload_n 0, 1) := by decide +kernel
theorem dX2_keepersOfNet_36 : decode cX2_keepersOfNet 36 = .ok (.aload_n 1, 1) := by decide +kernel
theorem dX2_keepersOfNet_37 : decode cX2_keepersOfNet 37 = .ok (.iload 4, 2) := by decide +kernel
theorem dX2_keepersOfNet_39 : decode cX2_keepersOfNet 39 = .ok (.invokevirtual 75, 3) := by decide +kernel
theorem dX2_keepersOfNet_42 : decode cX2_keepersOfNet 42 = .ok (.imul, 1) := by decide +kernel
theorem dX2_keepersOfNet_43 : decode cX2_keepersOfNet 43 = .ok (.istore_n 3, 1) := by decide +kernel
theorem dX2_keepersOfNet_44 : decode cX2_keepersOfNet 44 = .ok (.aload_n 0, 1) := by decide +kernel
theorem dX2_keepersOfNet_45 : decode cX2_keepersOfNet 45 = .ok (.getfield 9, 3) := by decide +kernel
theorem dX2_keepersOfNet_48 : decode cX2_keepersOfNet 48 = .ok (.iload 4, 2) := by decide +kernel
theorem dX2_keepersOfNet_50 : decode cX2_keepersOfNet 50 = .ok (.iload 4, 2) := by decide +kernel
theorem dX2_keepersOfNet_52 : decode cX2_keepersOfNet 52 = .ok (.iastore, 1) := by decide +kernel
theorem dX2_keepersOfNet_53 : decode cX2_keepersOfNet 53 = .ok (.iinc 4 1, 3) := by decide +kernel
theorem dX2_keepersOfNet_56 : decode cX2_keepersOfNet 56 = .ok (.goto (-31), 3) := by decide +kernel
theorem dX2_keepersOfNet_59 : decode cX2_keepersOfNet 59 = .ok (.iload_n 3, 1) := by decide +kernel
theorem dX2_keepersOfNet_60 : decode cX2_keepersOfNet 60 = .ok (.ireturn, 1) := by decide +kernel
set_option maxRecDepth 20000 in
theorem ggX2_placesOf_X2_goesTo : GoodIn wsX2_placesOf wsX2_goesTo := goodIn_r _ [5, 6, 7, 8, 9, 10, 11, 12, 13, 14, 15, 16, 17, 18, 19, 20, 24, 25] (by decide +kernel) (by decide +kernel)
set_option maxRecDepth 20000 in
theorem gX2_placesOf_X2_goesTo : GoodIn wsX2_placesOf (va_wsS RX2 78 yX2_goesTo wsX2_goesTo) := goodIn_app (goodIn_of _ (by decide +kernel)) ggX2_placesOf_X2_goesTo
set_option maxRecDepth 20000 in
theorem ggX2_placesOf_X2_canGoOn : GoodIn wsX2_placesOf wsX2_canGoOn := goodIn_r _ [23, 2, 3, 4, 5, 6, 7, 8, 9, 10, 11, 12, 13, 14, 15, 16, 17, 18, 19, 20, 21, 22, 24, 25] (by decide +kernel) (by decide +kernel)
set_option maxRecDepth 20000 in
theorem gX2_placesOf_X2_canGoOn : GoodIn wsX2_placesOf (va_wsS RX2 63 yX2_canGoOn wsX2_canGoOn) := goodIn_app (goodIn_of _ (by decide +kernel)) ggX2_placesOf_X2_canGoOn
theorem dX2_placesOf_0 : decode cX2_placesOf 0 = .ok (.iconst 1, 1) := by decide +kernel
theorem dX2_placesOf_1 : decode cX2_placesOf 1 = .ok (.iload_n 2, 1) := by decide +kernel
theorem dX2_placesOf_2 : decode cX2_placesOf 2 = .ok (.ishl, 1) := by decide +kernel
theorem dX2_placesOf_3 : decode cX2_placesOf 3 = .ok (.iconst 1, 1) := by decide +kernel
theorem dX2_placesOf_4 : decode cX2_placesOf 4 = .ok (.isub, 1) := by decide +kernel
theorem dX2_placesOf_5 : decode cX2_placesOf 5 = .ok (.istore_n 3, 1) := by decide +kernel
theorem dX2_placesOf_6 : decode cX2_placesOf 6 = .ok (.iconst 0, 1) := by decide +kernel
theorem dX2_placesOf_7 : decode cX2_placesOf 7 = .ok (.istore 4, 2) := by decide +kernel
theorem dX2_placesOf_9 : decode cX2_placesOf 9 = .ok (.iload_n 2, 1) := by decide +kernel
theorem dX2_placesOf_10 : decode cX2_placesOf 10 = .ok (.istore 5, 2) := by decide +kernel
theorem dX2_placesOf_12 : decode cX2_placesOf 12 = .ok (.iload 5, 2) := by decide +kernel
theorem dX2_placesOf_14 : decode cX2_placesOf 14 = .ok (.aload_n 1, 1) := by decide +kernel
theorem dX2_placesOf_15 : decode cX2_placesOf 15 = .ok (.getfield 15, 3) := by decide +kernel
theorem dX2_placesOf_18 : decode cX2_placesOf 18 = .ok (.if_icmp .ge 56, 3) := by decide +kernel
theorem dX2_placesOf_21 : decode cX2_placesOf 21 = .ok (.aload_n 1, 1) := by decide +kernel
theorem dX2_placesOf_22 : decode cX2_placesOf 22 = .ok (.aload_n 1, 1) := by decide +kernel
theorem dX2_placesOf_23 : decode cX2_placesOf 23 = .ok (.aload_n 0, 1) := by decide +kernel
theorem dX2_placesOf_24 : decode cX2_placesOf 24 = .ok (.getfield 9, 3) := by decide +kernel
theorem dX2_placesOf_27 : decode cX2_placesOf 27 = .ok (.iload_n 2, 1) := by decide +kernel
theorem dX2_placesOf_28 : decode cX2_placesOf 28 = .ok (.iload 5, 2) := by decide +kernel
theorem dX2_placesOf_30 : decode cX2_placesOf 30 = .ok (.invokestatic 78, 3) := by decide +kernel
theorem dX2_placesOf_33 : decode cX2_placesOf 33 = .ok (.ifCond .eq 35, 3) := by decide +kernel
theorem dX2_placesOf_36 : decode cX2_placesOf 36 = .ok (.aload_n 0, 1) := by decide +kernel
theorem dX2_placesOf_37 : decode cX2_placesOf 37 = .ok (.getfield 9, 3) := by decide +kernel
theorem dX2_placesOf_40 : decode cX2_placesOf 40 = .ok (.iload_n 2, 1) := by decide +kernel
theorem dX2_placesOf_41 : decode cX2_placesOf 41 = .ok (.iload 5, 2) := by decide +kernel
theorem dX2_placesOf_43 : decode cX2_placesOf 43 = .ok (.iastore, 1) := by decide +kernel
theorem dX2_placesOf_44 : decode cX2_placesOf 44 = .ok (.aload_n 1, 1) := by decide +kernel
theorem dX2_placesOf_45 : decode cX2_placesOf 45 = .ok (.aload_n 1, 1) := by decide +kernel
theorem dX2_placesOf_46 : decode cX2_placesOf 46 = .ok (.aload_n 0, 1) := by decide +kernel
theorem dX2_placesOf_47 : decode cX2_placesOf 47 = .ok (.getfield 9, 3) := by decide +kernel
theorem dX2_placesOf_50 : decode cX2_placesOf 50 = .ok (.iload_n 2, 1) := by decide +kernel
theorem dX2_placesOf_51 : decode cX2_placesOf 51 = .ok (.iconst 1, 1) := by decide +kernel
theorem dX2_placesOf_52 : decode cX2_placesOf 52 = .ok (.iadd, 1) := by decide +kernel
theorem dX2_placesOf_53 : decode cX2_placesOf 53 = .ok (.iload_n 3, 1) := by decide +kernel
theorem dX2_placesOf_54 : decode cX2_placesOf 54 = .ok (.iconst 1, 1) := by decide +kernel
theorem dX2_placesOf_55 : decode cX2_placesOf 55 = .ok (.iload 5, 2) := by decide +kernel
theorem dX2_placesOf_57 : decode cX2_placesOf 57 = .ok (.ishl, 1) := by decide +kernel
theorem dX2_placesOf_58 : decode cX2_placesOf 58 = .ok (.ior, 1) := by decide +kernel
theorem dX2_placesOf_59 : decode cX2_placesOf 59 = .ok (.invokestatic 63, 3) := by decide +kernel
theorem dX2_placesOf_62 : decode cX2_placesOf 62 = .ok (.ifCond .eq 6, 3) := by decide +kernel
theorem dX2_placesOf_65 : decode cX2_placesOf 65 = .ok (.iinc 4 1, 3) := by decide +kernel
theorem dX2_placesOf_68 : decode cX2_placesOf 68 = .ok (.iinc 5 1, 3) := by decide +kernel
theorem dX2_placesOf_71 : decode cX2_placesOf 71 = .ok (.goto (-59), 3) := by decide +kernel
theorem dX2_placesOf_74 : decode cX2_placesOf 74 = .ok (.iload 4, 2) := by decide +kernel
theorem dX2_placesOf_76 : decode cX2_placesOf 76 = .ok (.ireturn, 1) := by decide +kernel
set_option maxRecDepth 20000 in
theorem ggX2_canGoOn_X2_goesTo : GoodIn wsX2_canGoOn wsX2_goesTo := goodIn_r _ [4, 5, 6, 7, 8, 9, 10, 11, 12, 13, 14, 15, 16, 17, 18, 19, 22, 23] (by decide +kernel) (by decide +kernel)
set_option maxRecDepth 20000 in
theorem gX2_canGoOn_X2_goesTo : GoodIn wsX2_canGoOn (va_wsS RX2 78 yX2_goesTo wsX2_goesTo) := goodIn_app (goodIn_of _ (by decide +kernel)) ggX2_canGoOn_X2_goesTo
set_option maxRecDepth 20000 in
theorem ggX2_canGoOn_X2_canGoOn : GoodIn wsX2_canGoOn wsX2_canGoOn := goodIn_r _ [0, 1, 2, 3, 4, 5, 6, 7, 8, 9, 10, 11, 12, 13, 14, 15, 16, 17, 18, 19, 20, 21, 22, 23] (by decide +kernel) (by decide +kernel)
set_option maxRecDepth 20000 in
theorem gX2_canGoOn_X2_canGoOn : GoodIn wsX2_canGoOn (va_wsS RX2 63 yX2_canGoOn wsX2_canGoOn) := goodIn_app (goodIn_of _ (by decide +kernel)) ggX2_canGoOn_X2_canGoOn
theorem dX2_canGoOn_0 : decode cX2_canGoOn 0 = .ok (.iload_n 3, 1) := by decide +kernel
theorem dX2_canGoOn_1 : decode cX2_canGoOn 1 = .ok (.aload_n 0, 1) := by decide +kernel
theorem dX2_canGoOn_2 : decode cX2_canGoOn 2 = .ok (.getfield 15, 3) := by decide +kernel
theorem dX2_canGoOn_5 : decode cX2_canGoOn 5 = .ok (.if_icmp .lt 5, 3) := by decide +kernel
theorem dX2_canGoOn_8 : decode cX2_canGoOn 8 = .ok (.iconst 1, 1) := by decide +kernel
theorem dX2_canGoOn_9 : decode cX2_canGoOn 9 = .ok (.ireturn, 1) := by decide +kernel
theorem dX2_canGoOn_10 : decode cX2_canGoOn 10 = .ok (.iconst 0, 1) := by decide +kernel
theorem dX2_canGoOn_11 : decode cX2_canGoOn 11 = .ok (.istore 5, 2) := by decide +kernel
theorem dX2_canGoOn_13 : decode cX2_canGoOn 13 = .ok (.iload 5, 2) := by decide +kernel
theorem dX2_canGoOn_15 : decode cX2_canGoOn 15 = .ok (.aload_n 1, 1) := by decide +kernel
theorem dX2_canGoOn_16 : decode cX2_canGoOn 16 = .ok (.getfield 15, 3) := by decide +kernel
theorem dX2_canGoOn_19 : decode cX2_canGoOn 19 = .ok (.if_icmp .ge 57, 3) := by decide +kernel
theorem dX2_canGoOn_22 : decode cX2_canGoOn 22 = .ok (.iload 4, 2) := by decide +kernel
theorem dX2_canGoOn_24 : decode cX2_canGoOn 24 = .ok (.iload 5, 2) := by decide +kernel
theorem dX2_canGoOn_26 : decode cX2_canGoOn 26 = .ok (.ishr, 1) := by decide +kernel
theorem dX2_canGoOn_27 : decode cX2_canGoOn 27 = .ok (.iconst 1, 1) := by decide +kernel
theorem dX2_canGoOn_28 : decode cX2_canGoOn 28 = .ok (.iand, 1) := by decide +kernel
theorem dX2_canGoOn_29 : decode cX2_canGoOn 29 = .ok (.ifCond .ne 41, 3) := by decide +kernel
theorem dX2_canGoOn_32 : decode cX2_canGoOn 32 = .ok (.aload_n 0, 1) := by decide +kernel
theorem dX2_canGoOn_33 : decode cX2_canGoOn 33 = .ok (.aload_n 1, 1) := by decide +kernel
theorem dX2_canGoOn_34 : decode cX2_canGoOn 34 = .ok (.aload_n 2, 1) := by decide +kernel
theorem dX2_canGoOn_35 : decode cX2_canGoOn 35 = .ok (.iload_n 3, 1) := by decide +kernel
theorem dX2_canGoOn_36 : decode cX2_canGoOn 36 = .ok (.iload 5, 2) := by decide +kernel
theorem dX2_canGoOn_38 : decode cX2_canGoOn 38 = .ok (.invokestatic 78, 3) := by decide +kernel
theorem dX2_canGoOn_41 : decode cX2_canGoOn 41 = .ok (.ifCond .eq 29, 3) := by decide +kernel
theorem dX2_canGoOn_44 : decode cX2_canGoOn 44 = .ok (.aload_n 2, 1) := by decide +kernel
theorem dX2_canGoOn_45 : decode cX2_canGoOn 45 = .ok (.iload_n 3, 1) := by decide +kernel
theorem dX2_canGoOn_46 : decode cX2_canGoOn 46 = .ok (.iload 5, 2) := by decide +kernel
theorem dX2_canGoOn_48 : decode cX2_canGoOn 48 = .ok (.iastore, 1) := by decide +kernel
theorem dX2_canGoOn_49 : decode cX2_canGoOn 49 = .ok (.aload_n 0, 1) := by decide +kernel
theorem dX2_canGoOn_50 : decode cX2_canGoOn 50 = .ok (.aload_n 1, 1) := by decide +kernel
theorem dX2_canGoOn_51 : decode cX2_canGoOn 51 = .ok (.aload_n 2, 1) := by decide +kernel
theorem dX2_canGoOn_52 : decode cX2_canGoOn 52 = .ok (.iload_n 3, 1) := by decide +kernel
theorem dX2_canGoOn_53 : decode cX2_canGoOn 53 = .ok (.iconst 1, 1) := by decide +kernel
theorem dX2_canGoOn_54 : decode cX2_canGoOn 54 = .ok (.iadd, 1) := by decide +kernel
theorem dX2_canGoOn_55 : decode cX2_canGoOn 55 = .ok (.iload 4, 2) := by decide +kernel
theorem dX2_canGoOn_57 : decode cX2_canGoOn 57 = .ok (.iconst 1, 1) := by decide +kernel
theorem dX2_canGoOn_58 : decode cX2_canGoOn 58 = .ok (.iload 5, 2) := by decide +kernel
theorem dX2_canGoOn_60 : decode cX2_canGoOn 60 = .ok (.ishl, 1) := by decide +kernel
theorem dX2_canGoOn_61 : decode cX2_canGoOn 61 = .ok (.ior, 1) := by decide +kernel
theorem dX2_canGoOn_62 : decode cX2_canGoOn 62 = .ok (.invokestatic 63, 3) := by decide +kernel
theorem dX2_canGoOn_65 : decode cX2_canGoOn 65 = .ok (.ifCond .eq 5, 3) := by decide +kernel
theorem dX2_canGoOn_68 : decode cX2_canGoOn 68 = .ok (.iconst 1, 1) := by decide +kernel
theorem dX2_canGoOn_69 : decode cX2_canGoOn 69 = .ok (.ireturn, 1) := by decide +kernel
theorem dX2_canGoOn_70 : decode cX2_canGoOn 70 = .ok (.iinc 5 1, 3) := by decide +kernel
theorem dX2_canGoOn_73 : decode cX2_canGoOn 73 = .ok (.goto (-60), 3) := by decide +kernel
theorem dX2_canGoOn_76 : decode cX2_canGoOn 76 = .ok (.iconst 0, 1) := by decide +kernel
theorem dX2_canGoOn_77 : decode cX2_canGoOn 77 = .ok (.ireturn, 1) := by decide +kernel
set_option maxRecDepth 20000 in
theorem ggX2_goesTo_X0_degree : GoodIn wsX2_goesTo wsX0_degree := goodIn_r _ [4, 5, 6, 7, 8, 9, 10, 11, 12, 16, 17] (by decide +kernel) (by decide +kernel)
set_option maxRecDepth 20000 in
theorem gX2_goesTo_X0_degree_n81 : GoodIn wsX2_goesTo (wsX0_degree) := ggX2_goesTo_X0_degree
set_option maxRecDepth 20000 in
theorem ggX2_goesTo_X0_joined : GoodIn wsX2_goesTo wsX0_joined := goodIn_r _ [15, 5, 16, 17] (by decide +kernel) (by decide +kernel)
set_option maxRecDepth 20000 in
theorem gX2_goesTo_X0_joined_n60 : GoodIn wsX2_goesTo (wsX0_joined) := ggX2_goesTo_X0_joined
theorem dX2_goesTo_0 : decode cX2_goesTo 0 = .ok (.aload_n 0, 1) := by decide +kernel
theorem dX2_goesTo_1 : decode cX2_goesTo 1 = .ok (.iload_n 3, 1) := by decide +kernel
theorem dX2_goesTo_2 : decode cX2_goesTo 2 = .ok (.invokevirtual 81, 3) := by decide +kernel
theorem dX2_goesTo_5 : decode cX2_goesTo 5 = .ok (.aload_n 1, 1) := by decide +kernel
theorem dX2_goesTo_6 : decode cX2_goesTo 6 = .ok (.iload 4, 2) := by decide +kernel
theorem dX2_goesTo_8 : decode cX2_goesTo 8 = .ok (.invokevirtual 81, 3) := by decide +kernel
theorem dX2_goesTo_11 : decode cX2_goesTo 11 = .ok (.if_icmp .eq 5, 3) := by decide +kernel
theorem dX2_goesTo_14 : decode cX2_goesTo 14 = .ok (.iconst 0, 1) := by decide +kernel
theorem dX2_goesTo_15 : decode cX2_goesTo 15 = .ok (.ireturn, 1) := by decide +kernel
theorem dX2_goesTo_16 : decode cX2_goesTo 16 = .ok (.iconst 0, 1) := by decide +kernel
theorem dX2_goesTo_17 : decode cX2_goesTo 17 = .ok (.istore 5, 2) := by decide +kernel
theorem dX2_goesTo_19 : decode cX2_goesTo 19 = .ok (.iload 5, 2) := by decide +kernel
theorem dX2_goesTo_21 : decode cX2_goesTo 21 = .ok (.iload_n 3, 1) := by decide +kernel
theorem dX2_goesTo_22 : decode cX2_goesTo 22 = .ok (.if_icmp .ge 31, 3) := by decide +kernel
theorem dX2_goesTo_25 : decode cX2_goesTo 25 = .ok (.aload_n 0, 1) := by decide +kernel
theorem dX2_goesTo_26 : decode cX2_goesTo 26 = .ok (.iload 5, 2) := by decide +kernel
theorem dX2_goesTo_28 : decode cX2_goesTo 28 = .ok (.iload_n 3, 1) := by decide +kernel
theorem dX2_goesTo_29 : decode cX2_goesTo 29 = .ok (.invokevirtual 60, 3) := by decide +kernel
theorem dX2_goesTo_32 : decode cX2_goesTo 32 = .ok (.aload_n 1, 1) := by decide +kernel
theorem dX2_goesTo_33 : decode cX2_goesTo 33 = .ok (.aload_n 2, 1) := by decide +kernel
theorem dX2_goesTo_34 : decode cX2_goesTo 34 = .ok (.iload 5, 2) := by decide +kernel
theorem dX2_goesTo_36 : decode cX2_goesTo 36 = .ok (.iaload, 1) := by decide +kernel
theorem dX2_goesTo_37 : decode cX2_goesTo 37 = .ok (.iload 4, 2) := by decide +kernel
theorem dX2_goesTo_39 : decode cX2_goesTo 39 = .ok (.invokevirtual 60, 3) := by decide +kernel
theorem dX2_goesTo_42 : decode cX2_goesTo 42 = .ok (.if_icmp .eq 5, 3) := by decide +kernel
theorem dX2_goesTo_45 : decode cX2_goesTo 45 = .ok (.iconst 0, 1) := by decide +kernel
theorem dX2_goesTo_46 : decode cX2_goesTo 46 = .ok (.ireturn, 1) := by decide +kernel
theorem dX2_goesTo_47 : decode cX2_goesTo 47 = .ok (.iinc 5 1, 3) := by decide +kernel
theorem dX2_goesTo_50 : decode cX2_goesTo 50 = .ok (.goto (-31), 3) := by decide +kernel
theorem dX2_goesTo_53 : decode cX2_goesTo 53 = .ok (.iconst 1, 1) := by decide +kernel
theorem dX2_goesTo_54 : decode cX2_goesTo 54 = .ok (.ireturn, 1) := by decide +kernel
theorem dX3_init_0 : decode cX3_init 0 = .ok (.aload_n 0, 1) := by decide +kernel
theorem dX3_init_1 : decode cX3_init 1 = .ok (.invokespecial 3, 3) := by decide +kernel
theorem dX3_init_4 : decode cX3_init 4 = .ok (.aload_n 0, 1) := by decide +kernel
theorem dX3_init_5 : decode cX3_init 5 = .ok (.iconst 0, 1) := by decide +kernel
theorem dX3_init_6 : decode cX3_init 6 = .ok (.putfield 9, 3) := by decide +kernel
theorem dX3_init_9 : decode cX3_init 9 = .ok (.aload_n 0, 1) := by decide +kernel
theorem dX3_init_10 : decode cX3_init 10 = .ok (.iconst 3, 1) := by decide +kernel
theorem dX3_init_11 : decode cX3_init 11 = .ok (.newarray .int, 2) := by decide +kernel
theorem dX3_init_13 : decode cX3_init 13 = .ok (.putfield 15, 3) := by decide +kernel
theorem dX3_init_16 : decode cX3_init 16 = .ok (.return_, 1) := by decide +kernel
set_option maxRecDepth 20000 in
theorem ggX3_clear_J7_fill_53178 : GoodIn wsX3_clear wsJ7_fill_53178 := goodIn_r _ [6] (by decide +kernel) (by decide +kernel)
set_option maxRecDepth 20000 in
theorem gX3_clear_J7_fill_53178 : GoodIn wsX3_clear (va_wsS RX3 19 yJ7_fill_53178 wsJ7_fill_53178) := goodIn_app (goodIn_of _ (by decide +kernel)) ggX3_clear_J7_fill_53178
theorem dX3_clear_0 : decode cX3_clear 0 = .ok (.aload_n 0, 1) := by decide +kernel
theorem dX3_clear_1 : decode cX3_clear 1 = .ok (.iload_n 1, 1) := by decide +kernel
theorem dX3_clear_2 : decode cX3_clear 2 = .ok (.putfield 9, 3) := by decide +kernel
theorem dX3_clear_5 : decode cX3_clear 5 = .ok (.aload_n 0, 1) := by decide +kernel
theorem dX3_clear_6 : decode cX3_clear 6 = .ok (.getfield 15, 3) := by decide +kernel
theorem dX3_clear_9 : decode cX3_clear 9 = .ok (.iconst 0, 1) := by decide +kernel
theorem dX3_clear_10 : decode cX3_clear 10 = .ok (.invokestatic 19, 3) := by decide +kernel
theorem dX3_clear_13 : decode cX3_clear 13 = .ok (.return_, 1) := by decide +kernel
theorem dX3_copy_0 : decode cX3_copy 0 = .ok (.aload_n 0, 1) := by decide +kernel
theorem dX3_copy_1 : decode cX3_copy 1 = .ok (.aload_n 1, 1) := by decide +kernel
theorem dX3_copy_2 : decode cX3_copy 2 = .ok (.getfield 9, 3) := by decide +kernel
theorem dX3_copy_5 : decode cX3_copy 5 = .ok (.putfield 9, 3) := by decide +kernel
theorem dX3_copy_8 : decode cX3_copy 8 = .ok (.aload_n 1, 1) := by decide +kernel
theorem dX3_copy_9 : decode cX3_copy 9 = .ok (.getfield 15, 3) := by decide +kernel
theorem dX3_copy_12 : decode cX3_copy 12 = .ok (.iconst 0, 1) := by decide +kernel
theorem dX3_copy_13 : decode cX3_copy 13 = .ok (.aload_n 0, 1) := by decide +kernel
theorem dX3_copy_14 : decode cX3_copy 14 = .ok (.getfield 15, 3) := by decide +kernel
theorem dX3_copy_17 : decode cX3_copy 17 = .ok (.iconst 0, 1) := by decide +kernel
theorem dX3_copy_18 : decode cX3_copy 18 = .ok (.iconst 3, 1) := by decide +kernel
theorem dX3_copy_19 : decode cX3_copy 19 = .ok (.invokestatic 25, 3) := by decide +kernel
theorem dX3_copy_22 : decode cX3_copy 22 = .ok (.return_, 1) := by decide +kernel
theorem dX3_isUnused_0 : decode cX3_isUnused 0 = .ok (.aload_n 0, 1) := by decide +kernel
theorem dX3_isUnused_1 : decode cX3_isUnused 1 = .ok (.getfield 9, 3) := by decide +kernel
theorem dX3_isUnused_4 : decode cX3_isUnused 4 = .ok (.ifCond .ne 7, 3) := by decide +kernel
theorem dX3_isUnused_7 : decode cX3_isUnused 7 = .ok (.iconst 1, 1) := by decide +kernel
theorem dX3_isUnused_8 : decode cX3_isUnused 8 = .ok (.goto 4, 3) := by decide +kernel
theorem dX3_isUnused_11 : decode cX3_isUnused 11 = .ok (.iconst 0, 1) := by decide +kernel
theorem dX3_isUnused_12 : decode cX3_isUnused 12 = .ok (.ireturn, 1) := by decide +kernel
theorem dX4_init_0 : decode cX4_init 0 = .ok (.aload_n 0, 1) := by decide +kernel
theorem dX4_init_1 : decode cX4_init 1 = .ok (.invokespecial 3, 3) := by decide +kernel
theorem dX4_init_4 : decode cX4_init 4 = .ok (.aload_n 0, 1) := by decide +kernel
theorem dX4_init_5 : decode cX4_init 5 = .ok (.iconst 0, 1) := by decide +kernel
theorem dX4_init_6 : decode cX4_init 6 = .ok (.putfield 9, 3) := by decide +kernel
theorem dX4_init_9 : decode cX4_init 9 = .ok (.aload_n 0, 1) := by decide +kernel
theorem dX4_init_10 : decode cX4_init 10 = .ok (.iconst 0, 1) := by decide +kernel
theorem dX4_init_11 : decode cX4_init 11 = .ok (.putfield 15, 3) := by decide +kernel
theorem dX4_init_14 : decode cX4_init 14 = .ok (.aload_n 0, 1) := by decide +kernel
theorem dX4_init_15 : decode cX4_init 15 = .ok (.iconst 1, 1) := by decide +kernel
theorem dX4_init_16 : decode cX4_init 16 = .ok (.putfield 18, 3) := by decide +kernel
theorem dX4_init_19 : decode cX4_init 19 = .ok (.aload_n 0, 1) := by decide +kernel
theorem dX4_init_20 : decode cX4_init 20 = .ok (.lconst 1, 1) := by decide +kernel
theorem dX4_init_21 : decode cX4_init 21 = .ok (.putfield 21, 3) := by decide +kernel
theorem dX4_init_24 : decode cX4_init 24 = .ok (.aload_n 0, 1) := by decide +kernel
theorem dX4_init_25 : decode cX4_init 25 = .ok (.bipush 7, 2) := by decide +kernel
theorem dX4_init_27 : decode cX4_init 27 = .ok (.bipush 7, 2) := by decide +kernel
theorem dX4_init_29 : decode cX4_init 29 = .ok (.multianewarray 25 2, 4) := by decide +kernel
theorem dX4_init_33 : decode cX4_init 33 = .ok (.putfield 27, 3) := by decide +kernel
theorem dX4_init_36 : decode cX4_init 36 = .ok (.return_, 1) := by decide +kernel
set_option maxRecDepth 20000 in
theorem ggX4_fill_X0_joined : GoodIn wsX4_fill wsX0_joined := goodIn_r _ [6, 7, 8, 9] (by decide +kernel) (by decide +kernel)
set_option maxRecDepth 20000 in
theorem gX4_fill_X0_joined_n33 : GoodIn wsX4_fill (wsX0_joined) := ggX4_fill_X0_joined
theorem dX4_fill_0 : decode cX4_fill 0 = .ok (.aload_n 0, 1) := by decide +kernel
theorem dX4_fill_1 : decode cX4_fill 1 = .ok (.aload_n 1, 1) := by decide +kernel
theorem dX4_fill_2 : decode cX4_fill 2 = .ok (.getfield 30, 3) := by decide +kernel
theorem dX4_fill_5 : decode cX4_fill 5 = .ok (.putfield 9, 3) := by decide +kernel
theorem dX4_fill_8 : decode cX4_fill 8 = .ok (.iconst 0, 1) := by decide +kernel
theorem dX4_fill_9 : decode cX4_fill 9 = .ok (.istore_n 3, 1) := by decide +kernel
theorem dX4_fill_10 : decode cX4_fill 10 = .ok (.iload_n 3, 1) := by decide +kernel
theorem dX4_fill_11 : decode cX4_fill 11 = .ok (.aload_n 0, 1) := by decide +kernel
theorem dX4_fill_12 : decode cX4_fill 12 = .ok (.getfield 9, 3) := by decide +kernel
theorem dX4_fill_15 : decode cX4_fill 15 = .ok (.if_icmp .ge 60, 3) := by decide +kernel
theorem dX4_fill_18 : decode cX4_fill 18 = .ok (.iconst 0, 1) := by decide +kernel
theorem dX4_fill_19 : decode cX4_fill 19 = .ok (.istore 4, 2) := by decide +kernel
theorem dX4_fill_21 : decode cX4_fill 21 = .ok (.iload 4, 2) := by decide +kernel
theorem dX4_fill_23 : decode cX4_fill 23 = .ok (.aload_n 0, 1) := by decide +kernel
theorem dX4_fill_24 : decode cX4_fill 24 = .ok (.getfield 9, 3) := by decide +kernel
theorem dX4_fill_27 : decode cX4_fill 27 = .ok (.if_icmp .ge 42, 3) := by decide +kernel
theorem dX4_fill_30 : decode cX4_fill 30 = .ok (.aload_n 0, 1) := by decide +kernel
theorem dX4_fill_31 : decode cX4_fill 31 = .ok (.getfield 27, 3) := by decide +kernel
theorem dX4_fill_34 : decode cX4_fill 34 = .ok (.iload_n 3, 1) := by decide +kernel
theorem dX4_fill_35 : decode cX4_fill 35 = .ok (.aaload, 1) := by decide +kernel
theorem dX4_fill_36 : decode cX4_fill 36 = .ok (.iload 4, 2) := by decide +kernel
theorem dX4_fill_38 : decode cX4_fill 38 = .ok (.iload_n 3, 1) := by decide +kernel
theorem dX4_fill_39 : decode cX4_fill 39 = .ok (.iload 4, 2) := by decide +kernel
theorem dX4_fill_41 : decode cX4_fill 41 = .ok (.if_icmp .ne 9, 3) := by decide +kernel
theorem dX4_fill_44 : decode cX4_fill 44 = .ok (.iload_n 2, 1) := by decide +kernel
theorem dX4_fill_45 : decode cX4_fill 45 = .ok (.ineg, 1) := by decide +kernel
theorem dX4_fill_46 : decode cX4_fill 46 = .ok (.i2l, 1) := by decide +kernel
theorem dX4_fill_47 : decode cX4_fill 47 = .ok (.goto 15, 3) := by decide +kernel
theorem dX4_fill_50 : decode cX4_fill 50 = .ok (.iconst 1, 1) := by decide +kernel
theorem dX4_fill_51 : decode cX4_fill 51 = .ok (.iconst 2, 1) := by decide +kernel
theorem dX4_fill_52 : decode cX4_fill 52 = .ok (.aload_n 1, 1) := by decide +kernel
theorem dX4_fill_53 : decode cX4_fill 53 = .ok (.iload_n 3, 1) := by decide +kernel
theorem dX4_fill_54 : decode cX4_fill 54 = .ok (.iload 4, 2) := by decide +kernel
theorem dX4_fill_56 : decode cX4_fill 56 = .ok (.invokevirtual 33, 3) := by decide +kernel
theorem dX4_fill_59 : decode cX4_fill 59 = .ok (.imul, 1) := by decide +kernel
theorem dX4_fill_60 : decode cX4_fill 60 = .ok (.isub, 1) := by decide +kernel
theorem dX4_fill_61 : decode cX4_fill 61 = .ok (.i2l, 1) := by decide +kernel
theorem dX4_fill_62 : decode cX4_fill 62 = .ok (.lastore, 1) := by decide +kernel
theorem dX4_fill_63 : decode cX4_fill 63 = .ok (.iinc 4 1, 3) := by decide +kernel
theorem dX4_fill_66 : decode cX4_fill 66 = .ok (.goto (-45), 3) := by decide +kernel
theorem dX4_fill_69 : decode cX4_fill 69 = .ok (.iinc 3 1, 3) := by decide +kernel
theorem dX4_fill_72 : decode cX4_fill 72 = .ok (.goto (-62), 3) := by decide +kernel
theorem dX4_fill_75 : decode cX4_fill 75 = .ok (.return_, 1) := by decide +kernel
set_option maxRecDepth 20000 in
theorem ggX4_eliminate_X4_pivotRow : GoodIn wsX4_eliminate wsX4_pivotRow := goodIn_r _ [10, 1, 4, 5, 19, 20, 21, 22, 23] (by decide +kernel) (by decide +kernel)
set_option maxRecDepth 20000 in
theorem gX4_eliminate_X4_pivotRow : GoodIn wsX4_eliminate (wsV RX4 37 RX4 yX4_pivotRow wsX4_pivotRow) := goodIn_app (goodIn_of _ (by decide +kernel)) ggX4_eliminate_X4_pivotRow
set_option maxRecDepth 20000 in
theorem ggX4_eliminate_X4_bringUp : GoodIn wsX4_eliminate wsX4_bringUp := goodIn_r _ [14, 1, 4, 5, 2, 19, 20, 21, 22, 23] (by decide +kernel) (by decide +kernel)
set_option maxRecDepth 20000 in
theorem gX4_eliminate_X4_bringUp : GoodIn wsX4_eliminate (wsV RX4 41 RX4 yX4_bringUp wsX4_bringUp) := goodIn_app (goodIn_of _ (by decide +kernel)) ggX4_eliminate_X4_bringUp
set_option maxRecDepth 20000 in
theorem ggX4_eliminate_X4_clearBelow : GoodIn wsX4_eliminate wsX4_clearBelow := goodIn_r _ [18, 3, 5, 1, 4, 19, 20, 21, 22, 23] (by decide +kernel) (by decide +kernel)
set_option maxRecDepth 20000 in
theorem gX4_eliminate_X4_clearBelow : GoodIn wsX4_eliminate (wsV RX4 45 RX4 yX4_clearBelow wsX4_clearBelow) := goodIn_app (goodIn_of _ (by decide +kernel)) ggX4_eliminate_X4_clearBelow
theorem dX4_eliminate_0 : decode cX4_eliminate 0 = .ok (.aload_n 0, 1) := by decide +kernel
theorem dX4_eliminate_1 : decode cX4_eliminate 1 = .ok (.iconst 0, 1) := by decide +kernel
theorem dX4_eliminate_2 : decode cX4_eliminate 2 = .ok (.putfield 15, 3) := by decide +kernel
theorem dX4_eliminate_5 : decode cX4_eliminate 5 = .ok (.aload_n 0, 1) := by decide +kernel
theorem dX4_eliminate_6 : decode cX4_eliminate 6 = .ok (.iconst 1, 1) := by decide +kernel
theorem dX4_eliminate_7 : decode cX4_eliminate 7 = .ok (.putfield 18, 3) := by decide +kernel
theorem dX4_eliminate_10 : decode cX4_eliminate 10 = .ok (.aload_n 0, 1) := by decide +kernel
theorem dX4_eliminate_11 : decode cX4_eliminate 11 = .ok (.lconst 1, 1) := by decide +kernel
theorem dX4_eliminate_12 : decode cX4_eliminate 12 = .ok (.putfield 21, 3) := by decide +kernel
theorem dX4_eliminate_15 : decode cX4_eliminate 15 = .ok (.iconst 0, 1) := by decide +kernel
theorem dX4_eliminate_16 : decode cX4_eliminate 16 = .ok (.istore_n 1, 1) := by decide +kernel
theorem dX4_eliminate_17 : decode cX4_eliminate 17 = .ok (.iload_n 1, 1) := by decide +kernel
theorem dX4_eliminate_18 : decode cX4_eliminate 18 = .ok (.aload_n 0, 1) := by decide +kernel
theorem dX4_eliminate_19 : decode cX4_eliminate 19 = .ok (.getfield 9, 3) := by decide +kernel
theorem dX4_eliminate_22 : decode cX4_eliminate 22 = .ok (.if_icmp .ge 58, 3) := by decide +kernel
theorem dX4_eliminate_25 : decode cX4_eliminate 25 = .ok (.aload_n 0, 1) := by decide +kernel
theorem dX4_eliminate_26 : decode cX4_eliminate 26 = .ok (.iload_n 1, 1) := by decide +kernel
theorem dX4_eliminate_27 : decode cX4_eliminate 27 = .ok (.invokevirtual 37, 3) := by decide +kernel
theorem dX4_eliminate_30 : decode cX4_eliminate 30 = .ok (.istore_n 2, 1) := by decide +kernel
theorem dX4_eliminate_31 : decode cX4_eliminate 31 = .ok (.iload_n 2, 1) := by decide +kernel
theorem dX4_eliminate_32 : decode cX4_eliminate 32 = .ok (.aload_n 0, 1) := by decide +kernel
theorem dX4_eliminate_33 : decode cX4_eliminate 33 = .ok (.getfield 9, 3) := by decide +kernel
theorem dX4_eliminate_36 : decode cX4_eliminate 36 = .ok (.if_icmp .ge 38, 3) := by decide +kernel
theorem dX4_eliminate_39 : decode cX4_eliminate 39 = .ok (.aload_n 0, 1) := by decide +kernel
theorem dX4_eliminate_40 : decode cX4_eliminate 40 = .ok (.iload_n 2, 1) := by decide +kernel
theorem dX4_eliminate_41 : decode cX4_eliminate 41 = .ok (.invokevirtual 41, 3) := by decide +kernel
theorem dX4_eliminate_44 : decode cX4_eliminate 44 = .ok (.aload_n 0, 1) := by decide +kernel
theorem dX4_eliminate_45 : decode cX4_eliminate 45 = .ok (.iload_n 1, 1) := by decide +kernel
theorem dX4_eliminate_46 : decode cX4_eliminate 46 = .ok (.invokevirtual 45, 3) := by decide +kernel
theorem dX4_eliminate_49 : decode cX4_eliminate 49 = .ok (.aload_n 0, 1) := by decide +kernel
theorem dX4_eliminate_50 : decode cX4_eliminate 50 = .ok (.aload_n 0, 1) := by decide +kernel
theorem dX4_eliminate_51 : decode cX4_eliminate 51 = .ok (.getfield 27, 3) := by decide +kernel
theorem dX4_eliminate_54 : decode cX4_eliminate 54 = .ok (.aload_n 0, 1) := by decide +kernel
theorem dX4_eliminate_55 : decode cX4_eliminate 55 = .ok (.getfield 15, 3) := by decide +kernel
theorem dX4_eliminate_58 : decode cX4_eliminate 58 = .ok (.aaload, 1) := by decide +kernel
theorem dX4_eliminate_59 : decode cX4_eliminate 59 = .ok (.iload_n 1, 1) := by decide +kernel
theorem dX4_eliminate_60 : decode cX4_eliminate 60 = .ok (.laload, 1) := by decide +kernel
theorem dX4_eliminate_61 : decode cX4_eliminate 61 = .ok (.putfield 21, 3) := by decide +kernel
theorem dX4_eliminate_64 : decode cX4_eliminate 64 = .ok (.aload_n 0, 1) := by decide +kernel
theorem dX4_eliminate_65 : decode cX4_eliminate 65 = .ok (.dup, 1) := by decide +kernel
theorem dX4_eliminate_66 : decode cX4_eliminate 66 = .ok (.getfield 15, 3) := by decide +kernel
theorem dX4_eliminate_69 : decode cX4_eliminate 69 = .ok (.iconst 1, 1) := by decide +kernel
theorem dX4_eliminate_70 : decode cX4_eliminate 70 = .ok (.iadd, 1) := by decide +kernel
theorem dX4_eliminate_71 : decode cX4_eliminate 71 = .ok (.putfield 15, 3) := by decide +kernel
theorem dX4_eliminate_74 : decode cX4_eliminate 74 = .ok (.iinc 1 1, 3) := by decide +kernel
theorem dX4_eliminate_77 : decode cX4_eliminate 77 = .ok (.goto (-60), 3) := by decide +kernel
theorem dX4_eliminate_80 : decode cX4_eliminate 80 = .ok (.return_, 1) := by decide +kernel
theorem dX4_pivotRow_0 : decode cX4_pivotRow 0 = .ok (.aload_n 0, 1) := by decide +kernel
theorem dX4_pivotRow_1 : decode cX4_pivotRow 1 = .ok (.getfield 15, 3) := by decide +kernel
theorem dX4_pivotRow_4 : decode cX4_pivotRow 4 = .ok (.istore_n 2, 1) := by decide +kernel
theorem dX4_pivotRow_5 : decode cX4_pivotRow 5 = .ok (.iload_n 2, 1) := by decide +kernel
theorem dX4_pivotRow_6 : decode cX4_pivotRow 6 = .ok (.aload_n 0, 1) := by decide +kernel
theorem dX4_pivotRow_7 : decode cX4_pivotRow 7 = .ok (.getfield 9, 3) := by decide +kernel
theorem dX4_pivotRow_10 : decode cX4_pivotRow 10 = .ok (.if_icmp .ge 22, 3) := by decide +kernel
theorem dX4_pivotRow_13 : decode cX4_pivotRow 13 = .ok (.aload_n 0, 1) := by decide +kernel
theorem dX4_pivotRow_14 : decode cX4_pivotRow 14 = .ok (.getfield 27, 3) := by decide +kernel
theorem dX4_pivotRow_17 : decode cX4_pivotRow 17 = .ok (.iload_n 2, 1) := by decide +kernel
theorem dX4_pivotRow_18 : decode cX4_pivotRow 18 = .ok (.aaload, 1) := by decide +kernel
theorem dX4_pivotRow_19 : decode cX4_pivotRow 19 = .ok (.iload_n 1, 1) := by decide +kernel
theorem dX4_pivotRow_20 : decode cX4_pivotRow 20 = .ok (.laload, 1) := by decide +kernel
theorem dX4_pivotRow_21 : decode cX4_pivotRow 21 = .ok (.lconst 0, 1) := by decide +kernel
theorem dX4_pivotRow_22 : decode cX4_pivotRow 22 = .ok (.lcmp, 1) := by decide +kernel
theorem dX4_pivotRow_23 : decode cX4_pivotRow 23 = .ok (.ifCond .ne 9, 3) := by decide +kernel
theorem dX4_pivotRow_26 : decode cX4_pivotRow 26 = .ok (.iinc 2 1, 3) := by decide +kernel
theorem dX4_pivotRow_29 : decode cX4_pivotRow 29 = .ok (.goto (-24), 3) := by decide +kernel
theorem dX4_pivotRow_32 : decode cX4_pivotRow 32 = .ok (.iload_n 2, 1) := by decide +kernel
theorem dX4_pivotRow_33 : decode cX4_pivotRow 33 = .ok (.ireturn, 1) := by decide +kernel
theorem dX4_bringUp_0 : decode cX4_bringUp 0 = .ok (.iload_n 1, 1) := by decide +kernel
theorem dX4_bringUp_1 : decode cX4_bringUp 1 = .ok (.aload_n 0, 1) := by decide +kernel
theorem dX4_bringUp_2 : decode cX4_bringUp 2 = .ok (.getfield 15, 3) := by decide +kernel
theorem dX4_bringUp_5 : decode cX4_bringUp 5 = .ok (.if_icmp .ne 4, 3) := by decide +kernel
theorem dX4_bringUp_8 : decode cX4_bringUp 8 = .ok (.return_, 1) := by decide +kernel
theorem dX4_bringUp_9 : decode cX4_bringUp 9 = .ok (.iconst 0, 1) := by decide +kernel
theorem dX4_bringUp_10 : decode cX4_bringUp 10 = .ok (.istore_n 2, 1) := by decide +kernel
theorem dX4_bringUp_11 : decode cX4_bringUp 11 = .ok (.iload_n 2, 1) := by decide +kernel
theorem dX4_bringUp_12 : decode cX4_bringUp 12 = .ok (.aload_n 0, 1) := by decide +kernel
theorem dX4_bringUp_13 : decode cX4_bringUp 13 = .ok (.getfield 9, 3) := by decide +kernel
theorem dX4_bringUp_16 : decode cX4_bringUp 16 = .ok (.if_icmp .ge 49, 3) := by decide +kernel
theorem dX4_bringUp_19 : decode cX4_bringUp 19 = .ok (.aload_n 0, 1) := by decide +kernel
theorem dX4_bringUp_20 : decode cX4_bringUp 20 = .ok (.getfield 27, 3) := by decide +kernel
theorem dX4_bringUp_23 : decode cX4_bringUp 23 = .ok (.aload_n 0, 1) := by decide +kernel
theorem dX4_bringUp_24 : decode cX4_bringUp 24 = .ok (.getfield 15, 3) := by decide +kernel
theorem dX4_bringUp_27 : decode cX4_bringUp 27 = .ok (.aaload, 1) := by decide +kernel
theorem dX4_bringUp_28 : decode cX4_bringUp 28 = .ok (.iload_n 2, 1) := by decide +kernel
theorem dX4_bringUp_29 : decode cX4_bringUp 29 = .ok (.laload, 1) := by decide +kernel
theorem dX4_bringUp_30 : decode cX4_bringUp 30 = .ok (.lstore_n 3, 1) := by decide +kernel
theorem dX4_bringUp_31 : decode cX4_bringUp 31 = .ok (.aload_n 0, 1) := by decide +kernel
theorem dX4_bringUp_32 : decode cX4_bringUp 32 = .ok (.getfield 27, 3) := by decide +kernel
theorem dX4_bringUp_35 : decode cX4_bringUp 35 = .ok (.aload_n 0, 1) := by decide +kernel
theorem dX4_bringUp_36 : decode cX4_bringUp 36 = .ok (.getfield 15, 3) := by decide +kernel
theorem dX4_bringUp_39 : decode cX4_bringUp 39 = .ok (.aaload, 1) := by decide +kernel
theorem dX4_bringUp_40 : decode cX4_bringUp 40 = .ok (.iload_n 2, 1) := by decide +kernel
theorem dX4_bringUp_41 : decode cX4_bringUp 41 = .ok (.aload_n 0, 1) := by decide +kernel
theorem dX4_bringUp_42 : decode cX4_bringUp 42 = .ok (.getfield 27, 3) := by decide +kernel
theorem dX4_bringUp_45 : decode cX4_bringUp 45 = .ok (.iload_n 1, 1) := by decide +kernel
theorem dX4_bringUp_46 : decode cX4_bringUp 46 = .ok (.aaload, 1) := by decide +kernel
theorem dX4_bringUp_47 : decode cX4_bringUp 47 = .ok (.iload_n 2, 1) := by decide +kernel
theorem dX4_bringUp_48 : decode cX4_bringUp 48 = .ok (.laload, 1) := by decide +kernel
theorem dX4_bringUp_49 : decode cX4_bringUp 49 = .ok (.lastore, 1) := by decide +kernel
theorem dX4_bringUp_50 : decode cX4_bringUp 50 = .ok (.aload_n 0, 1) := by decide +kernel
theorem dX4_bringUp_51 : decode cX4_bringUp 51 = .ok (.getfield 27, 3) := by decide +kernel
theorem dX4_bringUp_54 : decode cX4_bringUp 54 = .ok (.iload_n 1, 1) := by decide +kernel
theorem dX4_bringUp_55 : decode cX4_bringUp 55 = .ok (.aaload, 1) := by decide +kernel
theorem dX4_bringUp_56 : decode cX4_bringUp 56 = .ok (.iload_n 2, 1) := by decide +kernel
theorem dX4_bringUp_57 : decode cX4_bringUp 57 = .ok (.lload_n 3, 1) := by decide +kernel
theorem dX4_bringUp_58 : decode cX4_bringUp 58 = .ok (.lastore, 1) := by decide +kernel
theorem dX4_bringUp_59 : decode cX4_bringUp 59 = .ok (.iinc 2 1, 3) := by decide +kernel
theorem dX4_bringUp_62 : decode cX4_bringUp 62 = .ok (.goto (-51), 3) := by decide +kernel
theorem dX4_bringUp_65 : decode cX4_bringUp 65 = .ok (.aload_n 0, 1) := by decide +kernel
theorem dX4_bringUp_66 : decode cX4_bringUp 66 = .ok (.aload_n 0, 1) := by decide +kernel
theorem dX4_bringUp_67 : decode cX4_bringUp 67 = .ok (.getfield 18, 3) := by decide +kernel
theorem dX4_bringUp_70 : decode cX4_bringUp 70 = .ok (.ineg, 1) := by decide +kernel
theorem dX4_bringUp_71 : decode cX4_bringUp 71 = .ok (.putfield 18, 3) := by decide +kernel
theorem dX4_bringUp_74 : decode cX4_bringUp 74 = .ok (.return_, 1) := by decide +kernel
theorem dX4_clearBelow_0 : decode cX4_clearBelow 0 = .ok (.aload_n 0, 1) := by decide +kernel
theorem dX4_clearBelow_1 : decode cX4_clearBelow 1 = .ok (.getfield 21, 3) := by decide +kernel
theorem dX4_clearBelow_4 : decode cX4_clearBelow 4 = .ok (.lconst 0, 1) := by decide +kernel
theorem dX4_clearBelow_5 : decode cX4_clearBelow 5 = .ok (.lcmp, 1) := by decide +kernel
theorem dX4_clearBelow_6 : decode cX4_clearBelow 6 = .ok (.ifCond .ne 4, 3) := by decide +kernel
theorem dX4_clearBelow_9 : decode cX4_clearBelow 9 = .ok (.return_, 1) := by decide +kernel
theorem dX4_clearBelow_10 : decode cX4_clearBelow 10 = .ok (.aload_n 0, 1) := by decide +kernel
theorem dX4_clearBelow_11 : decode cX4_clearBelow 11 = .ok (.getfield 27, 3) := by decide +kernel
theorem dX4_clearBelow_14 : decode cX4_clearBelow 14 = .ok (.aload_n 0, 1) := by decide +kernel
theorem dX4_clearBelow_15 : decode cX4_clearBelow 15 = .ok (.getfield 15, 3) := by decide +kernel
theorem dX4_clearBelow_18 : decode cX4_clearBelow 18 = .ok (.aaload, 1) := by decide +kernel
theorem dX4_clearBelow_19 : decode cX4_clearBelow 19 = .ok (.iload_n 1, 1) := by decide +kernel
theorem dX4_clearBelow_20 : decode cX4_clearBelow 20 = .ok (.laload, 1) := by decide +kernel
theorem dX4_clearBelow_21 : decode cX4_clearBelow 21 = .ok (.lstore_n 2, 1) := by decide +kernel
theorem dX4_clearBelow_22 : decode cX4_clearBelow 22 = .ok (.aload_n 0, 1) := by decide +kernel
theorem dX4_clearBelow_23 : decode cX4_clearBelow 23 = .ok (.getfield 15, 3) := by decide +kernel
theorem dX4_clearBelow_26 : decode cX4_clearBelow 26 = .ok (.iconst 1, 1) := by decide +kernel
theorem dX4_clearBelow_27 : decode cX4_clearBelow 27 = .ok (.iadd, 1) := by decide +kernel
theorem dX4_clearBelow_28 : decode cX4_clearBelow 28 = .ok (.istore 4, 2) := by decide +kernel
theorem dX4_clearBelow_30 : decode cX4_clearBelow 30 = .ok (.iload 4, 2) := by decide +kernel
theorem dX4_clearBelow_32 : decode cX4_clearBelow 32 = .ok (.aload_n 0, 1) := by decide +kernel
theorem dX4_clearBelow_33 : decode cX4_clearBelow 33 = .ok (.getfield 9, 3) := by decide +kernel
theorem dX4_clearBelow_36 : decode cX4_clearBelow 36 = .ok (.if_icmp .ge 81, 3) := by decide +kernel
theorem dX4_clearBelow_39 : decode cX4_clearBelow 39 = .ok (.aload_n 0, 1) := by decide +kernel
theorem dX4_clearBelow_40 : decode cX4_clearBelow 40 = .ok (.getfield 27, 3) := by decide +kernel
theorem dX4_clearBelow_43 : decode cX4_clearBelow 43 = .ok (.iload 4, 2) := by decide +kernel
theorem dX4_clearBelow_45 : decode cX4_clearBelow 45 = .ok (.aaload, 1) := by decide +kernel
theorem dX4_clearBelow_46 : decode cX4_clearBelow 46 = .ok (.iload_n 1, 1) := by decide +kernel
theorem dX4_clearBelow_47 : decode cX4_clearBelow 47 = .ok (.laload, 1) := by decide +kernel
theorem dX4_clearBelow_48 : decode cX4_clearBelow 48 = .ok (.lstore 5, 2) := by decide +kernel
theorem dX4_clearBelow_50 : decode cX4_clearBelow 50 = .ok (.iload_n 1, 1) := by decide +kernel
theorem dX4_clearBelow_51 : decode cX4_clearBelow 51 = .ok (.istore 7, 2) := by decide +kernel
theorem dX4_clearBelow_53 : decode cX4_clearBelow 53 = .ok (.iload 7, 2) := by decide +kernel
theorem dX4_clearBelow_55 : decode cX4_clearBelow 55 = .ok (.aload_n 0, 1) := by decide +kernel
theorem dX4_clearBelow_56 : decode cX4_clearBelow 56 = .ok (.getfield 9, 3) := by decide +kernel
theorem dX4_clearBelow_59 : decode cX4_clearBelow 59 = .ok (.if_icmp .ge 52, 3) := by decide +kernel
theorem dX4_clearBelow_62 : decode cX4_clearBelow 62 = .ok (.aload_n 0, 1) := by decide +kernel
theorem dX4_clearBelow_63 : decode cX4_clearBelow 63 = .ok (.getfield 27, 3) := by decide +kernel
theorem dX4_clearBelow_66 : decode cX4_clearBelow 66 = .ok (.iload 4, 2) := by decide +kernel
theorem dX4_clearBelow_68 : decode cX4_clearBelow 68 = .ok (.aaload, 1) := by decide +kernel
theorem dX4_clearBelow_69 : decode cX4_clearBelow 69 = .ok (.iload 7, 2) := by decide +kernel
theorem dX4_clearBelow_71 : decode cX4_clearBelow 71 = .ok (.lload_n 2, 1) := by decide +kernel
theorem dX4_clearBelow_72 : decode cX4_clearBelow 72 = .ok (.aload_n 0, 1) := by decide +kernel
theorem dX4_clearBelow_73 : decode cX4_clearBelow 73 = .ok (.getfield 27, 3) := by decide +kernel
theorem dX4_clearBelow_76 : decode cX4_clearBelow 76 = .ok (.iload 4, 2) := by decide +kernel
theorem dX4_clearBelow_78 : decode cX4_clearBelow 78 = .ok (.aaload, 1) := by decide +kernel
theorem dX4_clearBelow_79 : decode cX4_clearBelow 79 = .ok (.iload 7, 2) := by decide +kernel
theorem dX4_clearBelow_81 : decode cX4_clearBelow 81 = .ok (.laload, 1) := by decide +kernel
theorem dX4_clearBelow_82 : decode cX4_clearBelow 82 = .ok (.lmul, 1) := by decide +kernel
theorem dX4_clearBelow_83 : decode cX4_clearBelow 83 = .ok (.lload 5, 2) := by decide +kernel
theorem dX4_clearBelow_85 : decode cX4_clearBelow 85 = .ok (.aload_n 0, 1) := by decide +kernel
theorem dX4_clearBelow_86 : decode cX4_clearBelow 86 = .ok (.getfield 27, 3) := by decide +kernel
theorem dX4_clearBelow_89 : decode cX4_clearBelow 89 = .ok (.aload_n 0, 1) := by decide +kernel
theorem dX4_clearBelow_90 : decode cX4_clearBelow 90 = .ok (.getfield 15, 3) := by decide +kernel
theorem dX4_clearBelow_93 : decode cX4_clearBelow 93 = .ok (.aaload, 1) := by decide +kernel
theorem dX4_clearBelow_94 : decode cX4_clearBelow 94 = .ok (.iload 7, 2) := by decide +kernel
theorem dX4_clearBelow_96 : decode cX4_clearBelow 96 = .ok (.laload, 1) := by decide +kernel
theorem dX4_clearBelow_97 : decode cX4_clearBelow 97 = .ok (.lmul, 1) := by decide +kernel
theorem dX4_clearBelow_98 : decode cX4_clearBelow 98 = .ok (.lsub, 1) := by decide +kernel
theorem dX4_clearBelow_99 : decode cX4_clearBelow 99 = .ok (.aload_n 0, 1) := by decide +kernel
theorem dX4_clearBelow_100 : decode cX4_clearBelow 100 = .ok (.getfield 21, 3) := by decide +kernel
theorem dX4_clearBelow_103 : decode cX4_clearBelow 103 = .ok (.ldiv, 1) := by decide +kernel
theorem dX4_clearBelow_104 : decode cX4_clearBelow 104 = .ok (.lastore, 1) := by decide +kernel
theorem dX4_clearBelow_105 : decode cX4_clearBelow 105 = .ok (.iinc 7 1, 3) := by decide +kernel
theorem dX4_clearBelow_108 : decode cX4_clearBelow 108 = .ok (.goto (-55), 3) := by decide +kernel
theorem dX4_clearBelow_111 : decode cX4_clearBelow 111 = .ok (.iinc 4 1, 3) := by decide +kernel
theorem dX4_clearBelow_114 : decode cX4_clearBelow 114 = .ok (.goto (-84), 3) := by decide +kernel
theorem dX4_clearBelow_117 : decode cX4_clearBelow 117 = .ok (.return_, 1) := by decide +kernel
theorem dX4_determinant_0 : decode cX4_determinant 0 = .ok (.aload_n 0, 1) := by decide +kernel
theorem dX4_determinant_1 : decode cX4_determinant 1 = .ok (.getfield 15, 3) := by decide +kernel
theorem dX4_determinant_4 : decode cX4_determinant 4 = .ok (.aload_n 0, 1) := by decide +kernel
theorem dX4_determinant_5 : decode cX4_determinant 5 = .ok (.getfield 9, 3) := by decide +kernel
theorem dX4_determinant_8 : decode cX4_determinant 8 = .ok (.if_icmp .ne 16, 3) := by decide +kernel
theorem dX4_determinant_11 : decode cX4_determinant 11 = .ok (.aload_n 0, 1) := by decide +kernel
theorem dX4_determinant_12 : decode cX4_determinant 12 = .ok (.getfield 18, 3) := by decide +kernel
theorem dX4_determinant_15 : decode cX4_determinant 15 = .ok (.i2l, 1) := by decide +kernel
theorem dX4_determinant_16 : decode cX4_determinant 16 = .ok (.aload_n 0, 1) := by decide +kernel
theorem dX4_determinant_17 : decode cX4_determinant 17 = .ok (.getfield 21, 3) := by decide +kernel
theorem dX4_determinant_20 : decode cX4_determinant 20 = .ok (.lmul, 1) := by decide +kernel
theorem dX4_determinant_21 : decode cX4_determinant 21 = .ok (.goto 4, 3) := by decide +kernel
theorem dX4_determinant_24 : decode cX4_determinant 24 = .ok (.lconst 0, 1) := by decide +kernel
theorem dX4_determinant_25 : decode cX4_determinant 25 = .ok (.lreturn, 1) := by decide +kernel
set_option maxRecDepth 20000 in
theorem ggX5_init_X3_init : GoodIn wsX5_init wsX3_init := goodIn_r _ [29, 30, 2, 3, 31, 26, 32, 64, 65] (by decide +kernel) (by decide +kernel)
set_option maxRecDepth 20000 in
theorem gX5_init_X3_init_n9 : GoodIn wsX5_init (wsX3_init) := ggX5_init_X3_init
set_option maxRecDepth 20000 in
theorem ggX5_init_X1_init : GoodIn wsX5_init wsX1_init := goodIn_r _ [34, 35, 2, 3, 36, 26, 37, 74, 75] (by decide +kernel) (by decide +kernel)
set_option maxRecDepth 20000 in
theorem gX5_init_X1_init_n22 : GoodIn wsX5_init (wsX1_init) := ggX5_init_X1_init
set_option maxRecDepth 20000 in
theorem ggX5_init_X0_init : GoodIn wsX5_init wsX0_init := goodIn_r _ [39, 40, 2, 3, 41, 26, 42, 76, 77] (by decide +kernel) (by decide +kernel)
set_option maxRecDepth 20000 in
theorem gX5_init_X0_init_n29 : GoodIn wsX5_init (wsX0_init) := ggX5_init_X0_init
set_option maxRecDepth 20000 in
theorem ggX5_init_X2_init : GoodIn wsX5_init wsX2_init := goodIn_r _ [44, 45, 2, 3, 26, 46, 78] (by decide +kernel) (by decide +kernel)
set_option maxRecDepth 20000 in
theorem gX5_init_X2_init_n39 : GoodIn wsX5_init (wsX2_init) := ggX5_init_X2_init
set_option maxRecDepth 20000 in
theorem ggX5_init_X4_init : GoodIn wsX5_init wsX4_init := goodIn_r _ [48, 49, 2, 3, 50, 51, 52, 53, 54, 55, 56, 79, 80, 81, 82, 83] (by decide +kernel) (by decide +kernel)
set_option maxRecDepth 20000 in
theorem gX5_init_X4_init_n46 : GoodIn wsX5_init (wsX4_init) := ggX5_init_X4_init
set_option maxRecDepth 20000 in
theorem ggX5_init_X3_clear : GoodIn wsX5_init wsX3_clear := goodIn_r _ [59, 31, 32, 60, 61, 62, 63, 64, 65] (by decide +kernel) (by decide +kernel)
set_option maxRecDepth 20000 in
theorem gX5_init_X3_clear_n55 : GoodIn wsX5_init (wsX3_clear) := ggX5_init_X3_clear
theorem dX5_init_0 : decode cX5_init 0 = .ok (.aload_n 0, 1) := by decide +kernel
theorem dX5_init_1 : decode cX5_init 1 = .ok (.invokespecial 1, 3) := by decide +kernel
theorem dX5_init_4 : decode cX5_init 4 = .ok (.aload_n 0, 1) := by decide +kernel
theorem dX5_init_5 : decode cX5_init 5 = .ok (.new 7, 3) := by decide +kernel
theorem dX5_init_8 : decode cX5_init 8 = .ok (.dup, 1) := by decide +kernel
theorem dX5_init_9 : decode cX5_init 9 = .ok (.invokespecial 9, 3) := by decide +kernel
theorem dX5_init_12 : decode cX5_init 12 = .ok (.putfield 10, 3) := by decide +kernel
theorem dX5_init_15 : decode cX5_init 15 = .ok (.aload_n 0, 1) := by decide +kernel
theorem dX5_init_16 : decode cX5_init 16 = .ok (.iconst 2, 1) := by decide +kernel
theorem dX5_init_17 : decode cX5_init 17 = .ok (.anewarray 7, 3) := by decide +kernel
theorem dX5_init_20 : decode cX5_init 20 = .ok (.putfield 16, 3) := by decide +kernel
theorem dX5_init_23 : decode cX5_init 23 = .ok (.aload_n 0, 1) := by decide +kernel
theorem dX5_init_24 : decode cX5_init 24 = .ok (.new 20, 3) := by decide +kernel
theorem dX5_init_27 : decode cX5_init 27 = .ok (.dup, 1) := by decide +kernel
theorem dX5_init_28 : decode cX5_init 28 = .ok (.invokespecial 22, 3) := by decide +kernel
theorem dX5_init_31 : decode cX5_init 31 = .ok (.putfield 23, 3) := by decide +kernel
theorem dX5_init_34 : decode cX5_init 34 = .ok (.aload_n 0, 1) := by decide +kernel
theorem dX5_init_35 : decode cX5_init 35 = .ok (.new 27, 3) := by decide +kernel
theorem dX5_init_38 : decode cX5_init 38 = .ok (.dup, 1) := by decide +kernel
theorem dX5_init_39 : decode cX5_init 39 = .ok (.invokespecial 29, 3) := by decide +kernel
theorem dX5_init_42 : decode cX5_init 42 = .ok (.putfield 30, 3) := by decide +kernel
theorem dX5_init_45 : decode cX5_init 45 = .ok (.aload_n 0, 1) := by decide +kernel
theorem dX5_init_46 : decode cX5_init 46 = .ok (.new 27, 3) := by decide +kernel
theorem dX5_init_49 : decode cX5_init 49 = .ok (.dup, 1) := by decide +kernel
theorem dX5_init_50 : decode cX5_init 50 = .ok (.invokespecial 29, 3) := by decide +kernel
theorem dX5_init_53 : decode cX5_init 53 = .ok (.putfield 34, 3) := by decide +kernel
theorem dX5_init_56 : decode cX5_init 56 = .ok (.aload_n 0, 1) := by decide +kernel
theorem dX5_init_57 : decode cX5_init 57 = .ok (.new 37, 3) := by decide +kernel
theorem dX5_init_60 : decode cX5_init 60 = .ok (.dup, 1) := by decide +kernel
theorem dX5_init_61 : decode cX5_init 61 = .ok (.invokespecial 39, 3) := by decide +kernel
theorem dX5_init_64 : decode cX5_init 64 = .ok (.putfield 40, 3) := by decide +kernel
theorem dX5_init_67 : decode cX5_init 67 = .ok (.aload_n 0, 1) := by decide +kernel
theorem dX5_init_68 : decode cX5_init 68 = .ok (.new 44, 3) := by decide +kernel
theorem dX5_init_71 : decode cX5_init 71 = .ok (.dup, 1) := by decide +kernel
theorem dX5_init_72 : decode cX5_init 72 = .ok (.invokespecial 46, 3) := by decide +kernel
theorem dX5_init_75 : decode cX5_init 75 = .ok (.putfield 47, 3) := by decide +kernel
theorem dX5_init_78 : decode cX5_init 78 = .ok (.aload_n 0, 1) := by decide +kernel
theorem dX5_init_79 : decode cX5_init 79 = .ok (.iconst 3, 1) := by decide +kernel
theorem dX5_init_80 : decode cX5_init 80 = .ok (.newarray .int, 2) := by decide +kernel
theorem dX5_init_82 : decode cX5_init 82 = .ok (.putfield 51, 3) := by decide +kernel
theorem dX5_init_85 : decode cX5_init 85 = .ok (.iconst 0, 1) := by decide +kernel
theorem dX5_init_86 : decode cX5_init 86 = .ok (.istore_n 1, 1) := by decide +kernel
theorem dX5_init_87 : decode cX5_init 87 = .ok (.iload_n 1, 1) := by decide +kernel
theorem dX5_init_88 : decode cX5_init 88 = .ok (.iconst 2, 1) := by decide +kernel
theorem dX5_init_89 : decode cX5_init 89 = .ok (.if_icmp .ge 22, 3) := by decide +kernel
theorem dX5_init_92 : decode cX5_init 92 = .ok (.aload_n 0, 1) := by decide +kernel
theorem dX5_init_93 : decode cX5_init 93 = .ok (.getfield 16, 3) := by decide +kernel
theorem dX5_init_96 : decode cX5_init 96 = .ok (.iload_n 1, 1) := by decide +kernel
theorem dX5_init_97 : decode cX5_init 97 = .ok (.new 7, 3) := by decide +kernel
theorem dX5_init_100 : decode cX5_init 100 = .ok (.dup, 1) := by decide +kernel
theorem dX5_init_101 : decode cX5_init 101 = .ok (.invokespecial 9, 3) := by decide +kernel
theorem dX5_init_104 : decode cX5_init 104 = .ok (.aastore, 1) := by decide +kernel
theorem dX5_init_105 : decode cX5_init 105 = .ok (.iinc 1 1, 3) := by decide +kernel
theorem dX5_init_108 : decode cX5_init 108 = .ok (.goto (-21), 3) := by decide +kernel
theorem dX5_init_111 : decode cX5_init 111 = .ok (.aload_n 0, 1) := by decide +kernel
theorem dX5_init_112 : decode cX5_init 112 = .ok (.getfield 10, 3) := by decide +kernel
theorem dX5_init_115 : decode cX5_init 115 = .ok (.iconst 5, 1) := by decide +kernel
theorem dX5_init_116 : decode cX5_init 116 = .ok (.invokevirtual 55, 3) := by decide +kernel
theorem dX5_init_119 : decode cX5_init 119 = .ok (.return_, 1) := by decide +kernel
set_option maxRecDepth 20000 in
theorem ggX5_nodes_X5_within : GoodIn wsX5_nodes wsX5_within := goodIn_r _ [5] (by decide +kernel) (by decide +kernel)
set_option maxRecDepth 20000 in
theorem gX5_nodes_X5_within : GoodIn wsX5_nodes (va_wsS RX5 59 yX5_within wsX5_within) := goodIn_app (goodIn_of _ (by decide +kernel)) ggX5_nodes_X5_within
set_option maxRecDepth 20000 in
theorem ggX5_nodes_X3_clear : GoodIn wsX5_nodes wsX3_clear := goodIn_r _ [9, 10, 11, 12, 13, 14, 15, 24, 25] (by decide +kernel) (by decide +kernel)
set_option maxRecDepth 20000 in
theorem gX5_nodes_X3_clear_n55 : GoodIn wsX5_nodes (wsX3_clear) := ggX5_nodes_X3_clear
theorem dX5_nodes_0 : decode cX5_nodes 0 = .ok (.iload_n 1, 1) := by decide +kernel
theorem dX5_nodes_1 : decode cX5_nodes 1 = .ok (.iconst 3, 1) := by decide +kernel
theorem dX5_nodes_2 : decode cX5_nodes 2 = .ok (.bipush 7, 2) := by decide +kernel
theorem dX5_nodes_4 : decode cX5_nodes 4 = .ok (.invokestatic 59, 3) := by decide +kernel
theorem dX5_nodes_7 : decode cX5_nodes 7 = .ok (.ifCond .ne 6, 3) := by decide +kernel
theorem dX5_nodes_10 : decode cX5_nodes 10 = .ok (.bipush (-2), 2) := by decide +kernel
theorem dX5_nodes_12 : decode cX5_nodes 12 = .ok (.ireturn, 1) := by decide +kernel
theorem dX5_nodes_13 : decode cX5_nodes 13 = .ok (.aload_n 0, 1) := by decide +kernel
theorem dX5_nodes_14 : decode cX5_nodes 14 = .ok (.getfield 10, 3) := by decide +kernel
theorem dX5_nodes_17 : decode cX5_nodes 17 = .ok (.getfield 63, 3) := by decide +kernel
theorem dX5_nodes_20 : decode cX5_nodes 20 = .ok (.istore_n 2, 1) := by decide +kernel
theorem dX5_nodes_21 : decode cX5_nodes 21 = .ok (.aload_n 0, 1) := by decide +kernel
theorem dX5_nodes_22 : decode cX5_nodes 22 = .ok (.getfield 10, 3) := by decide +kernel
theorem dX5_nodes_25 : decode cX5_nodes 25 = .ok (.iload_n 1, 1) := by decide +kernel
theorem dX5_nodes_26 : decode cX5_nodes 26 = .ok (.invokevirtual 55, 3) := by decide +kernel
theorem dX5_nodes_29 : decode cX5_nodes 29 = .ok (.iload_n 2, 1) := by decide +kernel
theorem dX5_nodes_30 : decode cX5_nodes 30 = .ok (.ireturn, 1) := by decide +kernel
set_option maxRecDepth 20000 in
theorem ggX5_join_X5_isSlot : GoodIn wsX5_join wsX5_isSlot := goodIn_r _ [6, 7, 8, 5, 9] (by decide +kernel) (by decide +kernel)
set_option maxRecDepth 20000 in
theorem gX5_join_X5_isSlot : GoodIn wsX5_join (va_wsS RX5 67 yX5_isSlot wsX5_isSlot) := goodIn_app (goodIn_of _ (by decide +kernel)) ggX5_join_X5_isSlot
set_option maxRecDepth 20000 in
theorem ggX5_join_X5_isNode : GoodIn wsX5_join wsX5_isNode := goodIn_r _ [13, 2, 7, 8, 5, 9, 58, 59, 60, 61, 62, 63, 64, 65, 66, 67] (by decide +kernel) (by decide +kernel)
set_option maxRecDepth 20000 in
theorem gX5_join_X5_isNode : GoodIn wsX5_join (wsV RX5 71 RX5 yX5_isNode wsX5_isNode) := goodIn_app (goodIn_of _ (by decide +kernel)) ggX5_join_X5_isNode
set_option maxRecDepth 20000 in
theorem ggX5_join_X5_within : GoodIn wsX5_join wsX5_within := goodIn_r _ [9] (by decide +kernel) (by decide +kernel)
set_option maxRecDepth 20000 in
theorem gX5_join_X5_within : GoodIn wsX5_join (va_wsS RX5 59 yX5_within wsX5_within) := goodIn_app (goodIn_of _ (by decide +kernel)) ggX5_join_X5_within
set_option maxRecDepth 20000 in
theorem ggX5_join_X5_load : GoodIn wsX5_join wsX5_load := goodIn_r _ [17, 2, 18, 19, 20, 21, 22, 23, 24, 25, 26, 27, 28, 29, 30, 31, 5, 32, 33, 34, 35, 36, 58, 59, 60, 61, 62, 63, 64, 65, 66, 67, 68, 69] (by decide +kernel) (by decide +kernel)
set_option maxRecDepth 20000 in
theorem gX5_join_X5_load : GoodIn wsX5_join (wsV RX5 74 RX5 yX5_load wsX5_load) := goodIn_app (goodIn_of _ (by decide +kernel)) ggX5_join_X5_load
set_option maxRecDepth 20000 in
theorem ggX5_join_X0_connect : GoodIn wsX5_join wsX0_connect := goodIn_r _ [36, 23, 68, 69] (by decide +kernel) (by decide +kernel)
set_option maxRecDepth 20000 in
theorem gX5_join_X0_connect_n78 : GoodIn wsX5_join (wsX0_connect) := ggX5_join_X0_connect
set_option maxRecDepth 20000 in
theorem ggX5_join_X0_number : GoodIn wsX5_join wsX0_number := goodIn_r _ [39, 22, 40, 41, 42, 19, 43, 23, 68, 69] (by decide +kernel) (by decide +kernel)
set_option maxRecDepth 20000 in
theorem gX5_join_X0_number_n85 : GoodIn wsX5_join (wsX0_number) := ggX5_join_X0_number
set_option maxRecDepth 20000 in
theorem ggX5_join_X0_joinedPairs : GoodIn wsX5_join wsX0_joinedPairs := goodIn_r _ [46, 22, 47, 48, 49, 19, 50, 23, 51, 52, 53, 54, 55, 56, 57, 68, 69] (by decide +kernel) (by decide +kernel)
set_option maxRecDepth 20000 in
theorem gX5_join_X0_joinedPairs_n89 : GoodIn wsX5_join (wsX0_joinedPairs) := ggX5_join_X0_joinedPairs
theorem dX5_join_0 : decode cX5_join 0 = .ok (.iload_n 1, 1) := by decide +kernel
theorem dX5_join_1 : decode cX5_join 1 = .ok (.invokestatic 67, 3) := by decide +kernel
theorem dX5_join_4 : decode cX5_join 4 = .ok (.ifCond .eq 19, 3) := by decide +kernel
theorem dX5_join_7 : decode cX5_join 7 = .ok (.aload_n 0, 1) := by decide +kernel
theorem dX5_join_8 : decode cX5_join 8 = .ok (.iload_n 2, 1) := by decide +kernel
theorem dX5_join_9 : decode cX5_join 9 = .ok (.invokevirtual 71, 3) := by decide +kernel
theorem dX5_join_12 : decode cX5_join 12 = .ok (.ifCond .eq 11, 3) := by decide +kernel
theorem dX5_join_15 : decode cX5_join 15 = .ok (.aload_n 0, 1) := by decide +kernel
theorem dX5_join_16 : decode cX5_join 16 = .ok (.iload_n 3, 1) := by decide +kernel
theorem dX5_join_17 : decode cX5_join 17 = .ok (.invokevirtual 71, 3) := by decide +kernel
theorem dX5_join_20 : decode cX5_join 20 = .ok (.ifCond .ne 5, 3) := by decide +kernel
theorem dX5_join_23 : decode cX5_join 23 = .ok (.iconst (-1), 1) := by decide +kernel
theorem dX5_join_24 : decode cX5_join 24 = .ok (.ireturn, 1) := by decide +kernel
theorem dX5_join_25 : decode cX5_join 25 = .ok (.iload_n 2, 1) := by decide +kernel
theorem dX5_join_26 : decode cX5_join 26 = .ok (.iload_n 3, 1) := by decide +kernel
theorem dX5_join_27 : decode cX5_join 27 = .ok (.if_icmp .eq 13, 3) := by decide +kernel
theorem dX5_join_30 : decode cX5_join 30 = .ok (.iload 4, 2) := by decide +kernel
theorem dX5_join_32 : decode cX5_join 32 = .ok (.iconst 0, 1) := by decide +kernel
theorem dX5_join_33 : decode cX5_join 33 = .ok (.iconst 1, 1) := by decide +kernel
theorem dX5_join_34 : decode cX5_join 34 = .ok (.invokestatic 59, 3) := by decide +kernel
theorem dX5_join_37 : decode cX5_join 37 = .ok (.ifCond .ne 6, 3) := by decide +kernel
theorem dX5_join_40 : decode cX5_join 40 = .ok (.bipush (-2), 2) := by decide +kernel
theorem dX5_join_42 : decode cX5_join 42 = .ok (.ireturn, 1) := by decide +kernel
theorem dX5_join_43 : decode cX5_join 43 = .ok (.aload_n 0, 1) := by decide +kernel
theorem dX5_join_44 : decode cX5_join 44 = .ok (.aload_n 0, 1) := by decide +kernel
theorem dX5_join_45 : decode cX5_join 45 = .ok (.getfield 30, 3) := by decide +kernel
theorem dX5_join_48 : decode cX5_join 48 = .ok (.iload_n 1, 1) := by decide +kernel
theorem dX5_join_49 : decode cX5_join 49 = .ok (.invokevirtual 74, 3) := by decide +kernel
theorem dX5_join_52 : decode cX5_join 52 = .ok (.aload_n 0, 1) := by decide +kernel
theorem dX5_join_53 : decode cX5_join 53 = .ok (.getfield 30, 3) := by decide +kernel
theorem dX5_join_56 : decode cX5_join 56 = .ok (.iload_n 2, 1) := by decide +kernel
theorem dX5_join_57 : decode cX5_join 57 = .ok (.iload_n 3, 1) := by decide +kernel
theorem dX5_join_58 : decode cX5_join 58 = .ok (.iload 4, 2) := by decide +kernel
theorem dX5_join_60 : decode cX5_join 60 = .ok (.iconst 1, 1) := by decide +kernel
theorem dX5_join_61 : decode cX5_join 61 = .ok (.if_icmp .ne 7, 3) := by decide +kernel
theorem dX5_join_64 : decode cX5_join 64 = .ok (.iconst 1, 1) := by decide +kernel
theorem dX5_join_65 : decode cX5_join 65 = .ok (.goto 4, 3) := by decide +kernel
theorem dX5_join_68 : decode cX5_join 68 = .ok (.iconst 0, 1) := by decide +kernel
theorem dX5_join_69 : decode cX5_join 69 = .ok (.invokevirtual 78, 3) := by decide +kernel
theorem dX5_join_72 : decode cX5_join 72 = .ok (.aload_n 0, 1) := by decide +kernel
theorem dX5_join_73 : decode cX5_join 73 = .ok (.getfield 10, 3) := by decide +kernel
theorem dX5_join_76 : decode cX5_join 76 = .ok (.getfield 82, 3) := by decide +kernel
theorem dX5_join_79 : decode cX5_join 79 = .ok (.iload_n 1, 1) := by decide +kernel
theorem dX5_join_80 : decode cX5_join 80 = .ok (.aload_n 0, 1) := by decide +kernel
theorem dX5_join_81 : decode cX5_join 81 = .ok (.getfield 30, 3) := by decide +kernel
theorem dX5_join_84 : decode cX5_join 84 = .ok (.invokevirtual 85, 3) := by decide +kernel
theorem dX5_join_87 : decode cX5_join 87 = .ok (.iastore, 1) := by decide +kernel
theorem dX5_join_88 : decode cX5_join 88 = .ok (.aload_n 0, 1) := by decide +kernel
theorem dX5_join_89 : decode cX5_join 89 = .ok (.getfield 30, 3) := by decide +kernel
theorem dX5_join_92 : decode cX5_join 92 = .ok (.invokevirtual 89, 3) := by decide +kernel
theorem dX5_join_95 : decode cX5_join 95 = .ok (.ireturn, 1) := by decide +kernel
set_option maxRecDepth 20000 in
theorem ggX5_set_X5_isSlot : GoodIn wsX5_set wsX5_isSlot := goodIn_r _ [5, 6, 7, 4, 8] (by decide +kernel) (by decide +kernel)
set_option maxRecDepth 20000 in
theorem gX5_set_X5_isSlot : GoodIn wsX5_set (va_wsS RX5 67 yX5_isSlot wsX5_isSlot) := goodIn_app (goodIn_of _ (by decide +kernel)) ggX5_set_X5_isSlot
set_option maxRecDepth 20000 in
theorem ggX5_set_X5_pairsOf : GoodIn wsX5_set wsX5_pairsOf := goodIn_r _ [11] (by decide +kernel) (by decide +kernel)
set_option maxRecDepth 20000 in
theorem gX5_set_X5_pairsOf : GoodIn wsX5_set (va_wsS RX5 92 yX5_pairsOf wsX5_pairsOf) := goodIn_app (goodIn_of _ (by decide +kernel)) ggX5_set_X5_pairsOf
set_option maxRecDepth 20000 in
theorem ggX5_set_X5_within : GoodIn wsX5_set wsX5_within := goodIn_r _ [8] (by decide +kernel) (by decide +kernel)
set_option maxRecDepth 20000 in
theorem gX5_set_X5_within : GoodIn wsX5_set (va_wsS RX5 59 yX5_within wsX5_within) := goodIn_app (goodIn_of _ (by decide +kernel)) ggX5_set_X5_within
theorem dX5_set_0 : decode cX5_set 0 = .ok (.iload_n 1, 1) := by decide +kernel
theorem dX5_set_1 : decode cX5_set 1 = .ok (.invokestatic 67, 3) := by decide +kernel
theorem dX5_set_4 : decode cX5_set 4 = .ok (.ifCond .ne 5, 3) := by decide +kernel
theorem dX5_set_7 : decode cX5_set 7 = .ok (.iconst (-1), 1) := by decide +kernel
theorem dX5_set_8 : decode cX5_set 8 = .ok (.ireturn, 1) := by decide +kernel
theorem dX5_set_9 : decode cX5_set 9 = .ok (.iload_n 2, 1) := by decide +kernel
theorem dX5_set_10 : decode cX5_set 10 = .ok (.iconst 0, 1) := by decide +kernel
theorem dX5_set_11 : decode cX5_set 11 = .ok (.iconst 1, 1) := by decide +kernel
theorem dX5_set_12 : decode cX5_set 12 = .ok (.aload_n 0, 1) := by decide +kernel
theorem dX5_set_13 : decode cX5_set 13 = .ok (.getfield 10, 3) := by decide +kernel
theorem dX5_set_16 : decode cX5_set 16 = .ok (.getfield 63, 3) := by decide +kernel
theorem dX5_set_19 : decode cX5_set 19 = .ok (.invokestatic 92, 3) := by decide +kernel
theorem dX5_set_22 : decode cX5_set 22 = .ok (.ishl, 1) := by decide +kernel
theorem dX5_set_23 : decode cX5_set 23 = .ok (.iconst 1, 1) := by decide +kernel
theorem dX5_set_24 : decode cX5_set 24 = .ok (.isub, 1) := by decide +kernel
theorem dX5_set_25 : decode cX5_set 25 = .ok (.invokestatic 59, 3) := by decide +kernel
theorem dX5_set_28 : decode cX5_set 28 = .ok (.ifCond .ne 6, 3) := by decide +kernel
theorem dX5_set_31 : decode cX5_set 31 = .ok (.bipush (-2), 2) := by decide +kernel
theorem dX5_set_33 : decode cX5_set 33 = .ok (.ireturn, 1) := by decide +kernel
theorem dX5_set_34 : decode cX5_set 34 = .ok (.aload_n 0, 1) := by decide +kernel
theorem dX5_set_35 : decode cX5_set 35 = .ok (.getfield 10, 3) := by decide +kernel
theorem dX5_set_38 : decode cX5_set 38 = .ok (.getfield 82, 3) := by decide +kernel
theorem dX5_set_41 : decode cX5_set 41 = .ok (.iload_n 1, 1) := by decide +kernel
theorem dX5_set_42 : decode cX5_set 42 = .ok (.iaload, 1) := by decide +kernel
theorem dX5_set_43 : decode cX5_set 43 = .ok (.istore_n 3, 1) := by decide +kernel
theorem dX5_set_44 : decode cX5_set 44 = .ok (.aload_n 0, 1) := by decide +kernel
theorem dX5_set_45 : decode cX5_set 45 = .ok (.getfield 10, 3) := by decide +kernel
theorem dX5_set_48 : decode cX5_set 48 = .ok (.getfield 82, 3) := by decide +kernel
theorem dX5_set_51 : decode cX5_set 51 = .ok (.iload_n 1, 1) := by decide +kernel
theorem dX5_set_52 : decode cX5_set 52 = .ok (.iload_n 2, 1) := by decide +kernel
theorem dX5_set_53 : decode cX5_set 53 = .ok (.iastore, 1) := by decide +kernel
theorem dX5_set_54 : decode cX5_set 54 = .ok (.iload_n 3, 1) := by decide +kernel
theorem dX5_set_55 : decode cX5_set 55 = .ok (.ireturn, 1) := by decide +kernel
set_option maxRecDepth 20000 in
theorem ggX5_say_X5_within : GoodIn wsX5_say wsX5_within := goodIn_r _ [5] (by decide +kernel) (by decide +kernel)
set_option maxRecDepth 20000 in
theorem gX5_say_X5_within : GoodIn wsX5_say (va_wsS RX5 59 yX5_within wsX5_within) := goodIn_app (goodIn_of _ (by decide +kernel)) ggX5_say_X5_within
set_option maxRecDepth 20000 in
theorem ggX5_say_X1_put : GoodIn wsX5_say wsX1_put := goodIn_r _ [9, 10, 11, 20, 21] (by decide +kernel) (by decide +kernel)
set_option maxRecDepth 20000 in
theorem gX5_say_X1_put_n99 : GoodIn wsX5_say (wsX1_put) := ggX5_say_X1_put
theorem dX5_say_0 : decode cX5_say 0 = .ok (.iload_n 1, 1) := by decide +kernel
theorem dX5_say_1 : decode cX5_say 1 = .ok (.bipush 33, 2) := by decide +kernel
theorem dX5_say_3 : decode cX5_say 3 = .ok (.bipush 126, 2) := by decide +kernel
theorem dX5_say_5 : decode cX5_say 5 = .ok (.invokestatic 59, 3) := by decide +kernel
theorem dX5_say_8 : decode cX5_say 8 = .ok (.ifCond .ne 6, 3) := by decide +kernel
theorem dX5_say_11 : decode cX5_say 11 = .ok (.bipush (-2), 2) := by decide +kernel
theorem dX5_say_13 : decode cX5_say 13 = .ok (.ireturn, 1) := by decide +kernel
theorem dX5_say_14 : decode cX5_say 14 = .ok (.aload_n 0, 1) := by decide +kernel
theorem dX5_say_15 : decode cX5_say 15 = .ok (.getfield 23, 3) := by decide +kernel
theorem dX5_say_18 : decode cX5_say 18 = .ok (.getfield 96, 3) := by decide +kernel
theorem dX5_say_21 : decode cX5_say 21 = .ok (.bipush 35, 2) := by decide +kernel
theorem dX5_say_23 : decode cX5_say 23 = .ok (.if_icmp .lt 6, 3) := by decide +kernel
theorem dX5_say_26 : decode cX5_say 26 = .ok (.bipush (-4), 2) := by decide +kernel
theorem dX5_say_28 : decode cX5_say 28 = .ok (.ireturn, 1) := by decide +kernel
theorem dX5_say_29 : decode cX5_say 29 = .ok (.aload_n 0, 1) := by decide +kernel
theorem dX5_say_30 : decode cX5_say 30 = .ok (.getfield 23, 3) := by decide +kernel
theorem dX5_say_33 : decode cX5_say 33 = .ok (.iload_n 1, 1) := by decide +kernel
theorem dX5_say_34 : decode cX5_say 34 = .ok (.invokevirtual 99, 3) := by decide +kernel
theorem dX5_say_37 : decode cX5_say 37 = .ok (.aload_n 0, 1) := by decide +kernel
theorem dX5_say_38 : decode cX5_say 38 = .ok (.getfield 23, 3) := by decide +kernel
theorem dX5_say_41 : decode cX5_say 41 = .ok (.getfield 96, 3) := by decide +kernel
theorem dX5_say_44 : decode cX5_say 44 = .ok (.ireturn, 1) := by decide +kernel
theorem dX5_wipe_0 : decode cX5_wipe 0 = .ok (.aload_n 0, 1) := by decide +kernel
theorem dX5_wipe_1 : decode cX5_wipe 1 = .ok (.getfield 23, 3) := by decide +kernel
theorem dX5_wipe_4 : decode cX5_wipe 4 = .ok (.getfield 96, 3) := by decide +kernel
theorem dX5_wipe_7 : decode cX5_wipe 7 = .ok (.istore_n 1, 1) := by decide +kernel
theorem dX5_wipe_8 : decode cX5_wipe 8 = .ok (.aload_n 0, 1) := by decide +kernel
theorem dX5_wipe_9 : decode cX5_wipe 9 = .ok (.getfield 23, 3) := by decide +kernel
theorem dX5_wipe_12 : decode cX5_wipe 12 = .ok (.iconst 0, 1) := by decide +kernel
theorem dX5_wipe_13 : decode cX5_wipe 13 = .ok (.putfield 96, 3) := by decide +kernel
theorem dX5_wipe_16 : decode cX5_wipe 16 = .ok (.iload_n 1, 1) := by decide +kernel
theorem dX5_wipe_17 : decode cX5_wipe 17 = .ok (.ireturn, 1) := by decide +kernel
set_option maxRecDepth 20000 in
theorem ggX5_fault_X5_within : GoodIn wsX5_fault wsX5_within := goodIn_r _ [5] (by decide +kernel) (by decide +kernel)
set_option maxRecDepth 20000 in
theorem gX5_fault_X5_within : GoodIn wsX5_fault (va_wsS RX5 59 yX5_within wsX5_within) := goodIn_app (goodIn_of _ (by decide +kernel)) ggX5_fault_X5_within
set_option maxRecDepth 20000 in
theorem ggX5_fault_X5_signsFor : GoodIn wsX5_fault wsX5_signsFor := goodIn_r _ [9, 10, 11, 12, 4, 13, 14, 15, 16, 23, 24, 25, 26, 27, 28, 29, 30, 31, 32] (by decide +kernel) (by decide +kernel)
set_option maxRecDepth 20000 in
theorem gX5_fault_X5_signsFor : GoodIn wsX5_fault (wsV RX5 102 RX5 yX5_signsFor wsX5_signsFor) := goodIn_app (goodIn_of _ (by decide +kernel)) ggX5_fault_X5_signsFor
set_option maxRecDepth 20000 in
theorem ggX5_fault_X1_faultFor : GoodIn wsX5_fault wsX1_faultFor := goodIn_r _ [20, 21, 22, 33, 34] (by decide +kernel) (by decide +kernel)
set_option maxRecDepth 20000 in
theorem gX5_fault_X1_faultFor_n105 : GoodIn wsX5_fault (wsX1_faultFor) := ggX5_fault_X1_faultFor
theorem dX5_fault_0 : decode cX5_fault 0 = .ok (.iload_n 1, 1) := by decide +kernel
theorem dX5_fault_1 : decode cX5_fault 1 = .ok (.iconst 0, 1) := by decide +kernel
theorem dX5_fault_2 : decode cX5_fault 2 = .ok (.iconst 1, 1) := by decide +kernel
theorem dX5_fault_3 : decode cX5_fault 3 = .ok (.invokestatic 59, 3) := by decide +kernel
theorem dX5_fault_6 : decode cX5_fault 6 = .ok (.ifCond .ne 6, 3) := by decide +kernel
theorem dX5_fault_9 : decode cX5_fault 9 = .ok (.bipush (-2), 2) := by decide +kernel
theorem dX5_fault_11 : decode cX5_fault 11 = .ok (.ireturn, 1) := by decide +kernel
theorem dX5_fault_12 : decode cX5_fault 12 = .ok (.aload_n 0, 1) := by decide +kernel
theorem dX5_fault_13 : decode cX5_fault 13 = .ok (.getfield 23, 3) := by decide +kernel
theorem dX5_fault_16 : decode cX5_fault 16 = .ok (.aload_n 0, 1) := by decide +kernel
theorem dX5_fault_17 : decode cX5_fault 17 = .ok (.iload_n 1, 1) := by decide +kernel
theorem dX5_fault_18 : decode cX5_fault 18 = .ok (.invokevirtual 102, 3) := by decide +kernel
theorem dX5_fault_21 : decode cX5_fault 21 = .ok (.invokevirtual 105, 3) := by decide +kernel
theorem dX5_fault_24 : decode cX5_fault 24 = .ok (.ireturn, 1) := by decide +kernel
set_option maxRecDepth 20000 in
theorem ggX5_read_X5_isSlot : GoodIn wsX5_read wsX5_isSlot := goodIn_r _ [7, 8, 9, 6, 10] (by decide +kernel) (by decide +kernel)
set_option maxRecDepth 20000 in
theorem gX5_read_X5_isSlot : GoodIn wsX5_read (va_wsS RX5 67 yX5_isSlot wsX5_isSlot) := goodIn_app (goodIn_of _ (by decide +kernel)) ggX5_read_X5_isSlot
set_option maxRecDepth 20000 in
theorem ggX5_read_X5_within : GoodIn wsX5_read wsX5_within := goodIn_r _ [10] (by decide +kernel) (by decide +kernel)
set_option maxRecDepth 20000 in
theorem gX5_read_X5_within : GoodIn wsX5_read (va_wsS RX5 59 yX5_within wsX5_within) := goodIn_app (goodIn_of _ (by decide +kernel)) ggX5_read_X5_within
set_option maxRecDepth 20000 in
theorem ggX5_read_X5_signsFor : GoodIn wsX5_read wsX5_signsFor := goodIn_r _ [14, 3, 15, 16, 6, 17, 18, 19, 20, 61, 62, 63, 64, 65, 66, 67, 68, 69, 70] (by decide +kernel) (by decide +kernel)
set_option maxRecDepth 20000 in
theorem gX5_read_X5_signsFor : GoodIn wsX5_read (wsV RX5 102 RX5 yX5_signsFor wsX5_signsFor) := goodIn_app (goodIn_of _ (by decide +kernel)) ggX5_read_X5_signsFor
set_option maxRecDepth 20000 in
theorem ggX5_read_X1_faultFor : GoodIn wsX5_read wsX1_faultFor := goodIn_r _ [24, 25, 26, 71, 72] (by decide +kernel) (by decide +kernel)
set_option maxRecDepth 20000 in
theorem gX5_read_X1_faultFor_n105 : GoodIn wsX5_read (wsX1_faultFor) := ggX5_read_X1_faultFor
set_option maxRecDepth 20000 in
theorem ggX5_read_X0_clear : GoodIn wsX5_read wsX0_clear := goodIn_r _ [30, 31, 32, 33, 34, 35, 36, 73, 74] (by decide +kernel) (by decide +kernel)
set_option maxRecDepth 20000 in
theorem gX5_read_X0_clear_n108 : GoodIn wsX5_read (wsX0_clear) := ggX5_read_X0_clear
set_option maxRecDepth 20000 in
theorem ggX5_read_X0_takePairs : GoodIn wsX5_read wsX0_takePairs := goodIn_r _ [39, 31, 40, 22, 41, 42, 25, 26, 43, 44, 45, 28, 46, 32, 73, 74, 71, 72] (by decide +kernel) (by decide +kernel)
set_option maxRecDepth 20000 in
theorem gX5_read_X0_takePairs_n109 : GoodIn wsX5_read (wsX0_takePairs) := ggX5_read_X0_takePairs
set_option maxRecDepth 20000 in
theorem ggX5_read_X0_takeTriples : GoodIn wsX5_read wsX0_takeTriples := goodIn_r _ [49, 31, 40, 22, 41, 42, 25, 26, 43, 44, 45, 28, 46, 32, 50, 51, 52, 53, 54, 55, 56, 57, 73, 74, 71, 72] (by decide +kernel) (by decide +kernel)
set_option maxRecDepth 20000 in
theorem gX5_read_X0_takeTriples_n113 : GoodIn wsX5_read (wsX0_takeTriples) := ggX5_read_X0_takeTriples
set_option maxRecDepth 20000 in
theorem ggX5_read_X0_number : GoodIn wsX5_read wsX0_number := goodIn_r _ [60, 31, 54, 55, 56, 28, 57, 32, 73, 74] (by decide +kernel) (by decide +kernel)
set_option maxRecDepth 20000 in
theorem gX5_read_X0_number_n85 : GoodIn wsX5_read (wsX0_number) := ggX5_read_X0_number
theorem dX5_read_0 : decode cX5_read 0 = .ok (.iload_n 1, 1) := by decide +kernel
theorem dX5_read_1 : decode cX5_read 1 = .ok (.invokestatic 67, 3) := by decide +kernel
theorem dX5_read_4 : decode cX5_read 4 = .ok (.ifCond .ne 5, 3) := by decide +kernel
theorem dX5_read_7 : decode cX5_read 7 = .ok (.iconst (-1), 1) := by decide +kernel
theorem dX5_read_8 : decode cX5_read 8 = .ok (.ireturn, 1) := by decide +kernel
theorem dX5_read_9 : decode cX5_read 9 = .ok (.iload_n 2, 1) := by decide +kernel
theorem dX5_read_10 : decode cX5_read 10 = .ok (.iconst 0, 1) := by decide +kernel
theorem dX5_read_11 : decode cX5_read 11 = .ok (.iconst 1, 1) := by decide +kernel
theorem dX5_read_12 : decode cX5_read 12 = .ok (.invokestatic 59, 3) := by decide +kernel
theorem dX5_read_15 : decode cX5_read 15 = .ok (.ifCond .ne 6, 3) := by decide +kernel
theorem dX5_read_18 : decode cX5_read 18 = .ok (.bipush (-2), 2) := by decide +kernel
theorem dX5_read_20 : decode cX5_read 20 = .ok (.ireturn, 1) := by decide +kernel
theorem dX5_read_21 : decode cX5_read 21 = .ok (.aload_n 0, 1) := by decide +kernel
theorem dX5_read_22 : decode cX5_read 22 = .ok (.getfield 23, 3) := by decide +kernel
theorem dX5_read_25 : decode cX5_read 25 = .ok (.aload_n 0, 1) := by decide +kernel
theorem dX5_read_26 : decode cX5_read 26 = .ok (.iload_n 2, 1) := by decide +kernel
theorem dX5_read_27 : decode cX5_read 27 = .ok (.invokevirtual 102, 3) := by decide +kernel
theorem dX5_read_30 : decode cX5_read 30 = .ok (.invokevirtual 105, 3) := by decide +kernel
theorem dX5_read_33 : decode cX5_read 33 = .ok (.bipush (-6), 2) := by decide +kernel
theorem dX5_read_35 : decode cX5_read 35 = .ok (.if_icmp .eq 6, 3) := by decide +kernel
theorem dX5_read_38 : decode cX5_read 38 = .ok (.bipush (-7), 2) := by decide +kernel
theorem dX5_read_40 : decode cX5_read 40 = .ok (.ireturn, 1) := by decide +kernel
theorem dX5_read_41 : decode cX5_read 41 = .ok (.aload_n 0, 1) := by decide +kernel
theorem dX5_read_42 : decode cX5_read 42 = .ok (.getfield 30, 3) := by decide +kernel
theorem dX5_read_45 : decode cX5_read 45 = .ok (.aload_n 0, 1) := by decide +kernel
theorem dX5_read_46 : decode cX5_read 46 = .ok (.getfield 10, 3) := by decide +kernel
theorem dX5_read_49 : decode cX5_read 49 = .ok (.getfield 63, 3) := by decide +kernel
theorem dX5_read_52 : decode cX5_read 52 = .ok (.invokevirtual 108, 3) := by decide +kernel
theorem dX5_read_55 : decode cX5_read 55 = .ok (.iload_n 2, 1) := by decide +kernel
theorem dX5_read_56 : decode cX5_read 56 = .ok (.ifCond .ne 17, 3) := by decide +kernel
theorem dX5_read_59 : decode cX5_read 59 = .ok (.aload_n 0, 1) := by decide +kernel
theorem dX5_read_60 : decode cX5_read 60 = .ok (.getfield 30, 3) := by decide +kernel
theorem dX5_read_63 : decode cX5_read 63 = .ok (.aload_n 0, 1) := by decide +kernel
theorem dX5_read_64 : decode cX5_read 64 = .ok (.getfield 23, 3) := by decide +kernel
theorem dX5_read_67 : decode cX5_read 67 = .ok (.invokevirtual 109, 3) := by decide +kernel
theorem dX5_read_70 : decode cX5_read 70 = .ok (.goto 20, 3) := by decide +kernel
theorem dX5_read_73 : decode cX5_read 73 = .ok (.aload_n 0, 1) := by decide +kernel
theorem dX5_read_74 : decode cX5_read 74 = .ok (.getfield 30, 3) := by decide +kernel
theorem dX5_read_77 : decode cX5_read 77 = .ok (.aload_n 0, 1) := by decide +kernel
theorem dX5_read_78 : decode cX5_read 78 = .ok (.getfield 23, 3) := by decide +kernel
theorem dX5_read_81 : decode cX5_read 81 = .ok (.invokevirtual 113, 3) := by decide +kernel
theorem dX5_read_84 : decode cX5_read 84 = .ok (.ifCond .ne 6, 3) := by decide +kernel
theorem dX5_read_87 : decode cX5_read 87 = .ok (.bipush (-3), 2) := by decide +kernel
theorem dX5_read_89 : decode cX5_read 89 = .ok (.ireturn, 1) := by decide +kernel
theorem dX5_read_90 : decode cX5_read 90 = .ok (.aload_n 0, 1) := by decide +kernel
theorem dX5_read_91 : decode cX5_read 91 = .ok (.getfield 23, 3) := by decide +kernel
theorem dX5_read_94 : decode cX5_read 94 = .ok (.iconst 0, 1) := by decide +kernel
theorem dX5_read_95 : decode cX5_read 95 = .ok (.putfield 96, 3) := by decide +kernel
theorem dX5_read_98 : decode cX5_read 98 = .ok (.aload_n 0, 1) := by decide +kernel
theorem dX5_read_99 : decode cX5_read 99 = .ok (.getfield 10, 3) := by decide +kernel
theorem dX5_read_102 : decode cX5_read 102 = .ok (.getfield 82, 3) := by decide +kernel
theorem dX5_read_105 : decode cX5_read 105 = .ok (.iload_n 1, 1) := by decide +kernel
theorem dX5_read_106 : decode cX5_read 106 = .ok (.aload_n 0, 1) := by decide +kernel
theorem dX5_read_107 : decode cX5_read 107 = .ok (.getfield 30, 3) := by decide +kernel
theorem dX5_read_110 : decode cX5_read 110 = .ok (.invokevirtual 85, 3) := by decide +kernel
theorem dX5_read_113 : decode cX5_read 113 = .ok (.iastore, 1) := by decide +kernel
theorem dX5_read_114 : decode cX5_read 114 = .ok (.aload_n 0, 1) := by decide +kernel
theorem dX5_read_115 : decode cX5_read 115 = .ok (.getfield 10, 3) := by decide +kernel
theorem dX5_read_118 : decode cX5_read 118 = .ok (.getfield 82, 3) := by decide +kernel
theorem dX5_read_121 : decode cX5_read 121 = .ok (.iload_n 1, 1) := by decide +kernel
theorem dX5_read_122 : decode cX5_read 122 = .ok (.iaload, 1) := by decide +kernel
theorem dX5_read_123 : decode cX5_read 123 = .ok (.ireturn, 1) := by decide +kernel
set_option maxRecDepth 20000 in
theorem ggX5_turn_X5_isSlot : GoodIn wsX5_turn wsX5_isSlot := goodIn_r _ [6, 7, 8, 5, 9] (by decide +kernel) (by decide +kernel)
set_option maxRecDepth 20000 in
theorem gX5_turn_X5_isSlot : GoodIn wsX5_turn (va_wsS RX5 67 yX5_isSlot wsX5_isSlot) := goodIn_app (goodIn_of _ (by decide +kernel)) ggX5_turn_X5_isSlot
set_option maxRecDepth 20000 in
theorem ggX5_turn_X5_within : GoodIn wsX5_turn wsX5_within := goodIn_r _ [9] (by decide +kernel) (by decide +kernel)
set_option maxRecDepth 20000 in
theorem gX5_turn_X5_within : GoodIn wsX5_turn (va_wsS RX5 59 yX5_within wsX5_within) := goodIn_app (goodIn_of _ (by decide +kernel)) ggX5_turn_X5_within
set_option maxRecDepth 20000 in
theorem ggX5_turn_X5_load : GoodIn wsX5_turn wsX5_load := goodIn_r _ [13, 1, 14, 15, 16, 17, 18, 19, 20, 21, 22, 23, 24, 25, 26, 27, 5, 28, 29, 30, 31, 32, 47, 48, 49, 50, 51, 52, 53, 54, 55, 56, 57, 58] (by decide +kernel) (by decide +kernel)
set_option maxRecDepth 20000 in
theorem gX5_turn_X5_load : GoodIn wsX5_turn (wsV RX5 74 RX5 yX5_load wsX5_load) := goodIn_app (goodIn_of _ (by decide +kernel)) ggX5_turn_X5_load
set_option maxRecDepth 20000 in
theorem ggX5_turn_X0_switchBy : GoodIn wsX5_turn wsX0_switchBy := goodIn_r _ [35, 18, 19, 36, 37, 38, 15, 39, 57, 58] (by decide +kernel) (by decide +kernel)
set_option maxRecDepth 20000 in
theorem gX5_turn_X0_switchBy_n117 : GoodIn wsX5_turn (wsX0_switchBy) := ggX5_turn_X0_switchBy
set_option maxRecDepth 20000 in
theorem ggX5_turn_X0_number : GoodIn wsX5_turn wsX0_number := goodIn_r _ [42, 18, 43, 44, 45, 15, 46, 19, 57, 58] (by decide +kernel) (by decide +kernel)
set_option maxRecDepth 20000 in
theorem gX5_turn_X0_number_n85 : GoodIn wsX5_turn (wsX0_number) := ggX5_turn_X0_number
theorem dX5_turn_0 : decode cX5_turn 0 = .ok (.iload_n 1, 1) := by decide +kernel
theorem dX5_turn_1 : decode cX5_turn 1 = .ok (.invokestatic 67, 3) := by decide +kernel
theorem dX5_turn_4 : decode cX5_turn 4 = .ok (.ifCond .eq 10, 3) := by decide +kernel
theorem dX5_turn_7 : decode cX5_turn 7 = .ok (.iload_n 2, 1) := by decide +kernel
theorem dX5_turn_8 : decode cX5_turn 8 = .ok (.invokestatic 67, 3) := by decide +kernel
theorem dX5_turn_11 : decode cX5_turn 11 = .ok (.ifCond .ne 5, 3) := by decide +kernel
theorem dX5_turn_14 : decode cX5_turn 14 = .ok (.iconst (-1), 1) := by decide +kernel
theorem dX5_turn_15 : decode cX5_turn 15 = .ok (.ireturn, 1) := by decide +kernel
theorem dX5_turn_16 : decode cX5_turn 16 = .ok (.iload_n 3, 1) := by decide +kernel
theorem dX5_turn_17 : decode cX5_turn 17 = .ok (.iconst 0, 1) := by decide +kernel
theorem dX5_turn_18 : decode cX5_turn 18 = .ok (.iconst 1, 1) := by decide +kernel
theorem dX5_turn_19 : decode cX5_turn 19 = .ok (.aload_n 0, 1) := by decide +kernel
theorem dX5_turn_20 : decode cX5_turn 20 = .ok (.getfield 10, 3) := by decide +kernel
theorem dX5_turn_23 : decode cX5_turn 23 = .ok (.getfield 63, 3) := by decide +kernel
theorem dX5_turn_26 : decode cX5_turn 26 = .ok (.ishl, 1) := by decide +kernel
theorem dX5_turn_27 : decode cX5_turn 27 = .ok (.iconst 1, 1) := by decide +kernel
theorem dX5_turn_28 : decode cX5_turn 28 = .ok (.isub, 1) := by decide +kernel
theorem dX5_turn_29 : decode cX5_turn 29 = .ok (.invokestatic 59, 3) := by decide +kernel
theorem dX5_turn_32 : decode cX5_turn 32 = .ok (.ifCond .ne 6, 3) := by decide +kernel
theorem dX5_turn_35 : decode cX5_turn 35 = .ok (.bipush (-2), 2) := by decide +kernel
theorem dX5_turn_37 : decode cX5_turn 37 = .ok (.ireturn, 1) := by decide +kernel
theorem dX5_turn_38 : decode cX5_turn 38 = .ok (.aload_n 0, 1) := by decide +kernel
theorem dX5_turn_39 : decode cX5_turn 39 = .ok (.aload_n 0, 1) := by decide +kernel
theorem dX5_turn_40 : decode cX5_turn 40 = .ok (.getfield 30, 3) := by decide +kernel
theorem dX5_turn_43 : decode cX5_turn 43 = .ok (.iload_n 2, 1) := by decide +kernel
theorem dX5_turn_44 : decode cX5_turn 44 = .ok (.invokevirtual 74, 3) := by decide +kernel
theorem dX5_turn_47 : decode cX5_turn 47 = .ok (.aload_n 0, 1) := by decide +kernel
theorem dX5_turn_48 : decode cX5_turn 48 = .ok (.getfield 30, 3) := by decide +kernel
theorem dX5_turn_51 : decode cX5_turn 51 = .ok (.iload_n 3, 1) := by decide +kernel
theorem dX5_turn_52 : decode cX5_turn 52 = .ok (.invokevirtual 117, 3) := by decide +kernel
theorem dX5_turn_55 : decode cX5_turn 55 = .ok (.aload_n 0, 1) := by decide +kernel
theorem dX5_turn_56 : decode cX5_turn 56 = .ok (.getfield 10, 3) := by decide +kernel
theorem dX5_turn_59 : decode cX5_turn 59 = .ok (.getfield 82, 3) := by decide +kernel
theorem dX5_turn_62 : decode cX5_turn 62 = .ok (.iload_n 1, 1) := by decide +kernel
theorem dX5_turn_63 : decode cX5_turn 63 = .ok (.aload_n 0, 1) := by decide +kernel
theorem dX5_turn_64 : decode cX5_turn 64 = .ok (.getfield 30, 3) := by decide +kernel
theorem dX5_turn_67 : decode cX5_turn 67 = .ok (.invokevirtual 85, 3) := by decide +kernel
theorem dX5_turn_70 : decode cX5_turn 70 = .ok (.iastore, 1) := by decide +kernel
theorem dX5_turn_71 : decode cX5_turn 71 = .ok (.aload_n 0, 1) := by decide +kernel
theorem dX5_turn_72 : decode cX5_turn 72 = .ok (.getfield 10, 3) := by decide +kernel
theorem dX5_turn_75 : decode cX5_turn 75 = .ok (.getfield 82, 3) := by decide +kernel
theorem dX5_turn_78 : decode cX5_turn 78 = .ok (.iload_n 1, 1) := by decide +kernel
theorem dX5_turn_79 : decode cX5_turn 79 = .ok (.iaload, 1) := by decide +kernel
theorem dX5_turn_80 : decode cX5_turn 80 = .ok (.ireturn, 1) := by decide +kernel
set_option maxRecDepth 20000 in
theorem ggX5_of_X5_isSlot : GoodIn wsX5_of wsX5_isSlot := goodIn_r _ [6, 7, 8, 5, 9] (by decide +kernel) (by decide +kernel)
set_option maxRecDepth 20000 in
theorem gX5_of_X5_isSlot : GoodIn wsX5_of (va_wsS RX5 67 yX5_isSlot wsX5_isSlot) := goodIn_app (goodIn_of _ (by decide +kernel)) ggX5_of_X5_isSlot
set_option maxRecDepth 20000 in
theorem ggX5_of_X5_load : GoodIn wsX5_of wsX5_load := goodIn_r _ [13, 2, 14, 15, 16, 17, 18, 19, 20, 21, 22, 23, 24, 25, 26, 27, 5, 28, 29, 30, 31, 32, 72, 73, 74, 75, 76, 77, 78, 79, 80, 81, 82, 83] (by decide +kernel) (by decide +kernel)
set_option maxRecDepth 20000 in
theorem gX5_of_X5_load : GoodIn wsX5_of (wsV RX5 74 RX5 yX5_load wsX5_load) := goodIn_app (goodIn_of _ (by decide +kernel)) ggX5_of_X5_load
set_option maxRecDepth 20000 in
theorem ggX5_of_X0_joinedPairs : GoodIn wsX5_of wsX0_joinedPairs := goodIn_r _ [35, 18, 36, 37, 38, 15, 39, 19, 40, 41, 42, 43, 44, 45, 46, 82, 83] (by decide +kernel) (by decide +kernel)
set_option maxRecDepth 20000 in
theorem gX5_of_X0_joinedPairs_n89 : GoodIn wsX5_of (wsX0_joinedPairs) := ggX5_of_X0_joinedPairs
set_option maxRecDepth 20000 in
theorem ggX5_of_X0_oddTriples : GoodIn wsX5_of wsX0_oddTriples := goodIn_r _ [49, 18, 50, 51, 52, 15, 53, 54, 55, 56, 57, 19, 58, 59, 60, 61, 62, 63, 64, 65, 40, 41, 42, 43, 44, 45, 46, 82, 83] (by decide +kernel) (by decide +kernel)
set_option maxRecDepth 20000 in
theorem gX5_of_X0_oddTriples_n120 : GoodIn wsX5_of (wsX0_oddTriples) := ggX5_of_X0_oddTriples
set_option maxRecDepth 20000 in
theorem ggX5_of_X0_oddTriplesOfEachPair : GoodIn wsX5_of wsX0_oddTriplesOfEachPair := goodIn_r _ [68, 18, 54, 55, 56, 15, 57, 19, 58, 59, 60, 61, 62, 63, 64, 65, 40, 41, 42, 43, 44, 45, 46, 82, 83] (by decide +kernel) (by decide +kernel)
set_option maxRecDepth 20000 in
theorem gX5_of_X0_oddTriplesOfEachPair_n123 : GoodIn wsX5_of (wsX0_oddTriplesOfEachPair) := ggX5_of_X0_oddTriplesOfEachPair
set_option maxRecDepth 20000 in
theorem ggX5_of_X0_oddDegrees : GoodIn wsX5_of wsX0_oddDegrees := goodIn_r _ [71, 18, 36, 37, 38, 15, 39, 19, 40, 41, 42, 43, 44, 45, 46, 82, 83] (by decide +kernel) (by decide +kernel)
set_option maxRecDepth 20000 in
theorem gX5_of_X0_oddDegrees_n126 : GoodIn wsX5_of (wsX0_oddDegrees) := ggX5_of_X0_oddDegrees
theorem dX5_of_0 : decode cX5_of 0 = .ok (.iload_n 1, 1) := by decide +kernel
theorem dX5_of_1 : decode cX5_of 1 = .ok (.invokestatic 67, 3) := by decide +kernel
theorem dX5_of_4 : decode cX5_of 4 = .ok (.ifCond .ne 5, 3) := by decide +kernel
theorem dX5_of_7 : decode cX5_of 7 = .ok (.iconst (-1), 1) := by decide +kernel
theorem dX5_of_8 : decode cX5_of 8 = .ok (.ireturn, 1) := by decide +kernel
theorem dX5_of_9 : decode cX5_of 9 = .ok (.aload_n 0, 1) := by decide +kernel
theorem dX5_of_10 : decode cX5_of 10 = .ok (.aload_n 0, 1) := by decide +kernel
theorem dX5_of_11 : decode cX5_of 11 = .ok (.getfield 30, 3) := by decide +kernel
theorem dX5_of_14 : decode cX5_of 14 = .ok (.iload_n 1, 1) := by decide +kernel
theorem dX5_of_15 : decode cX5_of 15 = .ok (.invokevirtual 74, 3) := by decide +kernel
theorem dX5_of_18 : decode cX5_of 18 = .ok (.iload_n 2, 1) := by decide +kernel
theorem dX5_of_19 : decode cX5_of 19 = .ok (.tableswitch 75 0 4 #[33, 43, 51, 59, 67], 33) := by decide +kernel
theorem dX5_of_52 : decode cX5_of 52 = .ok (.aload_n 0, 1) := by decide +kernel
theorem dX5_of_53 : decode cX5_of 53 = .ok (.getfield 10, 3) := by decide +kernel
theorem dX5_of_56 : decode cX5_of 56 = .ok (.getfield 82, 3) := by decide +kernel
theorem dX5_of_59 : decode cX5_of 59 = .ok (.iload_n 1, 1) := by decide +kernel
theorem dX5_of_60 : decode cX5_of 60 = .ok (.iaload, 1) := by decide +kernel
theorem dX5_of_61 : decode cX5_of 61 = .ok (.ireturn, 1) := by decide +kernel
theorem dX5_of_62 : decode cX5_of 62 = .ok (.aload_n 0, 1) := by decide +kernel
theorem dX5_of_63 : decode cX5_of 63 = .ok (.getfield 30, 3) := by decide +kernel
theorem dX5_of_66 : decode cX5_of 66 = .ok (.invokevirtual 89, 3) := by decide +kernel
theorem dX5_of_69 : decode cX5_of 69 = .ok (.ireturn, 1) := by decide +kernel
theorem dX5_of_70 : decode cX5_of 70 = .ok (.aload_n 0, 1) := by decide +kernel
theorem dX5_of_71 : decode cX5_of 71 = .ok (.getfield 30, 3) := by decide +kernel
theorem dX5_of_74 : decode cX5_of 74 = .ok (.invokevirtual 120, 3) := by decide +kernel
theorem dX5_of_77 : decode cX5_of 77 = .ok (.ireturn, 1) := by decide +kernel
theorem dX5_of_78 : decode cX5_of 78 = .ok (.aload_n 0, 1) := by decide +kernel
theorem dX5_of_79 : decode cX5_of 79 = .ok (.getfield 30, 3) := by decide +kernel
theorem dX5_of_82 : decode cX5_of 82 = .ok (.invokevirtual 123, 3) := by decide +kernel
theorem dX5_of_85 : decode cX5_of 85 = .ok (.ireturn, 1) := by decide +kernel
theorem dX5_of_86 : decode cX5_of 86 = .ok (.aload_n 0, 1) := by decide +kernel
theorem dX5_of_87 : decode cX5_of 87 = .ok (.getfield 30, 3) := by decide +kernel
theorem dX5_of_90 : decode cX5_of 90 = .ok (.invokevirtual 126, 3) := by decide +kernel
theorem dX5_of_93 : decode cX5_of 93 = .ok (.ireturn, 1) := by decide +kernel
theorem dX5_of_94 : decode cX5_of 94 = .ok (.bipush (-2), 2) := by decide +kernel
theorem dX5_of_96 : decode cX5_of 96 = .ok (.ireturn, 1) := by decide +kernel
set_option maxRecDepth 20000 in
theorem ggX5_node_X5_isSlot : GoodIn wsX5_node wsX5_isSlot := goodIn_r _ [5, 6, 7, 4, 8] (by decide +kernel) (by decide +kernel)
set_option maxRecDepth 20000 in
theorem gX5_node_X5_isSlot : GoodIn wsX5_node (va_wsS RX5 67 yX5_isSlot wsX5_isSlot) := goodIn_app (goodIn_of _ (by decide +kernel)) ggX5_node_X5_isSlot
set_option maxRecDepth 20000 in
theorem ggX5_node_X5_isNode : GoodIn wsX5_node wsX5_isNode := goodIn_r _ [12, 13, 6, 7, 4, 8, 75, 76, 77, 78, 79, 80, 81, 82, 83, 84] (by decide +kernel) (by decide +kernel)
set_option maxRecDepth 20000 in
theorem gX5_node_X5_isNode : GoodIn wsX5_node (wsV RX5 71 RX5 yX5_isNode wsX5_isNode) := goodIn_app (goodIn_of _ (by decide +kernel)) ggX5_node_X5_isNode
set_option maxRecDepth 20000 in
theorem ggX5_node_X5_load : GoodIn wsX5_node wsX5_load := goodIn_r _ [17, 13, 18, 19, 20, 21, 22, 23, 24, 25, 26, 27, 28, 29, 30, 31, 4, 32, 33, 34, 35, 36, 75, 76, 77, 78, 79, 80, 81, 82, 83, 84, 85, 86] (by decide +kernel) (by decide +kernel)
set_option maxRecDepth 20000 in
theorem gX5_node_X5_load : GoodIn wsX5_node (wsV RX5 74 RX5 yX5_load wsX5_load) := goodIn_app (goodIn_of _ (by decide +kernel)) ggX5_node_X5_load
set_option maxRecDepth 20000 in
theorem ggX5_node_X0_degree : GoodIn wsX5_node wsX0_degree := goodIn_r _ [39, 23, 40, 41, 42, 43, 44, 45, 46, 85, 86] (by decide +kernel) (by decide +kernel)
set_option maxRecDepth 20000 in
theorem gX5_node_X0_degree_n129 : GoodIn wsX5_node (wsX0_degree) := ggX5_node_X0_degree
set_option maxRecDepth 20000 in
theorem ggX5_node_X0_oddTriplesAtNode : GoodIn wsX5_node wsX0_oddTriplesAtNode := goodIn_r _ [49, 22, 50, 51, 52, 19, 53, 23, 54, 55, 56, 57, 58, 59, 60, 61, 40, 41, 42, 43, 44, 45, 46, 85, 86] (by decide +kernel) (by decide +kernel)
set_option maxRecDepth 20000 in
theorem gX5_node_X0_oddTriplesAtNode_n132 : GoodIn wsX5_node (wsX0_oddTriplesAtNode) := ggX5_node_X0_oddTriplesAtNode
set_option maxRecDepth 20000 in
theorem ggX5_node_X0_leaveAlone : GoodIn wsX5_node wsX0_leaveAlone := goodIn_r _ [64, 23, 65, 66, 67, 19, 68, 22, 58, 59, 60, 61, 85, 86] (by decide +kernel) (by decide +kernel)
set_option maxRecDepth 20000 in
theorem gX5_node_X0_leaveAlone_n135 : GoodIn wsX5_node (wsX0_leaveAlone) := ggX5_node_X0_leaveAlone
set_option maxRecDepth 20000 in
theorem ggX5_node_X0_number : GoodIn wsX5_node wsX0_number := goodIn_r _ [71, 22, 54, 55, 56, 19, 57, 23, 85, 86] (by decide +kernel) (by decide +kernel)
set_option maxRecDepth 20000 in
theorem gX5_node_X0_number_n85 : GoodIn wsX5_node (wsX0_number) := ggX5_node_X0_number
set_option maxRecDepth 20000 in
theorem ggX5_node_X0_drop : GoodIn wsX5_node wsX0_drop := goodIn_r _ [74, 22, 23, 85, 86] (by decide +kernel) (by decide +kernel)
set_option maxRecDepth 20000 in
theorem gX5_node_X0_drop_n138 : GoodIn wsX5_node (wsX0_drop) := ggX5_node_X0_drop
theorem dX5_node_0 : decode cX5_node 0 = .ok (.iload_n 1, 1) := by decide +kernel
theorem dX5_node_1 : decode cX5_node 1 = .ok (.invokestatic 67, 3) := by decide +kernel
theorem dX5_node_4 : decode cX5_node 4 = .ok (.ifCond .eq 11, 3) := by decide +kernel
theorem dX5_node_7 : decode cX5_node 7 = .ok (.aload_n 0, 1) := by decide +kernel
theorem dX5_node_8 : decode cX5_node 8 = .ok (.iload_n 2, 1) := by decide +kernel
theorem dX5_node_9 : decode cX5_node 9 = .ok (.invokevirtual 71, 3) := by decide +kernel
theorem dX5_node_12 : decode cX5_node 12 = .ok (.ifCond .ne 5, 3) := by decide +kernel
theorem dX5_node_15 : decode cX5_node 15 = .ok (.iconst (-1), 1) := by decide +kernel
theorem dX5_node_16 : decode cX5_node 16 = .ok (.ireturn, 1) := by decide +kernel
theorem dX5_node_17 : decode cX5_node 17 = .ok (.aload_n 0, 1) := by decide +kernel
theorem dX5_node_18 : decode cX5_node 18 = .ok (.aload_n 0, 1) := by decide +kernel
theorem dX5_node_19 : decode cX5_node 19 = .ok (.getfield 30, 3) := by decide +kernel
theorem dX5_node_22 : decode cX5_node 22 = .ok (.iload_n 1, 1) := by decide +kernel
theorem dX5_node_23 : decode cX5_node 23 = .ok (.invokevirtual 74, 3) := by decide +kernel
theorem dX5_node_26 : decode cX5_node 26 = .ok (.iload_n 3, 1) := by decide +kernel
theorem dX5_node_27 : decode cX5_node 27 = .ok (.tableswitch 87 0 3 #[29, 38, 47, 63], 29) := by decide +kernel
theorem dX5_node_56 : decode cX5_node 56 = .ok (.aload_n 0, 1) := by decide +kernel
theorem dX5_node_57 : decode cX5_node 57 = .ok (.getfield 30, 3) := by decide +kernel
theorem dX5_node_60 : decode cX5_node 60 = .ok (.iload_n 2, 1) := by decide +kernel
theorem dX5_node_61 : decode cX5_node 61 = .ok (.invokevirtual 129, 3) := by decide +kernel
theorem dX5_node_64 : decode cX5_node 64 = .ok (.ireturn, 1) := by decide +kernel
theorem dX5_node_65 : decode cX5_node 65 = .ok (.aload_n 0, 1) := by decide +kernel
theorem dX5_node_66 : decode cX5_node 66 = .ok (.getfield 30, 3) := by decide +kernel
theorem dX5_node_69 : decode cX5_node 69 = .ok (.iload_n 2, 1) := by decide +kernel
theorem dX5_node_70 : decode cX5_node 70 = .ok (.invokevirtual 132, 3) := by decide +kernel
theorem dX5_node_73 : decode cX5_node 73 = .ok (.ireturn, 1) := by decide +kernel
theorem dX5_node_74 : decode cX5_node 74 = .ok (.aload_n 0, 1) := by decide +kernel
theorem dX5_node_75 : decode cX5_node 75 = .ok (.getfield 30, 3) := by decide +kernel
theorem dX5_node_78 : decode cX5_node 78 = .ok (.iload_n 2, 1) := by decide +kernel
theorem dX5_node_79 : decode cX5_node 79 = .ok (.invokevirtual 135, 3) := by decide +kernel
theorem dX5_node_82 : decode cX5_node 82 = .ok (.aload_n 0, 1) := by decide +kernel
theorem dX5_node_83 : decode cX5_node 83 = .ok (.getfield 30, 3) := by decide +kernel
theorem dX5_node_86 : decode cX5_node 86 = .ok (.invokevirtual 85, 3) := by decide +kernel
theorem dX5_node_89 : decode cX5_node 89 = .ok (.ireturn, 1) := by decide +kernel
theorem dX5_node_90 : decode cX5_node 90 = .ok (.aload_n 0, 1) := by decide +kernel
theorem dX5_node_91 : decode cX5_node 91 = .ok (.getfield 30, 3) := by decide +kernel
theorem dX5_node_94 : decode cX5_node 94 = .ok (.iload_n 2, 1) := by decide +kernel
theorem dX5_node_95 : decode cX5_node 95 = .ok (.invokevirtual 135, 3) := by decide +kernel
theorem dX5_node_98 : decode cX5_node 98 = .ok (.aload_n 0, 1) := by decide +kernel
theorem dX5_node_99 : decode cX5_node 99 = .ok (.getfield 30, 3) := by decide +kernel
theorem dX5_node_102 : decode cX5_node 102 = .ok (.iload_n 2, 1) := by decide +kernel
theorem dX5_node_103 : decode cX5_node 103 = .ok (.invokevirtual 138, 3) := by decide +kernel
theorem dX5_node_106 : decode cX5_node 106 = .ok (.aload_n 0, 1) := by decide +kernel
theorem dX5_node_107 : decode cX5_node 107 = .ok (.getfield 30, 3) := by decide +kernel
theorem dX5_node_110 : decode cX5_node 110 = .ok (.invokevirtual 85, 3) := by decide +kernel
theorem dX5_node_113 : decode cX5_node 113 = .ok (.ireturn, 1) := by decide +kernel
theorem dX5_node_114 : decode cX5_node 114 = .ok (.bipush (-2), 2) := by decide +kernel
theorem dX5_node_116 : decode cX5_node 116 = .ok (.ireturn, 1) := by decide +kernel
set_option maxRecDepth 20000 in
theorem ggX5_pair_X5_isSlot : GoodIn wsX5_pair wsX5_isSlot := goodIn_r _ [5, 6, 7, 4, 8] (by decide +kernel) (by decide +kernel)
set_option maxRecDepth 20000 in
theorem gX5_pair_X5_isSlot : GoodIn wsX5_pair (va_wsS RX5 67 yX5_isSlot wsX5_isSlot) := goodIn_app (goodIn_of _ (by decide +kernel)) ggX5_pair_X5_isSlot
set_option maxRecDepth 20000 in
theorem ggX5_pair_X5_isNode : GoodIn wsX5_pair wsX5_isNode := goodIn_r _ [12, 13, 6, 7, 4, 8, 58, 59, 60, 61, 62, 63, 64, 65, 66, 67] (by decide +kernel) (by decide +kernel)
set_option maxRecDepth 20000 in
theorem gX5_pair_X5_isNode : GoodIn wsX5_pair (wsV RX5 71 RX5 yX5_isNode wsX5_isNode) := goodIn_app (goodIn_of _ (by decide +kernel)) ggX5_pair_X5_isNode
set_option maxRecDepth 20000 in
theorem ggX5_pair_X5_load : GoodIn wsX5_pair wsX5_load := goodIn_r _ [17, 13, 18, 19, 20, 21, 22, 23, 24, 25, 26, 27, 28, 29, 30, 31, 4, 32, 33, 34, 35, 36, 58, 59, 60, 61, 62, 63, 64, 65, 66, 67, 68, 69] (by decide +kernel) (by decide +kernel)
set_option maxRecDepth 20000 in
theorem gX5_pair_X5_load : GoodIn wsX5_pair (wsV RX5 74 RX5 yX5_load wsX5_load) := goodIn_app (goodIn_of _ (by decide +kernel)) ggX5_pair_X5_load
set_option maxRecDepth 20000 in
theorem ggX5_pair_X0_joined : GoodIn wsX5_pair wsX0_joined := goodIn_r _ [39, 23, 68, 69] (by decide +kernel) (by decide +kernel)
set_option maxRecDepth 20000 in
theorem gX5_pair_X0_joined_n141 : GoodIn wsX5_pair (wsX0_joined) := ggX5_pair_X0_joined
set_option maxRecDepth 20000 in
theorem ggX5_pair_X0_oddTriplesAtPair : GoodIn wsX5_pair wsX0_oddTriplesAtPair := goodIn_r _ [42, 23, 43, 37, 38, 19, 39, 44, 45, 46, 47, 22, 48, 49, 50, 51, 52, 53, 54, 68, 69] (by decide +kernel) (by decide +kernel)
set_option maxRecDepth 20000 in
theorem gX5_pair_X0_oddTriplesAtPair_n145 : GoodIn wsX5_pair (wsX0_oddTriplesAtPair) := ggX5_pair_X0_oddTriplesAtPair
set_option maxRecDepth 20000 in
theorem ggX5_pair_X0_shared : GoodIn wsX5_pair wsX0_shared := goodIn_r _ [57, 23, 48, 49, 50, 51, 52, 53, 54, 68, 69] (by decide +kernel) (by decide +kernel)
set_option maxRecDepth 20000 in
theorem gX5_pair_X0_shared_n148 : GoodIn wsX5_pair (wsX0_shared) := ggX5_pair_X0_shared
theorem dX5_pair_0 : decode cX5_pair 0 = .ok (.iload_n 1, 1) := by decide +kernel
theorem dX5_pair_1 : decode cX5_pair 1 = .ok (.invokestatic 67, 3) := by decide +kernel
theorem dX5_pair_4 : decode cX5_pair 4 = .ok (.ifCond .eq 19, 3) := by decide +kernel
theorem dX5_pair_7 : decode cX5_pair 7 = .ok (.aload_n 0, 1) := by decide +kernel
theorem dX5_pair_8 : decode cX5_pair 8 = .ok (.iload_n 2, 1) := by decide +kernel
theorem dX5_pair_9 : decode cX5_pair 9 = .ok (.invokevirtual 71, 3) := by decide +kernel
theorem dX5_pair_12 : decode cX5_pair 12 = .ok (.ifCond .eq 11, 3) := by decide +kernel
theorem dX5_pair_15 : decode cX5_pair 15 = .ok (.aload_n 0, 1) := by decide +kernel
theorem dX5_pair_16 : decode cX5_pair 16 = .ok (.iload_n 3, 1) := by decide +kernel
theorem dX5_pair_17 : decode cX5_pair 17 = .ok (.invokevirtual 71, 3) := by decide +kernel
theorem dX5_pair_20 : decode cX5_pair 20 = .ok (.ifCond .ne 5, 3) := by decide +kernel
theorem dX5_pair_23 : decode cX5_pair 23 = .ok (.iconst (-1), 1) := by decide +kernel
theorem dX5_pair_24 : decode cX5_pair 24 = .ok (.ireturn, 1) := by decide +kernel
theorem dX5_pair_25 : decode cX5_pair 25 = .ok (.iload_n 2, 1) := by decide +kernel
theorem dX5_pair_26 : decode cX5_pair 26 = .ok (.iload_n 3, 1) := by decide +kernel
theorem dX5_pair_27 : decode cX5_pair 27 = .ok (.if_icmp .ne 6, 3) := by decide +kernel
theorem dX5_pair_30 : decode cX5_pair 30 = .ok (.bipush (-2), 2) := by decide +kernel
theorem dX5_pair_32 : decode cX5_pair 32 = .ok (.ireturn, 1) := by decide +kernel
theorem dX5_pair_33 : decode cX5_pair 33 = .ok (.aload_n 0, 1) := by decide +kernel
theorem dX5_pair_34 : decode cX5_pair 34 = .ok (.aload_n 0, 1) := by decide +kernel
theorem dX5_pair_35 : decode cX5_pair 35 = .ok (.getfield 30, 3) := by decide +kernel
theorem dX5_pair_38 : decode cX5_pair 38 = .ok (.iload_n 1, 1) := by decide +kernel
theorem dX5_pair_39 : decode cX5_pair 39 = .ok (.invokevirtual 74, 3) := by decide +kernel
theorem dX5_pair_42 : decode cX5_pair 42 = .ok (.iload 4, 2) := by decide +kernel
theorem dX5_pair_44 : decode cX5_pair 44 = .ok (.tableswitch 58 0 2 #[28, 38, 48], 28) := by decide +kernel
theorem dX5_pair_72 : decode cX5_pair 72 = .ok (.aload_n 0, 1) := by decide +kernel
theorem dX5_pair_73 : decode cX5_pair 73 = .ok (.getfield 30, 3) := by decide +kernel
theorem dX5_pair_76 : decode cX5_pair 76 = .ok (.iload_n 2, 1) := by decide +kernel
theorem dX5_pair_77 : decode cX5_pair 77 = .ok (.iload_n 3, 1) := by decide +kernel
theorem dX5_pair_78 : decode cX5_pair 78 = .ok (.invokevirtual 141, 3) := by decide +kernel
theorem dX5_pair_81 : decode cX5_pair 81 = .ok (.ireturn, 1) := by decide +kernel
theorem dX5_pair_82 : decode cX5_pair 82 = .ok (.aload_n 0, 1) := by decide +kernel
theorem dX5_pair_83 : decode cX5_pair 83 = .ok (.getfield 30, 3) := by decide +kernel
theorem dX5_pair_86 : decode cX5_pair 86 = .ok (.iload_n 2, 1) := by decide +kernel
theorem dX5_pair_87 : decode cX5_pair 87 = .ok (.iload_n 3, 1) := by decide +kernel
theorem dX5_pair_88 : decode cX5_pair 88 = .ok (.invokevirtual 145, 3) := by decide +kernel
theorem dX5_pair_91 : decode cX5_pair 91 = .ok (.ireturn, 1) := by decide +kernel
theorem dX5_pair_92 : decode cX5_pair 92 = .ok (.aload_n 0, 1) := by decide +kernel
theorem dX5_pair_93 : decode cX5_pair 93 = .ok (.getfield 30, 3) := by decide +kernel
theorem dX5_pair_96 : decode cX5_pair 96 = .ok (.iload_n 2, 1) := by decide +kernel
theorem dX5_pair_97 : decode cX5_pair 97 = .ok (.iload_n 3, 1) := by decide +kernel
theorem dX5_pair_98 : decode cX5_pair 98 = .ok (.invokevirtual 148, 3) := by decide +kernel
theorem dX5_pair_101 : decode cX5_pair 101 = .ok (.ireturn, 1) := by decide +kernel
theorem dX5_pair_102 : decode cX5_pair 102 = .ok (.bipush (-2), 2) := by decide +kernel
theorem dX5_pair_104 : decode cX5_pair 104 = .ok (.ireturn, 1) := by decide +kernel
set_option maxRecDepth 20000 in
theorem ggX5_fewest_X5_isSlot : GoodIn wsX5_fewest wsX5_isSlot := goodIn_r _ [7, 8, 9, 6, 10] (by decide +kernel) (by decide +kernel)
set_option maxRecDepth 20000 in
theorem gX5_fewest_X5_isSlot : GoodIn wsX5_fewest (va_wsS RX5 67 yX5_isSlot wsX5_isSlot) := goodIn_app (goodIn_of _ (by decide +kernel)) ggX5_fewest_X5_isSlot
set_option maxRecDepth 20000 in
theorem ggX5_fewest_X5_within : GoodIn wsX5_fewest wsX5_within := goodIn_r _ [10] (by decide +kernel) (by decide +kernel)
set_option maxRecDepth 20000 in
theorem gX5_fewest_X5_within : GoodIn wsX5_fewest (va_wsS RX5 59 yX5_within wsX5_within) := goodIn_app (goodIn_of _ (by decide +kernel)) ggX5_fewest_X5_within
set_option maxRecDepth 20000 in
theorem ggX5_fewest_X5_load : GoodIn wsX5_fewest wsX5_load := goodIn_r _ [14, 2, 15, 16, 17, 18, 19, 20, 21, 22, 23, 24, 25, 26, 27, 28, 6, 29, 30, 31, 32, 33, 64, 65, 66, 67, 68, 69, 70, 71, 72, 73, 74, 75] (by decide +kernel) (by decide +kernel)
set_option maxRecDepth 20000 in
theorem gX5_fewest_X5_load : GoodIn wsX5_fewest (wsV RX5 74 RX5 yX5_load wsX5_load) := goodIn_app (goodIn_of _ (by decide +kernel)) ggX5_fewest_X5_load
set_option maxRecDepth 20000 in
theorem ggX5_fewest_X5_pairsOf : GoodIn wsX5_fewest wsX5_pairsOf := goodIn_r _ [29] (by decide +kernel) (by decide +kernel)
set_option maxRecDepth 20000 in
theorem gX5_fewest_X5_pairsOf : GoodIn wsX5_fewest (va_wsS RX5 92 yX5_pairsOf wsX5_pairsOf) := goodIn_app (goodIn_of _ (by decide +kernel)) ggX5_fewest_X5_pairsOf
set_option maxRecDepth 20000 in
theorem ggX5_fewest_X0_copySwitched : GoodIn wsX5_fewest wsX0_copySwitched := goodIn_r _ [37, 19, 20, 38, 39, 40, 41, 42, 43, 44, 16, 45, 46, 47, 48, 49, 74, 75] (by decide +kernel) (by decide +kernel)
set_option maxRecDepth 20000 in
theorem gX5_fewest_X0_copySwitched_n151 : GoodIn wsX5_fewest (wsX0_copySwitched) := ggX5_fewest_X0_copySwitched
set_option maxRecDepth 20000 in
theorem ggX5_fewest_X0_joinedPairs : GoodIn wsX5_fewest wsX0_joinedPairs := goodIn_r _ [52, 19, 53, 54, 55, 16, 56, 20, 57, 58, 59, 60, 61, 62, 63, 74, 75] (by decide +kernel) (by decide +kernel)
set_option maxRecDepth 20000 in
theorem gX5_fewest_X0_joinedPairs_n89 : GoodIn wsX5_fewest (wsX0_joinedPairs) := ggX5_fewest_X0_joinedPairs
theorem dX5_fewest_0 : decode cX5_fewest 0 = .ok (.iload_n 1, 1) := by decide +kernel
theorem dX5_fewest_1 : decode cX5_fewest 1 = .ok (.invokestatic 67, 3) := by decide +kernel
theorem dX5_fewest_4 : decode cX5_fewest 4 = .ok (.ifCond .ne 5, 3) := by decide +kernel
theorem dX5_fewest_7 : decode cX5_fewest 7 = .ok (.iconst (-1), 1) := by decide +kernel
theorem dX5_fewest_8 : decode cX5_fewest 8 = .ok (.ireturn, 1) := by decide +kernel
theorem dX5_fewest_9 : decode cX5_fewest 9 = .ok (.iload_n 2, 1) := by decide +kernel
theorem dX5_fewest_10 : decode cX5_fewest 10 = .ok (.iconst 0, 1) := by decide +kernel
theorem dX5_fewest_11 : decode cX5_fewest 11 = .ok (.iconst 2, 1) := by decide +kernel
theorem dX5_fewest_12 : decode cX5_fewest 12 = .ok (.invokestatic 59, 3) := by decide +kernel
theorem dX5_fewest_15 : decode cX5_fewest 15 = .ok (.ifCond .ne 6, 3) := by decide +kernel
theorem dX5_fewest_18 : decode cX5_fewest 18 = .ok (.bipush (-2), 2) := by decide +kernel
theorem dX5_fewest_20 : decode cX5_fewest 20 = .ok (.ireturn, 1) := by decide +kernel
theorem dX5_fewest_21 : decode cX5_fewest 21 = .ok (.aload_n 0, 1) := by decide +kernel
theorem dX5_fewest_22 : decode cX5_fewest 22 = .ok (.aload_n 0, 1) := by decide +kernel
theorem dX5_fewest_23 : decode cX5_fewest 23 = .ok (.getfield 30, 3) := by decide +kernel
theorem dX5_fewest_26 : decode cX5_fewest 26 = .ok (.iload_n 1, 1) := by decide +kernel
theorem dX5_fewest_27 : decode cX5_fewest 27 = .ok (.invokevirtual 74, 3) := by decide +kernel
theorem dX5_fewest_30 : decode cX5_fewest 30 = .ok (.aload_n 0, 1) := by decide +kernel
theorem dX5_fewest_31 : decode cX5_fewest 31 = .ok (.getfield 10, 3) := by decide +kernel
theorem dX5_fewest_34 : decode cX5_fewest 34 = .ok (.getfield 63, 3) := by decide +kernel
theorem dX5_fewest_37 : decode cX5_fewest 37 = .ok (.invokestatic 92, 3) := by decide +kernel
theorem dX5_fewest_40 : decode cX5_fewest 40 = .ok (.iconst 1, 1) := by decide +kernel
theorem dX5_fewest_41 : decode cX5_fewest 41 = .ok (.iadd, 1) := by decide +kernel
theorem dX5_fewest_42 : decode cX5_fewest 42 = .ok (.istore_n 3, 1) := by decide +kernel
theorem dX5_fewest_43 : decode cX5_fewest 43 = .ok (.iconst 0, 1) := by decide +kernel
theorem dX5_fewest_44 : decode cX5_fewest 44 = .ok (.istore 4, 2) := by decide +kernel
theorem dX5_fewest_46 : decode cX5_fewest 46 = .ok (.iconst 0, 1) := by decide +kernel
theorem dX5_fewest_47 : decode cX5_fewest 47 = .ok (.istore 5, 2) := by decide +kernel
theorem dX5_fewest_49 : decode cX5_fewest 49 = .ok (.iconst 0, 1) := by decide +kernel
theorem dX5_fewest_50 : decode cX5_fewest 50 = .ok (.istore 6, 2) := by decide +kernel
theorem dX5_fewest_52 : decode cX5_fewest 52 = .ok (.iload 6, 2) := by decide +kernel
theorem dX5_fewest_54 : decode cX5_fewest 54 = .ok (.iconst 1, 1) := by decide +kernel
theorem dX5_fewest_55 : decode cX5_fewest 55 = .ok (.aload_n 0, 1) := by decide +kernel
theorem dX5_fewest_56 : decode cX5_fewest 56 = .ok (.getfield 10, 3) := by decide +kernel
theorem dX5_fewest_59 : decode cX5_fewest 59 = .ok (.getfield 63, 3) := by decide +kernel
theorem dX5_fewest_62 : decode cX5_fewest 62 = .ok (.ishl, 1) := by decide +kernel
theorem dX5_fewest_63 : decode cX5_fewest 63 = .ok (.if_icmp .ge 56, 3) := by decide +kernel
theorem dX5_fewest_66 : decode cX5_fewest 66 = .ok (.aload_n 0, 1) := by decide +kernel
theorem dX5_fewest_67 : decode cX5_fewest 67 = .ok (.getfield 34, 3) := by decide +kernel
theorem dX5_fewest_70 : decode cX5_fewest 70 = .ok (.aload_n 0, 1) := by decide +kernel
theorem dX5_fewest_71 : decode cX5_fewest 71 = .ok (.getfield 30, 3) := by decide +kernel
theorem dX5_fewest_74 : decode cX5_fewest 74 = .ok (.iload 6, 2) := by decide +kernel
theorem dX5_fewest_76 : decode cX5_fewest 76 = .ok (.invokevirtual 151, 3) := by decide +kernel
theorem dX5_fewest_79 : decode cX5_fewest 79 = .ok (.aload_n 0, 1) := by decide +kernel
theorem dX5_fewest_80 : decode cX5_fewest 80 = .ok (.getfield 34, 3) := by decide +kernel
theorem dX5_fewest_83 : decode cX5_fewest 83 = .ok (.invokevirtual 89, 3) := by decide +kernel
theorem dX5_fewest_86 : decode cX5_fewest 86 = .ok (.istore 7, 2) := by decide +kernel
theorem dX5_fewest_88 : decode cX5_fewest 88 = .ok (.iload 7, 2) := by decide +kernel
theorem dX5_fewest_90 : decode cX5_fewest 90 = .ok (.iload_n 3, 1) := by decide +kernel
theorem dX5_fewest_91 : decode cX5_fewest 91 = .ok (.if_icmp .ge 13, 3) := by decide +kernel
theorem dX5_fewest_94 : decode cX5_fewest 94 = .ok (.iload 7, 2) := by decide +kernel
theorem dX5_fewest_96 : decode cX5_fewest 96 = .ok (.istore_n 3, 1) := by decide +kernel
theorem dX5_fewest_97 : decode cX5_fewest 97 = .ok (.iload 6, 2) := by decide +kernel
theorem dX5_fewest_99 : decode cX5_fewest 99 = .ok (.istore 4, 2) := by decide +kernel
theorem dX5_fewest_101 : decode cX5_fewest 101 = .ok (.iconst 0, 1) := by decide +kernel
theorem dX5_fewest_102 : decode cX5_fewest 102 = .ok (.istore 5, 2) := by decide +kernel
theorem dX5_fewest_104 : decode cX5_fewest 104 = .ok (.iload 7, 2) := by decide +kernel
theorem dX5_fewest_106 : decode cX5_fewest 106 = .ok (.iload_n 3, 1) := by decide +kernel
theorem dX5_fewest_107 : decode cX5_fewest 107 = .ok (.if_icmp .ne 6, 3) := by decide +kernel
theorem dX5_fewest_110 : decode cX5_fewest 110 = .ok (.iinc 5 1, 3) := by decide +kernel
theorem dX5_fewest_113 : decode cX5_fewest 113 = .ok (.iinc 6 2, 3) := by decide +kernel
theorem dX5_fewest_116 : decode cX5_fewest 116 = .ok (.goto (-64), 3) := by decide +kernel
theorem dX5_fewest_119 : decode cX5_fewest 119 = .ok (.iload_n 2, 1) := by decide +kernel
theorem dX5_fewest_120 : decode cX5_fewest 120 = .ok (.ifCond .ne 7, 3) := by decide +kernel
theorem dX5_fewest_123 : decode cX5_fewest 123 = .ok (.iload_n 3, 1) := by decide +kernel
theorem dX5_fewest_124 : decode cX5_fewest 124 = .ok (.goto 15, 3) := by decide +kernel
theorem dX5_fewest_127 : decode cX5_fewest 127 = .ok (.iload_n 2, 1) := by decide +kernel
theorem dX5_fewest_128 : decode cX5_fewest 128 = .ok (.iconst 1, 1) := by decide +kernel
theorem dX5_fewest_129 : decode cX5_fewest 129 = .ok (.if_icmp .ne 8, 3) := by decide +kernel
theorem dX5_fewest_132 : decode cX5_fewest 132 = .ok (.iload 4, 2) := by decide +kernel
theorem dX5_fewest_134 : decode cX5_fewest 134 = .ok (.goto 5, 3) := by decide +kernel
theorem dX5_fewest_137 : decode cX5_fewest 137 = .ok (.iload 5, 2) := by decide +kernel
theorem dX5_fewest_139 : decode cX5_fewest 139 = .ok (.ireturn, 1) := by decide +kernel
set_option maxRecDepth 20000 in
theorem ggX5_even_X5_isSlot : GoodIn wsX5_even wsX5_isSlot := goodIn_r _ [5, 6, 7, 4, 8] (by decide +kernel) (by decide +kernel)
set_option maxRecDepth 20000 in
theorem gX5_even_X5_isSlot : GoodIn wsX5_even (va_wsS RX5 67 yX5_isSlot wsX5_isSlot) := goodIn_app (goodIn_of _ (by decide +kernel)) ggX5_even_X5_isSlot
set_option maxRecDepth 20000 in
theorem ggX5_even_X5_within : GoodIn wsX5_even wsX5_within := goodIn_r _ [8] (by decide +kernel) (by decide +kernel)
set_option maxRecDepth 20000 in
theorem gX5_even_X5_within : GoodIn wsX5_even (va_wsS RX5 59 yX5_within wsX5_within) := goodIn_app (goodIn_of _ (by decide +kernel)) ggX5_even_X5_within
set_option maxRecDepth 20000 in
theorem ggX5_even_X5_load : GoodIn wsX5_even wsX5_load := goodIn_r _ [12, 13, 14, 15, 16, 17, 18, 19, 20, 21, 22, 23, 24, 25, 26, 27, 4, 28, 29, 30, 31, 32, 90, 91, 92, 93, 94, 95, 96, 97, 98, 99, 100, 101] (by decide +kernel) (by decide +kernel)
set_option maxRecDepth 20000 in
theorem gX5_even_X5_load : GoodIn wsX5_even (wsV RX5 74 RX5 yX5_load wsX5_load) := goodIn_app (goodIn_of _ (by decide +kernel)) ggX5_even_X5_load
set_option maxRecDepth 20000 in
theorem ggX5_even_X5_howManyBy : GoodIn wsX5_even wsX5_howManyBy := goodIn_r _ [36, 1, 37, 38, 15, 39, 40, 18, 19, 41, 42, 43, 44, 45, 46, 47, 48, 49, 50, 51, 52, 53, 54, 55, 56, 57, 58, 59, 60, 61, 62, 63, 64, 65, 66, 67, 68, 69, 70, 71, 72, 73, 74, 75, 76, 77, 78, 79, 80, 81, 82, 83, 84, 85, 90, 91, 92, 93, 94, 95, 96, 97, 100, 101] (by decide +kernel) (by decide +kernel)
set_option maxRecDepth 20000 in
theorem gX5_even_X5_howManyBy : GoodIn wsX5_even (wsV RX5 154 RX5 yX5_howManyBy wsX5_howManyBy) := goodIn_app (goodIn_of _ (by decide +kernel)) ggX5_even_X5_howManyBy
set_option maxRecDepth 20000 in
theorem ggX5_even_X5_leastSetBy : GoodIn wsX5_even wsX5_leastSetBy := goodIn_r _ [89, 1, 37, 38, 15, 39, 40, 18, 19, 41, 42, 43, 44, 45, 46, 47, 48, 49, 50, 51, 52, 53, 54, 55, 56, 57, 58, 59, 60, 61, 62, 63, 64, 65, 66, 67, 68, 69, 70, 90, 91, 92, 93, 94, 95, 96, 97, 100, 101] (by decide +kernel) (by decide +kernel)
set_option maxRecDepth 20000 in
theorem gX5_even_X5_leastSetBy : GoodIn wsX5_even (wsV RX5 158 RX5 yX5_leastSetBy wsX5_leastSetBy) := goodIn_app (goodIn_of _ (by decide +kernel)) ggX5_even_X5_leastSetBy
theorem dX5_even_0 : decode cX5_even 0 = .ok (.iload_n 1, 1) := by decide +kernel
theorem dX5_even_1 : decode cX5_even 1 = .ok (.invokestatic 67, 3) := by decide +kernel
theorem dX5_even_4 : decode cX5_even 4 = .ok (.ifCond .ne 5, 3) := by decide +kernel
theorem dX5_even_7 : decode cX5_even 7 = .ok (.iconst (-1), 1) := by decide +kernel
theorem dX5_even_8 : decode cX5_even 8 = .ok (.ireturn, 1) := by decide +kernel
theorem dX5_even_9 : decode cX5_even 9 = .ok (.iload_n 2, 1) := by decide +kernel
theorem dX5_even_10 : decode cX5_even 10 = .ok (.iconst 0, 1) := by decide +kernel
theorem dX5_even_11 : decode cX5_even 11 = .ok (.iconst 1, 1) := by decide +kernel
theorem dX5_even_12 : decode cX5_even 12 = .ok (.invokestatic 59, 3) := by decide +kernel
theorem dX5_even_15 : decode cX5_even 15 = .ok (.ifCond .ne 6, 3) := by decide +kernel
theorem dX5_even_18 : decode cX5_even 18 = .ok (.bipush (-2), 2) := by decide +kernel
theorem dX5_even_20 : decode cX5_even 20 = .ok (.ireturn, 1) := by decide +kernel
theorem dX5_even_21 : decode cX5_even 21 = .ok (.aload_n 0, 1) := by decide +kernel
theorem dX5_even_22 : decode cX5_even 22 = .ok (.aload_n 0, 1) := by decide +kernel
theorem dX5_even_23 : decode cX5_even 23 = .ok (.getfield 30, 3) := by decide +kernel
theorem dX5_even_26 : decode cX5_even 26 = .ok (.iload_n 1, 1) := by decide +kernel
theorem dX5_even_27 : decode cX5_even 27 = .ok (.invokevirtual 74, 3) := by decide +kernel
theorem dX5_even_30 : decode cX5_even 30 = .ok (.iload_n 2, 1) := by decide +kernel
theorem dX5_even_31 : decode cX5_even 31 = .ok (.ifCond .ne 12, 3) := by decide +kernel
theorem dX5_even_34 : decode cX5_even 34 = .ok (.aload_n 0, 1) := by decide +kernel
theorem dX5_even_35 : decode cX5_even 35 = .ok (.iconst (-1), 1) := by decide +kernel
theorem dX5_even_36 : decode cX5_even 36 = .ok (.iconst 0, 1) := by decide +kernel
theorem dX5_even_37 : decode cX5_even 37 = .ok (.invokevirtual 154, 3) := by decide +kernel
theorem dX5_even_40 : decode cX5_even 40 = .ok (.goto 8, 3) := by decide +kernel
theorem dX5_even_43 : decode cX5_even 43 = .ok (.aload_n 0, 1) := by decide +kernel
theorem dX5_even_44 : decode cX5_even 44 = .ok (.iconst (-1), 1) := by decide +kernel
theorem dX5_even_45 : decode cX5_even 45 = .ok (.invokevirtual 158, 3) := by decide +kernel
theorem dX5_even_48 : decode cX5_even 48 = .ok (.ireturn, 1) := by decide +kernel
set_option maxRecDepth 20000 in
theorem ggX5_by_X5_isSlot : GoodIn wsX5_by wsX5_isSlot := goodIn_r _ [5, 6, 7, 4, 8] (by decide +kernel) (by decide +kernel)
set_option maxRecDepth 20000 in
theorem gX5_by_X5_isSlot : GoodIn wsX5_by (va_wsS RX5 67 yX5_isSlot wsX5_isSlot) := goodIn_app (goodIn_of _ (by decide +kernel)) ggX5_by_X5_isSlot
set_option maxRecDepth 20000 in
theorem ggX5_by_X5_within : GoodIn wsX5_by wsX5_within := goodIn_r _ [8] (by decide +kernel) (by decide +kernel)
set_option maxRecDepth 20000 in
theorem gX5_by_X5_within : GoodIn wsX5_by (va_wsS RX5 59 yX5_within wsX5_within) := goodIn_app (goodIn_of _ (by decide +kernel)) ggX5_by_X5_within
set_option maxRecDepth 20000 in
theorem ggX5_by_X5_load : GoodIn wsX5_by wsX5_load := goodIn_r _ [12, 13, 14, 15, 16, 17, 18, 19, 20, 21, 22, 23, 24, 25, 26, 27, 4, 28, 29, 30, 31, 32, 90, 91, 92, 93, 94, 95, 96, 97, 98, 99, 100, 101] (by decide +kernel) (by decide +kernel)
set_option maxRecDepth 20000 in
theorem gX5_by_X5_load : GoodIn wsX5_by (wsV RX5 74 RX5 yX5_load wsX5_load) := goodIn_app (goodIn_of _ (by decide +kernel)) ggX5_by_X5_load
set_option maxRecDepth 20000 in
theorem ggX5_by_X5_leastSetBy : GoodIn wsX5_by wsX5_leastSetBy := goodIn_r _ [36, 1, 37, 38, 15, 39, 40, 18, 19, 41, 42, 43, 44, 45, 46, 47, 48, 49, 50, 51, 52, 53, 54, 55, 56, 57, 58, 59, 60, 61, 62, 63, 64, 65, 66, 67, 68, 69, 70, 90, 91, 92, 93, 94, 95, 96, 97, 100, 101] (by decide +kernel) (by decide +kernel)
set_option maxRecDepth 20000 in
theorem gX5_by_X5_leastSetBy : GoodIn wsX5_by (wsV RX5 158 RX5 yX5_leastSetBy wsX5_leastSetBy) := goodIn_app (goodIn_of _ (by decide +kernel)) ggX5_by_X5_leastSetBy
set_option maxRecDepth 20000 in
theorem ggX5_by_X5_howManyBy : GoodIn wsX5_by wsX5_howManyBy := goodIn_r _ [74, 1, 37, 38, 15, 39, 40, 18, 19, 41, 42, 43, 44, 45, 46, 47, 48, 49, 50, 51, 52, 53, 54, 55, 56, 57, 58, 59, 60, 61, 62, 63, 64, 65, 66, 67, 68, 69, 70, 75, 76, 77, 78, 79, 80, 81, 82, 83, 84, 85, 86, 87, 88, 89, 90, 91, 92, 93, 94, 95, 96, 97, 100, 101] (by decide +kernel) (by decide +kernel)
set_option maxRecDepth 20000 in
theorem gX5_by_X5_howManyBy : GoodIn wsX5_by (wsV RX5 154 RX5 yX5_howManyBy wsX5_howManyBy) := goodIn_app (goodIn_of _ (by decide +kernel)) ggX5_by_X5_howManyBy
theorem dX5_by_0 : decode cX5_by 0 = .ok (.iload_n 1, 1) := by decide +kernel
theorem dX5_by_1 : decode cX5_by 1 = .ok (.invokestatic 67, 3) := by decide +kernel
theorem dX5_by_4 : decode cX5_by 4 = .ok (.ifCond .ne 5, 3) := by decide +kernel
theorem dX5_by_7 : decode cX5_by 7 = .ok (.iconst (-1), 1) := by decide +kernel
theorem dX5_by_8 : decode cX5_by 8 = .ok (.ireturn, 1) := by decide +kernel
theorem dX5_by_9 : decode cX5_by 9 = .ok (.iload_n 2, 1) := by decide +kernel
theorem dX5_by_10 : decode cX5_by 10 = .ok (.iconst 0, 1) := by decide +kernel
theorem dX5_by_11 : decode cX5_by 11 = .ok (.bipush 6, 2) := by decide +kernel
theorem dX5_by_13 : decode cX5_by 13 = .ok (.invokestatic 59, 3) := by decide +kernel
theorem dX5_by_16 : decode cX5_by 16 = .ok (.ifCond .eq 12, 3) := by decide +kernel
theorem dX5_by_19 : decode cX5_by 19 = .ok (.iload_n 3, 1) := by decide +kernel
theorem dX5_by_20 : decode cX5_by 20 = .ok (.iconst 0, 1) := by decide +kernel
theorem dX5_by_21 : decode cX5_by 21 = .ok (.iconst 2, 1) := by decide +kernel
theorem dX5_by_22 : decode cX5_by 22 = .ok (.invokestatic 59, 3) := by decide +kernel
theorem dX5_by_25 : decode cX5_by 25 = .ok (.ifCond .ne 6, 3) := by decide +kernel
theorem dX5_by_28 : decode cX5_by 28 = .ok (.bipush (-2), 2) := by decide +kernel
theorem dX5_by_30 : decode cX5_by 30 = .ok (.ireturn, 1) := by decide +kernel
theorem dX5_by_31 : decode cX5_by 31 = .ok (.aload_n 0, 1) := by decide +kernel
theorem dX5_by_32 : decode cX5_by 32 = .ok (.aload_n 0, 1) := by decide +kernel
theorem dX5_by_33 : decode cX5_by 33 = .ok (.getfield 30, 3) := by decide +kernel
theorem dX5_by_36 : decode cX5_by 36 = .ok (.iload_n 1, 1) := by decide +kernel
theorem dX5_by_37 : decode cX5_by 37 = .ok (.invokevirtual 74, 3) := by decide +kernel
theorem dX5_by_40 : decode cX5_by 40 = .ok (.iload_n 3, 1) := by decide +kernel
theorem dX5_by_41 : decode cX5_by 41 = .ok (.iconst 1, 1) := by decide +kernel
theorem dX5_by_42 : decode cX5_by 42 = .ok (.if_icmp .ne 11, 3) := by decide +kernel
theorem dX5_by_45 : decode cX5_by 45 = .ok (.aload_n 0, 1) := by decide +kernel
theorem dX5_by_46 : decode cX5_by 46 = .ok (.iload_n 2, 1) := by decide +kernel
theorem dX5_by_47 : decode cX5_by 47 = .ok (.invokevirtual 158, 3) := by decide +kernel
theorem dX5_by_50 : decode cX5_by 50 = .ok (.goto 18, 3) := by decide +kernel
theorem dX5_by_53 : decode cX5_by 53 = .ok (.aload_n 0, 1) := by decide +kernel
theorem dX5_by_54 : decode cX5_by 54 = .ok (.iload_n 2, 1) := by decide +kernel
theorem dX5_by_55 : decode cX5_by 55 = .ok (.iload_n 3, 1) := by decide +kernel
theorem dX5_by_56 : decode cX5_by 56 = .ok (.iconst 2, 1) := by decide +kernel
theorem dX5_by_57 : decode cX5_by 57 = .ok (.if_icmp .ne 7, 3) := by decide +kernel
theorem dX5_by_60 : decode cX5_by 60 = .ok (.iconst 1, 1) := by decide +kernel
theorem dX5_by_61 : decode cX5_by 61 = .ok (.goto 4, 3) := by decide +kernel
theorem dX5_by_64 : decode cX5_by 64 = .ok (.iconst 0, 1) := by decide +kernel
theorem dX5_by_65 : decode cX5_by 65 = .ok (.invokevirtual 154, 3) := by decide +kernel
theorem dX5_by_68 : decode cX5_by 68 = .ok (.ireturn, 1) := by decide +kernel
set_option maxRecDepth 20000 in
theorem ggX5_compare_X5_isSlot : GoodIn wsX5_compare wsX5_isSlot := goodIn_r _ [7, 8, 9, 6, 10] (by decide +kernel) (by decide +kernel)
set_option maxRecDepth 20000 in
theorem gX5_compare_X5_isSlot : GoodIn wsX5_compare (va_wsS RX5 67 yX5_isSlot wsX5_isSlot) := goodIn_app (goodIn_of _ (by decide +kernel)) ggX5_compare_X5_isSlot
set_option maxRecDepth 20000 in
theorem ggX5_compare_X5_bringingSet : GoodIn wsX5_compare wsX5_bringingSet := goodIn_r _ [14, 1, 2, 15, 16, 17, 6, 18, 19, 20, 21, 22, 23, 24, 25, 26, 27, 28, 29, 30, 31, 32, 33, 34, 35, 36, 37, 38, 39, 40, 41, 42, 43, 44, 45, 46, 47, 48, 49, 50, 51, 52, 107, 108, 109, 110, 111, 112, 113, 114, 115, 116, 117, 118] (by decide +kernel) (by decide +kernel)
set_option maxRecDepth 20000 in
theorem gX5_compare_X5_bringingSet : GoodIn wsX5_compare (wsV RX5 161 RX5 yX5_bringingSet wsX5_bringingSet) := goodIn_app (goodIn_of _ (by decide +kernel)) ggX5_compare_X5_bringingSet
set_option maxRecDepth 20000 in
theorem ggX5_compare_X5_load : GoodIn wsX5_compare wsX5_load := goodIn_r _ [18, 19, 20, 21, 22, 23, 24, 25, 26, 27, 28, 29, 30, 31, 32, 33, 6, 34, 35, 36, 37, 38, 107, 108, 109, 110, 111, 112, 113, 114, 117, 118, 115, 116] (by decide +kernel) (by decide +kernel)
set_option maxRecDepth 20000 in
theorem gX5_compare_X5_load : GoodIn wsX5_compare (wsV RX5 74 RX5 yX5_load wsX5_load) := goodIn_app (goodIn_of _ (by decide +kernel)) ggX5_compare_X5_load
set_option maxRecDepth 20000 in
theorem ggX5_compare_X2_brings : GoodIn wsX5_compare wsX2_brings := goodIn_r _ [56, 57, 58, 59, 54, 60, 61, 62, 63, 64, 21, 65, 66, 25, 67, 68, 69, 70, 71, 72, 73, 50, 51, 52, 119, 115, 116] (by decide +kernel) (by decide +kernel)
set_option maxRecDepth 20000 in
theorem gX5_compare_X2_brings_n164 : GoodIn wsX5_compare (wsX2_brings) := ggX5_compare_X2_brings
set_option maxRecDepth 20000 in
theorem ggX5_compare_X5_kindOfSlot : GoodIn wsX5_compare wsX5_kindOfSlot := goodIn_r _ [77, 1, 3, 15, 16, 17, 6, 18, 19, 20, 21, 22, 23, 24, 25, 26, 27, 28, 29, 30, 31, 32, 33, 34, 35, 36, 37, 38, 78, 54, 79, 80, 57, 81, 82, 83, 84, 85, 86, 87, 88, 39, 40, 41, 42, 43, 44, 45, 89, 90, 91, 92, 93, 94, 50, 51, 52, 95, 96, 97, 98, 99, 100, 101, 102, 103, 104, 105, 106, 107, 108, 109, 110, 111, 112, 113, 114, 117, 118, 115, 116, 119] (by decide +kernel) (by decide +kernel)
set_option maxRecDepth 20000 in
theorem gX5_compare_X5_kindOfSlot : GoodIn wsX5_compare (wsV RX5 168 RX5 yX5_kindOfSlot wsX5_kindOfSlot) := goodIn_app (goodIn_of _ (by decide +kernel)) ggX5_compare_X5_kindOfSlot
theorem dX5_compare_0 : decode cX5_compare 0 = .ok (.iload_n 1, 1) := by decide +kernel
theorem dX5_compare_1 : decode cX5_compare 1 = .ok (.invokestatic 67, 3) := by decide +kernel
theorem dX5_compare_4 : decode cX5_compare 4 = .ok (.ifCond .eq 10, 3) := by decide +kernel
theorem dX5_compare_7 : decode cX5_compare 7 = .ok (.iload_n 2, 1) := by decide +kernel
theorem dX5_compare_8 : decode cX5_compare 8 = .ok (.invokestatic 67, 3) := by decide +kernel
theorem dX5_compare_11 : decode cX5_compare 11 = .ok (.ifCond .ne 5, 3) := by decide +kernel
theorem dX5_compare_14 : decode cX5_compare 14 = .ok (.iconst (-1), 1) := by decide +kernel
theorem dX5_compare_15 : decode cX5_compare 15 = .ok (.ireturn, 1) := by decide +kernel
theorem dX5_compare_16 : decode cX5_compare 16 = .ok (.iload_n 3, 1) := by decide +kernel
theorem dX5_compare_17 : decode cX5_compare 17 = .ok (.tableswitch 116 0 3 #[31, 48, 55, 97], 31) := by decide +kernel
theorem dX5_compare_48 : decode cX5_compare 48 = .ok (.aload_n 0, 1) := by decide +kernel
theorem dX5_compare_49 : decode cX5_compare 49 = .ok (.iload_n 1, 1) := by decide +kernel
theorem dX5_compare_50 : decode cX5_compare 50 = .ok (.iload_n 2, 1) := by decide +kernel
theorem dX5_compare_51 : decode cX5_compare 51 = .ok (.invokevirtual 161, 3) := by decide +kernel
theorem dX5_compare_54 : decode cX5_compare 54 = .ok (.bipush (-6), 2) := by decide +kernel
theorem dX5_compare_56 : decode cX5_compare 56 = .ok (.if_icmp .ne 7, 3) := by decide +kernel
theorem dX5_compare_59 : decode cX5_compare 59 = .ok (.iconst 0, 1) := by decide +kernel
theorem dX5_compare_60 : decode cX5_compare 60 = .ok (.goto 4, 3) := by decide +kernel
theorem dX5_compare_63 : decode cX5_compare 63 = .ok (.iconst 1, 1) := by decide +kernel
theorem dX5_compare_64 : decode cX5_compare 64 = .ok (.ireturn, 1) := by decide +kernel
theorem dX5_compare_65 : decode cX5_compare 65 = .ok (.aload_n 0, 1) := by decide +kernel
theorem dX5_compare_66 : decode cX5_compare 66 = .ok (.iload_n 1, 1) := by decide +kernel
theorem dX5_compare_67 : decode cX5_compare 67 = .ok (.iload_n 2, 1) := by decide +kernel
theorem dX5_compare_68 : decode cX5_compare 68 = .ok (.invokevirtual 161, 3) := by decide +kernel
theorem dX5_compare_71 : decode cX5_compare 71 = .ok (.ireturn, 1) := by decide +kernel
theorem dX5_compare_72 : decode cX5_compare 72 = .ok (.aload_n 0, 1) := by decide +kernel
theorem dX5_compare_73 : decode cX5_compare 73 = .ok (.aload_n 0, 1) := by decide +kernel
theorem dX5_compare_74 : decode cX5_compare 74 = .ok (.getfield 30, 3) := by decide +kernel
theorem dX5_compare_77 : decode cX5_compare 77 = .ok (.iload_n 1, 1) := by decide +kernel
theorem dX5_compare_78 : decode cX5_compare 78 = .ok (.invokevirtual 74, 3) := by decide +kernel
theorem dX5_compare_81 : decode cX5_compare 81 = .ok (.aload_n 0, 1) := by decide +kernel
theorem dX5_compare_82 : decode cX5_compare 82 = .ok (.aload_n 0, 1) := by decide +kernel
theorem dX5_compare_83 : decode cX5_compare 83 = .ok (.getfield 34, 3) := by decide +kernel
theorem dX5_compare_86 : decode cX5_compare 86 = .ok (.iload_n 2, 1) := by decide +kernel
theorem dX5_compare_87 : decode cX5_compare 87 = .ok (.invokevirtual 74, 3) := by decide +kernel
theorem dX5_compare_90 : decode cX5_compare 90 = .ok (.aload_n 0, 1) := by decide +kernel
theorem dX5_compare_91 : decode cX5_compare 91 = .ok (.getfield 40, 3) := by decide +kernel
theorem dX5_compare_94 : decode cX5_compare 94 = .ok (.aload_n 0, 1) := by decide +kernel
theorem dX5_compare_95 : decode cX5_compare 95 = .ok (.getfield 30, 3) := by decide +kernel
theorem dX5_compare_98 : decode cX5_compare 98 = .ok (.aload_n 0, 1) := by decide +kernel
theorem dX5_compare_99 : decode cX5_compare 99 = .ok (.getfield 34, 3) := by decide +kernel
theorem dX5_compare_102 : decode cX5_compare 102 = .ok (.invokevirtual 164, 3) := by decide +kernel
theorem dX5_compare_105 : decode cX5_compare 105 = .ok (.ifCond .eq 7, 3) := by decide +kernel
theorem dX5_compare_108 : decode cX5_compare 108 = .ok (.iconst 1, 1) := by decide +kernel
theorem dX5_compare_109 : decode cX5_compare 109 = .ok (.goto 4, 3) := by decide +kernel
theorem dX5_compare_112 : decode cX5_compare 112 = .ok (.iconst 0, 1) := by decide +kernel
theorem dX5_compare_113 : decode cX5_compare 113 = .ok (.ireturn, 1) := by decide +kernel
theorem dX5_compare_114 : decode cX5_compare 114 = .ok (.aload_n 0, 1) := by decide +kernel
theorem dX5_compare_115 : decode cX5_compare 115 = .ok (.iload_n 1, 1) := by decide +kernel
theorem dX5_compare_116 : decode cX5_compare 116 = .ok (.invokevirtual 168, 3) := by decide +kernel
theorem dX5_compare_119 : decode cX5_compare 119 = .ok (.aload_n 0, 1) := by decide +kernel
theorem dX5_compare_120 : decode cX5_compare 120 = .ok (.iload_n 2, 1) := by decide +kernel
theorem dX5_compare_121 : decode cX5_compare 121 = .ok (.invokevirtual 168, 3) := by decide +kernel
theorem dX5_compare_124 : decode cX5_compare 124 = .ok (.if_icmp .ne 7, 3) := by decide +kernel
theorem dX5_compare_127 : decode cX5_compare 127 = .ok (.iconst 1, 1) := by decide +kernel
theorem dX5_compare_128 : decode cX5_compare 128 = .ok (.goto 4, 3) := by decide +kernel
theorem dX5_compare_131 : decode cX5_compare 131 = .ok (.iconst 0, 1) := by decide +kernel
theorem dX5_compare_132 : decode cX5_compare 132 = .ok (.ireturn, 1) := by decide +kernel
theorem dX5_compare_133 : decode cX5_compare 133 = .ok (.bipush (-2), 2) := by decide +kernel
theorem dX5_compare_135 : decode cX5_compare 135 = .ok (.ireturn, 1) := by decide +kernel
set_option maxRecDepth 20000 in
theorem ggX5_kind_X5_isSlot : GoodIn wsX5_kind wsX5_isSlot := goodIn_r _ [7, 8, 9, 6, 10] (by decide +kernel) (by decide +kernel)
set_option maxRecDepth 20000 in
theorem gX5_kind_X5_isSlot : GoodIn wsX5_kind (va_wsS RX5 67 yX5_isSlot wsX5_isSlot) := goodIn_app (goodIn_of _ (by decide +kernel)) ggX5_kind_X5_isSlot
set_option maxRecDepth 20000 in
theorem ggX5_kind_X5_kindOfSlot : GoodIn wsX5_kind wsX5_kindOfSlot := goodIn_r _ [14, 1, 2, 15, 16, 17, 6, 18, 19, 20, 21, 22, 23, 24, 25, 26, 27, 28, 29, 30, 31, 32, 33, 34, 35, 36, 37, 38, 39, 40, 41, 42, 43, 44, 45, 46, 47, 48, 49, 50, 51, 52, 53, 54, 55, 56, 57, 58, 59, 60, 61, 62, 63, 64, 65, 66, 67, 68, 69, 70, 71, 72, 73, 74, 75, 76, 77, 78, 79, 114, 115, 116, 117, 118, 119, 120, 121, 122, 123, 124, 125, 126] (by decide +kernel) (by decide +kernel)
set_option maxRecDepth 20000 in
theorem gX5_kind_X5_kindOfSlot : GoodIn wsX5_kind (wsV RX5 168 RX5 yX5_kindOfSlot wsX5_kindOfSlot) := goodIn_app (goodIn_of _ (by decide +kernel)) ggX5_kind_X5_kindOfSlot
set_option maxRecDepth 20000 in
theorem ggX5_kind_X5_load : GoodIn wsX5_kind wsX5_load := goodIn_r _ [18, 19, 20, 21, 22, 23, 24, 25, 26, 27, 28, 29, 30, 31, 32, 33, 6, 34, 35, 36, 37, 38, 114, 115, 116, 117, 118, 119, 120, 121, 122, 123, 124, 125] (by decide +kernel) (by decide +kernel)
set_option maxRecDepth 20000 in
theorem gX5_kind_X5_load : GoodIn wsX5_kind (wsV RX5 74 RX5 yX5_load wsX5_load) := goodIn_app (goodIn_of _ (by decide +kernel)) ggX5_kind_X5_load
set_option maxRecDepth 20000 in
theorem ggX5_kind_X2_keepersOfClass : GoodIn wsX5_kind wsX2_keepersOfClass := goodIn_r _ [82, 43, 48, 21, 49, 50, 25, 51, 52, 53, 54, 24, 55, 56, 57, 58, 83, 84, 85, 86, 87, 88, 89, 90, 91, 40, 92, 93, 94, 95, 96, 97, 98, 99, 100, 101, 102, 103, 104, 105, 65, 66, 67, 106, 107, 108, 109, 110, 111, 112, 113, 124, 125, 126] (by decide +kernel) (by decide +kernel)
set_option maxRecDepth 20000 in
theorem gX5_kind_X2_keepersOfClass_n171 : GoodIn wsX5_kind (wsX2_keepersOfClass) := ggX5_kind_X2_keepersOfClass
set_option maxRecDepth 20000 in
theorem ggX5_kind_X2_keepersOfNet : GoodIn wsX5_kind wsX2_keepersOfNet := goodIn_r _ [109, 43, 110, 111, 112, 40, 113, 93, 94, 95, 96, 21, 97, 98, 25, 99, 100, 101, 102, 103, 104, 105, 65, 66, 67, 90, 91, 92, 126, 124, 125] (by decide +kernel) (by decide +kernel)
set_option maxRecDepth 20000 in
theorem gX5_kind_X2_keepersOfNet_n175 : GoodIn wsX5_kind (wsX2_keepersOfNet) := ggX5_kind_X2_keepersOfNet
theorem dX5_kind_0 : decode cX5_kind 0 = .ok (.iload_n 1, 1) := by decide +kernel
theorem dX5_kind_1 : decode cX5_kind 1 = .ok (.invokestatic 67, 3) := by decide +kernel
theorem dX5_kind_4 : decode cX5_kind 4 = .ok (.ifCond .ne 5, 3) := by decide +kernel
theorem dX5_kind_7 : decode cX5_kind 7 = .ok (.iconst (-1), 1) := by decide +kernel
theorem dX5_kind_8 : decode cX5_kind 8 = .ok (.ireturn, 1) := by decide +kernel
theorem dX5_kind_9 : decode cX5_kind 9 = .ok (.iload_n 2, 1) := by decide +kernel
theorem dX5_kind_10 : decode cX5_kind 10 = .ok (.tableswitch 79 0 2 #[26, 32, 57], 26) := by decide +kernel
theorem dX5_kind_36 : decode cX5_kind 36 = .ok (.aload_n 0, 1) := by decide +kernel
theorem dX5_kind_37 : decode cX5_kind 37 = .ok (.iload_n 1, 1) := by decide +kernel
theorem dX5_kind_38 : decode cX5_kind 38 = .ok (.invokevirtual 168, 3) := by decide +kernel
theorem dX5_kind_41 : decode cX5_kind 41 = .ok (.ireturn, 1) := by decide +kernel
theorem dX5_kind_42 : decode cX5_kind 42 = .ok (.aload_n 0, 1) := by decide +kernel
theorem dX5_kind_43 : decode cX5_kind 43 = .ok (.aload_n 0, 1) := by decide +kernel
theorem dX5_kind_44 : decode cX5_kind 44 = .ok (.getfield 30, 3) := by decide +kernel
theorem dX5_kind_47 : decode cX5_kind 47 = .ok (.iload_n 1, 1) := by decide +kernel
theorem dX5_kind_48 : decode cX5_kind 48 = .ok (.invokevirtual 74, 3) := by decide +kernel
theorem dX5_kind_51 : decode cX5_kind 51 = .ok (.aload_n 0, 1) := by decide +kernel
theorem dX5_kind_52 : decode cX5_kind 52 = .ok (.getfield 40, 3) := by decide +kernel
theorem dX5_kind_55 : decode cX5_kind 55 = .ok (.aload_n 0, 1) := by decide +kernel
theorem dX5_kind_56 : decode cX5_kind 56 = .ok (.getfield 30, 3) := by decide +kernel
theorem dX5_kind_59 : decode cX5_kind 59 = .ok (.aload_n 0, 1) := by decide +kernel
theorem dX5_kind_60 : decode cX5_kind 60 = .ok (.getfield 34, 3) := by decide +kernel
theorem dX5_kind_63 : decode cX5_kind 63 = .ok (.invokevirtual 171, 3) := by decide +kernel
theorem dX5_kind_66 : decode cX5_kind 66 = .ok (.ireturn, 1) := by decide +kernel
theorem dX5_kind_67 : decode cX5_kind 67 = .ok (.aload_n 0, 1) := by decide +kernel
theorem dX5_kind_68 : decode cX5_kind 68 = .ok (.aload_n 0, 1) := by decide +kernel
theorem dX5_kind_69 : decode cX5_kind 69 = .ok (.getfield 30, 3) := by decide +kernel
theorem dX5_kind_72 : decode cX5_kind 72 = .ok (.iload_n 1, 1) := by decide +kernel
theorem dX5_kind_73 : decode cX5_kind 73 = .ok (.invokevirtual 74, 3) := by decide +kernel
theorem dX5_kind_76 : decode cX5_kind 76 = .ok (.aload_n 0, 1) := by decide +kernel
theorem dX5_kind_77 : decode cX5_kind 77 = .ok (.getfield 40, 3) := by decide +kernel
theorem dX5_kind_80 : decode cX5_kind 80 = .ok (.aload_n 0, 1) := by decide +kernel
theorem dX5_kind_81 : decode cX5_kind 81 = .ok (.getfield 30, 3) := by decide +kernel
theorem dX5_kind_84 : decode cX5_kind 84 = .ok (.iconst 0, 1) := by decide +kernel
theorem dX5_kind_85 : decode cX5_kind 85 = .ok (.invokevirtual 175, 3) := by decide +kernel
theorem dX5_kind_88 : decode cX5_kind 88 = .ok (.ireturn, 1) := by decide +kernel
theorem dX5_kind_89 : decode cX5_kind 89 = .ok (.bipush (-2), 2) := by decide +kernel
theorem dX5_kind_91 : decode cX5_kind 91 = .ok (.ireturn, 1) := by decide +kernel
set_option maxRecDepth 20000 in
theorem ggX5_card_X5_isSlot : GoodIn wsX5_card wsX5_isSlot := goodIn_r _ [7, 8, 9, 6, 10] (by decide +kernel) (by decide +kernel)
set_option maxRecDepth 20000 in
theorem gX5_card_X5_isSlot : GoodIn wsX5_card (va_wsS RX5 67 yX5_isSlot wsX5_isSlot) := goodIn_app (goodIn_of _ (by decide +kernel)) ggX5_card_X5_isSlot
set_option maxRecDepth 20000 in
theorem ggX5_card_X5_isNode : GoodIn wsX5_card wsX5_isNode := goodIn_r _ [14, 1, 8, 9, 6, 10, 82, 83, 84, 85, 86, 87, 88, 89, 90, 91] (by decide +kernel) (by decide +kernel)
set_option maxRecDepth 20000 in
theorem gX5_card_X5_isNode : GoodIn wsX5_card (wsV RX5 71 RX5 yX5_isNode wsX5_isNode) := goodIn_app (goodIn_of _ (by decide +kernel)) ggX5_card_X5_isNode
set_option maxRecDepth 20000 in
theorem ggX5_card_X5_load : GoodIn wsX5_card wsX5_load := goodIn_r _ [18, 1, 19, 20, 21, 22, 23, 24, 25, 26, 27, 28, 29, 30, 31, 32, 6, 33, 34, 35, 36, 37, 82, 83, 84, 85, 86, 87, 88, 89, 90, 91, 92, 93] (by decide +kernel) (by decide +kernel)
set_option maxRecDepth 20000 in
theorem gX5_card_X5_load : GoodIn wsX5_card (wsV RX5 74 RX5 yX5_load wsX5_load) := goodIn_app (goodIn_of _ (by decide +kernel)) ggX5_card_X5_load
set_option maxRecDepth 20000 in
theorem ggX5_card_X0_drop : GoodIn wsX5_card wsX0_drop := goodIn_r _ [40, 23, 24, 92, 93] (by decide +kernel) (by decide +kernel)
set_option maxRecDepth 20000 in
theorem gX5_card_X0_drop_n138 : GoodIn wsX5_card (wsX0_drop) := ggX5_card_X0_drop
set_option maxRecDepth 20000 in
theorem ggX5_card_X2_kindOfClass : GoodIn wsX5_card wsX2_kindOfClass := goodIn_r _ [44, 45, 46, 47, 48, 49, 32, 6, 33, 50, 20, 51, 52, 24, 53, 54, 55, 56, 23, 57, 58, 59, 60, 61, 62, 42, 63, 64, 65, 66, 67, 68, 69, 70, 71, 72, 73, 74, 75, 76, 77, 78, 79, 80, 81, 92, 93, 94] (by decide +kernel) (by decide +kernel)
set_option maxRecDepth 20000 in
theorem gX5_card_X2_kindOfClass_n179 : GoodIn wsX5_card (wsX2_kindOfClass) := ggX5_card_X2_kindOfClass
theorem dX5_card_0 : decode cX5_card 0 = .ok (.iload_n 1, 1) := by decide +kernel
theorem dX5_card_1 : decode cX5_card 1 = .ok (.invokestatic 67, 3) := by decide +kernel
theorem dX5_card_4 : decode cX5_card 4 = .ok (.ifCond .eq 11, 3) := by decide +kernel
theorem dX5_card_7 : decode cX5_card 7 = .ok (.aload_n 0, 1) := by decide +kernel
theorem dX5_card_8 : decode cX5_card 8 = .ok (.iload_n 2, 1) := by decide +kernel
theorem dX5_card_9 : decode cX5_card 9 = .ok (.invokevirtual 71, 3) := by decide +kernel
theorem dX5_card_12 : decode cX5_card 12 = .ok (.ifCond .ne 5, 3) := by decide +kernel
theorem dX5_card_15 : decode cX5_card 15 = .ok (.iconst (-1), 1) := by decide +kernel
theorem dX5_card_16 : decode cX5_card 16 = .ok (.ireturn, 1) := by decide +kernel
theorem dX5_card_17 : decode cX5_card 17 = .ok (.aload_n 0, 1) := by decide +kernel
theorem dX5_card_18 : decode cX5_card 18 = .ok (.getfield 10, 3) := by decide +kernel
theorem dX5_card_21 : decode cX5_card 21 = .ok (.getfield 63, 3) := by decide +kernel
theorem dX5_card_24 : decode cX5_card 24 = .ok (.iconst 3, 1) := by decide +kernel
theorem dX5_card_25 : decode cX5_card 25 = .ok (.if_icmp .gt 6, 3) := by decide +kernel
theorem dX5_card_28 : decode cX5_card 28 = .ok (.bipush (-3), 2) := by decide +kernel
theorem dX5_card_30 : decode cX5_card 30 = .ok (.ireturn, 1) := by decide +kernel
theorem dX5_card_31 : decode cX5_card 31 = .ok (.aload_n 0, 1) := by decide +kernel
theorem dX5_card_32 : decode cX5_card 32 = .ok (.aload_n 0, 1) := by decide +kernel
theorem dX5_card_33 : decode cX5_card 33 = .ok (.getfield 30, 3) := by decide +kernel
theorem dX5_card_36 : decode cX5_card 36 = .ok (.iload_n 1, 1) := by decide +kernel
theorem dX5_card_37 : decode cX5_card 37 = .ok (.invokevirtual 74, 3) := by decide +kernel
theorem dX5_card_40 : decode cX5_card 40 = .ok (.aload_n 0, 1) := by decide +kernel
theorem dX5_card_41 : decode cX5_card 41 = .ok (.getfield 30, 3) := by decide +kernel
theorem dX5_card_44 : decode cX5_card 44 = .ok (.iload_n 2, 1) := by decide +kernel
theorem dX5_card_45 : decode cX5_card 45 = .ok (.invokevirtual 138, 3) := by decide +kernel
theorem dX5_card_48 : decode cX5_card 48 = .ok (.aload_n 0, 1) := by decide +kernel
theorem dX5_card_49 : decode cX5_card 49 = .ok (.getfield 40, 3) := by decide +kernel
theorem dX5_card_52 : decode cX5_card 52 = .ok (.aload_n 0, 1) := by decide +kernel
theorem dX5_card_53 : decode cX5_card 53 = .ok (.getfield 30, 3) := by decide +kernel
theorem dX5_card_56 : decode cX5_card 56 = .ok (.invokevirtual 179, 3) := by decide +kernel
theorem dX5_card_59 : decode cX5_card 59 = .ok (.ireturn, 1) := by decide +kernel
set_option maxRecDepth 20000 in
theorem ggX5_root_X5_isSlot : GoodIn wsX5_root wsX5_isSlot := goodIn_r _ [9, 10, 11, 8, 12] (by decide +kernel) (by decide +kernel)
set_option maxRecDepth 20000 in
theorem gX5_root_X5_isSlot : GoodIn wsX5_root (va_wsS RX5 67 yX5_isSlot wsX5_isSlot) := goodIn_app (goodIn_of _ (by decide +kernel)) ggX5_root_X5_isSlot
set_option maxRecDepth 20000 in
theorem ggX5_root_X5_within : GoodIn wsX5_root wsX5_within := goodIn_r _ [12] (by decide +kernel) (by decide +kernel)
set_option maxRecDepth 20000 in
theorem gX5_root_X5_within : GoodIn wsX5_root (va_wsS RX5 59 yX5_within wsX5_within) := goodIn_app (goodIn_of _ (by decide +kernel)) ggX5_root_X5_within
set_option maxRecDepth 20000 in
theorem ggX5_root_X5_load : GoodIn wsX5_root wsX5_load := goodIn_r _ [16, 5, 17, 18, 19, 20, 21, 22, 23, 24, 25, 26, 27, 28, 29, 30, 8, 31, 32, 33, 34, 35, 66, 67, 68, 69, 70, 71, 72, 73, 74, 75, 81, 82] (by decide +kernel) (by decide +kernel)
set_option maxRecDepth 20000 in
theorem gX5_root_X5_load : GoodIn wsX5_root (wsV RX5 74 RX5 yX5_load wsX5_load) := goodIn_app (goodIn_of _ (by decide +kernel)) ggX5_root_X5_load
set_option maxRecDepth 20000 in
theorem ggX5_root_X4_fill : GoodIn wsX5_root wsX4_fill := goodIn_r _ [39, 40, 41, 42, 18, 43, 44, 22, 81, 82, 76, 77, 78, 79, 80] (by decide +kernel) (by decide +kernel)
set_option maxRecDepth 20000 in
theorem gX5_root_X4_fill_n187 : GoodIn wsX5_root (wsX4_fill) := ggX5_root_X4_fill
set_option maxRecDepth 20000 in
theorem ggX5_root_X4_eliminate : GoodIn wsX5_root wsX4_eliminate := goodIn_r _ [47, 48, 49, 50, 40, 41, 51, 52, 53, 37, 54, 55, 56, 57, 58, 59, 60, 61, 62, 76, 77, 78, 79, 80] (by decide +kernel) (by decide +kernel)
set_option maxRecDepth 20000 in
theorem gX5_root_X4_eliminate_n190 : GoodIn wsX5_root (wsX4_eliminate) := ggX5_root_X4_eliminate
set_option maxRecDepth 20000 in
theorem ggX5_root_X4_determinant : GoodIn wsX5_root wsX4_determinant := goodIn_r _ [65, 48, 40, 49, 50, 76, 77, 78, 79, 80] (by decide +kernel) (by decide +kernel)
set_option maxRecDepth 20000 in
theorem gX5_root_X4_determinant_n193 : GoodIn wsX5_root (wsX4_determinant) := ggX5_root_X4_determinant
theorem dX5_root_0 : decode cX5_root 0 = .ok (.iload_n 1, 1) := by decide +kernel
theorem dX5_root_1 : decode cX5_root 1 = .ok (.invokestatic 67, 3) := by decide +kernel
theorem dX5_root_4 : decode cX5_root 4 = .ok (.ifCond .ne 7, 3) := by decide +kernel
theorem dX5_root_7 : decode cX5_root 7 = .ok (.ldc2_w 183, 3) := by decide +kernel
theorem dX5_root_10 : decode cX5_root 10 = .ok (.lreturn, 1) := by decide +kernel
theorem dX5_root_11 : decode cX5_root 11 = .ok (.iload_n 2, 1) := by decide +kernel
theorem dX5_root_12 : decode cX5_root 12 = .ok (.bipush (-9), 2) := by decide +kernel
theorem dX5_root_14 : decode cX5_root 14 = .ok (.bipush 9, 2) := by decide +kernel
theorem dX5_root_16 : decode cX5_root 16 = .ok (.invokestatic 59, 3) := by decide +kernel
theorem dX5_root_19 : decode cX5_root 19 = .ok (.ifCond .eq 12, 3) := by decide +kernel
theorem dX5_root_22 : decode cX5_root 22 = .ok (.iload_n 3, 1) := by decide +kernel
theorem dX5_root_23 : decode cX5_root 23 = .ok (.iconst 0, 1) := by decide +kernel
theorem dX5_root_24 : decode cX5_root 24 = .ok (.iconst 1, 1) := by decide +kernel
theorem dX5_root_25 : decode cX5_root 25 = .ok (.invokestatic 59, 3) := by decide +kernel
theorem dX5_root_28 : decode cX5_root 28 = .ok (.ifCond .ne 7, 3) := by decide +kernel
theorem dX5_root_31 : decode cX5_root 31 = .ok (.ldc2_w 185, 3) := by decide +kernel
theorem dX5_root_34 : decode cX5_root 34 = .ok (.lreturn, 1) := by decide +kernel
theorem dX5_root_35 : decode cX5_root 35 = .ok (.aload_n 0, 1) := by decide +kernel
theorem dX5_root_36 : decode cX5_root 36 = .ok (.aload_n 0, 1) := by decide +kernel
theorem dX5_root_37 : decode cX5_root 37 = .ok (.getfield 30, 3) := by decide +kernel
theorem dX5_root_40 : decode cX5_root 40 = .ok (.iload_n 1, 1) := by decide +kernel
theorem dX5_root_41 : decode cX5_root 41 = .ok (.invokevirtual 74, 3) := by decide +kernel
theorem dX5_root_44 : decode cX5_root 44 = .ok (.aload_n 0, 1) := by decide +kernel
theorem dX5_root_45 : decode cX5_root 45 = .ok (.getfield 47, 3) := by decide +kernel
theorem dX5_root_48 : decode cX5_root 48 = .ok (.aload_n 0, 1) := by decide +kernel
theorem dX5_root_49 : decode cX5_root 49 = .ok (.getfield 30, 3) := by decide +kernel
theorem dX5_root_52 : decode cX5_root 52 = .ok (.iload_n 2, 1) := by decide +kernel
theorem dX5_root_53 : decode cX5_root 53 = .ok (.invokevirtual 187, 3) := by decide +kernel
theorem dX5_root_56 : decode cX5_root 56 = .ok (.aload_n 0, 1) := by decide +kernel
theorem dX5_root_57 : decode cX5_root 57 = .ok (.getfield 47, 3) := by decide +kernel
theorem dX5_root_60 : decode cX5_root 60 = .ok (.invokevirtual 190, 3) := by decide +kernel
theorem dX5_root_63 : decode cX5_root 63 = .ok (.iload_n 3, 1) := by decide +kernel
theorem dX5_root_64 : decode cX5_root 64 = .ok (.ifCond .ne 13, 3) := by decide +kernel
theorem dX5_root_67 : decode cX5_root 67 = .ok (.aload_n 0, 1) := by decide +kernel
theorem dX5_root_68 : decode cX5_root 68 = .ok (.getfield 47, 3) := by decide +kernel
theorem dX5_root_71 : decode cX5_root 71 = .ok (.invokevirtual 193, 3) := by decide +kernel
theorem dX5_root_74 : decode cX5_root 74 = .ok (.goto 19, 3) := by decide +kernel
theorem dX5_root_77 : decode cX5_root 77 = .ok (.aload_n 0, 1) := by decide +kernel
theorem dX5_root_78 : decode cX5_root 78 = .ok (.getfield 10, 3) := by decide +kernel
theorem dX5_root_81 : decode cX5_root 81 = .ok (.getfield 63, 3) := by decide +kernel
theorem dX5_root_84 : decode cX5_root 84 = .ok (.aload_n 0, 1) := by decide +kernel
theorem dX5_root_85 : decode cX5_root 85 = .ok (.getfield 47, 3) := by decide +kernel
theorem dX5_root_88 : decode cX5_root 88 = .ok (.getfield 197, 3) := by decide +kernel
theorem dX5_root_91 : decode cX5_root 91 = .ok (.isub, 1) := by decide +kernel
theorem dX5_root_92 : decode cX5_root 92 = .ok (.i2l, 1) := by decide +kernel
theorem dX5_root_93 : decode cX5_root 93 = .ok (.lreturn, 1) := by decide +kernel
set_option maxRecDepth 20000 in
theorem ggX5_image_X5_within : GoodIn wsX5_image wsX5_within := goodIn_r _ [6] (by decide +kernel) (by decide +kernel)
set_option maxRecDepth 20000 in
theorem gX5_image_X5_within : GoodIn wsX5_image (va_wsS RX5 59 yX5_within wsX5_within) := goodIn_app (goodIn_of _ (by decide +kernel)) ggX5_image_X5_within
set_option maxRecDepth 20000 in
theorem ggX5_image_X3_copy : GoodIn wsX5_image wsX3_copy := goodIn_r _ [10, 11, 12, 13, 14, 15, 16, 25, 26] (by decide +kernel) (by decide +kernel)
set_option maxRecDepth 20000 in
theorem gX5_image_X3_copy_n200 : GoodIn wsX5_image (wsX3_copy) := ggX5_image_X3_copy
theorem dX5_image_0 : decode cX5_image 0 = .ok (.iload_n 1, 1) := by decide +kernel
theorem dX5_image_1 : decode cX5_image 1 = .ok (.iconst 0, 1) := by decide +kernel
theorem dX5_image_2 : decode cX5_image 2 = .ok (.iconst 1, 1) := by decide +kernel
theorem dX5_image_3 : decode cX5_image 3 = .ok (.invokestatic 59, 3) := by decide +kernel
theorem dX5_image_6 : decode cX5_image 6 = .ok (.ifCond .ne 6, 3) := by decide +kernel
theorem dX5_image_9 : decode cX5_image 9 = .ok (.bipush (-2), 2) := by decide +kernel
theorem dX5_image_11 : decode cX5_image 11 = .ok (.ireturn, 1) := by decide +kernel
theorem dX5_image_12 : decode cX5_image 12 = .ok (.aload_n 0, 1) := by decide +kernel
theorem dX5_image_13 : decode cX5_image 13 = .ok (.getfield 16, 3) := by decide +kernel
theorem dX5_image_16 : decode cX5_image 16 = .ok (.iload_n 1, 1) := by decide +kernel
theorem dX5_image_17 : decode cX5_image 17 = .ok (.aaload, 1) := by decide +kernel
theorem dX5_image_18 : decode cX5_image 18 = .ok (.aload_n 0, 1) := by decide +kernel
theorem dX5_image_19 : decode cX5_image 19 = .ok (.getfield 10, 3) := by decide +kernel
theorem dX5_image_22 : decode cX5_image 22 = .ok (.invokevirtual 200, 3) := by decide +kernel
theorem dX5_image_25 : decode cX5_image 25 = .ok (.iconst 1, 1) := by decide +kernel
theorem dX5_image_26 : decode cX5_image 26 = .ok (.ireturn, 1) := by decide +kernel
set_option maxRecDepth 20000 in
theorem ggX5_restore_X5_within : GoodIn wsX5_restore wsX5_within := goodIn_r _ [6] (by decide +kernel) (by decide +kernel)
set_option maxRecDepth 20000 in
theorem gX5_restore_X5_within : GoodIn wsX5_restore (va_wsS RX5 59 yX5_within wsX5_within) := goodIn_app (goodIn_of _ (by decide +kernel)) ggX5_restore_X5_within
set_option maxRecDepth 20000 in
theorem ggX5_restore_X3_isUnused : GoodIn wsX5_restore wsX3_isUnused := goodIn_r _ [10, 11, 28, 29] (by decide +kernel) (by decide +kernel)
set_option maxRecDepth 20000 in
theorem gX5_restore_X3_isUnused_n204 : GoodIn wsX5_restore (wsX3_isUnused) := ggX5_restore_X3_isUnused
set_option maxRecDepth 20000 in
theorem ggX5_restore_X3_copy : GoodIn wsX5_restore wsX3_copy := goodIn_r _ [14, 11, 15, 16, 17, 18, 19, 28, 29] (by decide +kernel) (by decide +kernel)
set_option maxRecDepth 20000 in
theorem gX5_restore_X3_copy_n200 : GoodIn wsX5_restore (wsX3_copy) := ggX5_restore_X3_copy
theorem dX5_restore_0 : decode cX5_restore 0 = .ok (.iload_n 1, 1) := by decide +kernel
theorem dX5_restore_1 : decode cX5_restore 1 = .ok (.iconst 0, 1) := by decide +kernel
theorem dX5_restore_2 : decode cX5_restore 2 = .ok (.iconst 1, 1) := by decide +kernel
theorem dX5_restore_3 : decode cX5_restore 3 = .ok (.invokestatic 59, 3) := by decide +kernel
theorem dX5_restore_6 : decode cX5_restore 6 = .ok (.ifCond .ne 6, 3) := by decide +kernel
theorem dX5_restore_9 : decode cX5_restore 9 = .ok (.bipush (-2), 2) := by decide +kernel
theorem dX5_restore_11 : decode cX5_restore 11 = .ok (.ireturn, 1) := by decide +kernel
theorem dX5_restore_12 : decode cX5_restore 12 = .ok (.aload_n 0, 1) := by decide +kernel
theorem dX5_restore_13 : decode cX5_restore 13 = .ok (.getfield 16, 3) := by decide +kernel
theorem dX5_restore_16 : decode cX5_restore 16 = .ok (.iload_n 1, 1) := by decide +kernel
theorem dX5_restore_17 : decode cX5_restore 17 = .ok (.aaload, 1) := by decide +kernel
theorem dX5_restore_18 : decode cX5_restore 18 = .ok (.invokevirtual 204, 3) := by decide +kernel
theorem dX5_restore_21 : decode cX5_restore 21 = .ok (.ifCond .eq 6, 3) := by decide +kernel
theorem dX5_restore_24 : decode cX5_restore 24 = .ok (.bipush (-3), 2) := by decide +kernel
theorem dX5_restore_26 : decode cX5_restore 26 = .ok (.ireturn, 1) := by decide +kernel
theorem dX5_restore_27 : decode cX5_restore 27 = .ok (.aload_n 0, 1) := by decide +kernel
theorem dX5_restore_28 : decode cX5_restore 28 = .ok (.getfield 10, 3) := by decide +kernel
theorem dX5_restore_31 : decode cX5_restore 31 = .ok (.aload_n 0, 1) := by decide +kernel
theorem dX5_restore_32 : decode cX5_restore 32 = .ok (.getfield 16, 3) := by decide +kernel
theorem dX5_restore_35 : decode cX5_restore 35 = .ok (.iload_n 1, 1) := by decide +kernel
theorem dX5_restore_36 : decode cX5_restore 36 = .ok (.aaload, 1) := by decide +kernel
theorem dX5_restore_37 : decode cX5_restore 37 = .ok (.invokevirtual 200, 3) := by decide +kernel
theorem dX5_restore_40 : decode cX5_restore 40 = .ok (.iconst 1, 1) := by decide +kernel
theorem dX5_restore_41 : decode cX5_restore 41 = .ok (.ireturn, 1) := by decide +kernel
set_option maxRecDepth 20000 in
theorem ggX5_count_X5_pairsOf : GoodIn wsX5_count wsX5_pairsOf := goodIn_r _ [6] (by decide +kernel) (by decide +kernel)
set_option maxRecDepth 20000 in
theorem gX5_count_X5_pairsOf : GoodIn wsX5_count (va_wsS RX5 92 yX5_pairsOf wsX5_pairsOf) := goodIn_app (goodIn_of _ (by decide +kernel)) ggX5_count_X5_pairsOf
set_option maxRecDepth 20000 in
theorem ggX5_count_X5_triplesOf : GoodIn wsX5_count wsX5_triplesOf := goodIn_r _ [9] (by decide +kernel) (by decide +kernel)
set_option maxRecDepth 20000 in
theorem gX5_count_X5_triplesOf : GoodIn wsX5_count (va_wsS RX5 208 yX5_triplesOf wsX5_triplesOf) := goodIn_app (goodIn_of _ (by decide +kernel)) ggX5_count_X5_triplesOf
set_option maxRecDepth 20000 in
theorem ggX5_count_X5_differentClasses : GoodIn wsX5_count wsX5_differentClasses := goodIn_r _ [13, 14, 15, 16, 17, 18, 5, 19, 1, 20, 21, 22, 23, 24, 25, 26, 27, 28, 29, 30, 31, 32, 4, 6, 33, 34, 35, 36, 37, 38, 39, 40, 41, 42, 43, 44, 45, 46, 47, 48, 49, 50, 51, 52, 53, 54, 55, 56, 57, 58, 59, 60, 61, 62, 109, 110, 111, 112, 113, 114, 115, 116, 117, 118, 121, 122] (by decide +kernel) (by decide +kernel)
set_option maxRecDepth 20000 in
theorem gX5_count_X5_differentClasses : GoodIn wsX5_count (wsV RX5 211 RX5 yX5_differentClasses wsX5_differentClasses) := goodIn_app (goodIn_of _ (by decide +kernel)) ggX5_count_X5_differentClasses
set_option maxRecDepth 20000 in
theorem ggX5_count_X5_differentKinds : GoodIn wsX5_count wsX5_differentKinds := goodIn_r _ [66, 15, 67, 68, 69, 5, 70, 14, 71, 16, 17, 18, 19, 1, 20, 21, 22, 23, 24, 25, 26, 27, 28, 29, 30, 31, 32, 4, 6, 33, 34, 35, 36, 72, 73, 74, 75, 76, 77, 78, 79, 80, 37, 38, 39, 40, 41, 42, 43, 44, 45, 46, 47, 81, 82, 83, 84, 85, 86, 52, 53, 54, 87, 88, 89, 90, 91, 92, 93, 94, 95, 96, 97, 98, 55, 56, 57, 58, 59, 60, 61, 62, 109, 110, 111, 112, 113, 114, 115, 116, 117, 118, 121, 122, 123] (by decide +kernel) (by decide +kernel)
set_option maxRecDepth 20000 in
theorem gX5_count_X5_differentKinds : GoodIn wsX5_count (wsV RX5 214 RX5 yX5_differentKinds wsX5_differentKinds) := goodIn_app (goodIn_of _ (by decide +kernel)) ggX5_count_X5_differentKinds
set_option maxRecDepth 20000 in
theorem ggX5_count_X5_keptImages : GoodIn wsX5_count wsX5_keptImages := goodIn_r _ [102, 103, 104, 105, 106, 107, 108, 109, 110, 111, 112, 113, 114, 115, 116, 117, 118] (by decide +kernel) (by decide +kernel)
set_option maxRecDepth 20000 in
theorem gX5_count_X5_keptImages : GoodIn wsX5_count (wsV RX5 217 RX5 yX5_keptImages wsX5_keptImages) := goodIn_app (goodIn_of _ (by decide +kernel)) ggX5_count_X5_keptImages
theorem dX5_count_0 : decode cX5_count 0 = .ok (.iload_n 1, 1) := by decide +kernel
theorem dX5_count_1 : decode cX5_count 1 = .ok (.tableswitch 96 0 6 #[43, 51, 62, 73, 81, 86, 91], 43) := by decide +kernel
theorem dX5_count_44 : decode cX5_count 44 = .ok (.aload_n 0, 1) := by decide +kernel
theorem dX5_count_45 : decode cX5_count 45 = .ok (.getfield 10, 3) := by decide +kernel
theorem dX5_count_48 : decode cX5_count 48 = .ok (.getfield 63, 3) := by decide +kernel
theorem dX5_count_51 : decode cX5_count 51 = .ok (.ireturn, 1) := by decide +kernel
theorem dX5_count_52 : decode cX5_count 52 = .ok (.aload_n 0, 1) := by decide +kernel
theorem dX5_count_53 : decode cX5_count 53 = .ok (.getfield 10, 3) := by decide +kernel
theorem dX5_count_56 : decode cX5_count 56 = .ok (.getfield 63, 3) := by decide +kernel
theorem dX5_count_59 : decode cX5_count 59 = .ok (.invokestatic 92, 3) := by decide +kernel
theorem dX5_count_62 : decode cX5_count 62 = .ok (.ireturn, 1) := by decide +kernel
theorem dX5_count_63 : decode cX5_count 63 = .ok (.aload_n 0, 1) := by decide +kernel
theorem dX5_count_64 : decode cX5_count 64 = .ok (.getfield 10, 3) := by decide +kernel
theorem dX5_count_67 : decode cX5_count 67 = .ok (.getfield 63, 3) := by decide +kernel
theorem dX5_count_70 : decode cX5_count 70 = .ok (.invokestatic 208, 3) := by decide +kernel
theorem dX5_count_73 : decode cX5_count 73 = .ok (.ireturn, 1) := by decide +kernel
theorem dX5_count_74 : decode cX5_count 74 = .ok (.aload_n 0, 1) := by decide +kernel
theorem dX5_count_75 : decode cX5_count 75 = .ok (.getfield 23, 3) := by decide +kernel
theorem dX5_count_78 : decode cX5_count 78 = .ok (.getfield 96, 3) := by decide +kernel
theorem dX5_count_81 : decode cX5_count 81 = .ok (.ireturn, 1) := by decide +kernel
theorem dX5_count_82 : decode cX5_count 82 = .ok (.aload_n 0, 1) := by decide +kernel
theorem dX5_count_83 : decode cX5_count 83 = .ok (.invokevirtual 211, 3) := by decide +kernel
theorem dX5_count_86 : decode cX5_count 86 = .ok (.ireturn, 1) := by decide +kernel
theorem dX5_count_87 : decode cX5_count 87 = .ok (.aload_n 0, 1) := by decide +kernel
theorem dX5_count_88 : decode cX5_count 88 = .ok (.invokevirtual 214, 3) := by decide +kernel
theorem dX5_count_91 : decode cX5_count 91 = .ok (.ireturn, 1) := by decide +kernel
theorem dX5_count_92 : decode cX5_count 92 = .ok (.aload_n 0, 1) := by decide +kernel
theorem dX5_count_93 : decode cX5_count 93 = .ok (.invokevirtual 217, 3) := by decide +kernel
theorem dX5_count_96 : decode cX5_count 96 = .ok (.ireturn, 1) := by decide +kernel
theorem dX5_count_97 : decode cX5_count 97 = .ok (.bipush (-2), 2) := by decide +kernel
theorem dX5_count_99 : decode cX5_count 99 = .ok (.ireturn, 1) := by decide +kernel
theorem dX5_within_0 : decode cX5_within 0 = .ok (.iload_n 0, 1) := by decide +kernel
theorem dX5_within_1 : decode cX5_within 1 = .ok (.iload_n 1, 1) := by decide +kernel
theorem dX5_within_2 : decode cX5_within 2 = .ok (.if_icmp .lt 12, 3) := by decide +kernel
theorem dX5_within_5 : decode cX5_within 5 = .ok (.iload_n 0, 1) := by decide +kernel
theorem dX5_within_6 : decode cX5_within 6 = .ok (.iload_n 2, 1) := by decide +kernel
theorem dX5_within_7 : decode cX5_within 7 = .ok (.if_icmp .gt 7, 3) := by decide +kernel
theorem dX5_within_10 : decode cX5_within 10 = .ok (.iconst 1, 1) := by decide +kernel
theorem dX5_within_11 : decode cX5_within 11 = .ok (.goto 4, 3) := by decide +kernel
theorem dX5_within_14 : decode cX5_within 14 = .ok (.iconst 0, 1) := by decide +kernel
theorem dX5_within_15 : decode cX5_within 15 = .ok (.ireturn, 1) := by decide +kernel
theorem dX5_pairsOf_0 : decode cX5_pairsOf 0 = .ok (.iload_n 0, 1) := by decide +kernel
theorem dX5_pairsOf_1 : decode cX5_pairsOf 1 = .ok (.iload_n 0, 1) := by decide +kernel
theorem dX5_pairsOf_2 : decode cX5_pairsOf 2 = .ok (.iconst 1, 1) := by decide +kernel
theorem dX5_pairsOf_3 : decode cX5_pairsOf 3 = .ok (.isub, 1) := by decide +kernel
theorem dX5_pairsOf_4 : decode cX5_pairsOf 4 = .ok (.imul, 1) := by decide +kernel
theorem dX5_pairsOf_5 : decode cX5_pairsOf 5 = .ok (.iconst 2, 1) := by decide +kernel
theorem dX5_pairsOf_6 : decode cX5_pairsOf 6 = .ok (.idiv, 1) := by decide +kernel
theorem dX5_pairsOf_7 : decode cX5_pairsOf 7 = .ok (.ireturn, 1) := by decide +kernel
theorem dX5_triplesOf_0 : decode cX5_triplesOf 0 = .ok (.iload_n 0, 1) := by decide +kernel
theorem dX5_triplesOf_1 : decode cX5_triplesOf 1 = .ok (.iload_n 0, 1) := by decide +kernel
theorem dX5_triplesOf_2 : decode cX5_triplesOf 2 = .ok (.iconst 1, 1) := by decide +kernel
theorem dX5_triplesOf_3 : decode cX5_triplesOf 3 = .ok (.isub, 1) := by decide +kernel
theorem dX5_triplesOf_4 : decode cX5_triplesOf 4 = .ok (.imul, 1) := by decide +kernel
theorem dX5_triplesOf_5 : decode cX5_triplesOf 5 = .ok (.iload_n 0, 1) := by decide +kernel
theorem dX5_triplesOf_6 : decode cX5_triplesOf 6 = .ok (.iconst 2, 1) := by decide +kernel
theorem dX5_triplesOf_7 : decode cX5_triplesOf 7 = .ok (.isub, 1) := by decide +kernel
theorem dX5_triplesOf_8 : decode cX5_triplesOf 8 = .ok (.imul, 1) := by decide +kernel
theorem dX5_triplesOf_9 : decode cX5_triplesOf 9 = .ok (.bipush 6, 2) := by decide +kernel
theorem dX5_triplesOf_11 : decode cX5_triplesOf 11 = .ok (.idiv, 1) := by decide +kernel
theorem dX5_triplesOf_12 : decode cX5_triplesOf 12 = .ok (.ireturn, 1) := by decide +kernel
set_option maxRecDepth 20000 in
theorem ggX5_isSlot_X5_within : GoodIn wsX5_isSlot wsX5_within := goodIn_r _ [4] (by decide +kernel) (by decide +kernel)
set_option maxRecDepth 20000 in
theorem gX5_isSlot_X5_within : GoodIn wsX5_isSlot (va_wsS RX5 59 yX5_within wsX5_within) := goodIn_app (goodIn_of _ (by decide +kernel)) ggX5_isSlot_X5_within
theorem dX5_isSlot_0 : decode cX5_isSlot 0 = .ok (.iload_n 0, 1) := by decide +kernel
theorem dX5_isSlot_1 : decode cX5_isSlot 1 = .ok (.iconst 0, 1) := by decide +kernel
theorem dX5_isSlot_2 : decode cX5_isSlot 2 = .ok (.iconst 2, 1) := by decide +kernel
theorem dX5_isSlot_3 : decode cX5_isSlot 3 = .ok (.invokestatic 59, 3) := by decide +kernel
theorem dX5_isSlot_6 : decode cX5_isSlot 6 = .ok (.ireturn, 1) := by decide +kernel
set_option maxRecDepth 20000 in
theorem ggX5_isNode_X5_within : GoodIn wsX5_isNode wsX5_within := goodIn_r _ [5] (by decide +kernel) (by decide +kernel)
set_option maxRecDepth 20000 in
theorem gX5_isNode_X5_within : GoodIn wsX5_isNode (va_wsS RX5 59 yX5_within wsX5_within) := goodIn_app (goodIn_of _ (by decide +kernel)) ggX5_isNode_X5_within
theorem dX5_isNode_0 : decode cX5_isNode 0 = .ok (.iload_n 1, 1) := by decide +kernel
theorem dX5_isNode_1 : decode cX5_isNode 1 = .ok (.iconst 0, 1) := by decide +kernel
theorem dX5_isNode_2 : decode cX5_isNode 2 = .ok (.aload_n 0, 1) := by decide +kernel
theorem dX5_isNode_3 : decode cX5_isNode 3 = .ok (.getfield 10, 3) := by decide +kernel
theorem dX5_isNode_6 : decode cX5_isNode 6 = .ok (.getfield 63, 3) := by decide +kernel
theorem dX5_isNode_9 : decode cX5_isNode 9 = .ok (.iconst 1, 1) := by decide +kernel
theorem dX5_isNode_10 : decode cX5_isNode 10 = .ok (.isub, 1) := by decide +kernel
theorem dX5_isNode_11 : decode cX5_isNode 11 = .ok (.invokestatic 59, 3) := by decide +kernel
theorem dX5_isNode_14 : decode cX5_isNode 14 = .ok (.ireturn, 1) := by decide +kernel
set_option maxRecDepth 20000 in
theorem ggX5_signsFor_X5_pairsOf : GoodIn wsX5_signsFor wsX5_pairsOf := goodIn_r _ [5] (by decide +kernel) (by decide +kernel)
set_option maxRecDepth 20000 in
theorem gX5_signsFor_X5_pairsOf : GoodIn wsX5_signsFor (va_wsS RX5 92 yX5_pairsOf wsX5_pairsOf) := goodIn_app (goodIn_of _ (by decide +kernel)) ggX5_signsFor_X5_pairsOf
set_option maxRecDepth 20000 in
theorem ggX5_signsFor_X5_triplesOf : GoodIn wsX5_signsFor wsX5_triplesOf := goodIn_r _ [8] (by decide +kernel) (by decide +kernel)
set_option maxRecDepth 20000 in
theorem gX5_signsFor_X5_triplesOf : GoodIn wsX5_signsFor (va_wsS RX5 208 yX5_triplesOf wsX5_triplesOf) := goodIn_app (goodIn_of _ (by decide +kernel)) ggX5_signsFor_X5_triplesOf
theorem dX5_signsFor_0 : decode cX5_signsFor 0 = .ok (.iload_n 1, 1) := by decide +kernel
theorem dX5_signsFor_1 : decode cX5_signsFor 1 = .ok (.ifCond .ne 16, 3) := by decide +kernel
theorem dX5_signsFor_4 : decode cX5_signsFor 4 = .ok (.aload_n 0, 1) := by decide +kernel
theorem dX5_signsFor_5 : decode cX5_signsFor 5 = .ok (.getfield 10, 3) := by decide +kernel
theorem dX5_signsFor_8 : decode cX5_signsFor 8 = .ok (.getfield 63, 3) := by decide +kernel
theorem dX5_signsFor_11 : decode cX5_signsFor 11 = .ok (.invokestatic 92, 3) := by decide +kernel
theorem dX5_signsFor_14 : decode cX5_signsFor 14 = .ok (.goto 13, 3) := by decide +kernel
theorem dX5_signsFor_17 : decode cX5_signsFor 17 = .ok (.aload_n 0, 1) := by decide +kernel
theorem dX5_signsFor_18 : decode cX5_signsFor 18 = .ok (.getfield 10, 3) := by decide +kernel
theorem dX5_signsFor_21 : decode cX5_signsFor 21 = .ok (.getfield 63, 3) := by decide +kernel
theorem dX5_signsFor_24 : decode cX5_signsFor 24 = .ok (.invokestatic 208, 3) := by decide +kernel
theorem dX5_signsFor_27 : decode cX5_signsFor 27 = .ok (.ireturn, 1) := by decide +kernel
set_option maxRecDepth 20000 in
theorem ggX5_load_X0_clear : GoodIn wsX5_load wsX0_clear := goodIn_r _ [5, 6, 7, 8, 9, 10, 11, 32, 33] (by decide +kernel) (by decide +kernel)
set_option maxRecDepth 20000 in
theorem gX5_load_X0_clear_n108 : GoodIn wsX5_load (wsX0_clear) := ggX5_load_X0_clear
set_option maxRecDepth 20000 in
theorem ggX5_load_X0_takeNumber : GoodIn wsX5_load wsX0_takeNumber := goodIn_r _ [14, 6, 15, 16, 17, 18, 19, 20, 3, 21, 7, 32, 33] (by decide +kernel) (by decide +kernel)
set_option maxRecDepth 20000 in
theorem gX5_load_X0_takeNumber_n220 : GoodIn wsX5_load (wsX0_takeNumber) := ggX5_load_X0_takeNumber
theorem dX5_load_0 : decode cX5_load 0 = .ok (.aload_n 1, 1) := by decide +kernel
theorem dX5_load_1 : decode cX5_load 1 = .ok (.aload_n 0, 1) := by decide +kernel
theorem dX5_load_2 : decode cX5_load 2 = .ok (.getfield 10, 3) := by decide +kernel
theorem dX5_load_5 : decode cX5_load 5 = .ok (.getfield 63, 3) := by decide +kernel
theorem dX5_load_8 : decode cX5_load 8 = .ok (.invokevirtual 108, 3) := by decide +kernel
theorem dX5_load_11 : decode cX5_load 11 = .ok (.aload_n 1, 1) := by decide +kernel
theorem dX5_load_12 : decode cX5_load 12 = .ok (.aload_n 0, 1) := by decide +kernel
theorem dX5_load_13 : decode cX5_load 13 = .ok (.getfield 10, 3) := by decide +kernel
theorem dX5_load_16 : decode cX5_load 16 = .ok (.getfield 82, 3) := by decide +kernel
theorem dX5_load_19 : decode cX5_load 19 = .ok (.iload_n 2, 1) := by decide +kernel
theorem dX5_load_20 : decode cX5_load 20 = .ok (.iaload, 1) := by decide +kernel
theorem dX5_load_21 : decode cX5_load 21 = .ok (.invokevirtual 220, 3) := by decide +kernel
theorem dX5_load_24 : decode cX5_load 24 = .ok (.return_, 1) := by decide +kernel
set_option maxRecDepth 20000 in
theorem ggX5_howManyBy_X0_copySwitched : GoodIn wsX5_howManyBy wsX0_copySwitched := goodIn_r _ [6, 7, 8, 9, 10, 11, 12, 13, 14, 15, 4, 16, 17, 18, 19, 20, 62, 63] (by decide +kernel) (by decide +kernel)
set_option maxRecDepth 20000 in
theorem gX5_howManyBy_X0_copySwitched_n151 : GoodIn wsX5_howManyBy (wsX0_copySwitched) := ggX5_howManyBy_X0_copySwitched
set_option maxRecDepth 20000 in
theorem ggX5_howManyBy_X0_eachDegreeIs : GoodIn wsX5_howManyBy wsX0_eachDegreeIs := goodIn_r _ [23, 7, 24, 25, 26, 4, 27, 28, 29, 30, 31, 8, 32, 33, 34, 35, 36, 37, 38, 62, 63] (by decide +kernel) (by decide +kernel)
set_option maxRecDepth 20000 in
theorem gX5_howManyBy_X0_eachDegreeIs_n224 : GoodIn wsX5_howManyBy (wsX0_eachDegreeIs) := ggX5_howManyBy_X0_eachDegreeIs
set_option maxRecDepth 20000 in
theorem ggX5_howManyBy_X0_isStrong : GoodIn wsX5_howManyBy wsX0_isStrong := goodIn_r _ [41, 42, 43, 44, 4, 45, 7, 46, 47, 48, 49, 8, 50, 51, 52, 53, 32, 33, 34, 35, 36, 37, 38, 62, 63] (by decide +kernel) (by decide +kernel)
set_option maxRecDepth 20000 in
theorem gX5_howManyBy_X0_isStrong_n227 : GoodIn wsX5_howManyBy (wsX0_isStrong) := ggX5_howManyBy_X0_isStrong
theorem dX5_howManyBy_0 : decode cX5_howManyBy 0 = .ok (.iconst 0, 1) := by decide +kernel
theorem dX5_howManyBy_1 : decode cX5_howManyBy 1 = .ok (.istore_n 3, 1) := by decide +kernel
theorem dX5_howManyBy_2 : decode cX5_howManyBy 2 = .ok (.iconst 0, 1) := by decide +kernel
theorem dX5_howManyBy_3 : decode cX5_howManyBy 3 = .ok (.istore 4, 2) := by decide +kernel
theorem dX5_howManyBy_5 : decode cX5_howManyBy 5 = .ok (.iload 4, 2) := by decide +kernel
theorem dX5_howManyBy_7 : decode cX5_howManyBy 7 = .ok (.iconst 1, 1) := by decide +kernel
theorem dX5_howManyBy_8 : decode cX5_howManyBy 8 = .ok (.aload_n 0, 1) := by decide +kernel
theorem dX5_howManyBy_9 : decode cX5_howManyBy 9 = .ok (.getfield 30, 3) := by decide +kernel
theorem dX5_howManyBy_12 : decode cX5_howManyBy 12 = .ok (.getfield 223, 3) := by decide +kernel
theorem dX5_howManyBy_15 : decode cX5_howManyBy 15 = .ok (.ishl, 1) := by decide +kernel
theorem dX5_howManyBy_16 : decode cX5_howManyBy 16 = .ok (.if_icmp .ge 50, 3) := by decide +kernel
theorem dX5_howManyBy_19 : decode cX5_howManyBy 19 = .ok (.aload_n 0, 1) := by decide +kernel
theorem dX5_howManyBy_20 : decode cX5_howManyBy 20 = .ok (.getfield 34, 3) := by decide +kernel
theorem dX5_howManyBy_23 : decode cX5_howManyBy 23 = .ok (.aload_n 0, 1) := by decide +kernel
theorem dX5_howManyBy_24 : decode cX5_howManyBy 24 = .ok (.getfield 30, 3) := by decide +kernel
theorem dX5_howManyBy_27 : decode cX5_howManyBy 27 = .ok (.iload 4, 2) := by decide +kernel
theorem dX5_howManyBy_29 : decode cX5_howManyBy 29 = .ok (.invokevirtual 151, 3) := by decide +kernel
theorem dX5_howManyBy_32 : decode cX5_howManyBy 32 = .ok (.aload_n 0, 1) := by decide +kernel
theorem dX5_howManyBy_33 : decode cX5_howManyBy 33 = .ok (.getfield 34, 3) := by decide +kernel
theorem dX5_howManyBy_36 : decode cX5_howManyBy 36 = .ok (.iload_n 1, 1) := by decide +kernel
theorem dX5_howManyBy_37 : decode cX5_howManyBy 37 = .ok (.invokevirtual 224, 3) := by decide +kernel
theorem dX5_howManyBy_40 : decode cX5_howManyBy 40 = .ok (.ifCond .eq 20, 3) := by decide +kernel
theorem dX5_howManyBy_43 : decode cX5_howManyBy 43 = .ok (.iload_n 2, 1) := by decide +kernel
theorem dX5_howManyBy_44 : decode cX5_howManyBy 44 = .ok (.ifCond .eq 13, 3) := by decide +kernel
theorem dX5_howManyBy_47 : decode cX5_howManyBy 47 = .ok (.aload_n 0, 1) := by decide +kernel
theorem dX5_howManyBy_48 : decode cX5_howManyBy 48 = .ok (.getfield 34, 3) := by decide +kernel
theorem dX5_howManyBy_51 : decode cX5_howManyBy 51 = .ok (.invokevirtual 227, 3) := by decide +kernel
theorem dX5_howManyBy_54 : decode cX5_howManyBy 54 = .ok (.ifCond .eq 6, 3) := by decide +kernel
theorem dX5_howManyBy_57 : decode cX5_howManyBy 57 = .ok (.iinc 3 1, 3) := by decide +kernel
theorem dX5_howManyBy_60 : decode cX5_howManyBy 60 = .ok (.iinc 4 2, 3) := by decide +kernel
theorem dX5_howManyBy_63 : decode cX5_howManyBy 63 = .ok (.goto (-58), 3) := by decide +kernel
theorem dX5_howManyBy_66 : decode cX5_howManyBy 66 = .ok (.iload_n 3, 1) := by decide +kernel
theorem dX5_howManyBy_67 : decode cX5_howManyBy 67 = .ok (.ireturn, 1) := by decide +kernel
set_option maxRecDepth 20000 in
theorem ggX5_leastSetBy_X0_copySwitched : GoodIn wsX5_leastSetBy wsX0_copySwitched := goodIn_r _ [6, 7, 8, 9, 10, 11, 12, 13, 14, 15, 4, 16, 17, 18, 19, 20, 47, 48] (by decide +kernel) (by decide +kernel)
set_option maxRecDepth 20000 in
theorem gX5_leastSetBy_X0_copySwitched_n151 : GoodIn wsX5_leastSetBy (wsX0_copySwitched) := ggX5_leastSetBy_X0_copySwitched
set_option maxRecDepth 20000 in
theorem ggX5_leastSetBy_X0_eachDegreeIs : GoodIn wsX5_leastSetBy wsX0_eachDegreeIs := goodIn_r _ [23, 7, 24, 25, 26, 4, 27, 28, 29, 30, 31, 8, 32, 33, 34, 35, 36, 37, 38, 47, 48] (by decide +kernel) (by decide +kernel)
set_option maxRecDepth 20000 in
theorem gX5_leastSetBy_X0_eachDegreeIs_n224 : GoodIn wsX5_leastSetBy (wsX0_eachDegreeIs) := ggX5_leastSetBy_X0_eachDegreeIs
theorem dX5_leastSetBy_0 : decode cX5_leastSetBy 0 = .ok (.iconst 0, 1) := by decide +kernel
theorem dX5_leastSetBy_1 : decode cX5_leastSetBy 1 = .ok (.istore_n 2, 1) := by decide +kernel
theorem dX5_leastSetBy_2 : decode cX5_leastSetBy 2 = .ok (.iload_n 2, 1) := by decide +kernel
theorem dX5_leastSetBy_3 : decode cX5_leastSetBy 3 = .ok (.iconst 1, 1) := by decide +kernel
theorem dX5_leastSetBy_4 : decode cX5_leastSetBy 4 = .ok (.aload_n 0, 1) := by decide +kernel
theorem dX5_leastSetBy_5 : decode cX5_leastSetBy 5 = .ok (.getfield 30, 3) := by decide +kernel
theorem dX5_leastSetBy_8 : decode cX5_leastSetBy 8 = .ok (.getfield 223, 3) := by decide +kernel
theorem dX5_leastSetBy_11 : decode cX5_leastSetBy 11 = .ok (.ishl, 1) := by decide +kernel
theorem dX5_leastSetBy_12 : decode cX5_leastSetBy 12 = .ok (.if_icmp .ge 34, 3) := by decide +kernel
theorem dX5_leastSetBy_15 : decode cX5_leastSetBy 15 = .ok (.aload_n 0, 1) := by decide +kernel
theorem dX5_leastSetBy_16 : decode cX5_leastSetBy 16 = .ok (.getfield 34, 3) := by decide +kernel
theorem dX5_leastSetBy_19 : decode cX5_leastSetBy 19 = .ok (.aload_n 0, 1) := by decide +kernel
theorem dX5_leastSetBy_20 : decode cX5_leastSetBy 20 = .ok (.getfield 30, 3) := by decide +kernel
theorem dX5_leastSetBy_23 : decode cX5_leastSetBy 23 = .ok (.iload_n 2, 1) := by decide +kernel
theorem dX5_leastSetBy_24 : decode cX5_leastSetBy 24 = .ok (.invokevirtual 151, 3) := by decide +kernel
theorem dX5_leastSetBy_27 : decode cX5_leastSetBy 27 = .ok (.aload_n 0, 1) := by decide +kernel
theorem dX5_leastSetBy_28 : decode cX5_leastSetBy 28 = .ok (.getfield 34, 3) := by decide +kernel
theorem dX5_leastSetBy_31 : decode cX5_leastSetBy 31 = .ok (.iload_n 1, 1) := by decide +kernel
theorem dX5_leastSetBy_32 : decode cX5_leastSetBy 32 = .ok (.invokevirtual 224, 3) := by decide +kernel
theorem dX5_leastSetBy_35 : decode cX5_leastSetBy 35 = .ok (.ifCond .eq 5, 3) := by decide +kernel
theorem dX5_leastSetBy_38 : decode cX5_leastSetBy 38 = .ok (.iload_n 2, 1) := by decide +kernel
theorem dX5_leastSetBy_39 : decode cX5_leastSetBy 39 = .ok (.ireturn, 1) := by decide +kernel
theorem dX5_leastSetBy_40 : decode cX5_leastSetBy 40 = .ok (.iinc 2 2, 3) := by decide +kernel
theorem dX5_leastSetBy_43 : decode cX5_leastSetBy 43 = .ok (.goto (-41), 3) := by decide +kernel
theorem dX5_leastSetBy_46 : decode cX5_leastSetBy 46 = .ok (.bipush (-6), 2) := by decide +kernel
theorem dX5_leastSetBy_48 : decode cX5_leastSetBy 48 = .ok (.ireturn, 1) := by decide +kernel
set_option maxRecDepth 20000 in
theorem ggX5_bringingSet_X5_load : GoodIn wsX5_bringingSet wsX5_load := goodIn_r _ [7, 8, 9, 10, 11, 12, 13, 14, 15, 16, 17, 18, 19, 20, 21, 22, 6, 23, 24, 25, 26, 27, 42, 43, 44, 45, 46, 47, 48, 49, 52, 53, 50, 51] (by decide +kernel) (by decide +kernel)
set_option maxRecDepth 20000 in
theorem gX5_bringingSet_X5_load : GoodIn wsX5_bringingSet (wsV RX5 74 RX5 yX5_load wsX5_load) := goodIn_app (goodIn_of _ (by decide +kernel)) ggX5_bringingSet_X5_load
set_option maxRecDepth 20000 in
theorem ggX5_bringingSet_X0_switchBy : GoodIn wsX5_bringingSet wsX0_switchBy := goodIn_r _ [30, 13, 14, 31, 32, 33, 10, 34, 50, 51] (by decide +kernel) (by decide +kernel)
set_option maxRecDepth 20000 in
theorem gX5_bringingSet_X0_switchBy_n117 : GoodIn wsX5_bringingSet (wsX0_switchBy) := ggX5_bringingSet_X0_switchBy
set_option maxRecDepth 20000 in
theorem ggX5_bringingSet_X0_number : GoodIn wsX5_bringingSet wsX0_number := goodIn_r _ [37, 13, 38, 39, 40, 10, 41, 14, 50, 51] (by decide +kernel) (by decide +kernel)
set_option maxRecDepth 20000 in
theorem gX5_bringingSet_X0_number_n85 : GoodIn wsX5_bringingSet (wsX0_number) := ggX5_bringingSet_X0_number
theorem dX5_bringingSet_0 : decode cX5_bringingSet 0 = .ok (.aload_n 0, 1) := by decide +kernel
theorem dX5_bringingSet_1 : decode cX5_bringingSet 1 = .ok (.aload_n 0, 1) := by decide +kernel
theorem dX5_bringingSet_2 : decode cX5_bringingSet 2 = .ok (.getfield 30, 3) := by decide +kernel
theorem dX5_bringingSet_5 : decode cX5_bringingSet 5 = .ok (.iload_n 1, 1) := by decide +kernel
theorem dX5_bringingSet_6 : decode cX5_bringingSet 6 = .ok (.invokevirtual 74, 3) := by decide +kernel
theorem dX5_bringingSet_9 : decode cX5_bringingSet 9 = .ok (.aload_n 0, 1) := by decide +kernel
theorem dX5_bringingSet_10 : decode cX5_bringingSet 10 = .ok (.aload_n 0, 1) := by decide +kernel
theorem dX5_bringingSet_11 : decode cX5_bringingSet 11 = .ok (.getfield 34, 3) := by decide +kernel
theorem dX5_bringingSet_14 : decode cX5_bringingSet 14 = .ok (.iload_n 2, 1) := by decide +kernel
theorem dX5_bringingSet_15 : decode cX5_bringingSet 15 = .ok (.invokevirtual 74, 3) := by decide +kernel
theorem dX5_bringingSet_18 : decode cX5_bringingSet 18 = .ok (.aload_n 0, 1) := by decide +kernel
theorem dX5_bringingSet_19 : decode cX5_bringingSet 19 = .ok (.getfield 30, 3) := by decide +kernel
theorem dX5_bringingSet_22 : decode cX5_bringingSet 22 = .ok (.getfield 230, 3) := by decide +kernel
theorem dX5_bringingSet_25 : decode cX5_bringingSet 25 = .ok (.iconst 0, 1) := by decide +kernel
theorem dX5_bringingSet_26 : decode cX5_bringingSet 26 = .ok (.iaload, 1) := by decide +kernel
theorem dX5_bringingSet_27 : decode cX5_bringingSet 27 = .ok (.aload_n 0, 1) := by decide +kernel
theorem dX5_bringingSet_28 : decode cX5_bringingSet 28 = .ok (.getfield 34, 3) := by decide +kernel
theorem dX5_bringingSet_31 : decode cX5_bringingSet 31 = .ok (.getfield 230, 3) := by decide +kernel
theorem dX5_bringingSet_34 : decode cX5_bringingSet 34 = .ok (.iconst 0, 1) := by decide +kernel
theorem dX5_bringingSet_35 : decode cX5_bringingSet 35 = .ok (.iaload, 1) := by decide +kernel
theorem dX5_bringingSet_36 : decode cX5_bringingSet 36 = .ok (.ixor, 1) := by decide +kernel
theorem dX5_bringingSet_37 : decode cX5_bringingSet 37 = .ok (.istore_n 3, 1) := by decide +kernel
theorem dX5_bringingSet_38 : decode cX5_bringingSet 38 = .ok (.aload_n 0, 1) := by decide +kernel
theorem dX5_bringingSet_39 : decode cX5_bringingSet 39 = .ok (.getfield 30, 3) := by decide +kernel
theorem dX5_bringingSet_42 : decode cX5_bringingSet 42 = .ok (.iload_n 3, 1) := by decide +kernel
theorem dX5_bringingSet_43 : decode cX5_bringingSet 43 = .ok (.invokevirtual 117, 3) := by decide +kernel
theorem dX5_bringingSet_46 : decode cX5_bringingSet 46 = .ok (.aload_n 0, 1) := by decide +kernel
theorem dX5_bringingSet_47 : decode cX5_bringingSet 47 = .ok (.getfield 30, 3) := by decide +kernel
theorem dX5_bringingSet_50 : decode cX5_bringingSet 50 = .ok (.invokevirtual 85, 3) := by decide +kernel
theorem dX5_bringingSet_53 : decode cX5_bringingSet 53 = .ok (.aload_n 0, 1) := by decide +kernel
theorem dX5_bringingSet_54 : decode cX5_bringingSet 54 = .ok (.getfield 34, 3) := by decide +kernel
theorem dX5_bringingSet_57 : decode cX5_bringingSet 57 = .ok (.invokevirtual 85, 3) := by decide +kernel
theorem dX5_bringingSet_60 : decode cX5_bringingSet 60 = .ok (.if_icmp .ne 7, 3) := by decide +kernel
theorem dX5_bringingSet_63 : decode cX5_bringingSet 63 = .ok (.iload_n 3, 1) := by decide +kernel
theorem dX5_bringingSet_64 : decode cX5_bringingSet 64 = .ok (.goto 5, 3) := by decide +kernel
theorem dX5_bringingSet_67 : decode cX5_bringingSet 67 = .ok (.bipush (-6), 2) := by decide +kernel
theorem dX5_bringingSet_69 : decode cX5_bringingSet 69 = .ok (.ireturn, 1) := by decide +kernel
set_option maxRecDepth 20000 in
theorem ggX5_kindOfSlot_X5_load : GoodIn wsX5_kindOfSlot wsX5_load := goodIn_r _ [7, 8, 9, 10, 11, 12, 13, 14, 15, 16, 17, 18, 19, 20, 21, 22, 6, 23, 24, 25, 26, 27, 69, 70, 71, 72, 73, 74, 75, 76, 77, 78, 79, 80] (by decide +kernel) (by decide +kernel)
set_option maxRecDepth 20000 in
theorem gX5_kindOfSlot_X5_load : GoodIn wsX5_kindOfSlot (wsV RX5 74 RX5 yX5_load wsX5_load) := goodIn_app (goodIn_of _ (by decide +kernel)) ggX5_kindOfSlot_X5_load
set_option maxRecDepth 20000 in
theorem ggX5_kindOfSlot_X2_kindOfClass : GoodIn wsX5_kindOfSlot wsX2_kindOfClass := goodIn_r _ [31, 32, 33, 34, 35, 36, 22, 6, 23, 37, 10, 38, 39, 14, 40, 41, 42, 43, 13, 44, 45, 46, 47, 48, 49, 29, 50, 51, 52, 53, 54, 55, 56, 57, 58, 59, 60, 61, 62, 63, 64, 65, 66, 67, 68, 79, 80, 81] (by decide +kernel) (by decide +kernel)
set_option maxRecDepth 20000 in
theorem gX5_kindOfSlot_X2_kindOfClass_n179 : GoodIn wsX5_kindOfSlot (wsX2_kindOfClass) := ggX5_kindOfSlot_X2_kindOfClass
theorem dX5_kindOfSlot_0 : decode cX5_kindOfSlot 0 = .ok (.aload_n 0, 1) := by decide +kernel
theorem dX5_kindOfSlot_1 : decode cX5_kindOfSlot 1 = .ok (.aload_n 0, 1) := by decide +kernel
theorem dX5_kindOfSlot_2 : decode cX5_kindOfSlot 2 = .ok (.getfield 30, 3) := by decide +kernel
theorem dX5_kindOfSlot_5 : decode cX5_kindOfSlot 5 = .ok (.iload_n 1, 1) := by decide +kernel
theorem dX5_kindOfSlot_6 : decode cX5_kindOfSlot 6 = .ok (.invokevirtual 74, 3) := by decide +kernel
theorem dX5_kindOfSlot_9 : decode cX5_kindOfSlot 9 = .ok (.aload_n 0, 1) := by decide +kernel
theorem dX5_kindOfSlot_10 : decode cX5_kindOfSlot 10 = .ok (.getfield 40, 3) := by decide +kernel
theorem dX5_kindOfSlot_13 : decode cX5_kindOfSlot 13 = .ok (.aload_n 0, 1) := by decide +kernel
theorem dX5_kindOfSlot_14 : decode cX5_kindOfSlot 14 = .ok (.getfield 30, 3) := by decide +kernel
theorem dX5_kindOfSlot_17 : decode cX5_kindOfSlot 17 = .ok (.invokevirtual 179, 3) := by decide +kernel
theorem dX5_kindOfSlot_20 : decode cX5_kindOfSlot 20 = .ok (.ireturn, 1) := by decide +kernel
set_option maxRecDepth 20000 in
theorem ggX5_differentClasses_X5_load : GoodIn wsX5_differentClasses wsX5_load := goodIn_r _ [7, 8, 9, 10, 11, 12, 13, 14, 15, 16, 17, 18, 19, 20, 21, 22, 6, 23, 24, 25, 26, 27, 54, 55, 56, 57, 58, 59, 60, 61, 62, 63, 64, 65] (by decide +kernel) (by decide +kernel)
set_option maxRecDepth 20000 in
theorem gX5_differentClasses_X5_load : GoodIn wsX5_differentClasses (wsV RX5 74 RX5 yX5_load wsX5_load) := goodIn_app (goodIn_of _ (by decide +kernel)) ggX5_differentClasses_X5_load
set_option maxRecDepth 20000 in
theorem ggX5_differentClasses_X0_leaveAlone : GoodIn wsX5_differentClasses wsX0_leaveAlone := goodIn_r _ [30, 14, 31, 32, 33, 10, 34, 13, 35, 36, 37, 38, 64, 65] (by decide +kernel) (by decide +kernel)
set_option maxRecDepth 20000 in
theorem gX5_differentClasses_X0_leaveAlone_n135 : GoodIn wsX5_differentClasses (wsX0_leaveAlone) := ggX5_differentClasses_X0_leaveAlone
set_option maxRecDepth 20000 in
theorem ggX5_differentClasses_X0_number : GoodIn wsX5_differentClasses wsX0_number := goodIn_r _ [41, 13, 42, 43, 44, 10, 45, 14, 64, 65] (by decide +kernel) (by decide +kernel)
set_option maxRecDepth 20000 in
theorem gX5_differentClasses_X0_number_n85 : GoodIn wsX5_differentClasses (wsX0_number) := ggX5_differentClasses_X0_number
set_option maxRecDepth 20000 in
theorem ggX5_differentClasses_X5_differentMarks : GoodIn wsX5_differentClasses wsX5_differentMarks := goodIn_r _ [49, 50, 51, 52, 6, 53, 2, 54, 55, 56, 57, 58, 59, 60, 61] (by decide +kernel) (by decide +kernel)
set_option maxRecDepth 20000 in
theorem gX5_differentClasses_X5_differentMarks : GoodIn wsX5_differentClasses (wsV RX5 233 RX5 yX5_differentMarks wsX5_differentMarks) := goodIn_app (goodIn_of _ (by decide +kernel)) ggX5_differentClasses_X5_differentMarks
theorem dX5_differentClasses_0 : decode cX5_differentClasses 0 = .ok (.iconst 0, 1) := by decide +kernel
theorem dX5_differentClasses_1 : decode cX5_differentClasses 1 = .ok (.istore_n 1, 1) := by decide +kernel
theorem dX5_differentClasses_2 : decode cX5_differentClasses 2 = .ok (.iload_n 1, 1) := by decide +kernel
theorem dX5_differentClasses_3 : decode cX5_differentClasses 3 = .ok (.iconst 3, 1) := by decide +kernel
theorem dX5_differentClasses_4 : decode cX5_differentClasses 4 = .ok (.if_icmp .ge 39, 3) := by decide +kernel
theorem dX5_differentClasses_7 : decode cX5_differentClasses 7 = .ok (.aload_n 0, 1) := by decide +kernel
theorem dX5_differentClasses_8 : decode cX5_differentClasses 8 = .ok (.aload_n 0, 1) := by decide +kernel
theorem dX5_differentClasses_9 : decode cX5_differentClasses 9 = .ok (.getfield 30, 3) := by decide +kernel
theorem dX5_differentClasses_12 : decode cX5_differentClasses 12 = .ok (.iload_n 1, 1) := by decide +kernel
theorem dX5_differentClasses_13 : decode cX5_differentClasses 13 = .ok (.invokevirtual 74, 3) := by decide +kernel
theorem dX5_differentClasses_16 : decode cX5_differentClasses 16 = .ok (.aload_n 0, 1) := by decide +kernel
theorem dX5_differentClasses_17 : decode cX5_differentClasses 17 = .ok (.getfield 30, 3) := by decide +kernel
theorem dX5_differentClasses_20 : decode cX5_differentClasses 20 = .ok (.iconst 0, 1) := by decide +kernel
theorem dX5_differentClasses_21 : decode cX5_differentClasses 21 = .ok (.invokevirtual 135, 3) := by decide +kernel
theorem dX5_differentClasses_24 : decode cX5_differentClasses 24 = .ok (.aload_n 0, 1) := by decide +kernel
theorem dX5_differentClasses_25 : decode cX5_differentClasses 25 = .ok (.getfield 51, 3) := by decide +kernel
theorem dX5_differentClasses_28 : decode cX5_differentClasses 28 = .ok (.iload_n 1, 1) := by decide +kernel
theorem dX5_differentClasses_29 : decode cX5_differentClasses 29 = .ok (.aload_n 0, 1) := by decide +kernel
theorem dX5_differentClasses_30 : decode cX5_differentClasses 30 = .ok (.getfield 30, 3) := by decide +kernel
end
section
theorem dX5_differentClasses_33 : decode cX5_differentClasses 33 = .ok (.invokevirtual 85, 3) := by decide +kernel
theorem dX5_differentClasses_36 : decode cX5_differentClasses 36 = .ok (.iastore, 1) := by decide +kernel
theorem dX5_differentClasses_37 : decode cX5_differentClasses 37 = .ok (.iinc 1 1, 3) := by decide +kernel
theorem dX5_differentClasses_40 : decode cX5_differentClasses 40 = .ok (.goto (-38), 3) := by decide +kernel
theorem dX5_differentClasses_43 : decode cX5_differentClasses 43 = .ok (.aload_n 0, 1) := by decide +kernel
theorem dX5_differentClasses_44 : decode cX5_differentClasses 44 = .ok (.invokevirtual 233, 3) := by decide +kernel
theorem dX5_differentClasses_47 : decode cX5_differentClasses 47 = .ok (.ireturn, 1) := by decide +kernel
set_option maxRecDepth 20000 in
theorem ggX5_differentKinds_X5_kindOfSlot : GoodIn wsX5_differentKinds wsX5_kindOfSlot := goodIn_r _ [6, 7, 8, 9, 10, 11, 5, 12, 13, 14, 15, 16, 17, 18, 19, 20, 21, 22, 23, 24, 25, 26, 27, 28, 29, 30, 31, 32, 33, 34, 35, 36, 37, 38, 39, 40, 41, 42, 43, 44, 45, 46, 47, 48, 49, 50, 51, 52, 53, 54, 55, 56, 57, 58, 59, 60, 61, 62, 63, 64, 65, 66, 67, 68, 69, 70, 71, 72, 73, 82, 83, 84, 85, 86, 87, 88, 89, 90, 91, 92, 93, 94] (by decide +kernel) (by decide +kernel)
set_option maxRecDepth 20000 in
theorem gX5_differentKinds_X5_kindOfSlot : GoodIn wsX5_differentKinds (wsV RX5 168 RX5 yX5_kindOfSlot wsX5_kindOfSlot) := goodIn_app (goodIn_of _ (by decide +kernel)) ggX5_differentKinds_X5_kindOfSlot
set_option maxRecDepth 20000 in
theorem ggX5_differentKinds_X5_differentMarks : GoodIn wsX5_differentKinds wsX5_differentMarks := goodIn_r _ [77, 78, 79, 80, 5, 81, 1, 82, 83, 84, 85, 86, 87, 88, 89] (by decide +kernel) (by decide +kernel)
set_option maxRecDepth 20000 in
theorem gX5_differentKinds_X5_differentMarks : GoodIn wsX5_differentKinds (wsV RX5 233 RX5 yX5_differentMarks wsX5_differentMarks) := goodIn_app (goodIn_of _ (by decide +kernel)) ggX5_differentKinds_X5_differentMarks
theorem dX5_differentKinds_0 : decode cX5_differentKinds 0 = .ok (.iconst 0, 1) := by decide +kernel
theorem dX5_differentKinds_1 : decode cX5_differentKinds 1 = .ok (.istore_n 1, 1) := by decide +kernel
theorem dX5_differentKinds_2 : decode cX5_differentKinds 2 = .ok (.iload_n 1, 1) := by decide +kernel
theorem dX5_differentKinds_3 : decode cX5_differentKinds 3 = .ok (.iconst 3, 1) := by decide +kernel
theorem dX5_differentKinds_4 : decode cX5_differentKinds 4 = .ok (.if_icmp .ge 20, 3) := by decide +kernel
theorem dX5_differentKinds_7 : decode cX5_differentKinds 7 = .ok (.aload_n 0, 1) := by decide +kernel
theorem dX5_differentKinds_8 : decode cX5_differentKinds 8 = .ok (.getfield 51, 3) := by decide +kernel
theorem dX5_differentKinds_11 : decode cX5_differentKinds 11 = .ok (.iload_n 1, 1) := by decide +kernel
theorem dX5_differentKinds_12 : decode cX5_differentKinds 12 = .ok (.aload_n 0, 1) := by decide +kernel
theorem dX5_differentKinds_13 : decode cX5_differentKinds 13 = .ok (.iload_n 1, 1) := by decide +kernel
theorem dX5_differentKinds_14 : decode cX5_differentKinds 14 = .ok (.invokevirtual 168, 3) := by decide +kernel
theorem dX5_differentKinds_17 : decode cX5_differentKinds 17 = .ok (.iastore, 1) := by decide +kernel
theorem dX5_differentKinds_18 : decode cX5_differentKinds 18 = .ok (.iinc 1 1, 3) := by decide +kernel
theorem dX5_differentKinds_21 : decode cX5_differentKinds 21 = .ok (.goto (-19), 3) := by decide +kernel
theorem dX5_differentKinds_24 : decode cX5_differentKinds 24 = .ok (.aload_n 0, 1) := by decide +kernel
theorem dX5_differentKinds_25 : decode cX5_differentKinds 25 = .ok (.invokevirtual 233, 3) := by decide +kernel
theorem dX5_differentKinds_28 : decode cX5_differentKinds 28 = .ok (.ireturn, 1) := by decide +kernel
set_option maxRecDepth 20000 in
theorem ggX5_differentMarks_X5_isMarkedBefore : GoodIn wsX5_differentMarks wsX5_isMarkedBefore := goodIn_r _ [5, 6, 7, 8, 9, 10, 11, 12, 13, 14] (by decide +kernel) (by decide +kernel)
set_option maxRecDepth 20000 in
theorem gX5_differentMarks_X5_isMarkedBefore : GoodIn wsX5_differentMarks (wsV RX5 236 RX5 yX5_isMarkedBefore wsX5_isMarkedBefore) := goodIn_app (goodIn_of _ (by decide +kernel)) ggX5_differentMarks_X5_isMarkedBefore
theorem dX5_differentMarks_0 : decode cX5_differentMarks 0 = .ok (.iconst 0, 1) := by decide +kernel
theorem dX5_differentMarks_1 : decode cX5_differentMarks 1 = .ok (.istore_n 1, 1) := by decide +kernel
theorem dX5_differentMarks_2 : decode cX5_differentMarks 2 = .ok (.iconst 0, 1) := by decide +kernel
theorem dX5_differentMarks_3 : decode cX5_differentMarks 3 = .ok (.istore_n 2, 1) := by decide +kernel
theorem dX5_differentMarks_4 : decode cX5_differentMarks 4 = .ok (.iload_n 2, 1) := by decide +kernel
theorem dX5_differentMarks_5 : decode cX5_differentMarks 5 = .ok (.iconst 3, 1) := by decide +kernel
theorem dX5_differentMarks_6 : decode cX5_differentMarks 6 = .ok (.if_icmp .ge 20, 3) := by decide +kernel
theorem dX5_differentMarks_9 : decode cX5_differentMarks 9 = .ok (.aload_n 0, 1) := by decide +kernel
theorem dX5_differentMarks_10 : decode cX5_differentMarks 10 = .ok (.iload_n 2, 1) := by decide +kernel
theorem dX5_differentMarks_11 : decode cX5_differentMarks 11 = .ok (.invokevirtual 236, 3) := by decide +kernel
theorem dX5_differentMarks_14 : decode cX5_differentMarks 14 = .ok (.ifCond .ne 6, 3) := by decide +kernel
theorem dX5_differentMarks_17 : decode cX5_differentMarks 17 = .ok (.iinc 1 1, 3) := by decide +kernel
theorem dX5_differentMarks_20 : decode cX5_differentMarks 20 = .ok (.iinc 2 1, 3) := by decide +kernel
theorem dX5_differentMarks_23 : decode cX5_differentMarks 23 = .ok (.goto (-19), 3) := by decide +kernel
theorem dX5_differentMarks_26 : decode cX5_differentMarks 26 = .ok (.iload_n 1, 1) := by decide +kernel
theorem dX5_differentMarks_27 : decode cX5_differentMarks 27 = .ok (.ireturn, 1) := by decide +kernel
theorem dX5_isMarkedBefore_0 : decode cX5_isMarkedBefore 0 = .ok (.iconst 0, 1) := by decide +kernel
theorem dX5_isMarkedBefore_1 : decode cX5_isMarkedBefore 1 = .ok (.istore_n 2, 1) := by decide +kernel
theorem dX5_isMarkedBefore_2 : decode cX5_isMarkedBefore 2 = .ok (.iload_n 2, 1) := by decide +kernel
theorem dX5_isMarkedBefore_3 : decode cX5_isMarkedBefore 3 = .ok (.iload_n 1, 1) := by decide +kernel
theorem dX5_isMarkedBefore_4 : decode cX5_isMarkedBefore 4 = .ok (.if_icmp .ge 26, 3) := by decide +kernel
theorem dX5_isMarkedBefore_7 : decode cX5_isMarkedBefore 7 = .ok (.aload_n 0, 1) := by decide +kernel
theorem dX5_isMarkedBefore_8 : decode cX5_isMarkedBefore 8 = .ok (.getfield 51, 3) := by decide +kernel
theorem dX5_isMarkedBefore_11 : decode cX5_isMarkedBefore 11 = .ok (.iload_n 2, 1) := by decide +kernel
theorem dX5_isMarkedBefore_12 : decode cX5_isMarkedBefore 12 = .ok (.iaload, 1) := by decide +kernel
theorem dX5_isMarkedBefore_13 : decode cX5_isMarkedBefore 13 = .ok (.aload_n 0, 1) := by decide +kernel
theorem dX5_isMarkedBefore_14 : decode cX5_isMarkedBefore 14 = .ok (.getfield 51, 3) := by decide +kernel
theorem dX5_isMarkedBefore_17 : decode cX5_isMarkedBefore 17 = .ok (.iload_n 1, 1) := by decide +kernel
theorem dX5_isMarkedBefore_18 : decode cX5_isMarkedBefore 18 = .ok (.iaload, 1) := by decide +kernel
theorem dX5_isMarkedBefore_19 : decode cX5_isMarkedBefore 19 = .ok (.if_icmp .ne 5, 3) := by decide +kernel
theorem dX5_isMarkedBefore_22 : decode cX5_isMarkedBefore 22 = .ok (.iconst 1, 1) := by decide +kernel
theorem dX5_isMarkedBefore_23 : decode cX5_isMarkedBefore 23 = .ok (.ireturn, 1) := by decide +kernel
theorem dX5_isMarkedBefore_24 : decode cX5_isMarkedBefore 24 = .ok (.iinc 2 1, 3) := by decide +kernel
theorem dX5_isMarkedBefore_27 : decode cX5_isMarkedBefore 27 = .ok (.goto (-25), 3) := by decide +kernel
theorem dX5_isMarkedBefore_30 : decode cX5_isMarkedBefore 30 = .ok (.iconst 0, 1) := by decide +kernel
theorem dX5_isMarkedBefore_31 : decode cX5_isMarkedBefore 31 = .ok (.ireturn, 1) := by decide +kernel
set_option maxRecDepth 20000 in
theorem ggX5_keptImages_X3_isUnused : GoodIn wsX5_keptImages wsX3_isUnused := goodIn_r _ [5, 6, 15, 16] (by decide +kernel) (by decide +kernel)
set_option maxRecDepth 20000 in
theorem gX5_keptImages_X3_isUnused_n204 : GoodIn wsX5_keptImages (wsX3_isUnused) := ggX5_keptImages_X3_isUnused
theorem dX5_keptImages_0 : decode cX5_keptImages 0 = .ok (.iconst 0, 1) := by decide +kernel
theorem dX5_keptImages_1 : decode cX5_keptImages 1 = .ok (.istore_n 1, 1) := by decide +kernel
theorem dX5_keptImages_2 : decode cX5_keptImages 2 = .ok (.iconst 0, 1) := by decide +kernel
theorem dX5_keptImages_3 : decode cX5_keptImages 3 = .ok (.istore_n 2, 1) := by decide +kernel
theorem dX5_keptImages_4 : decode cX5_keptImages 4 = .ok (.iload_n 2, 1) := by decide +kernel
theorem dX5_keptImages_5 : decode cX5_keptImages 5 = .ok (.iconst 2, 1) := by decide +kernel
theorem dX5_keptImages_6 : decode cX5_keptImages 6 = .ok (.if_icmp .ge 27, 3) := by decide +kernel
theorem dX5_keptImages_9 : decode cX5_keptImages 9 = .ok (.aload_n 0, 1) := by decide +kernel
theorem dX5_keptImages_10 : decode cX5_keptImages 10 = .ok (.getfield 16, 3) := by decide +kernel
theorem dX5_keptImages_13 : decode cX5_keptImages 13 = .ok (.iload_n 2, 1) := by decide +kernel
theorem dX5_keptImages_14 : decode cX5_keptImages 14 = .ok (.aaload, 1) := by decide +kernel
theorem dX5_keptImages_15 : decode cX5_keptImages 15 = .ok (.invokevirtual 204, 3) := by decide +kernel
theorem dX5_keptImages_18 : decode cX5_keptImages 18 = .ok (.ifCond .ne 9, 3) := by decide +kernel
theorem dX5_keptImages_21 : decode cX5_keptImages 21 = .ok (.iload_n 1, 1) := by decide +kernel
theorem dX5_keptImages_22 : decode cX5_keptImages 22 = .ok (.iconst 1, 1) := by decide +kernel
theorem dX5_keptImages_23 : decode cX5_keptImages 23 = .ok (.iload_n 2, 1) := by decide +kernel
theorem dX5_keptImages_24 : decode cX5_keptImages 24 = .ok (.ishl, 1) := by decide +kernel
theorem dX5_keptImages_25 : decode cX5_keptImages 25 = .ok (.ior, 1) := by decide +kernel
theorem dX5_keptImages_26 : decode cX5_keptImages 26 = .ok (.istore_n 1, 1) := by decide +kernel
theorem dX5_keptImages_27 : decode cX5_keptImages 27 = .ok (.iinc 2 1, 3) := by decide +kernel
theorem dX5_keptImages_30 : decode cX5_keptImages 30 = .ok (.goto (-26), 3) := by decide +kernel
theorem dX5_keptImages_33 : decode cX5_keptImages 33 = .ok (.iload_n 1, 1) := by decide +kernel
theorem dX5_keptImages_34 : decode cX5_keptImages 34 = .ok (.ireturn, 1) := by decide +kernel
theorem dX6_init_0 : decode cX6_init 0 = .ok (.aload_n 0, 1) := by decide +kernel
theorem dX6_init_1 : decode cX6_init 1 = .ok (.invokespecial 1, 3) := by decide +kernel
theorem dX6_init_4 : decode cX6_init 4 = .ok (.aload_n 0, 1) := by decide +kernel
theorem dX6_init_5 : decode cX6_init 5 = .ok (.iconst 4, 1) := by decide +kernel
theorem dX6_init_6 : decode cX6_init 6 = .ok (.newarray .int, 2) := by decide +kernel
theorem dX6_init_8 : decode cX6_init 8 = .ok (.putfield 7, 3) := by decide +kernel
theorem dX6_init_11 : decode cX6_init 11 = .ok (.aload_n 0, 1) := by decide +kernel
theorem dX6_init_12 : decode cX6_init 12 = .ok (.bipush 8, 2) := by decide +kernel
theorem dX6_init_14 : decode cX6_init 14 = .ok (.newarray .int, 2) := by decide +kernel
theorem dX6_init_16 : decode cX6_init 16 = .ok (.putfield 13, 3) := by decide +kernel
theorem dX6_init_19 : decode cX6_init 19 = .ok (.aload_n 0, 1) := by decide +kernel
theorem dX6_init_20 : decode cX6_init 20 = .ok (.iconst 2, 1) := by decide +kernel
theorem dX6_init_21 : decode cX6_init 21 = .ok (.newarray .boolean, 2) := by decide +kernel
theorem dX6_init_23 : decode cX6_init 23 = .ok (.putfield 16, 3) := by decide +kernel
theorem dX6_init_26 : decode cX6_init 26 = .ok (.aload_n 0, 1) := by decide +kernel
theorem dX6_init_27 : decode cX6_init 27 = .ok (.bipush 35, 2) := by decide +kernel
theorem dX6_init_29 : decode cX6_init 29 = .ok (.newarray .int, 2) := by decide +kernel
theorem dX6_init_31 : decode cX6_init 31 = .ok (.putfield 20, 3) := by decide +kernel
theorem dX6_init_34 : decode cX6_init 34 = .ok (.aload_n 0, 1) := by decide +kernel
theorem dX6_init_35 : decode cX6_init 35 = .ok (.bipush 7, 2) := by decide +kernel
theorem dX6_init_37 : decode cX6_init 37 = .ok (.newarray .int, 2) := by decide +kernel
theorem dX6_init_39 : decode cX6_init 39 = .ok (.putfield 23, 3) := by decide +kernel
theorem dX6_init_42 : decode cX6_init 42 = .ok (.aload_n 0, 1) := by decide +kernel
theorem dX6_init_43 : decode cX6_init 43 = .ok (.bipush 7, 2) := by decide +kernel
theorem dX6_init_45 : decode cX6_init 45 = .ok (.newarray .boolean, 2) := by decide +kernel
theorem dX6_init_47 : decode cX6_init 47 = .ok (.putfield 26, 3) := by decide +kernel
theorem dX6_init_50 : decode cX6_init 50 = .ok (.aload_n 0, 1) := by decide +kernel
theorem dX6_init_51 : decode cX6_init 51 = .ok (.bipush 49, 2) := by decide +kernel
theorem dX6_init_53 : decode cX6_init 53 = .ok (.newarray .long, 2) := by decide +kernel
theorem dX6_init_55 : decode cX6_init 55 = .ok (.putfield 29, 3) := by decide +kernel
theorem dX6_init_58 : decode cX6_init 58 = .ok (.aload_n 0, 1) := by decide +kernel
theorem dX6_init_59 : decode cX6_init 59 = .ok (.getfield 7, 3) := by decide +kernel
theorem dX6_init_62 : decode cX6_init 62 = .ok (.iconst 0, 1) := by decide +kernel
theorem dX6_init_63 : decode cX6_init 63 = .ok (.iconst 5, 1) := by decide +kernel
theorem dX6_init_64 : decode cX6_init 64 = .ok (.iastore, 1) := by decide +kernel
theorem dX6_init_65 : decode cX6_init 65 = .ok (.return_, 1) := by decide +kernel
theorem dX6_in_0 : decode cX6_in 0 = .ok (.iload_n 0, 1) := by decide +kernel
theorem dX6_in_1 : decode cX6_in 1 = .ok (.iload_n 1, 1) := by decide +kernel
theorem dX6_in_2 : decode cX6_in 2 = .ok (.if_icmp .lt 12, 3) := by decide +kernel
theorem dX6_in_5 : decode cX6_in 5 = .ok (.iload_n 0, 1) := by decide +kernel
theorem dX6_in_6 : decode cX6_in 6 = .ok (.iload_n 2, 1) := by decide +kernel
theorem dX6_in_7 : decode cX6_in 7 = .ok (.if_icmp .gt 7, 3) := by decide +kernel
theorem dX6_in_10 : decode cX6_in 10 = .ok (.iconst 1, 1) := by decide +kernel
theorem dX6_in_11 : decode cX6_in 11 = .ok (.goto 4, 3) := by decide +kernel
theorem dX6_in_14 : decode cX6_in 14 = .ok (.iconst 0, 1) := by decide +kernel
theorem dX6_in_15 : decode cX6_in 15 = .ok (.ireturn, 1) := by decide +kernel
set_option maxRecDepth 20000 in
theorem ggX6_isSlot_X6_in : GoodIn wsX6_isSlot wsX6_in := goodIn_r _ [4] (by decide +kernel) (by decide +kernel)
set_option maxRecDepth 20000 in
theorem gX6_isSlot_X6_in : GoodIn wsX6_isSlot (va_wsS RX6 33 yX6_in wsX6_in) := goodIn_app (goodIn_of _ (by decide +kernel)) ggX6_isSlot_X6_in
theorem dX6_isSlot_0 : decode cX6_isSlot 0 = .ok (.iload_n 0, 1) := by decide +kernel
theorem dX6_isSlot_1 : decode cX6_isSlot 1 = .ok (.iconst 0, 1) := by decide +kernel
theorem dX6_isSlot_2 : decode cX6_isSlot 2 = .ok (.iconst 2, 1) := by decide +kernel
theorem dX6_isSlot_3 : decode cX6_isSlot 3 = .ok (.invokestatic 33, 3) := by decide +kernel
theorem dX6_isSlot_6 : decode cX6_isSlot 6 = .ok (.ireturn, 1) := by decide +kernel
set_option maxRecDepth 20000 in
theorem ggX6_isNode_X6_in : GoodIn wsX6_isNode wsX6_in := goodIn_r _ [5] (by decide +kernel) (by decide +kernel)
set_option maxRecDepth 20000 in
theorem gX6_isNode_X6_in : GoodIn wsX6_isNode (va_wsS RX6 33 yX6_in wsX6_in) := goodIn_app (goodIn_of _ (by decide +kernel)) ggX6_isNode_X6_in
theorem dX6_isNode_0 : decode cX6_isNode 0 = .ok (.iload_n 1, 1) := by decide +kernel
theorem dX6_isNode_1 : decode cX6_isNode 1 = .ok (.iconst 0, 1) := by decide +kernel
theorem dX6_isNode_2 : decode cX6_isNode 2 = .ok (.aload_n 0, 1) := by decide +kernel
theorem dX6_isNode_3 : decode cX6_isNode 3 = .ok (.getfield 7, 3) := by decide +kernel
theorem dX6_isNode_6 : decode cX6_isNode 6 = .ok (.iconst 0, 1) := by decide +kernel
theorem dX6_isNode_7 : decode cX6_isNode 7 = .ok (.iaload, 1) := by decide +kernel
theorem dX6_isNode_8 : decode cX6_isNode 8 = .ok (.iconst 1, 1) := by decide +kernel
theorem dX6_isNode_9 : decode cX6_isNode 9 = .ok (.isub, 1) := by decide +kernel
theorem dX6_isNode_10 : decode cX6_isNode 10 = .ok (.invokestatic 33, 3) := by decide +kernel
theorem dX6_isNode_13 : decode cX6_isNode 13 = .ok (.ireturn, 1) := by decide +kernel
theorem dX6_pairs_0 : decode cX6_pairs 0 = .ok (.iload_n 0, 1) := by decide +kernel
theorem dX6_pairs_1 : decode cX6_pairs 1 = .ok (.iload_n 0, 1) := by decide +kernel
theorem dX6_pairs_2 : decode cX6_pairs 2 = .ok (.iconst 1, 1) := by decide +kernel
theorem dX6_pairs_3 : decode cX6_pairs 3 = .ok (.isub, 1) := by decide +kernel
theorem dX6_pairs_4 : decode cX6_pairs 4 = .ok (.imul, 1) := by decide +kernel
theorem dX6_pairs_5 : decode cX6_pairs 5 = .ok (.iconst 2, 1) := by decide +kernel
theorem dX6_pairs_6 : decode cX6_pairs 6 = .ok (.idiv, 1) := by decide +kernel
theorem dX6_pairs_7 : decode cX6_pairs 7 = .ok (.ireturn, 1) := by decide +kernel
theorem dX6_triples_0 : decode cX6_triples 0 = .ok (.iload_n 0, 1) := by decide +kernel
theorem dX6_triples_1 : decode cX6_triples 1 = .ok (.iload_n 0, 1) := by decide +kernel
theorem dX6_triples_2 : decode cX6_triples 2 = .ok (.iconst 1, 1) := by decide +kernel
theorem dX6_triples_3 : decode cX6_triples 3 = .ok (.isub, 1) := by decide +kernel
theorem dX6_triples_4 : decode cX6_triples 4 = .ok (.imul, 1) := by decide +kernel
theorem dX6_triples_5 : decode cX6_triples 5 = .ok (.iload_n 0, 1) := by decide +kernel
theorem dX6_triples_6 : decode cX6_triples 6 = .ok (.iconst 2, 1) := by decide +kernel
theorem dX6_triples_7 : decode cX6_triples 7 = .ok (.isub, 1) := by decide +kernel
theorem dX6_triples_8 : decode cX6_triples 8 = .ok (.imul, 1) := by decide +kernel
theorem dX6_triples_9 : decode cX6_triples 9 = .ok (.bipush 6, 2) := by decide +kernel
theorem dX6_triples_11 : decode cX6_triples 11 = .ok (.idiv, 1) := by decide +kernel
theorem dX6_triples_12 : decode cX6_triples 12 = .ok (.ireturn, 1) := by decide +kernel
set_option maxRecDepth 20000 in
theorem ggX6_valueOf_X6_pairs : GoodIn wsX6_valueOf wsX6_pairs := goodIn_r _ [4] (by decide +kernel) (by decide +kernel)
set_option maxRecDepth 20000 in
theorem gX6_valueOf_X6_pairs : GoodIn wsX6_valueOf (va_wsS RX6 37 yX6_pairs wsX6_pairs) := goodIn_app (goodIn_of _ (by decide +kernel)) ggX6_valueOf_X6_pairs
theorem dX6_valueOf_0 : decode cX6_valueOf 0 = .ok (.iload_n 1, 1) := by decide +kernel
theorem dX6_valueOf_1 : decode cX6_valueOf 1 = .ok (.iload_n 2, 1) := by decide +kernel
theorem dX6_valueOf_2 : decode cX6_valueOf 2 = .ok (.if_icmp .ge 7, 3) := by decide +kernel
theorem dX6_valueOf_5 : decode cX6_valueOf 5 = .ok (.iload_n 1, 1) := by decide +kernel
theorem dX6_valueOf_6 : decode cX6_valueOf 6 = .ok (.goto 4, 3) := by decide +kernel
theorem dX6_valueOf_9 : decode cX6_valueOf 9 = .ok (.iload_n 2, 1) := by decide +kernel
theorem dX6_valueOf_10 : decode cX6_valueOf 10 = .ok (.istore_n 3, 1) := by decide +kernel
theorem dX6_valueOf_11 : decode cX6_valueOf 11 = .ok (.iload_n 1, 1) := by decide +kernel
theorem dX6_valueOf_12 : decode cX6_valueOf 12 = .ok (.iload_n 2, 1) := by decide +kernel
theorem dX6_valueOf_13 : decode cX6_valueOf 13 = .ok (.if_icmp .ge 7, 3) := by decide +kernel
theorem dX6_valueOf_16 : decode cX6_valueOf 16 = .ok (.iload_n 2, 1) := by decide +kernel
theorem dX6_valueOf_17 : decode cX6_valueOf 17 = .ok (.goto 4, 3) := by decide +kernel
theorem dX6_valueOf_20 : decode cX6_valueOf 20 = .ok (.iload_n 1, 1) := by decide +kernel
theorem dX6_valueOf_21 : decode cX6_valueOf 21 = .ok (.istore 4, 2) := by decide +kernel
theorem dX6_valueOf_23 : decode cX6_valueOf 23 = .ok (.iload_n 3, 1) := by decide +kernel
theorem dX6_valueOf_24 : decode cX6_valueOf 24 = .ok (.iconst 2, 1) := by decide +kernel
theorem dX6_valueOf_25 : decode cX6_valueOf 25 = .ok (.iload_n 0, 1) := by decide +kernel
theorem dX6_valueOf_26 : decode cX6_valueOf 26 = .ok (.imul, 1) := by decide +kernel
theorem dX6_valueOf_27 : decode cX6_valueOf 27 = .ok (.iload_n 3, 1) := by decide +kernel
theorem dX6_valueOf_28 : decode cX6_valueOf 28 = .ok (.isub, 1) := by decide +kernel
theorem dX6_valueOf_29 : decode cX6_valueOf 29 = .ok (.iconst 1, 1) := by decide +kernel
theorem dX6_valueOf_30 : decode cX6_valueOf 30 = .ok (.isub, 1) := by decide +kernel
theorem dX6_valueOf_31 : decode cX6_valueOf 31 = .ok (.imul, 1) := by decide +kernel
theorem dX6_valueOf_32 : decode cX6_valueOf 32 = .ok (.iconst 2, 1) := by decide +kernel
theorem dX6_valueOf_33 : decode cX6_valueOf 33 = .ok (.idiv, 1) := by decide +kernel
theorem dX6_valueOf_34 : decode cX6_valueOf 34 = .ok (.iload 4, 2) := by decide +kernel
theorem dX6_valueOf_36 : decode cX6_valueOf 36 = .ok (.iadd, 1) := by decide +kernel
theorem dX6_valueOf_37 : decode cX6_valueOf 37 = .ok (.iload_n 3, 1) := by decide +kernel
theorem dX6_valueOf_38 : decode cX6_valueOf 38 = .ok (.isub, 1) := by decide +kernel
theorem dX6_valueOf_39 : decode cX6_valueOf 39 = .ok (.iconst 1, 1) := by decide +kernel
theorem dX6_valueOf_40 : decode cX6_valueOf 40 = .ok (.isub, 1) := by decide +kernel
theorem dX6_valueOf_41 : decode cX6_valueOf 41 = .ok (.istore 5, 2) := by decide +kernel
theorem dX6_valueOf_43 : decode cX6_valueOf 43 = .ok (.iconst 1, 1) := by decide +kernel
theorem dX6_valueOf_44 : decode cX6_valueOf 44 = .ok (.iload_n 0, 1) := by decide +kernel
theorem dX6_valueOf_45 : decode cX6_valueOf 45 = .ok (.invokestatic 37, 3) := by decide +kernel
theorem dX6_valueOf_48 : decode cX6_valueOf 48 = .ok (.iconst 1, 1) := by decide +kernel
theorem dX6_valueOf_49 : decode cX6_valueOf 49 = .ok (.isub, 1) := by decide +kernel
theorem dX6_valueOf_50 : decode cX6_valueOf 50 = .ok (.iload 5, 2) := by decide +kernel
theorem dX6_valueOf_52 : decode cX6_valueOf 52 = .ok (.isub, 1) := by decide +kernel
theorem dX6_valueOf_53 : decode cX6_valueOf 53 = .ok (.ishl, 1) := by decide +kernel
theorem dX6_valueOf_54 : decode cX6_valueOf 54 = .ok (.ireturn, 1) := by decide +kernel
set_option maxRecDepth 20000 in
theorem ggX6_joined_X6_valueOf : GoodIn wsX6_joined wsX6_valueOf := goodIn_r _ [4, 5, 6, 3, 7] (by decide +kernel) (by decide +kernel)
set_option maxRecDepth 20000 in
theorem gX6_joined_X6_valueOf : GoodIn wsX6_joined (va_wsS RX6 41 yX6_valueOf wsX6_valueOf) := goodIn_app (goodIn_of _ (by decide +kernel)) ggX6_joined_X6_valueOf
theorem dX6_joined_0 : decode cX6_joined 0 = .ok (.iload_n 2, 1) := by decide +kernel
theorem dX6_joined_1 : decode cX6_joined 1 = .ok (.iload_n 3, 1) := by decide +kernel
theorem dX6_joined_2 : decode cX6_joined 2 = .ok (.if_icmp .eq 18, 3) := by decide +kernel
theorem dX6_joined_5 : decode cX6_joined 5 = .ok (.iload_n 1, 1) := by decide +kernel
theorem dX6_joined_6 : decode cX6_joined 6 = .ok (.iload_n 0, 1) := by decide +kernel
theorem dX6_joined_7 : decode cX6_joined 7 = .ok (.iload_n 2, 1) := by decide +kernel
theorem dX6_joined_8 : decode cX6_joined 8 = .ok (.iload_n 3, 1) := by decide +kernel
theorem dX6_joined_9 : decode cX6_joined 9 = .ok (.invokestatic 41, 3) := by decide +kernel
theorem dX6_joined_12 : decode cX6_joined 12 = .ok (.iand, 1) := by decide +kernel
theorem dX6_joined_13 : decode cX6_joined 13 = .ok (.ifCond .eq 7, 3) := by decide +kernel
theorem dX6_joined_16 : decode cX6_joined 16 = .ok (.iconst 1, 1) := by decide +kernel
theorem dX6_joined_17 : decode cX6_joined 17 = .ok (.goto 4, 3) := by decide +kernel
theorem dX6_joined_20 : decode cX6_joined 20 = .ok (.iconst 0, 1) := by decide +kernel
theorem dX6_joined_21 : decode cX6_joined 21 = .ok (.ireturn, 1) := by decide +kernel
theorem dX6_size_0 : decode cX6_size 0 = .ok (.iconst 0, 1) := by decide +kernel
theorem dX6_size_1 : decode cX6_size 1 = .ok (.istore_n 1, 1) := by decide +kernel
theorem dX6_size_2 : decode cX6_size 2 = .ok (.iconst 0, 1) := by decide +kernel
theorem dX6_size_3 : decode cX6_size 3 = .ok (.istore_n 2, 1) := by decide +kernel
theorem dX6_size_4 : decode cX6_size 4 = .ok (.iload_n 2, 1) := by decide +kernel
theorem dX6_size_5 : decode cX6_size 5 = .ok (.bipush 21, 2) := by decide +kernel
theorem dX6_size_7 : decode cX6_size 7 = .ok (.if_icmp .ge 17, 3) := by decide +kernel
theorem dX6_size_10 : decode cX6_size 10 = .ok (.iload_n 1, 1) := by decide +kernel
theorem dX6_size_11 : decode cX6_size 11 = .ok (.iload_n 0, 1) := by decide +kernel
theorem dX6_size_12 : decode cX6_size 12 = .ok (.iload_n 2, 1) := by decide +kernel
theorem dX6_size_13 : decode cX6_size 13 = .ok (.ishr, 1) := by decide +kernel
theorem dX6_size_14 : decode cX6_size 14 = .ok (.iconst 1, 1) := by decide +kernel
theorem dX6_size_15 : decode cX6_size 15 = .ok (.iand, 1) := by decide +kernel
theorem dX6_size_16 : decode cX6_size 16 = .ok (.iadd, 1) := by decide +kernel
theorem dX6_size_17 : decode cX6_size 17 = .ok (.istore_n 1, 1) := by decide +kernel
theorem dX6_size_18 : decode cX6_size 18 = .ok (.iinc 2 1, 3) := by decide +kernel
theorem dX6_size_21 : decode cX6_size 21 = .ok (.goto (-17), 3) := by decide +kernel
theorem dX6_size_24 : decode cX6_size 24 = .ok (.iload_n 1, 1) := by decide +kernel
theorem dX6_size_25 : decode cX6_size 25 = .ok (.ireturn, 1) := by decide +kernel
set_option maxRecDepth 20000 in
theorem ggX6_switched_X6_valueOf : GoodIn wsX6_switched wsX6_valueOf := goodIn_r _ [4, 5, 6, 3, 7] (by decide +kernel) (by decide +kernel)
set_option maxRecDepth 20000 in
theorem gX6_switched_X6_valueOf : GoodIn wsX6_switched (va_wsS RX6 41 yX6_valueOf wsX6_valueOf) := goodIn_app (goodIn_of _ (by decide +kernel)) ggX6_switched_X6_valueOf
theorem dX6_switched_0 : decode cX6_switched 0 = .ok (.iload_n 1, 1) := by decide +kernel
theorem dX6_switched_1 : decode cX6_switched 1 = .ok (.istore_n 3, 1) := by decide +kernel
theorem dX6_switched_2 : decode cX6_switched 2 = .ok (.iconst 0, 1) := by decide +kernel
theorem dX6_switched_3 : decode cX6_switched 3 = .ok (.istore 4, 2) := by decide +kernel
theorem dX6_switched_5 : decode cX6_switched 5 = .ok (.iload 4, 2) := by decide +kernel
theorem dX6_switched_7 : decode cX6_switched 7 = .ok (.iload_n 0, 1) := by decide +kernel
theorem dX6_switched_8 : decode cX6_switched 8 = .ok (.if_icmp .ge 57, 3) := by decide +kernel
theorem dX6_switched_11 : decode cX6_switched 11 = .ok (.iload 4, 2) := by decide +kernel
theorem dX6_switched_13 : decode cX6_switched 13 = .ok (.iconst 1, 1) := by decide +kernel
theorem dX6_switched_14 : decode cX6_switched 14 = .ok (.iadd, 1) := by decide +kernel
theorem dX6_switched_15 : decode cX6_switched 15 = .ok (.istore 5, 2) := by decide +kernel
theorem dX6_switched_17 : decode cX6_switched 17 = .ok (.iload 5, 2) := by decide +kernel
theorem dX6_switched_19 : decode cX6_switched 19 = .ok (.iload_n 0, 1) := by decide +kernel
theorem dX6_switched_20 : decode cX6_switched 20 = .ok (.if_icmp .ge 39, 3) := by decide +kernel
theorem dX6_switched_23 : decode cX6_switched 23 = .ok (.iload_n 3, 1) := by decide +kernel
theorem dX6_switched_24 : decode cX6_switched 24 = .ok (.iload_n 2, 1) := by decide +kernel
theorem dX6_switched_25 : decode cX6_switched 25 = .ok (.iload 4, 2) := by decide +kernel
theorem dX6_switched_27 : decode cX6_switched 27 = .ok (.ishr, 1) := by decide +kernel
theorem dX6_switched_28 : decode cX6_switched 28 = .ok (.iconst 1, 1) := by decide +kernel
theorem dX6_switched_29 : decode cX6_switched 29 = .ok (.iand, 1) := by decide +kernel
theorem dX6_switched_30 : decode cX6_switched 30 = .ok (.iload_n 2, 1) := by decide +kernel
theorem dX6_switched_31 : decode cX6_switched 31 = .ok (.iload 5, 2) := by decide +kernel
theorem dX6_switched_33 : decode cX6_switched 33 = .ok (.ishr, 1) := by decide +kernel
theorem dX6_switched_34 : decode cX6_switched 34 = .ok (.iconst 1, 1) := by decide +kernel
theorem dX6_switched_35 : decode cX6_switched 35 = .ok (.iand, 1) := by decide +kernel
theorem dX6_switched_36 : decode cX6_switched 36 = .ok (.if_icmp .ne 7, 3) := by decide +kernel
theorem dX6_switched_39 : decode cX6_switched 39 = .ok (.iconst 0, 1) := by decide +kernel
theorem dX6_switched_40 : decode cX6_switched 40 = .ok (.goto 11, 3) := by decide +kernel
theorem dX6_switched_43 : decode cX6_switched 43 = .ok (.iload_n 0, 1) := by decide +kernel
theorem dX6_switched_44 : decode cX6_switched 44 = .ok (.iload 4, 2) := by decide +kernel
theorem dX6_switched_46 : decode cX6_switched 46 = .ok (.iload 5, 2) := by decide +kernel
theorem dX6_switched_48 : decode cX6_switched 48 = .ok (.invokestatic 41, 3) := by decide +kernel
theorem dX6_switched_51 : decode cX6_switched 51 = .ok (.ixor, 1) := by decide +kernel
theorem dX6_switched_52 : decode cX6_switched 52 = .ok (.istore_n 3, 1) := by decide +kernel
theorem dX6_switched_53 : decode cX6_switched 53 = .ok (.iinc 5 1, 3) := by decide +kernel
theorem dX6_switched_56 : decode cX6_switched 56 = .ok (.goto (-39), 3) := by decide +kernel
theorem dX6_switched_59 : decode cX6_switched 59 = .ok (.iinc 4 1, 3) := by decide +kernel
theorem dX6_switched_62 : decode cX6_switched 62 = .ok (.goto (-57), 3) := by decide +kernel
theorem dX6_switched_65 : decode cX6_switched 65 = .ok (.iload_n 3, 1) := by decide +kernel
theorem dX6_switched_66 : decode cX6_switched 66 = .ok (.ireturn, 1) := by decide +kernel
set_option maxRecDepth 20000 in
theorem ggX6_neighbours_X6_joined : GoodIn wsX6_neighbours wsX6_joined := goodIn_r _ [4, 5, 6, 3, 7, 8, 9, 10] (by decide +kernel) (by decide +kernel)
set_option maxRecDepth 20000 in
theorem gX6_neighbours_X6_joined : GoodIn wsX6_neighbours (va_wsS RX6 45 yX6_joined wsX6_joined) := goodIn_app (goodIn_of _ (by decide +kernel)) ggX6_neighbours_X6_joined
theorem dX6_neighbours_0 : decode cX6_neighbours 0 = .ok (.iconst 0, 1) := by decide +kernel
theorem dX6_neighbours_1 : decode cX6_neighbours 1 = .ok (.istore_n 3, 1) := by decide +kernel
theorem dX6_neighbours_2 : decode cX6_neighbours 2 = .ok (.iconst 0, 1) := by decide +kernel
theorem dX6_neighbours_3 : decode cX6_neighbours 3 = .ok (.istore 4, 2) := by decide +kernel
theorem dX6_neighbours_5 : decode cX6_neighbours 5 = .ok (.iload 4, 2) := by decide +kernel
theorem dX6_neighbours_7 : decode cX6_neighbours 7 = .ok (.iload_n 0, 1) := by decide +kernel
theorem dX6_neighbours_8 : decode cX6_neighbours 8 = .ok (.if_icmp .ge 23, 3) := by decide +kernel
theorem dX6_neighbours_11 : decode cX6_neighbours 11 = .ok (.iload_n 3, 1) := by decide +kernel
theorem dX6_neighbours_12 : decode cX6_neighbours 12 = .ok (.iload_n 0, 1) := by decide +kernel
theorem dX6_neighbours_13 : decode cX6_neighbours 13 = .ok (.iload_n 1, 1) := by decide +kernel
theorem dX6_neighbours_14 : decode cX6_neighbours 14 = .ok (.iload_n 2, 1) := by decide +kernel
theorem dX6_neighbours_15 : decode cX6_neighbours 15 = .ok (.iload 4, 2) := by decide +kernel
theorem dX6_neighbours_17 : decode cX6_neighbours 17 = .ok (.invokestatic 45, 3) := by decide +kernel
theorem dX6_neighbours_20 : decode cX6_neighbours 20 = .ok (.iload 4, 2) := by decide +kernel
theorem dX6_neighbours_22 : decode cX6_neighbours 22 = .ok (.ishl, 1) := by decide +kernel
theorem dX6_neighbours_23 : decode cX6_neighbours 23 = .ok (.ior, 1) := by decide +kernel
theorem dX6_neighbours_24 : decode cX6_neighbours 24 = .ok (.istore_n 3, 1) := by decide +kernel
theorem dX6_neighbours_25 : decode cX6_neighbours 25 = .ok (.iinc 4 1, 3) := by decide +kernel
theorem dX6_neighbours_28 : decode cX6_neighbours 28 = .ok (.goto (-23), 3) := by decide +kernel
theorem dX6_neighbours_31 : decode cX6_neighbours 31 = .ok (.iload_n 3, 1) := by decide +kernel
theorem dX6_neighbours_32 : decode cX6_neighbours 32 = .ok (.ireturn, 1) := by decide +kernel
set_option maxRecDepth 20000 in
theorem ggX6_degree_X6_neighbours : GoodIn wsX6_degree wsX6_neighbours := goodIn_r _ [4, 5, 6, 3, 7, 8, 9, 10, 11, 12, 13] (by decide +kernel) (by decide +kernel)
set_option maxRecDepth 20000 in
theorem gX6_degree_X6_neighbours : GoodIn wsX6_degree (va_wsS RX6 49 yX6_neighbours wsX6_neighbours) := goodIn_app (goodIn_of _ (by decide +kernel)) ggX6_degree_X6_neighbours
set_option maxRecDepth 20000 in
theorem ggX6_degree_X6_size : GoodIn wsX6_degree wsX6_size := goodIn_r _ [16] (by decide +kernel) (by decide +kernel)
set_option maxRecDepth 20000 in
theorem gX6_degree_X6_size : GoodIn wsX6_degree (va_wsS RX6 52 yX6_size wsX6_size) := goodIn_app (goodIn_of _ (by decide +kernel)) ggX6_degree_X6_size
theorem dX6_degree_0 : decode cX6_degree 0 = .ok (.iload_n 0, 1) := by decide +kernel
theorem dX6_degree_1 : decode cX6_degree 1 = .ok (.iload_n 1, 1) := by decide +kernel
theorem dX6_degree_2 : decode cX6_degree 2 = .ok (.iload_n 2, 1) := by decide +kernel
theorem dX6_degree_3 : decode cX6_degree 3 = .ok (.invokestatic 49, 3) := by decide +kernel
theorem dX6_degree_6 : decode cX6_degree 6 = .ok (.invokestatic 52, 3) := by decide +kernel
theorem dX6_degree_9 : decode cX6_degree 9 = .ok (.ireturn, 1) := by decide +kernel
set_option maxRecDepth 20000 in
theorem ggX6_alone_X6_neighbours : GoodIn wsX6_alone wsX6_neighbours := goodIn_r _ [4, 5, 6, 3, 7, 8, 9, 10, 11, 12, 13] (by decide +kernel) (by decide +kernel)
set_option maxRecDepth 20000 in
theorem gX6_alone_X6_neighbours : GoodIn wsX6_alone (va_wsS RX6 49 yX6_neighbours wsX6_neighbours) := goodIn_app (goodIn_of _ (by decide +kernel)) ggX6_alone_X6_neighbours
set_option maxRecDepth 20000 in
theorem ggX6_alone_X6_switched : GoodIn wsX6_alone wsX6_switched := goodIn_r _ [16, 8, 9, 3, 10, 11, 12, 13] (by decide +kernel) (by decide +kernel)
set_option maxRecDepth 20000 in
theorem gX6_alone_X6_switched : GoodIn wsX6_alone (va_wsS RX6 55 yX6_switched wsX6_switched) := goodIn_app (goodIn_of _ (by decide +kernel)) ggX6_alone_X6_switched
theorem dX6_alone_0 : decode cX6_alone 0 = .ok (.iload_n 0, 1) := by decide +kernel
theorem dX6_alone_1 : decode cX6_alone 1 = .ok (.iload_n 1, 1) := by decide +kernel
theorem dX6_alone_2 : decode cX6_alone 2 = .ok (.iload_n 0, 1) := by decide +kernel
theorem dX6_alone_3 : decode cX6_alone 3 = .ok (.iload_n 1, 1) := by decide +kernel
theorem dX6_alone_4 : decode cX6_alone 4 = .ok (.iload_n 2, 1) := by decide +kernel
theorem dX6_alone_5 : decode cX6_alone 5 = .ok (.invokestatic 49, 3) := by decide +kernel
theorem dX6_alone_8 : decode cX6_alone 8 = .ok (.invokestatic 55, 3) := by decide +kernel
theorem dX6_alone_11 : decode cX6_alone 11 = .ok (.ireturn, 1) := by decide +kernel
set_option maxRecDepth 20000 in
theorem ggX6_isOdd_X6_joined : GoodIn wsX6_isOdd wsX6_joined := goodIn_r _ [4, 5, 6, 3, 7, 8, 9, 10] (by decide +kernel) (by decide +kernel)
set_option maxRecDepth 20000 in
theorem gX6_isOdd_X6_joined : GoodIn wsX6_isOdd (va_wsS RX6 45 yX6_joined wsX6_joined) := goodIn_app (goodIn_of _ (by decide +kernel)) ggX6_isOdd_X6_joined
theorem dX6_isOdd_0 : decode cX6_isOdd 0 = .ok (.iload_n 0, 1) := by decide +kernel
theorem dX6_isOdd_1 : decode cX6_isOdd 1 = .ok (.iload_n 1, 1) := by decide +kernel
theorem dX6_isOdd_2 : decode cX6_isOdd 2 = .ok (.iload_n 2, 1) := by decide +kernel
theorem dX6_isOdd_3 : decode cX6_isOdd 3 = .ok (.iload_n 3, 1) := by decide +kernel
theorem dX6_isOdd_4 : decode cX6_isOdd 4 = .ok (.invokestatic 45, 3) := by decide +kernel
theorem dX6_isOdd_7 : decode cX6_isOdd 7 = .ok (.iload_n 0, 1) := by decide +kernel
theorem dX6_isOdd_8 : decode cX6_isOdd 8 = .ok (.iload_n 1, 1) := by decide +kernel
theorem dX6_isOdd_9 : decode cX6_isOdd 9 = .ok (.iload_n 2, 1) := by decide +kernel
theorem dX6_isOdd_10 : decode cX6_isOdd 10 = .ok (.iload 4, 2) := by decide +kernel
theorem dX6_isOdd_12 : decode cX6_isOdd 12 = .ok (.invokestatic 45, 3) := by decide +kernel
theorem dX6_isOdd_15 : decode cX6_isOdd 15 = .ok (.iadd, 1) := by decide +kernel
theorem dX6_isOdd_16 : decode cX6_isOdd 16 = .ok (.iload_n 0, 1) := by decide +kernel
theorem dX6_isOdd_17 : decode cX6_isOdd 17 = .ok (.iload_n 1, 1) := by decide +kernel
theorem dX6_isOdd_18 : decode cX6_isOdd 18 = .ok (.iload_n 3, 1) := by decide +kernel
theorem dX6_isOdd_19 : decode cX6_isOdd 19 = .ok (.iload 4, 2) := by decide +kernel
theorem dX6_isOdd_21 : decode cX6_isOdd 21 = .ok (.invokestatic 45, 3) := by decide +kernel
theorem dX6_isOdd_24 : decode cX6_isOdd 24 = .ok (.iadd, 1) := by decide +kernel
theorem dX6_isOdd_25 : decode cX6_isOdd 25 = .ok (.iconst 2, 1) := by decide +kernel
theorem dX6_isOdd_26 : decode cX6_isOdd 26 = .ok (.irem, 1) := by decide +kernel
theorem dX6_isOdd_27 : decode cX6_isOdd 27 = .ok (.iconst 1, 1) := by decide +kernel
theorem dX6_isOdd_28 : decode cX6_isOdd 28 = .ok (.if_icmp .ne 7, 3) := by decide +kernel
theorem dX6_isOdd_31 : decode cX6_isOdd 31 = .ok (.iconst 1, 1) := by decide +kernel
theorem dX6_isOdd_32 : decode cX6_isOdd 32 = .ok (.goto 4, 3) := by decide +kernel
theorem dX6_isOdd_35 : decode cX6_isOdd 35 = .ok (.iconst 0, 1) := by decide +kernel
theorem dX6_isOdd_36 : decode cX6_isOdd 36 = .ok (.ireturn, 1) := by decide +kernel
set_option maxRecDepth 20000 in
theorem ggX6_oddOfPair_X6_isOdd : GoodIn wsX6_oddOfPair wsX6_isOdd := goodIn_r _ [4, 5, 6, 3, 7, 8, 9, 10, 11, 12, 13] (by decide +kernel) (by decide +kernel)
set_option maxRecDepth 20000 in
theorem gX6_oddOfPair_X6_isOdd : GoodIn wsX6_oddOfPair (va_wsS RX6 58 yX6_isOdd wsX6_isOdd) := goodIn_app (goodIn_of _ (by decide +kernel)) ggX6_oddOfPair_X6_isOdd
theorem dX6_oddOfPair_0 : decode cX6_oddOfPair 0 = .ok (.iconst 0, 1) := by decide +kernel
theorem dX6_oddOfPair_1 : decode cX6_oddOfPair 1 = .ok (.istore 4, 2) := by decide +kernel
theorem dX6_oddOfPair_3 : decode cX6_oddOfPair 3 = .ok (.iconst 0, 1) := by decide +kernel
theorem dX6_oddOfPair_4 : decode cX6_oddOfPair 4 = .ok (.istore 5, 2) := by decide +kernel
theorem dX6_oddOfPair_6 : decode cX6_oddOfPair 6 = .ok (.iload 5, 2) := by decide +kernel
theorem dX6_oddOfPair_8 : decode cX6_oddOfPair 8 = .ok (.iload_n 0, 1) := by decide +kernel
theorem dX6_oddOfPair_9 : decode cX6_oddOfPair 9 = .ok (.if_icmp .ge 43, 3) := by decide +kernel
theorem dX6_oddOfPair_12 : decode cX6_oddOfPair 12 = .ok (.iload 4, 2) := by decide +kernel
theorem dX6_oddOfPair_14 : decode cX6_oddOfPair 14 = .ok (.iload 5, 2) := by decide +kernel
theorem dX6_oddOfPair_16 : decode cX6_oddOfPair 16 = .ok (.iload_n 2, 1) := by decide +kernel
theorem dX6_oddOfPair_17 : decode cX6_oddOfPair 17 = .ok (.if_icmp .eq 25, 3) := by decide +kernel
theorem dX6_oddOfPair_20 : decode cX6_oddOfPair 20 = .ok (.iload 5, 2) := by decide +kernel
theorem dX6_oddOfPair_22 : decode cX6_oddOfPair 22 = .ok (.iload_n 3, 1) := by decide +kernel
theorem dX6_oddOfPair_23 : decode cX6_oddOfPair 23 = .ok (.if_icmp .eq 19, 3) := by decide +kernel
theorem dX6_oddOfPair_26 : decode cX6_oddOfPair 26 = .ok (.iload_n 0, 1) := by decide +kernel
theorem dX6_oddOfPair_27 : decode cX6_oddOfPair 27 = .ok (.iload_n 1, 1) := by decide +kernel
theorem dX6_oddOfPair_28 : decode cX6_oddOfPair 28 = .ok (.iload_n 2, 1) := by decide +kernel
theorem dX6_oddOfPair_29 : decode cX6_oddOfPair 29 = .ok (.iload_n 3, 1) := by decide +kernel
theorem dX6_oddOfPair_30 : decode cX6_oddOfPair 30 = .ok (.iload 5, 2) := by decide +kernel
theorem dX6_oddOfPair_32 : decode cX6_oddOfPair 32 = .ok (.invokestatic 58, 3) := by decide +kernel
theorem dX6_oddOfPair_35 : decode cX6_oddOfPair 35 = .ok (.ifCond .eq 7, 3) := by decide +kernel
theorem dX6_oddOfPair_38 : decode cX6_oddOfPair 38 = .ok (.iconst 1, 1) := by decide +kernel
theorem dX6_oddOfPair_39 : decode cX6_oddOfPair 39 = .ok (.goto 4, 3) := by decide +kernel
theorem dX6_oddOfPair_42 : decode cX6_oddOfPair 42 = .ok (.iconst 0, 1) := by decide +kernel
theorem dX6_oddOfPair_43 : decode cX6_oddOfPair 43 = .ok (.iadd, 1) := by decide +kernel
theorem dX6_oddOfPair_44 : decode cX6_oddOfPair 44 = .ok (.istore 4, 2) := by decide +kernel
theorem dX6_oddOfPair_46 : decode cX6_oddOfPair 46 = .ok (.iinc 5 1, 3) := by decide +kernel
theorem dX6_oddOfPair_49 : decode cX6_oddOfPair 49 = .ok (.goto (-43), 3) := by decide +kernel
theorem dX6_oddOfPair_52 : decode cX6_oddOfPair 52 = .ok (.iload 4, 2) := by decide +kernel
theorem dX6_oddOfPair_54 : decode cX6_oddOfPair 54 = .ok (.ireturn, 1) := by decide +kernel
set_option maxRecDepth 20000 in
theorem ggX6_oddOfNode_X6_oddOfPair : GoodIn wsX6_oddOfNode wsX6_oddOfPair := goodIn_r _ [4, 5, 6, 3, 7, 8, 9, 10, 11, 12, 13, 14, 15, 16] (by decide +kernel) (by decide +kernel)
set_option maxRecDepth 20000 in
theorem gX6_oddOfNode_X6_oddOfPair : GoodIn wsX6_oddOfNode (va_wsS RX6 62 yX6_oddOfPair wsX6_oddOfPair) := goodIn_app (goodIn_of _ (by decide +kernel)) ggX6_oddOfNode_X6_oddOfPair
theorem dX6_oddOfNode_0 : decode cX6_oddOfNode 0 = .ok (.iconst 0, 1) := by decide +kernel
theorem dX6_oddOfNode_1 : decode cX6_oddOfNode 1 = .ok (.istore_n 3, 1) := by decide +kernel
theorem dX6_oddOfNode_2 : decode cX6_oddOfNode 2 = .ok (.iconst 0, 1) := by decide +kernel
theorem dX6_oddOfNode_3 : decode cX6_oddOfNode 3 = .ok (.istore 4, 2) := by decide +kernel
theorem dX6_oddOfNode_5 : decode cX6_oddOfNode 5 = .ok (.iload 4, 2) := by decide +kernel
theorem dX6_oddOfNode_7 : decode cX6_oddOfNode 7 = .ok (.iload_n 0, 1) := by decide +kernel
theorem dX6_oddOfNode_8 : decode cX6_oddOfNode 8 = .ok (.if_icmp .ge 30, 3) := by decide +kernel
theorem dX6_oddOfNode_11 : decode cX6_oddOfNode 11 = .ok (.iload_n 3, 1) := by decide +kernel
theorem dX6_oddOfNode_12 : decode cX6_oddOfNode 12 = .ok (.iload 4, 2) := by decide +kernel
theorem dX6_oddOfNode_14 : decode cX6_oddOfNode 14 = .ok (.iload_n 2, 1) := by decide +kernel
theorem dX6_oddOfNode_15 : decode cX6_oddOfNode 15 = .ok (.if_icmp .eq 14, 3) := by decide +kernel
theorem dX6_oddOfNode_18 : decode cX6_oddOfNode 18 = .ok (.iload_n 0, 1) := by decide +kernel
theorem dX6_oddOfNode_19 : decode cX6_oddOfNode 19 = .ok (.iload_n 1, 1) := by decide +kernel
theorem dX6_oddOfNode_20 : decode cX6_oddOfNode 20 = .ok (.iload_n 2, 1) := by decide +kernel
theorem dX6_oddOfNode_21 : decode cX6_oddOfNode 21 = .ok (.iload 4, 2) := by decide +kernel
theorem dX6_oddOfNode_23 : decode cX6_oddOfNode 23 = .ok (.invokestatic 62, 3) := by decide +kernel
theorem dX6_oddOfNode_26 : decode cX6_oddOfNode 26 = .ok (.goto 4, 3) := by decide +kernel
theorem dX6_oddOfNode_29 : decode cX6_oddOfNode 29 = .ok (.iconst 0, 1) := by decide +kernel
theorem dX6_oddOfNode_30 : decode cX6_oddOfNode 30 = .ok (.iadd, 1) := by decide +kernel
theorem dX6_oddOfNode_31 : decode cX6_oddOfNode 31 = .ok (.istore_n 3, 1) := by decide +kernel
theorem dX6_oddOfNode_32 : decode cX6_oddOfNode 32 = .ok (.iinc 4 1, 3) := by decide +kernel
theorem dX6_oddOfNode_35 : decode cX6_oddOfNode 35 = .ok (.goto (-30), 3) := by decide +kernel
theorem dX6_oddOfNode_38 : decode cX6_oddOfNode 38 = .ok (.iload_n 3, 1) := by decide +kernel
theorem dX6_oddOfNode_39 : decode cX6_oddOfNode 39 = .ok (.iconst 2, 1) := by decide +kernel
theorem dX6_oddOfNode_40 : decode cX6_oddOfNode 40 = .ok (.idiv, 1) := by decide +kernel
theorem dX6_oddOfNode_41 : decode cX6_oddOfNode 41 = .ok (.ireturn, 1) := by decide +kernel
set_option maxRecDepth 20000 in
theorem ggX6_oddOfNet_X6_oddOfNode : GoodIn wsX6_oddOfNet wsX6_oddOfNode := goodIn_r _ [4, 5, 6, 3, 7, 8, 9, 10, 11, 12, 13, 14, 15, 16, 17, 18, 19] (by decide +kernel) (by decide +kernel)
set_option maxRecDepth 20000 in
theorem gX6_oddOfNet_X6_oddOfNode : GoodIn wsX6_oddOfNet (va_wsS RX6 65 yX6_oddOfNode wsX6_oddOfNode) := goodIn_app (goodIn_of _ (by decide +kernel)) ggX6_oddOfNet_X6_oddOfNode
theorem dX6_oddOfNet_0 : decode cX6_oddOfNet 0 = .ok (.iconst 0, 1) := by decide +kernel
theorem dX6_oddOfNet_1 : decode cX6_oddOfNet 1 = .ok (.istore_n 2, 1) := by decide +kernel
theorem dX6_oddOfNet_2 : decode cX6_oddOfNet 2 = .ok (.iconst 0, 1) := by decide +kernel
theorem dX6_oddOfNet_3 : decode cX6_oddOfNet 3 = .ok (.istore_n 3, 1) := by decide +kernel
theorem dX6_oddOfNet_4 : decode cX6_oddOfNet 4 = .ok (.iload_n 3, 1) := by decide +kernel
theorem dX6_oddOfNet_5 : decode cX6_oddOfNet 5 = .ok (.iload_n 0, 1) := by decide +kernel
theorem dX6_oddOfNet_6 : decode cX6_oddOfNet 6 = .ok (.if_icmp .ge 18, 3) := by decide +kernel
theorem dX6_oddOfNet_9 : decode cX6_oddOfNet 9 = .ok (.iload_n 2, 1) := by decide +kernel
theorem dX6_oddOfNet_10 : decode cX6_oddOfNet 10 = .ok (.iload_n 0, 1) := by decide +kernel
theorem dX6_oddOfNet_11 : decode cX6_oddOfNet 11 = .ok (.iload_n 1, 1) := by decide +kernel
theorem dX6_oddOfNet_12 : decode cX6_oddOfNet 12 = .ok (.iload_n 3, 1) := by decide +kernel
theorem dX6_oddOfNet_13 : decode cX6_oddOfNet 13 = .ok (.invokestatic 65, 3) := by decide +kernel
theorem dX6_oddOfNet_16 : decode cX6_oddOfNet 16 = .ok (.iadd, 1) := by decide +kernel
theorem dX6_oddOfNet_17 : decode cX6_oddOfNet 17 = .ok (.istore_n 2, 1) := by decide +kernel
theorem dX6_oddOfNet_18 : decode cX6_oddOfNet 18 = .ok (.iinc 3 1, 3) := by decide +kernel
theorem dX6_oddOfNet_21 : decode cX6_oddOfNet 21 = .ok (.goto (-17), 3) := by decide +kernel
theorem dX6_oddOfNet_24 : decode cX6_oddOfNet 24 = .ok (.iload_n 2, 1) := by decide +kernel
theorem dX6_oddOfNet_25 : decode cX6_oddOfNet 25 = .ok (.iconst 3, 1) := by decide +kernel
theorem dX6_oddOfNet_26 : decode cX6_oddOfNet 26 = .ok (.idiv, 1) := by decide +kernel
theorem dX6_oddOfNet_27 : decode cX6_oddOfNet 27 = .ok (.ireturn, 1) := by decide +kernel
set_option maxRecDepth 20000 in
theorem ggX6_without_X6_joined : GoodIn wsX6_without wsX6_joined := goodIn_r _ [4, 5, 6, 3, 7, 8, 9, 10] (by decide +kernel) (by decide +kernel)
set_option maxRecDepth 20000 in
theorem gX6_without_X6_joined : GoodIn wsX6_without (va_wsS RX6 45 yX6_joined wsX6_joined) := goodIn_app (goodIn_of _ (by decide +kernel)) ggX6_without_X6_joined
set_option maxRecDepth 20000 in
theorem ggX6_without_X6_valueOf : GoodIn wsX6_without wsX6_valueOf := goodIn_r _ [7, 8, 9, 3, 10] (by decide +kernel) (by decide +kernel)
set_option maxRecDepth 20000 in
theorem gX6_without_X6_valueOf : GoodIn wsX6_without (va_wsS RX6 41 yX6_valueOf wsX6_valueOf) := goodIn_app (goodIn_of _ (by decide +kernel)) ggX6_without_X6_valueOf
theorem dX6_without_0 : decode cX6_without 0 = .ok (.iconst 0, 1) := by decide +kernel
theorem dX6_without_1 : decode cX6_without 1 = .ok (.istore_n 3, 1) := by decide +kernel
theorem dX6_without_2 : decode cX6_without 2 = .ok (.iconst 0, 1) := by decide +kernel
theorem dX6_without_3 : decode cX6_without 3 = .ok (.istore 4, 2) := by decide +kernel
theorem dX6_without_5 : decode cX6_without 5 = .ok (.iload 4, 2) := by decide +kernel
theorem dX6_without_7 : decode cX6_without 7 = .ok (.iload_n 0, 1) := by decide +kernel
theorem dX6_without_8 : decode cX6_without 8 = .ok (.if_icmp .ge 91, 3) := by decide +kernel
theorem dX6_without_11 : decode cX6_without 11 = .ok (.iload 4, 2) := by decide +kernel
theorem dX6_without_13 : decode cX6_without 13 = .ok (.iconst 1, 1) := by decide +kernel
theorem dX6_without_14 : decode cX6_without 14 = .ok (.iadd, 1) := by decide +kernel
theorem dX6_without_15 : decode cX6_without 15 = .ok (.istore 5, 2) := by decide +kernel
theorem dX6_without_17 : decode cX6_without 17 = .ok (.iload 5, 2) := by decide +kernel
theorem dX6_without_19 : decode cX6_without 19 = .ok (.iload_n 0, 1) := by decide +kernel
theorem dX6_without_20 : decode cX6_without 20 = .ok (.if_icmp .ge 73, 3) := by decide +kernel
theorem dX6_without_23 : decode cX6_without 23 = .ok (.iload 4, 2) := by decide +kernel
theorem dX6_without_25 : decode cX6_without 25 = .ok (.iload_n 2, 1) := by decide +kernel
theorem dX6_without_26 : decode cX6_without 26 = .ok (.if_icmp .eq 61, 3) := by decide +kernel
theorem dX6_without_29 : decode cX6_without 29 = .ok (.iload 5, 2) := by decide +kernel
theorem dX6_without_31 : decode cX6_without 31 = .ok (.iload_n 2, 1) := by decide +kernel
theorem dX6_without_32 : decode cX6_without 32 = .ok (.if_icmp .eq 55, 3) := by decide +kernel
theorem dX6_without_35 : decode cX6_without 35 = .ok (.iload_n 0, 1) := by decide +kernel
theorem dX6_without_36 : decode cX6_without 36 = .ok (.iload_n 1, 1) := by decide +kernel
theorem dX6_without_37 : decode cX6_without 37 = .ok (.iload 4, 2) := by decide +kernel
theorem dX6_without_39 : decode cX6_without 39 = .ok (.iload 5, 2) := by decide +kernel
theorem dX6_without_41 : decode cX6_without 41 = .ok (.invokestatic 45, 3) := by decide +kernel
theorem dX6_without_44 : decode cX6_without 44 = .ok (.iconst 1, 1) := by decide +kernel
theorem dX6_without_45 : decode cX6_without 45 = .ok (.if_icmp .ne 42, 3) := by decide +kernel
theorem dX6_without_48 : decode cX6_without 48 = .ok (.iload_n 3, 1) := by decide +kernel
theorem dX6_without_49 : decode cX6_without 49 = .ok (.iload_n 0, 1) := by decide +kernel
theorem dX6_without_50 : decode cX6_without 50 = .ok (.iconst 1, 1) := by decide +kernel
theorem dX6_without_51 : decode cX6_without 51 = .ok (.isub, 1) := by decide +kernel
theorem dX6_without_52 : decode cX6_without 52 = .ok (.iload 4, 2) := by decide +kernel
theorem dX6_without_54 : decode cX6_without 54 = .ok (.iload_n 2, 1) := by decide +kernel
theorem dX6_without_55 : decode cX6_without 55 = .ok (.if_icmp .le 10, 3) := by decide +kernel
theorem dX6_without_58 : decode cX6_without 58 = .ok (.iload 4, 2) := by decide +kernel
theorem dX6_without_60 : decode cX6_without 60 = .ok (.iconst 1, 1) := by decide +kernel
theorem dX6_without_61 : decode cX6_without 61 = .ok (.isub, 1) := by decide +kernel
theorem dX6_without_62 : decode cX6_without 62 = .ok (.goto 5, 3) := by decide +kernel
theorem dX6_without_65 : decode cX6_without 65 = .ok (.iload 4, 2) := by decide +kernel
theorem dX6_without_67 : decode cX6_without 67 = .ok (.iload 5, 2) := by decide +kernel
theorem dX6_without_69 : decode cX6_without 69 = .ok (.iload_n 2, 1) := by decide +kernel
theorem dX6_without_70 : decode cX6_without 70 = .ok (.if_icmp .le 10, 3) := by decide +kernel
theorem dX6_without_73 : decode cX6_without 73 = .ok (.iload 5, 2) := by decide +kernel
theorem dX6_without_75 : decode cX6_without 75 = .ok (.iconst 1, 1) := by decide +kernel
theorem dX6_without_76 : decode cX6_without 76 = .ok (.isub, 1) := by decide +kernel
theorem dX6_without_77 : decode cX6_without 77 = .ok (.goto 5, 3) := by decide +kernel
theorem dX6_without_80 : decode cX6_without 80 = .ok (.iload 5, 2) := by decide +kernel
theorem dX6_without_82 : decode cX6_without 82 = .ok (.invokestatic 41, 3) := by decide +kernel
theorem dX6_without_85 : decode cX6_without 85 = .ok (.ior, 1) := by decide +kernel
theorem dX6_without_86 : decode cX6_without 86 = .ok (.istore_n 3, 1) := by decide +kernel
theorem dX6_without_87 : decode cX6_without 87 = .ok (.iinc 5 1, 3) := by decide +kernel
theorem dX6_without_90 : decode cX6_without 90 = .ok (.goto (-73), 3) := by decide +kernel
theorem dX6_without_93 : decode cX6_without 93 = .ok (.iinc 4 1, 3) := by decide +kernel
theorem dX6_without_96 : decode cX6_without 96 = .ok (.goto (-91), 3) := by decide +kernel
theorem dX6_without_99 : decode cX6_without 99 = .ok (.iload_n 3, 1) := by decide +kernel
theorem dX6_without_100 : decode cX6_without 100 = .ok (.ireturn, 1) := by decide +kernel
theorem dX6_netOf_0 : decode cX6_netOf 0 = .ok (.aload_n 0, 1) := by decide +kernel
theorem dX6_netOf_1 : decode cX6_netOf 1 = .ok (.getfield 7, 3) := by decide +kernel
theorem dX6_netOf_4 : decode cX6_netOf 4 = .ok (.iconst 1, 1) := by decide +kernel
theorem dX6_netOf_5 : decode cX6_netOf 5 = .ok (.iload_n 1, 1) := by decide +kernel
theorem dX6_netOf_6 : decode cX6_netOf 6 = .ok (.iadd, 1) := by decide +kernel
theorem dX6_netOf_7 : decode cX6_netOf 7 = .ok (.iaload, 1) := by decide +kernel
theorem dX6_netOf_8 : decode cX6_netOf 8 = .ok (.ireturn, 1) := by decide +kernel
theorem dX6_many_0 : decode cX6_many 0 = .ok (.aload_n 0, 1) := by decide +kernel
theorem dX6_many_1 : decode cX6_many 1 = .ok (.getfield 7, 3) := by decide +kernel
theorem dX6_many_4 : decode cX6_many 4 = .ok (.iconst 0, 1) := by decide +kernel
theorem dX6_many_5 : decode cX6_many 5 = .ok (.iaload, 1) := by decide +kernel
theorem dX6_many_6 : decode cX6_many 6 = .ok (.ireturn, 1) := by decide +kernel
set_option maxRecDepth 20000 in
theorem ggX6_nodes_X6_in : GoodIn wsX6_nodes wsX6_in := goodIn_r _ [5] (by decide +kernel) (by decide +kernel)
set_option maxRecDepth 20000 in
theorem gX6_nodes_X6_in : GoodIn wsX6_nodes (va_wsS RX6 33 yX6_in wsX6_in) := goodIn_app (goodIn_of _ (by decide +kernel)) ggX6_nodes_X6_in
set_option maxRecDepth 20000 in
theorem ggX6_nodes_X6_many : GoodIn wsX6_nodes wsX6_many := goodIn_r _ [9, 1, 10, 11, 12, 13, 14, 15, 16, 17, 18, 19, 20, 21, 22] (by decide +kernel) (by decide +kernel)
set_option maxRecDepth 20000 in
theorem gX6_nodes_X6_many : GoodIn wsX6_nodes (wsV RX6 68 RX6 yX6_many wsX6_many) := goodIn_app (goodIn_of _ (by decide +kernel)) ggX6_nodes_X6_many
theorem dX6_nodes_0 : decode cX6_nodes 0 = .ok (.iload_n 1, 1) := by decide +kernel
theorem dX6_nodes_1 : decode cX6_nodes 1 = .ok (.iconst 3, 1) := by decide +kernel
theorem dX6_nodes_2 : decode cX6_nodes 2 = .ok (.bipush 7, 2) := by decide +kernel
theorem dX6_nodes_4 : decode cX6_nodes 4 = .ok (.invokestatic 33, 3) := by decide +kernel
theorem dX6_nodes_7 : decode cX6_nodes 7 = .ok (.ifCond .ne 6, 3) := by decide +kernel
theorem dX6_nodes_10 : decode cX6_nodes 10 = .ok (.bipush (-2), 2) := by decide +kernel
theorem dX6_nodes_12 : decode cX6_nodes 12 = .ok (.ireturn, 1) := by decide +kernel
theorem dX6_nodes_13 : decode cX6_nodes 13 = .ok (.aload_n 0, 1) := by decide +kernel
theorem dX6_nodes_14 : decode cX6_nodes 14 = .ok (.invokevirtual 68, 3) := by decide +kernel
theorem dX6_nodes_17 : decode cX6_nodes 17 = .ok (.istore_n 2, 1) := by decide +kernel
theorem dX6_nodes_18 : decode cX6_nodes 18 = .ok (.aload_n 0, 1) := by decide +kernel
theorem dX6_nodes_19 : decode cX6_nodes 19 = .ok (.getfield 7, 3) := by decide +kernel
theorem dX6_nodes_22 : decode cX6_nodes 22 = .ok (.iconst 0, 1) := by decide +kernel
theorem dX6_nodes_23 : decode cX6_nodes 23 = .ok (.iload_n 1, 1) := by decide +kernel
theorem dX6_nodes_24 : decode cX6_nodes 24 = .ok (.iastore, 1) := by decide +kernel
theorem dX6_nodes_25 : decode cX6_nodes 25 = .ok (.iconst 0, 1) := by decide +kernel
theorem dX6_nodes_26 : decode cX6_nodes 26 = .ok (.istore_n 3, 1) := by decide +kernel
theorem dX6_nodes_27 : decode cX6_nodes 27 = .ok (.iload_n 3, 1) := by decide +kernel
theorem dX6_nodes_28 : decode cX6_nodes 28 = .ok (.iconst 3, 1) := by decide +kernel
theorem dX6_nodes_29 : decode cX6_nodes 29 = .ok (.if_icmp .ge 18, 3) := by decide +kernel
theorem dX6_nodes_32 : decode cX6_nodes 32 = .ok (.aload_n 0, 1) := by decide +kernel
theorem dX6_nodes_33 : decode cX6_nodes 33 = .ok (.getfield 7, 3) := by decide +kernel
theorem dX6_nodes_36 : decode cX6_nodes 36 = .ok (.iconst 1, 1) := by decide +kernel
theorem dX6_nodes_37 : decode cX6_nodes 37 = .ok (.iload_n 3, 1) := by decide +kernel
theorem dX6_nodes_38 : decode cX6_nodes 38 = .ok (.iadd, 1) := by decide +kernel
theorem dX6_nodes_39 : decode cX6_nodes 39 = .ok (.iconst 0, 1) := by decide +kernel
theorem dX6_nodes_40 : decode cX6_nodes 40 = .ok (.iastore, 1) := by decide +kernel
theorem dX6_nodes_41 : decode cX6_nodes 41 = .ok (.iinc 3 1, 3) := by decide +kernel
theorem dX6_nodes_44 : decode cX6_nodes 44 = .ok (.goto (-17), 3) := by decide +kernel
theorem dX6_nodes_47 : decode cX6_nodes 47 = .ok (.iload_n 2, 1) := by decide +kernel
theorem dX6_nodes_48 : decode cX6_nodes 48 = .ok (.ireturn, 1) := by decide +kernel
set_option maxRecDepth 20000 in
theorem ggX6_join_X6_isSlot : GoodIn wsX6_join wsX6_isSlot := goodIn_r _ [5, 6, 7, 4, 8] (by decide +kernel) (by decide +kernel)
set_option maxRecDepth 20000 in
theorem gX6_join_X6_isSlot : GoodIn wsX6_join (va_wsS RX6 72 yX6_isSlot wsX6_isSlot) := goodIn_app (goodIn_of _ (by decide +kernel)) ggX6_join_X6_isSlot
set_option maxRecDepth 20000 in
theorem ggX6_join_X6_isNode : GoodIn wsX6_join wsX6_isNode := goodIn_r _ [12, 1, 6, 7, 4, 8, 30, 31, 32, 33, 34, 35, 36, 37, 38, 39, 40, 41, 42] (by decide +kernel) (by decide +kernel)
set_option maxRecDepth 20000 in
theorem gX6_join_X6_isNode : GoodIn wsX6_join (wsV RX6 76 RX6 yX6_isNode wsX6_isNode) := goodIn_app (goodIn_of _ (by decide +kernel)) ggX6_join_X6_isNode
set_option maxRecDepth 20000 in
theorem ggX6_join_X6_in : GoodIn wsX6_join wsX6_in := goodIn_r _ [8] (by decide +kernel) (by decide +kernel)
set_option maxRecDepth 20000 in
theorem gX6_join_X6_in : GoodIn wsX6_join (va_wsS RX6 33 yX6_in wsX6_in) := goodIn_app (goodIn_of _ (by decide +kernel)) ggX6_join_X6_in
set_option maxRecDepth 20000 in
theorem ggX6_join_X6_many : GoodIn wsX6_join wsX6_many := goodIn_r _ [16, 1, 30, 31, 32, 33, 34, 35, 36, 37, 38, 39, 40, 41, 42] (by decide +kernel) (by decide +kernel)
set_option maxRecDepth 20000 in
theorem gX6_join_X6_many : GoodIn wsX6_join (wsV RX6 68 RX6 yX6_many wsX6_many) := goodIn_app (goodIn_of _ (by decide +kernel)) ggX6_join_X6_many
set_option maxRecDepth 20000 in
theorem ggX6_join_X6_valueOf : GoodIn wsX6_join wsX6_valueOf := goodIn_r _ [19, 20, 21, 4, 22] (by decide +kernel) (by decide +kernel)
set_option maxRecDepth 20000 in
theorem gX6_join_X6_valueOf : GoodIn wsX6_join (va_wsS RX6 41 yX6_valueOf wsX6_valueOf) := goodIn_app (goodIn_of _ (by decide +kernel)) ggX6_join_X6_valueOf
set_option maxRecDepth 20000 in
theorem ggX6_join_X6_netOf : GoodIn wsX6_join wsX6_netOf := goodIn_r _ [26, 1, 30, 31, 32, 33, 34, 35, 36, 37, 38, 39, 40, 41, 42] (by decide +kernel) (by decide +kernel)
set_option maxRecDepth 20000 in
theorem gX6_join_X6_netOf : GoodIn wsX6_join (wsV RX6 79 RX6 yX6_netOf wsX6_netOf) := goodIn_app (goodIn_of _ (by decide +kernel)) ggX6_join_X6_netOf
set_option maxRecDepth 20000 in
theorem ggX6_join_X6_size : GoodIn wsX6_join wsX6_size := goodIn_r _ [29] (by decide +kernel) (by decide +kernel)
set_option maxRecDepth 20000 in
theorem gX6_join_X6_size : GoodIn wsX6_join (va_wsS RX6 52 yX6_size wsX6_size) := goodIn_app (goodIn_of _ (by decide +kernel)) ggX6_join_X6_size
theorem dX6_join_0 : decode cX6_join 0 = .ok (.iload_n 1, 1) := by decide +kernel
theorem dX6_join_1 : decode cX6_join 1 = .ok (.invokestatic 72, 3) := by decide +kernel
theorem dX6_join_4 : decode cX6_join 4 = .ok (.ifCond .eq 19, 3) := by decide +kernel
theorem dX6_join_7 : decode cX6_join 7 = .ok (.aload_n 0, 1) := by decide +kernel
theorem dX6_join_8 : decode cX6_join 8 = .ok (.iload_n 2, 1) := by decide +kernel
theorem dX6_join_9 : decode cX6_join 9 = .ok (.invokevirtual 76, 3) := by decide +kernel
theorem dX6_join_12 : decode cX6_join 12 = .ok (.ifCond .eq 11, 3) := by decide +kernel
theorem dX6_join_15 : decode cX6_join 15 = .ok (.aload_n 0, 1) := by decide +kernel
theorem dX6_join_16 : decode cX6_join 16 = .ok (.iload_n 3, 1) := by decide +kernel
theorem dX6_join_17 : decode cX6_join 17 = .ok (.invokevirtual 76, 3) := by decide +kernel
theorem dX6_join_20 : decode cX6_join 20 = .ok (.ifCond .ne 5, 3) := by decide +kernel
theorem dX6_join_23 : decode cX6_join 23 = .ok (.iconst (-1), 1) := by decide +kernel
theorem dX6_join_24 : decode cX6_join 24 = .ok (.ireturn, 1) := by decide +kernel
theorem dX6_join_25 : decode cX6_join 25 = .ok (.iload_n 2, 1) := by decide +kernel
theorem dX6_join_26 : decode cX6_join 26 = .ok (.iload_n 3, 1) := by decide +kernel
theorem dX6_join_27 : decode cX6_join 27 = .ok (.if_icmp .eq 13, 3) := by decide +kernel
theorem dX6_join_30 : decode cX6_join 30 = .ok (.iload 4, 2) := by decide +kernel
theorem dX6_join_32 : decode cX6_join 32 = .ok (.iconst 0, 1) := by decide +kernel
theorem dX6_join_33 : decode cX6_join 33 = .ok (.iconst 1, 1) := by decide +kernel
theorem dX6_join_34 : decode cX6_join 34 = .ok (.invokestatic 33, 3) := by decide +kernel
theorem dX6_join_37 : decode cX6_join 37 = .ok (.ifCond .ne 6, 3) := by decide +kernel
theorem dX6_join_40 : decode cX6_join 40 = .ok (.bipush (-2), 2) := by decide +kernel
theorem dX6_join_42 : decode cX6_join 42 = .ok (.ireturn, 1) := by decide +kernel
theorem dX6_join_43 : decode cX6_join 43 = .ok (.aload_n 0, 1) := by decide +kernel
theorem dX6_join_44 : decode cX6_join 44 = .ok (.invokevirtual 68, 3) := by decide +kernel
theorem dX6_join_47 : decode cX6_join 47 = .ok (.iload_n 2, 1) := by decide +kernel
theorem dX6_join_48 : decode cX6_join 48 = .ok (.iload_n 3, 1) := by decide +kernel
theorem dX6_join_49 : decode cX6_join 49 = .ok (.invokestatic 41, 3) := by decide +kernel
theorem dX6_join_52 : decode cX6_join 52 = .ok (.istore 5, 2) := by decide +kernel
theorem dX6_join_54 : decode cX6_join 54 = .ok (.aload_n 0, 1) := by decide +kernel
theorem dX6_join_55 : decode cX6_join 55 = .ok (.getfield 7, 3) := by decide +kernel
theorem dX6_join_58 : decode cX6_join 58 = .ok (.iconst 1, 1) := by decide +kernel
theorem dX6_join_59 : decode cX6_join 59 = .ok (.iload_n 1, 1) := by decide +kernel
theorem dX6_join_60 : decode cX6_join 60 = .ok (.iadd, 1) := by decide +kernel
theorem dX6_join_61 : decode cX6_join 61 = .ok (.aload_n 0, 1) := by decide +kernel
theorem dX6_join_62 : decode cX6_join 62 = .ok (.iload_n 1, 1) := by decide +kernel
theorem dX6_join_63 : decode cX6_join 63 = .ok (.invokevirtual 79, 3) := by decide +kernel
theorem dX6_join_66 : decode cX6_join 66 = .ok (.iload 5, 2) := by decide +kernel
theorem dX6_join_68 : decode cX6_join 68 = .ok (.iconst (-1), 1) := by decide +kernel
theorem dX6_join_69 : decode cX6_join 69 = .ok (.ixor, 1) := by decide +kernel
theorem dX6_join_70 : decode cX6_join 70 = .ok (.iand, 1) := by decide +kernel
theorem dX6_join_71 : decode cX6_join 71 = .ok (.iload 4, 2) := by decide +kernel
theorem dX6_join_73 : decode cX6_join 73 = .ok (.iload 5, 2) := by decide +kernel
theorem dX6_join_75 : decode cX6_join 75 = .ok (.imul, 1) := by decide +kernel
theorem dX6_join_76 : decode cX6_join 76 = .ok (.iadd, 1) := by decide +kernel
theorem dX6_join_77 : decode cX6_join 77 = .ok (.iastore, 1) := by decide +kernel
theorem dX6_join_78 : decode cX6_join 78 = .ok (.aload_n 0, 1) := by decide +kernel
theorem dX6_join_79 : decode cX6_join 79 = .ok (.iload_n 1, 1) := by decide +kernel
theorem dX6_join_80 : decode cX6_join 80 = .ok (.invokevirtual 79, 3) := by decide +kernel
theorem dX6_join_83 : decode cX6_join 83 = .ok (.invokestatic 52, 3) := by decide +kernel
theorem dX6_join_86 : decode cX6_join 86 = .ok (.ireturn, 1) := by decide +kernel
theorem dX6_hold_0 : decode cX6_hold 0 = .ok (.aload_n 0, 1) := by decide +kernel
theorem dX6_hold_1 : decode cX6_hold 1 = .ok (.getfield 7, 3) := by decide +kernel
theorem dX6_hold_4 : decode cX6_hold 4 = .ok (.iconst 1, 1) := by decide +kernel
theorem dX6_hold_5 : decode cX6_hold 5 = .ok (.iload_n 1, 1) := by decide +kernel
theorem dX6_hold_6 : decode cX6_hold 6 = .ok (.iadd, 1) := by decide +kernel
theorem dX6_hold_7 : decode cX6_hold 7 = .ok (.iload_n 2, 1) := by decide +kernel
theorem dX6_hold_8 : decode cX6_hold 8 = .ok (.iastore, 1) := by decide +kernel
theorem dX6_hold_9 : decode cX6_hold 9 = .ok (.iload_n 2, 1) := by decide +kernel
theorem dX6_hold_10 : decode cX6_hold 10 = .ok (.ireturn, 1) := by decide +kernel
set_option maxRecDepth 20000 in
theorem ggX6_set_X6_isSlot : GoodIn wsX6_set wsX6_isSlot := goodIn_r _ [5, 6, 7, 4, 8] (by decide +kernel) (by decide +kernel)
set_option maxRecDepth 20000 in
theorem gX6_set_X6_isSlot : GoodIn wsX6_set (va_wsS RX6 72 yX6_isSlot wsX6_isSlot) := goodIn_app (goodIn_of _ (by decide +kernel)) ggX6_set_X6_isSlot
set_option maxRecDepth 20000 in
theorem ggX6_set_X6_many : GoodIn wsX6_set wsX6_many := goodIn_r _ [12, 1, 20, 21, 22, 23, 24, 25, 26, 27, 28, 29, 30, 31, 32] (by decide +kernel) (by decide +kernel)
set_option maxRecDepth 20000 in
theorem gX6_set_X6_many : GoodIn wsX6_set (wsV RX6 68 RX6 yX6_many wsX6_many) := goodIn_app (goodIn_of _ (by decide +kernel)) ggX6_set_X6_many
set_option maxRecDepth 20000 in
theorem ggX6_set_X6_pairs : GoodIn wsX6_set wsX6_pairs := goodIn_r _ [15] (by decide +kernel) (by decide +kernel)
set_option maxRecDepth 20000 in
theorem gX6_set_X6_pairs : GoodIn wsX6_set (va_wsS RX6 37 yX6_pairs wsX6_pairs) := goodIn_app (goodIn_of _ (by decide +kernel)) ggX6_set_X6_pairs
set_option maxRecDepth 20000 in
theorem ggX6_set_X6_in : GoodIn wsX6_set wsX6_in := goodIn_r _ [8] (by decide +kernel) (by decide +kernel)
set_option maxRecDepth 20000 in
theorem gX6_set_X6_in : GoodIn wsX6_set (va_wsS RX6 33 yX6_in wsX6_in) := goodIn_app (goodIn_of _ (by decide +kernel)) ggX6_set_X6_in
set_option maxRecDepth 20000 in
theorem ggX6_set_X6_netOf : GoodIn wsX6_set wsX6_netOf := goodIn_r _ [19, 1, 20, 21, 22, 23, 24, 25, 26, 27, 28, 29, 30, 31, 32] (by decide +kernel) (by decide +kernel)
set_option maxRecDepth 20000 in
theorem gX6_set_X6_netOf : GoodIn wsX6_set (wsV RX6 79 RX6 yX6_netOf wsX6_netOf) := goodIn_app (goodIn_of _ (by decide +kernel)) ggX6_set_X6_netOf
theorem dX6_set_0 : decode cX6_set 0 = .ok (.iload_n 1, 1) := by decide +kernel
theorem dX6_set_1 : decode cX6_set 1 = .ok (.invokestatic 72, 3) := by decide +kernel
theorem dX6_set_4 : decode cX6_set 4 = .ok (.ifCond .ne 5, 3) := by decide +kernel
theorem dX6_set_7 : decode cX6_set 7 = .ok (.iconst (-1), 1) := by decide +kernel
theorem dX6_set_8 : decode cX6_set 8 = .ok (.ireturn, 1) := by decide +kernel
theorem dX6_set_9 : decode cX6_set 9 = .ok (.iload_n 2, 1) := by decide +kernel
theorem dX6_set_10 : decode cX6_set 10 = .ok (.iconst 0, 1) := by decide +kernel
theorem dX6_set_11 : decode cX6_set 11 = .ok (.iconst 1, 1) := by decide +kernel
theorem dX6_set_12 : decode cX6_set 12 = .ok (.aload_n 0, 1) := by decide +kernel
theorem dX6_set_13 : decode cX6_set 13 = .ok (.invokevirtual 68, 3) := by decide +kernel
theorem dX6_set_16 : decode cX6_set 16 = .ok (.invokestatic 37, 3) := by decide +kernel
theorem dX6_set_19 : decode cX6_set 19 = .ok (.ishl, 1) := by decide +kernel
theorem dX6_set_20 : decode cX6_set 20 = .ok (.iconst 1, 1) := by decide +kernel
theorem dX6_set_21 : decode cX6_set 21 = .ok (.isub, 1) := by decide +kernel
theorem dX6_set_22 : decode cX6_set 22 = .ok (.invokestatic 33, 3) := by decide +kernel
theorem dX6_set_25 : decode cX6_set 25 = .ok (.ifCond .ne 6, 3) := by decide +kernel
theorem dX6_set_28 : decode cX6_set 28 = .ok (.bipush (-2), 2) := by decide +kernel
theorem dX6_set_30 : decode cX6_set 30 = .ok (.ireturn, 1) := by decide +kernel
theorem dX6_set_31 : decode cX6_set 31 = .ok (.aload_n 0, 1) := by decide +kernel
theorem dX6_set_32 : decode cX6_set 32 = .ok (.iload_n 1, 1) := by decide +kernel
theorem dX6_set_33 : decode cX6_set 33 = .ok (.invokevirtual 79, 3) := by decide +kernel
theorem dX6_set_36 : decode cX6_set 36 = .ok (.istore_n 3, 1) := by decide +kernel
theorem dX6_set_37 : decode cX6_set 37 = .ok (.aload_n 0, 1) := by decide +kernel
theorem dX6_set_38 : decode cX6_set 38 = .ok (.getfield 7, 3) := by decide +kernel
theorem dX6_set_41 : decode cX6_set 41 = .ok (.iconst 1, 1) := by decide +kernel
theorem dX6_set_42 : decode cX6_set 42 = .ok (.iload_n 1, 1) := by decide +kernel
theorem dX6_set_43 : decode cX6_set 43 = .ok (.iadd, 1) := by decide +kernel
theorem dX6_set_44 : decode cX6_set 44 = .ok (.iload_n 2, 1) := by decide +kernel
theorem dX6_set_45 : decode cX6_set 45 = .ok (.iastore, 1) := by decide +kernel
theorem dX6_set_46 : decode cX6_set 46 = .ok (.iload_n 3, 1) := by decide +kernel
theorem dX6_set_47 : decode cX6_set 47 = .ok (.ireturn, 1) := by decide +kernel
set_option maxRecDepth 20000 in
theorem ggX6_say_X6_in : GoodIn wsX6_say wsX6_in := goodIn_r _ [6] (by decide +kernel) (by decide +kernel)
set_option maxRecDepth 20000 in
theorem gX6_say_X6_in : GoodIn wsX6_say (va_wsS RX6 33 yX6_in wsX6_in) := goodIn_app (goodIn_of _ (by decide +kernel)) ggX6_say_X6_in
theorem dX6_say_0 : decode cX6_say 0 = .ok (.iload_n 1, 1) := by decide +kernel
theorem dX6_say_1 : decode cX6_say 1 = .ok (.bipush 33, 2) := by decide +kernel
theorem dX6_say_3 : decode cX6_say 3 = .ok (.bipush 126, 2) := by decide +kernel
theorem dX6_say_5 : decode cX6_say 5 = .ok (.invokestatic 33, 3) := by decide +kernel
theorem dX6_say_8 : decode cX6_say 8 = .ok (.ifCond .ne 6, 3) := by decide +kernel
theorem dX6_say_11 : decode cX6_say 11 = .ok (.bipush (-2), 2) := by decide +kernel
theorem dX6_say_13 : decode cX6_say 13 = .ok (.ireturn, 1) := by decide +kernel
theorem dX6_say_14 : decode cX6_say 14 = .ok (.aload_n 0, 1) := by decide +kernel
theorem dX6_say_15 : decode cX6_say 15 = .ok (.getfield 82, 3) := by decide +kernel
theorem dX6_say_18 : decode cX6_say 18 = .ok (.bipush 35, 2) := by decide +kernel
theorem dX6_say_20 : decode cX6_say 20 = .ok (.if_icmp .ne 6, 3) := by decide +kernel
theorem dX6_say_23 : decode cX6_say 23 = .ok (.bipush (-4), 2) := by decide +kernel
theorem dX6_say_25 : decode cX6_say 25 = .ok (.ireturn, 1) := by decide +kernel
theorem dX6_say_26 : decode cX6_say 26 = .ok (.aload_n 0, 1) := by decide +kernel
theorem dX6_say_27 : decode cX6_say 27 = .ok (.getfield 20, 3) := by decide +kernel
theorem dX6_say_30 : decode cX6_say 30 = .ok (.aload_n 0, 1) := by decide +kernel
theorem dX6_say_31 : decode cX6_say 31 = .ok (.getfield 82, 3) := by decide +kernel
theorem dX6_say_34 : decode cX6_say 34 = .ok (.iload_n 1, 1) := by decide +kernel
theorem dX6_say_35 : decode cX6_say 35 = .ok (.iastore, 1) := by decide +kernel
theorem dX6_say_36 : decode cX6_say 36 = .ok (.aload_n 0, 1) := by decide +kernel
theorem dX6_say_37 : decode cX6_say 37 = .ok (.dup, 1) := by decide +kernel
theorem dX6_say_38 : decode cX6_say 38 = .ok (.getfield 82, 3) := by decide +kernel
theorem dX6_say_41 : decode cX6_say 41 = .ok (.iconst 1, 1) := by decide +kernel
theorem dX6_say_42 : decode cX6_say 42 = .ok (.iadd, 1) := by decide +kernel
theorem dX6_say_43 : decode cX6_say 43 = .ok (.putfield 82, 3) := by decide +kernel
theorem dX6_say_46 : decode cX6_say 46 = .ok (.aload_n 0, 1) := by decide +kernel
theorem dX6_say_47 : decode cX6_say 47 = .ok (.getfield 82, 3) := by decide +kernel
theorem dX6_say_50 : decode cX6_say 50 = .ok (.ireturn, 1) := by decide +kernel
theorem dX6_wipe_0 : decode cX6_wipe 0 = .ok (.aload_n 0, 1) := by decide +kernel
theorem dX6_wipe_1 : decode cX6_wipe 1 = .ok (.getfield 82, 3) := by decide +kernel
theorem dX6_wipe_4 : decode cX6_wipe 4 = .ok (.istore_n 1, 1) := by decide +kernel
theorem dX6_wipe_5 : decode cX6_wipe 5 = .ok (.aload_n 0, 1) := by decide +kernel
theorem dX6_wipe_6 : decode cX6_wipe 6 = .ok (.iconst 0, 1) := by decide +kernel
theorem dX6_wipe_7 : decode cX6_wipe 7 = .ok (.putfield 82, 3) := by decide +kernel
theorem dX6_wipe_10 : decode cX6_wipe 10 = .ok (.iload_n 1, 1) := by decide +kernel
theorem dX6_wipe_11 : decode cX6_wipe 11 = .ok (.ireturn, 1) := by decide +kernel
set_option maxRecDepth 20000 in
theorem ggX6_faultAs_X6_many : GoodIn wsX6_faultAs wsX6_many := goodIn_r _ [7, 8, 18, 19, 20, 21, 22, 23, 24, 25, 26, 27, 28, 29, 30] (by decide +kernel) (by decide +kernel)
set_option maxRecDepth 20000 in
theorem gX6_faultAs_X6_many : GoodIn wsX6_faultAs (wsV RX6 68 RX6 yX6_many wsX6_many) := goodIn_app (goodIn_of _ (by decide +kernel)) ggX6_faultAs_X6_many
set_option maxRecDepth 20000 in
theorem ggX6_faultAs_X6_pairs : GoodIn wsX6_faultAs wsX6_pairs := goodIn_r _ [11] (by decide +kernel) (by decide +kernel)
set_option maxRecDepth 20000 in
theorem gX6_faultAs_X6_pairs : GoodIn wsX6_faultAs (va_wsS RX6 37 yX6_pairs wsX6_pairs) := goodIn_app (goodIn_of _ (by decide +kernel)) ggX6_faultAs_X6_pairs
set_option maxRecDepth 20000 in
theorem ggX6_faultAs_X6_triples : GoodIn wsX6_faultAs wsX6_triples := goodIn_r _ [14] (by decide +kernel) (by decide +kernel)
set_option maxRecDepth 20000 in
theorem gX6_faultAs_X6_triples : GoodIn wsX6_faultAs (va_wsS RX6 86 yX6_triples wsX6_triples) := goodIn_app (goodIn_of _ (by decide +kernel)) ggX6_faultAs_X6_triples
set_option maxRecDepth 20000 in
theorem ggX6_faultAs_X6_in : GoodIn wsX6_faultAs wsX6_in := goodIn_r _ [17] (by decide +kernel) (by decide +kernel)
set_option maxRecDepth 20000 in
theorem gX6_faultAs_X6_in : GoodIn wsX6_faultAs (va_wsS RX6 33 yX6_in wsX6_in) := goodIn_app (goodIn_of _ (by decide +kernel)) ggX6_faultAs_X6_in
theorem dX6_faultAs_0 : decode cX6_faultAs 0 = .ok (.iload_n 1, 1) := by decide +kernel
theorem dX6_faultAs_1 : decode cX6_faultAs 1 = .ok (.ifCond .ne 13, 3) := by decide +kernel
theorem dX6_faultAs_4 : decode cX6_faultAs 4 = .ok (.aload_n 0, 1) := by decide +kernel
theorem dX6_faultAs_5 : decode cX6_faultAs 5 = .ok (.invokevirtual 68, 3) := by decide +kernel
theorem dX6_faultAs_8 : decode cX6_faultAs 8 = .ok (.invokestatic 37, 3) := by decide +kernel
theorem dX6_faultAs_11 : decode cX6_faultAs 11 = .ok (.goto 10, 3) := by decide +kernel
theorem dX6_faultAs_14 : decode cX6_faultAs 14 = .ok (.aload_n 0, 1) := by decide +kernel
theorem dX6_faultAs_15 : decode cX6_faultAs 15 = .ok (.invokevirtual 68, 3) := by decide +kernel
theorem dX6_faultAs_18 : decode cX6_faultAs 18 = .ok (.invokestatic 86, 3) := by decide +kernel
theorem dX6_faultAs_21 : decode cX6_faultAs 21 = .ok (.istore_n 2, 1) := by decide +kernel
theorem dX6_faultAs_22 : decode cX6_faultAs 22 = .ok (.iconst 0, 1) := by decide +kernel
theorem dX6_faultAs_23 : decode cX6_faultAs 23 = .ok (.istore_n 3, 1) := by decide +kernel
theorem dX6_faultAs_24 : decode cX6_faultAs 24 = .ok (.iload_n 3, 1) := by decide +kernel
theorem dX6_faultAs_25 : decode cX6_faultAs 25 = .ok (.aload_n 0, 1) := by decide +kernel
theorem dX6_faultAs_26 : decode cX6_faultAs 26 = .ok (.getfield 82, 3) := by decide +kernel
theorem dX6_faultAs_29 : decode cX6_faultAs 29 = .ok (.if_icmp .ge 32, 3) := by decide +kernel
theorem dX6_faultAs_32 : decode cX6_faultAs 32 = .ok (.iload_n 3, 1) := by decide +kernel
theorem dX6_faultAs_33 : decode cX6_faultAs 33 = .ok (.iload_n 2, 1) := by decide +kernel
theorem dX6_faultAs_34 : decode cX6_faultAs 34 = .ok (.if_icmp .ge 19, 3) := by decide +kernel
theorem dX6_faultAs_37 : decode cX6_faultAs 37 = .ok (.aload_n 0, 1) := by decide +kernel
theorem dX6_faultAs_38 : decode cX6_faultAs 38 = .ok (.getfield 20, 3) := by decide +kernel
theorem dX6_faultAs_41 : decode cX6_faultAs 41 = .ok (.iload_n 3, 1) := by decide +kernel
theorem dX6_faultAs_42 : decode cX6_faultAs 42 = .ok (.iaload, 1) := by decide +kernel
theorem dX6_faultAs_43 : decode cX6_faultAs 43 = .ok (.bipush 48, 2) := by decide +kernel
theorem dX6_faultAs_45 : decode cX6_faultAs 45 = .ok (.bipush 49, 2) := by decide +kernel
theorem dX6_faultAs_47 : decode cX6_faultAs 47 = .ok (.invokestatic 33, 3) := by decide +kernel
theorem dX6_faultAs_50 : decode cX6_faultAs 50 = .ok (.ifCond .ne 5, 3) := by decide +kernel
theorem dX6_faultAs_53 : decode cX6_faultAs 53 = .ok (.iload_n 3, 1) := by decide +kernel
theorem dX6_faultAs_54 : decode cX6_faultAs 54 = .ok (.ireturn, 1) := by decide +kernel
theorem dX6_faultAs_55 : decode cX6_faultAs 55 = .ok (.iinc 3 1, 3) := by decide +kernel
theorem dX6_faultAs_58 : decode cX6_faultAs 58 = .ok (.goto (-34), 3) := by decide +kernel
theorem dX6_faultAs_61 : decode cX6_faultAs 61 = .ok (.aload_n 0, 1) := by decide +kernel
theorem dX6_faultAs_62 : decode cX6_faultAs 62 = .ok (.getfield 82, 3) := by decide +kernel
theorem dX6_faultAs_65 : decode cX6_faultAs 65 = .ok (.iload_n 2, 1) := by decide +kernel
theorem dX6_faultAs_66 : decode cX6_faultAs 66 = .ok (.if_icmp .ge 10, 3) := by decide +kernel
theorem dX6_faultAs_69 : decode cX6_faultAs 69 = .ok (.aload_n 0, 1) := by decide +kernel
theorem dX6_faultAs_70 : decode cX6_faultAs 70 = .ok (.getfield 82, 3) := by decide +kernel
theorem dX6_faultAs_73 : decode cX6_faultAs 73 = .ok (.goto 5, 3) := by decide +kernel
theorem dX6_faultAs_76 : decode cX6_faultAs 76 = .ok (.bipush (-6), 2) := by decide +kernel
theorem dX6_faultAs_78 : decode cX6_faultAs 78 = .ok (.ireturn, 1) := by decide +kernel
set_option maxRecDepth 20000 in
theorem ggX6_fault_X6_in : GoodIn wsX6_fault wsX6_in := goodIn_r _ [4] (by decide +kernel) (by decide +kernel)
set_option maxRecDepth 20000 in
theorem gX6_fault_X6_in : GoodIn wsX6_fault (va_wsS RX6 33 yX6_in wsX6_in) := goodIn_app (goodIn_of _ (by decide +kernel)) ggX6_fault_X6_in
set_option maxRecDepth 20000 in
theorem ggX6_fault_X6_faultAs : GoodIn wsX6_fault wsX6_faultAs := goodIn_r _ [8, 9, 10, 11, 12, 13, 3, 14, 15, 16, 17, 18, 19, 20, 21, 1, 2, 4, 22, 23, 24, 25, 26, 27, 28, 29, 30, 31, 32, 33, 34] (by decide +kernel) (by decide +kernel)
set_option maxRecDepth 20000 in
theorem gX6_fault_X6_faultAs : GoodIn wsX6_fault (wsV RX6 89 RX6 yX6_faultAs wsX6_faultAs) := goodIn_app (goodIn_of _ (by decide +kernel)) ggX6_fault_X6_faultAs
theorem dX6_fault_0 : decode cX6_fault 0 = .ok (.iload_n 1, 1) := by decide +kernel
theorem dX6_fault_1 : decode cX6_fault 1 = .ok (.iconst 0, 1) := by decide +kernel
theorem dX6_fault_2 : decode cX6_fault 2 = .ok (.iconst 1, 1) := by decide +kernel
theorem dX6_fault_3 : decode cX6_fault 3 = .ok (.invokestatic 33, 3) := by decide +kernel
theorem dX6_fault_6 : decode cX6_fault 6 = .ok (.ifCond .eq 11, 3) := by decide +kernel
theorem dX6_fault_9 : decode cX6_fault 9 = .ok (.aload_n 0, 1) := by decide +kernel
theorem dX6_fault_10 : decode cX6_fault 10 = .ok (.iload_n 1, 1) := by decide +kernel
theorem dX6_fault_11 : decode cX6_fault 11 = .ok (.invokevirtual 89, 3) := by decide +kernel
theorem dX6_fault_14 : decode cX6_fault 14 = .ok (.goto 5, 3) := by decide +kernel
theorem dX6_fault_17 : decode cX6_fault 17 = .ok (.bipush (-2), 2) := by decide +kernel
theorem dX6_fault_19 : decode cX6_fault 19 = .ok (.ireturn, 1) := by decide +kernel
set_option maxRecDepth 20000 in
theorem ggX6_placeOf_X6_many : GoodIn wsX6_placeOf wsX6_many := goodIn_r _ [5, 6, 7, 8, 9, 10, 11, 12, 13, 14, 15, 16, 17, 18, 19] (by decide +kernel) (by decide +kernel)
set_option maxRecDepth 20000 in
theorem gX6_placeOf_X6_many : GoodIn wsX6_placeOf (wsV RX6 68 RX6 yX6_many wsX6_many) := goodIn_app (goodIn_of _ (by decide +kernel)) ggX6_placeOf_X6_many
theorem dX6_placeOf_0 : decode cX6_placeOf 0 = .ok (.iconst 0, 1) := by decide +kernel
theorem dX6_placeOf_1 : decode cX6_placeOf 1 = .ok (.istore 4, 2) := by decide +kernel
theorem dX6_placeOf_3 : decode cX6_placeOf 3 = .ok (.iconst 0, 1) := by decide +kernel
theorem dX6_placeOf_4 : decode cX6_placeOf 4 = .ok (.istore 5, 2) := by decide +kernel
theorem dX6_placeOf_6 : decode cX6_placeOf 6 = .ok (.iload 5, 2) := by decide +kernel
theorem dX6_placeOf_8 : decode cX6_placeOf 8 = .ok (.aload_n 0, 1) := by decide +kernel
theorem dX6_placeOf_9 : decode cX6_placeOf 9 = .ok (.invokevirtual 68, 3) := by decide +kernel
theorem dX6_placeOf_12 : decode cX6_placeOf 12 = .ok (.if_icmp .ge 75, 3) := by decide +kernel
theorem dX6_placeOf_15 : decode cX6_placeOf 15 = .ok (.iload 5, 2) := by decide +kernel
theorem dX6_placeOf_17 : decode cX6_placeOf 17 = .ok (.iconst 1, 1) := by decide +kernel
theorem dX6_placeOf_18 : decode cX6_placeOf 18 = .ok (.iadd, 1) := by decide +kernel
theorem dX6_placeOf_19 : decode cX6_placeOf 19 = .ok (.istore 6, 2) := by decide +kernel
theorem dX6_placeOf_21 : decode cX6_placeOf 21 = .ok (.iload 6, 2) := by decide +kernel
theorem dX6_placeOf_23 : decode cX6_placeOf 23 = .ok (.aload_n 0, 1) := by decide +kernel
theorem dX6_placeOf_24 : decode cX6_placeOf 24 = .ok (.invokevirtual 68, 3) := by decide +kernel
theorem dX6_placeOf_27 : decode cX6_placeOf 27 = .ok (.if_icmp .ge 54, 3) := by decide +kernel
theorem dX6_placeOf_30 : decode cX6_placeOf 30 = .ok (.iload 6, 2) := by decide +kernel
theorem dX6_placeOf_32 : decode cX6_placeOf 32 = .ok (.iconst 1, 1) := by decide +kernel
theorem dX6_placeOf_33 : decode cX6_placeOf 33 = .ok (.iadd, 1) := by decide +kernel
theorem dX6_placeOf_34 : decode cX6_placeOf 34 = .ok (.istore 7, 2) := by decide +kernel
theorem dX6_placeOf_36 : decode cX6_placeOf 36 = .ok (.iload 7, 2) := by decide +kernel
theorem dX6_placeOf_38 : decode cX6_placeOf 38 = .ok (.aload_n 0, 1) := by decide +kernel
theorem dX6_placeOf_39 : decode cX6_placeOf 39 = .ok (.invokevirtual 68, 3) := by decide +kernel
theorem dX6_placeOf_42 : decode cX6_placeOf 42 = .ok (.if_icmp .ge 33, 3) := by decide +kernel
theorem dX6_placeOf_45 : decode cX6_placeOf 45 = .ok (.iload 5, 2) := by decide +kernel
theorem dX6_placeOf_47 : decode cX6_placeOf 47 = .ok (.iload_n 1, 1) := by decide +kernel
theorem dX6_placeOf_48 : decode cX6_placeOf 48 = .ok (.if_icmp .ne 18, 3) := by decide +kernel
theorem dX6_placeOf_51 : decode cX6_placeOf 51 = .ok (.iload 6, 2) := by decide +kernel
theorem dX6_placeOf_53 : decode cX6_placeOf 53 = .ok (.iload_n 2, 1) := by decide +kernel
theorem dX6_placeOf_54 : decode cX6_placeOf 54 = .ok (.if_icmp .ne 12, 3) := by decide +kernel
theorem dX6_placeOf_57 : decode cX6_placeOf 57 = .ok (.iload 7, 2) := by decide +kernel
theorem dX6_placeOf_59 : decode cX6_placeOf 59 = .ok (.iload_n 3, 1) := by decide +kernel
theorem dX6_placeOf_60 : decode cX6_placeOf 60 = .ok (.if_icmp .ne 6, 3) := by decide +kernel
theorem dX6_placeOf_63 : decode cX6_placeOf 63 = .ok (.iload 4, 2) := by decide +kernel
theorem dX6_placeOf_65 : decode cX6_placeOf 65 = .ok (.ireturn, 1) := by decide +kernel
theorem dX6_placeOf_66 : decode cX6_placeOf 66 = .ok (.iinc 4 1, 3) := by decide +kernel
theorem dX6_placeOf_69 : decode cX6_placeOf 69 = .ok (.iinc 7 1, 3) := by decide +kernel
theorem dX6_placeOf_72 : decode cX6_placeOf 72 = .ok (.goto (-36), 3) := by decide +kernel
theorem dX6_placeOf_75 : decode cX6_placeOf 75 = .ok (.iinc 6 1, 3) := by decide +kernel
theorem dX6_placeOf_78 : decode cX6_placeOf 78 = .ok (.goto (-57), 3) := by decide +kernel
theorem dX6_placeOf_81 : decode cX6_placeOf 81 = .ok (.iinc 5 1, 3) := by decide +kernel
theorem dX6_placeOf_84 : decode cX6_placeOf 84 = .ok (.goto (-78), 3) := by decide +kernel
theorem dX6_placeOf_87 : decode cX6_placeOf 87 = .ok (.bipush (-6), 2) := by decide +kernel
theorem dX6_placeOf_89 : decode cX6_placeOf 89 = .ok (.ireturn, 1) := by decide +kernel
set_option maxRecDepth 20000 in
theorem ggX6_told_X6_placeOf : GoodIn wsX6_told wsX6_placeOf := goodIn_r _ [6, 7, 8, 9, 5, 10, 11, 12, 13, 14, 15, 16, 17, 18, 19, 20, 21, 22, 23, 24] (by decide +kernel) (by decide +kernel)
set_option maxRecDepth 20000 in
theorem gX6_told_X6_placeOf : GoodIn wsX6_told (wsV RX6 92 RX6 yX6_placeOf wsX6_placeOf) := goodIn_app (goodIn_of _ (by decide +kernel)) ggX6_told_X6_placeOf
theorem dX6_told_0 : decode cX6_told 0 = .ok (.aload_n 0, 1) := by decide +kernel
theorem dX6_told_1 : decode cX6_told 1 = .ok (.getfield 20, 3) := by decide +kernel
theorem dX6_told_4 : decode cX6_told 4 = .ok (.aload_n 0, 1) := by decide +kernel
theorem dX6_told_5 : decode cX6_told 5 = .ok (.iload_n 1, 1) := by decide +kernel
theorem dX6_told_6 : decode cX6_told 6 = .ok (.iload_n 2, 1) := by decide +kernel
theorem dX6_told_7 : decode cX6_told 7 = .ok (.iload_n 3, 1) := by decide +kernel
theorem dX6_told_8 : decode cX6_told 8 = .ok (.invokevirtual 92, 3) := by decide +kernel
theorem dX6_told_11 : decode cX6_told 11 = .ok (.iaload, 1) := by decide +kernel
theorem dX6_told_12 : decode cX6_told 12 = .ok (.bipush 48, 2) := by decide +kernel
theorem dX6_told_14 : decode cX6_told 14 = .ok (.isub, 1) := by decide +kernel
theorem dX6_told_15 : decode cX6_told 15 = .ok (.ireturn, 1) := by decide +kernel
set_option maxRecDepth 20000 in
theorem ggX6_fitFour_X6_told : GoodIn wsX6_fitFour wsX6_told := goodIn_r _ [5, 6, 7, 8, 9, 4, 10, 11, 12, 13, 14, 15, 16, 17, 18, 19, 20, 21, 22, 23, 24, 25, 26, 27, 28] (by decide +kernel) (by decide +kernel)
set_option maxRecDepth 20000 in
theorem gX6_fitFour_X6_told : GoodIn wsX6_fitFour (wsV RX6 95 RX6 yX6_told wsX6_told) := goodIn_app (goodIn_of _ (by decide +kernel)) ggX6_fitFour_X6_told
theorem dX6_fitFour_0 : decode cX6_fitFour 0 = .ok (.aload_n 0, 1) := by decide +kernel
theorem dX6_fitFour_1 : decode cX6_fitFour 1 = .ok (.iload_n 1, 1) := by decide +kernel
theorem dX6_fitFour_2 : decode cX6_fitFour 2 = .ok (.iload_n 2, 1) := by decide +kernel
theorem dX6_fitFour_3 : decode cX6_fitFour 3 = .ok (.iload_n 3, 1) := by decide +kernel
theorem dX6_fitFour_4 : decode cX6_fitFour 4 = .ok (.invokevirtual 95, 3) := by decide +kernel
theorem dX6_fitFour_7 : decode cX6_fitFour 7 = .ok (.aload_n 0, 1) := by decide +kernel
theorem dX6_fitFour_8 : decode cX6_fitFour 8 = .ok (.iload_n 1, 1) := by decide +kernel
theorem dX6_fitFour_9 : decode cX6_fitFour 9 = .ok (.iload_n 2, 1) := by decide +kernel
theorem dX6_fitFour_10 : decode cX6_fitFour 10 = .ok (.iload 4, 2) := by decide +kernel
theorem dX6_fitFour_12 : decode cX6_fitFour 12 = .ok (.invokevirtual 95, 3) := by decide +kernel
theorem dX6_fitFour_15 : decode cX6_fitFour 15 = .ok (.iadd, 1) := by decide +kernel
theorem dX6_fitFour_16 : decode cX6_fitFour 16 = .ok (.aload_n 0, 1) := by decide +kernel
theorem dX6_fitFour_17 : decode cX6_fitFour 17 = .ok (.iload_n 1, 1) := by decide +kernel
theorem dX6_fitFour_18 : decode cX6_fitFour 18 = .ok (.iload_n 3, 1) := by decide +kernel
theorem dX6_fitFour_19 : decode cX6_fitFour 19 = .ok (.iload 4, 2) := by decide +kernel
theorem dX6_fitFour_21 : decode cX6_fitFour 21 = .ok (.invokevirtual 95, 3) := by decide +kernel
theorem dX6_fitFour_24 : decode cX6_fitFour 24 = .ok (.iadd, 1) := by decide +kernel
theorem dX6_fitFour_25 : decode cX6_fitFour 25 = .ok (.aload_n 0, 1) := by decide +kernel
theorem dX6_fitFour_26 : decode cX6_fitFour 26 = .ok (.iload_n 2, 1) := by decide +kernel
theorem dX6_fitFour_27 : decode cX6_fitFour 27 = .ok (.iload_n 3, 1) := by decide +kernel
theorem dX6_fitFour_28 : decode cX6_fitFour 28 = .ok (.iload 4, 2) := by decide +kernel
theorem dX6_fitFour_30 : decode cX6_fitFour 30 = .ok (.invokevirtual 95, 3) := by decide +kernel
theorem dX6_fitFour_33 : decode cX6_fitFour 33 = .ok (.iadd, 1) := by decide +kernel
theorem dX6_fitFour_34 : decode cX6_fitFour 34 = .ok (.iconst 2, 1) := by decide +kernel
theorem dX6_fitFour_35 : decode cX6_fitFour 35 = .ok (.irem, 1) := by decide +kernel
theorem dX6_fitFour_36 : decode cX6_fitFour 36 = .ok (.ifCond .ne 7, 3) := by decide +kernel
theorem dX6_fitFour_39 : decode cX6_fitFour 39 = .ok (.iconst 1, 1) := by decide +kernel
theorem dX6_fitFour_40 : decode cX6_fitFour 40 = .ok (.goto 4, 3) := by decide +kernel
theorem dX6_fitFour_43 : decode cX6_fitFour 43 = .ok (.iconst 0, 1) := by decide +kernel
theorem dX6_fitFour_44 : decode cX6_fitFour 44 = .ok (.ireturn, 1) := by decide +kernel
set_option maxRecDepth 20000 in
theorem ggX6_areFit_X6_many : GoodIn wsX6_areFit wsX6_many := goodIn_r _ [5, 6, 20, 21, 22, 23, 24, 25, 26, 27, 28, 29, 30, 31, 32] (by decide +kernel) (by decide +kernel)
set_option maxRecDepth 20000 in
theorem gX6_areFit_X6_many : GoodIn wsX6_areFit (wsV RX6 68 RX6 yX6_many wsX6_many) := goodIn_app (goodIn_of _ (by decide +kernel)) ggX6_areFit_X6_many
set_option maxRecDepth 20000 in
theorem ggX6_areFit_X6_fitFour : GoodIn wsX6_areFit wsX6_fitFour := goodIn_r _ [10, 11, 12, 13, 4, 14, 15, 16, 17, 18, 19, 1, 2, 3, 5, 6, 20, 21, 22, 23, 24, 25, 26, 27, 28, 29, 30, 31, 32] (by decide +kernel) (by decide +kernel)
set_option maxRecDepth 20000 in
theorem gX6_areFit_X6_fitFour : GoodIn wsX6_areFit (wsV RX6 98 RX6 yX6_fitFour wsX6_fitFour) := goodIn_app (goodIn_of _ (by decide +kernel)) ggX6_areFit_X6_fitFour
theorem dX6_areFit_0 : decode cX6_areFit 0 = .ok (.iconst 1, 1) := by decide +kernel
theorem dX6_areFit_1 : decode cX6_areFit 1 = .ok (.istore_n 1, 1) := by decide +kernel
theorem dX6_areFit_2 : decode cX6_areFit 2 = .ok (.iconst 0, 1) := by decide +kernel
theorem dX6_areFit_3 : decode cX6_areFit 3 = .ok (.istore_n 2, 1) := by decide +kernel
theorem dX6_areFit_4 : decode cX6_areFit 4 = .ok (.iload_n 2, 1) := by decide +kernel
theorem dX6_areFit_5 : decode cX6_areFit 5 = .ok (.aload_n 0, 1) := by decide +kernel
theorem dX6_areFit_6 : decode cX6_areFit 6 = .ok (.invokevirtual 68, 3) := by decide +kernel
theorem dX6_areFit_9 : decode cX6_areFit 9 = .ok (.if_icmp .ge 91, 3) := by decide +kernel
theorem dX6_areFit_12 : decode cX6_areFit 12 = .ok (.iload_n 2, 1) := by decide +kernel
theorem dX6_areFit_13 : decode cX6_areFit 13 = .ok (.iconst 1, 1) := by decide +kernel
theorem dX6_areFit_14 : decode cX6_areFit 14 = .ok (.iadd, 1) := by decide +kernel
theorem dX6_areFit_15 : decode cX6_areFit 15 = .ok (.istore_n 3, 1) := by decide +kernel
theorem dX6_areFit_16 : decode cX6_areFit 16 = .ok (.iload_n 3, 1) := by decide +kernel
theorem dX6_areFit_17 : decode cX6_areFit 17 = .ok (.aload_n 0, 1) := by decide +kernel
theorem dX6_areFit_18 : decode cX6_areFit 18 = .ok (.invokevirtual 68, 3) := by decide +kernel
theorem dX6_areFit_21 : decode cX6_areFit 21 = .ok (.if_icmp .ge 73, 3) := by decide +kernel
theorem dX6_areFit_24 : decode cX6_areFit 24 = .ok (.iload_n 3, 1) := by decide +kernel
theorem dX6_areFit_25 : decode cX6_areFit 25 = .ok (.iconst 1, 1) := by decide +kernel
theorem dX6_areFit_26 : decode cX6_areFit 26 = .ok (.iadd, 1) := by decide +kernel
theorem dX6_areFit_27 : decode cX6_areFit 27 = .ok (.istore 4, 2) := by decide +kernel
theorem dX6_areFit_29 : decode cX6_areFit 29 = .ok (.iload 4, 2) := by decide +kernel
theorem dX6_areFit_31 : decode cX6_areFit 31 = .ok (.aload_n 0, 1) := by decide +kernel
theorem dX6_areFit_32 : decode cX6_areFit 32 = .ok (.invokevirtual 68, 3) := by decide +kernel
theorem dX6_areFit_35 : decode cX6_areFit 35 = .ok (.if_icmp .ge 53, 3) := by decide +kernel
theorem dX6_areFit_38 : decode cX6_areFit 38 = .ok (.iload 4, 2) := by decide +kernel
theorem dX6_areFit_40 : decode cX6_areFit 40 = .ok (.iconst 1, 1) := by decide +kernel
theorem dX6_areFit_41 : decode cX6_areFit 41 = .ok (.iadd, 1) := by decide +kernel
theorem dX6_areFit_42 : decode cX6_areFit 42 = .ok (.istore 5, 2) := by decide +kernel
theorem dX6_areFit_44 : decode cX6_areFit 44 = .ok (.iload 5, 2) := by decide +kernel
theorem dX6_areFit_46 : decode cX6_areFit 46 = .ok (.aload_n 0, 1) := by decide +kernel
theorem dX6_areFit_47 : decode cX6_areFit 47 = .ok (.invokevirtual 68, 3) := by decide +kernel
theorem dX6_areFit_50 : decode cX6_areFit 50 = .ok (.if_icmp .ge 32, 3) := by decide +kernel
theorem dX6_areFit_53 : decode cX6_areFit 53 = .ok (.iload_n 1, 1) := by decide +kernel
theorem dX6_areFit_54 : decode cX6_areFit 54 = .ok (.ifCond .eq 20, 3) := by decide +kernel
theorem dX6_areFit_57 : decode cX6_areFit 57 = .ok (.aload_n 0, 1) := by decide +kernel
theorem dX6_areFit_58 : decode cX6_areFit 58 = .ok (.iload_n 2, 1) := by decide +kernel
theorem dX6_areFit_59 : decode cX6_areFit 59 = .ok (.iload_n 3, 1) := by decide +kernel
theorem dX6_areFit_60 : decode cX6_areFit 60 = .ok (.iload 4, 2) := by decide +kernel
theorem dX6_areFit_62 : decode cX6_areFit 62 = .ok (.iload 5, 2) := by decide +kernel
theorem dX6_areFit_64 : decode cX6_areFit 64 = .ok (.invokevirtual 98, 3) := by decide +kernel
theorem dX6_areFit_67 : decode cX6_areFit 67 = .ok (.ifCond .eq 7, 3) := by decide +kernel
theorem dX6_areFit_70 : decode cX6_areFit 70 = .ok (.iconst 1, 1) := by decide +kernel
theorem dX6_areFit_71 : decode cX6_areFit 71 = .ok (.goto 4, 3) := by decide +kernel
theorem dX6_areFit_74 : decode cX6_areFit 74 = .ok (.iconst 0, 1) := by decide +kernel
theorem dX6_areFit_75 : decode cX6_areFit 75 = .ok (.istore_n 1, 1) := by decide +kernel
theorem dX6_areFit_76 : decode cX6_areFit 76 = .ok (.iinc 5 1, 3) := by decide +kernel
theorem dX6_areFit_79 : decode cX6_areFit 79 = .ok (.goto (-35), 3) := by decide +kernel
theorem dX6_areFit_82 : decode cX6_areFit 82 = .ok (.iinc 4 1, 3) := by decide +kernel
theorem dX6_areFit_85 : decode cX6_areFit 85 = .ok (.goto (-56), 3) := by decide +kernel
theorem dX6_areFit_88 : decode cX6_areFit 88 = .ok (.iinc 3 1, 3) := by decide +kernel
theorem dX6_areFit_91 : decode cX6_areFit 91 = .ok (.goto (-75), 3) := by decide +kernel
theorem dX6_areFit_94 : decode cX6_areFit 94 = .ok (.iinc 2 1, 3) := by decide +kernel
theorem dX6_areFit_97 : decode cX6_areFit 97 = .ok (.goto (-93), 3) := by decide +kernel
theorem dX6_areFit_100 : decode cX6_areFit 100 = .ok (.iload_n 1, 1) := by decide +kernel
theorem dX6_areFit_101 : decode cX6_areFit 101 = .ok (.ireturn, 1) := by decide +kernel
theorem dX6_netOfPad_0 : decode cX6_netOfPad 0 = .ok (.iconst 0, 1) := by decide +kernel
theorem dX6_netOfPad_1 : decode cX6_netOfPad 1 = .ok (.istore_n 1, 1) := by decide +kernel
theorem dX6_netOfPad_2 : decode cX6_netOfPad 2 = .ok (.iconst 0, 1) := by decide +kernel
theorem dX6_netOfPad_3 : decode cX6_netOfPad 3 = .ok (.istore_n 2, 1) := by decide +kernel
theorem dX6_netOfPad_4 : decode cX6_netOfPad 4 = .ok (.iload_n 2, 1) := by decide +kernel
theorem dX6_netOfPad_5 : decode cX6_netOfPad 5 = .ok (.aload_n 0, 1) := by decide +kernel
theorem dX6_netOfPad_6 : decode cX6_netOfPad 6 = .ok (.getfield 82, 3) := by decide +kernel
theorem dX6_netOfPad_9 : decode cX6_netOfPad 9 = .ok (.if_icmp .ge 23, 3) := by decide +kernel
theorem dX6_netOfPad_12 : decode cX6_netOfPad 12 = .ok (.iconst 2, 1) := by decide +kernel
theorem dX6_netOfPad_13 : decode cX6_netOfPad 13 = .ok (.iload_n 1, 1) := by decide +kernel
theorem dX6_netOfPad_14 : decode cX6_netOfPad 14 = .ok (.imul, 1) := by decide +kernel
theorem dX6_netOfPad_15 : decode cX6_netOfPad 15 = .ok (.aload_n 0, 1) := by decide +kernel
theorem dX6_netOfPad_16 : decode cX6_netOfPad 16 = .ok (.getfield 20, 3) := by decide +kernel
theorem dX6_netOfPad_19 : decode cX6_netOfPad 19 = .ok (.iload_n 2, 1) := by decide +kernel
theorem dX6_netOfPad_20 : decode cX6_netOfPad 20 = .ok (.iaload, 1) := by decide +kernel
theorem dX6_netOfPad_21 : decode cX6_netOfPad 21 = .ok (.iadd, 1) := by decide +kernel
theorem dX6_netOfPad_22 : decode cX6_netOfPad 22 = .ok (.bipush 48, 2) := by decide +kernel
theorem dX6_netOfPad_24 : decode cX6_netOfPad 24 = .ok (.isub, 1) := by decide +kernel
theorem dX6_netOfPad_25 : decode cX6_netOfPad 25 = .ok (.istore_n 1, 1) := by decide +kernel
theorem dX6_netOfPad_26 : decode cX6_netOfPad 26 = .ok (.iinc 2 1, 3) := by decide +kernel
theorem dX6_netOfPad_29 : decode cX6_netOfPad 29 = .ok (.goto (-25), 3) := by decide +kernel
theorem dX6_netOfPad_32 : decode cX6_netOfPad 32 = .ok (.iload_n 1, 1) := by decide +kernel
theorem dX6_netOfPad_33 : decode cX6_netOfPad 33 = .ok (.ireturn, 1) := by decide +kernel
set_option maxRecDepth 20000 in
theorem ggX6_netOfTriples_X6_many : GoodIn wsX6_netOfTriples wsX6_many := goodIn_r _ [5, 6, 22, 23, 24, 25, 26, 27, 28, 29, 30, 31, 32, 33, 34] (by decide +kernel) (by decide +kernel)
set_option maxRecDepth 20000 in
theorem gX6_netOfTriples_X6_many : GoodIn wsX6_netOfTriples (wsV RX6 68 RX6 yX6_many wsX6_many) := goodIn_app (goodIn_of _ (by decide +kernel)) ggX6_netOfTriples_X6_many
set_option maxRecDepth 20000 in
theorem ggX6_netOfTriples_X6_told : GoodIn wsX6_netOfTriples wsX6_told := goodIn_r _ [10, 11, 12, 13, 14, 4, 15, 1, 2, 3, 5, 6, 22, 23, 24, 25, 26, 27, 28, 29, 30, 31, 32, 33, 34] (by decide +kernel) (by decide +kernel)
set_option maxRecDepth 20000 in
theorem gX6_netOfTriples_X6_told : GoodIn wsX6_netOfTriples (wsV RX6 95 RX6 yX6_told wsX6_told) := goodIn_app (goodIn_of _ (by decide +kernel)) ggX6_netOfTriples_X6_told
set_option maxRecDepth 20000 in
theorem ggX6_netOfTriples_X6_valueOf : GoodIn wsX6_netOfTriples wsX6_valueOf := goodIn_r _ [18, 19, 20, 4, 21] (by decide +kernel) (by decide +kernel)
set_option maxRecDepth 20000 in
theorem gX6_netOfTriples_X6_valueOf : GoodIn wsX6_netOfTriples (va_wsS RX6 41 yX6_valueOf wsX6_valueOf) := goodIn_app (goodIn_of _ (by decide +kernel)) ggX6_netOfTriples_X6_valueOf
theorem dX6_netOfTriples_0 : decode cX6_netOfTriples 0 = .ok (.iconst 0, 1) := by decide +kernel
theorem dX6_netOfTriples_1 : decode cX6_netOfTriples 1 = .ok (.istore_n 1, 1) := by decide +kernel
theorem dX6_netOfTriples_2 : decode cX6_netOfTriples 2 = .ok (.iconst 1, 1) := by decide +kernel
theorem dX6_netOfTriples_3 : decode cX6_netOfTriples 3 = .ok (.istore_n 2, 1) := by decide +kernel
theorem dX6_netOfTriples_4 : decode cX6_netOfTriples 4 = .ok (.iload_n 2, 1) := by decide +kernel
theorem dX6_netOfTriples_5 : decode cX6_netOfTriples 5 = .ok (.aload_n 0, 1) := by decide +kernel
theorem dX6_netOfTriples_6 : decode cX6_netOfTriples 6 = .ok (.invokevirtual 68, 3) := by decide +kernel
theorem dX6_netOfTriples_9 : decode cX6_netOfTriples 9 = .ok (.if_icmp .ge 54, 3) := by decide +kernel
theorem dX6_netOfTriples_12 : decode cX6_netOfTriples 12 = .ok (.iload_n 2, 1) := by decide +kernel
theorem dX6_netOfTriples_13 : decode cX6_netOfTriples 13 = .ok (.iconst 1, 1) := by decide +kernel
theorem dX6_netOfTriples_14 : decode cX6_netOfTriples 14 = .ok (.iadd, 1) := by decide +kernel
theorem dX6_netOfTriples_15 : decode cX6_netOfTriples 15 = .ok (.istore_n 3, 1) := by decide +kernel
theorem dX6_netOfTriples_16 : decode cX6_netOfTriples 16 = .ok (.iload_n 3, 1) := by decide +kernel
theorem dX6_netOfTriples_17 : decode cX6_netOfTriples 17 = .ok (.aload_n 0, 1) := by decide +kernel
theorem dX6_netOfTriples_18 : decode cX6_netOfTriples 18 = .ok (.invokevirtual 68, 3) := by decide +kernel
theorem dX6_netOfTriples_21 : decode cX6_netOfTriples 21 = .ok (.if_icmp .ge 36, 3) := by decide +kernel
theorem dX6_netOfTriples_24 : decode cX6_netOfTriples 24 = .ok (.iload_n 1, 1) := by decide +kernel
theorem dX6_netOfTriples_25 : decode cX6_netOfTriples 25 = .ok (.aload_n 0, 1) := by decide +kernel
theorem dX6_netOfTriples_26 : decode cX6_netOfTriples 26 = .ok (.iconst 0, 1) := by decide +kernel
theorem dX6_netOfTriples_27 : decode cX6_netOfTriples 27 = .ok (.iload_n 2, 1) := by decide +kernel
theorem dX6_netOfTriples_28 : decode cX6_netOfTriples 28 = .ok (.iload_n 3, 1) := by decide +kernel
theorem dX6_netOfTriples_29 : decode cX6_netOfTriples 29 = .ok (.invokevirtual 95, 3) := by decide +kernel
theorem dX6_netOfTriples_32 : decode cX6_netOfTriples 32 = .ok (.iconst 1, 1) := by decide +kernel
theorem dX6_netOfTriples_33 : decode cX6_netOfTriples 33 = .ok (.if_icmp .ne 15, 3) := by decide +kernel
theorem dX6_netOfTriples_36 : decode cX6_netOfTriples 36 = .ok (.aload_n 0, 1) := by decide +kernel
theorem dX6_netOfTriples_37 : decode cX6_netOfTriples 37 = .ok (.invokevirtual 68, 3) := by decide +kernel
theorem dX6_netOfTriples_40 : decode cX6_netOfTriples 40 = .ok (.iload_n 2, 1) := by decide +kernel
theorem dX6_netOfTriples_41 : decode cX6_netOfTriples 41 = .ok (.iload_n 3, 1) := by decide +kernel
theorem dX6_netOfTriples_42 : decode cX6_netOfTriples 42 = .ok (.invokestatic 41, 3) := by decide +kernel
theorem dX6_netOfTriples_45 : decode cX6_netOfTriples 45 = .ok (.goto 4, 3) := by decide +kernel
theorem dX6_netOfTriples_48 : decode cX6_netOfTriples 48 = .ok (.iconst 0, 1) := by decide +kernel
theorem dX6_netOfTriples_49 : decode cX6_netOfTriples 49 = .ok (.ior, 1) := by decide +kernel
theorem dX6_netOfTriples_50 : decode cX6_netOfTriples 50 = .ok (.istore_n 1, 1) := by decide +kernel
theorem dX6_netOfTriples_51 : decode cX6_netOfTriples 51 = .ok (.iinc 3 1, 3) := by decide +kernel
theorem dX6_netOfTriples_54 : decode cX6_netOfTriples 54 = .ok (.goto (-38), 3) := by decide +kernel
theorem dX6_netOfTriples_57 : decode cX6_netOfTriples 57 = .ok (.iinc 2 1, 3) := by decide +kernel
theorem dX6_netOfTriples_60 : decode cX6_netOfTriples 60 = .ok (.goto (-56), 3) := by decide +kernel
theorem dX6_netOfTriples_63 : decode cX6_netOfTriples 63 = .ok (.iload_n 1, 1) := by decide +kernel
theorem dX6_netOfTriples_64 : decode cX6_netOfTriples 64 = .ok (.ireturn, 1) := by decide +kernel
set_option maxRecDepth 20000 in
theorem ggX6_read_X6_isSlot : GoodIn wsX6_read wsX6_isSlot := goodIn_r _ [5, 6, 7, 4, 8] (by decide +kernel) (by decide +kernel)
set_option maxRecDepth 20000 in
theorem gX6_read_X6_isSlot : GoodIn wsX6_read (va_wsS RX6 72 yX6_isSlot wsX6_isSlot) := goodIn_app (goodIn_of _ (by decide +kernel)) ggX6_read_X6_isSlot
set_option maxRecDepth 20000 in
theorem ggX6_read_X6_in : GoodIn wsX6_read wsX6_in := goodIn_r _ [8] (by decide +kernel) (by decide +kernel)
set_option maxRecDepth 20000 in
theorem gX6_read_X6_in : GoodIn wsX6_read (va_wsS RX6 33 yX6_in wsX6_in) := goodIn_app (goodIn_of _ (by decide +kernel)) ggX6_read_X6_in
set_option maxRecDepth 20000 in
theorem ggX6_read_X6_faultAs : GoodIn wsX6_read wsX6_faultAs := goodIn_r _ [12, 1, 13, 14, 15, 16, 4, 17, 18, 19, 20, 21, 22, 23, 24, 6, 7, 8, 56, 57, 58, 59, 60, 61, 62, 63, 64, 65, 66, 67, 68] (by decide +kernel) (by decide +kernel)
set_option maxRecDepth 20000 in
theorem gX6_read_X6_faultAs : GoodIn wsX6_read (wsV RX6 89 RX6 yX6_faultAs wsX6_faultAs) := goodIn_app (goodIn_of _ (by decide +kernel)) ggX6_read_X6_faultAs
set_option maxRecDepth 20000 in
theorem ggX6_read_X6_areFit : GoodIn wsX6_read wsX6_areFit := goodIn_r _ [28, 14, 15, 16, 4, 17, 18, 29, 30, 31, 32, 33, 34, 35, 36, 13, 37, 38, 39, 40, 56, 57, 58, 59, 60, 61, 62, 63, 64, 65, 66, 67, 68] (by decide +kernel) (by decide +kernel)
set_option maxRecDepth 20000 in
theorem gX6_read_X6_areFit : GoodIn wsX6_read (wsV RX6 102 RX6 yX6_areFit wsX6_areFit) := goodIn_app (goodIn_of _ (by decide +kernel)) ggX6_read_X6_areFit
set_option maxRecDepth 20000 in
theorem ggX6_read_X6_netOfPad : GoodIn wsX6_read wsX6_netOfPad := goodIn_r _ [44, 1, 13, 56, 57, 58, 59, 60, 61, 62, 63, 64, 65, 66, 67, 68] (by decide +kernel) (by decide +kernel)
set_option maxRecDepth 20000 in
theorem gX6_read_X6_netOfPad : GoodIn wsX6_read (wsV RX6 106 RX6 yX6_netOfPad wsX6_netOfPad) := goodIn_app (goodIn_of _ (by decide +kernel)) ggX6_read_X6_netOfPad
set_option maxRecDepth 20000 in
theorem ggX6_read_X6_netOfTriples : GoodIn wsX6_read wsX6_netOfTriples := goodIn_r _ [48, 14, 15, 16, 4, 17, 18, 33, 34, 35, 36, 13, 37, 38, 39, 40, 49, 50, 51, 19, 20, 21, 56, 57, 58, 59, 60, 61, 62, 63, 64, 65, 66, 67, 68] (by decide +kernel) (by decide +kernel)
set_option maxRecDepth 20000 in
theorem gX6_read_X6_netOfTriples : GoodIn wsX6_read (wsV RX6 109 RX6 yX6_netOfTriples wsX6_netOfTriples) := goodIn_app (goodIn_of _ (by decide +kernel)) ggX6_read_X6_netOfTriples
set_option maxRecDepth 20000 in
theorem ggX6_read_X6_hold : GoodIn wsX6_read wsX6_hold := goodIn_r _ [55, 18, 56, 57, 58, 59, 60, 61, 62, 63, 64, 65, 66, 67, 68] (by decide +kernel) (by decide +kernel)
set_option maxRecDepth 20000 in
theorem gX6_read_X6_hold : GoodIn wsX6_read (wsV RX6 112 RX6 yX6_hold wsX6_hold) := goodIn_app (goodIn_of _ (by decide +kernel)) ggX6_read_X6_hold
theorem dX6_read_0 : decode cX6_read 0 = .ok (.iload_n 1, 1) := by decide +kernel
theorem dX6_read_1 : decode cX6_read 1 = .ok (.invokestatic 72, 3) := by decide +kernel
theorem dX6_read_4 : decode cX6_read 4 = .ok (.ifCond .ne 5, 3) := by decide +kernel
theorem dX6_read_7 : decode cX6_read 7 = .ok (.iconst (-1), 1) := by decide +kernel
theorem dX6_read_8 : decode cX6_read 8 = .ok (.ireturn, 1) := by decide +kernel
theorem dX6_read_9 : decode cX6_read 9 = .ok (.iload_n 2, 1) := by decide +kernel
theorem dX6_read_10 : decode cX6_read 10 = .ok (.iconst 0, 1) := by decide +kernel
theorem dX6_read_11 : decode cX6_read 11 = .ok (.iconst 1, 1) := by decide +kernel
theorem dX6_read_12 : decode cX6_read 12 = .ok (.invokestatic 33, 3) := by decide +kernel
theorem dX6_read_15 : decode cX6_read 15 = .ok (.ifCond .ne 6, 3) := by decide +kernel
theorem dX6_read_18 : decode cX6_read 18 = .ok (.bipush (-2), 2) := by decide +kernel
theorem dX6_read_20 : decode cX6_read 20 = .ok (.ireturn, 1) := by decide +kernel
theorem dX6_read_21 : decode cX6_read 21 = .ok (.aload_n 0, 1) := by decide +kernel
theorem dX6_read_22 : decode cX6_read 22 = .ok (.iload_n 2, 1) := by decide +kernel
theorem dX6_read_23 : decode cX6_read 23 = .ok (.invokevirtual 89, 3) := by decide +kernel
theorem dX6_read_26 : decode cX6_read 26 = .ok (.ifCond .lt 6, 3) := by decide +kernel
theorem dX6_read_29 : decode cX6_read 29 = .ok (.bipush (-7), 2) := by decide +kernel
theorem dX6_read_31 : decode cX6_read 31 = .ok (.ireturn, 1) := by decide +kernel
theorem dX6_read_32 : decode cX6_read 32 = .ok (.iload_n 2, 1) := by decide +kernel
theorem dX6_read_33 : decode cX6_read 33 = .ok (.iconst 1, 1) := by decide +kernel
theorem dX6_read_34 : decode cX6_read 34 = .ok (.if_icmp .ne 13, 3) := by decide +kernel
theorem dX6_read_37 : decode cX6_read 37 = .ok (.aload_n 0, 1) := by decide +kernel
theorem dX6_read_38 : decode cX6_read 38 = .ok (.invokevirtual 102, 3) := by decide +kernel
theorem dX6_read_41 : decode cX6_read 41 = .ok (.ifCond .ne 6, 3) := by decide +kernel
theorem dX6_read_44 : decode cX6_read 44 = .ok (.bipush (-3), 2) := by decide +kernel
theorem dX6_read_46 : decode cX6_read 46 = .ok (.ireturn, 1) := by decide +kernel
theorem dX6_read_47 : decode cX6_read 47 = .ok (.iload_n 2, 1) := by decide +kernel
theorem dX6_read_48 : decode cX6_read 48 = .ok (.ifCond .ne 10, 3) := by decide +kernel
theorem dX6_read_51 : decode cX6_read 51 = .ok (.aload_n 0, 1) := by decide +kernel
theorem dX6_read_52 : decode cX6_read 52 = .ok (.invokevirtual 106, 3) := by decide +kernel
theorem dX6_read_55 : decode cX6_read 55 = .ok (.goto 7, 3) := by decide +kernel
theorem dX6_read_58 : decode cX6_read 58 = .ok (.aload_n 0, 1) := by decide +kernel
theorem dX6_read_59 : decode cX6_read 59 = .ok (.invokevirtual 109, 3) := by decide +kernel
theorem dX6_read_62 : decode cX6_read 62 = .ok (.istore_n 3, 1) := by decide +kernel
theorem dX6_read_63 : decode cX6_read 63 = .ok (.aload_n 0, 1) := by decide +kernel
theorem dX6_read_64 : decode cX6_read 64 = .ok (.iconst 0, 1) := by decide +kernel
theorem dX6_read_65 : decode cX6_read 65 = .ok (.putfield 82, 3) := by decide +kernel
theorem dX6_read_68 : decode cX6_read 68 = .ok (.aload_n 0, 1) := by decide +kernel
theorem dX6_read_69 : decode cX6_read 69 = .ok (.iload_n 1, 1) := by decide +kernel
theorem dX6_read_70 : decode cX6_read 70 = .ok (.iload_n 3, 1) := by decide +kernel
theorem dX6_read_71 : decode cX6_read 71 = .ok (.invokevirtual 112, 3) := by decide +kernel
theorem dX6_read_74 : decode cX6_read 74 = .ok (.ireturn, 1) := by decide +kernel
set_option maxRecDepth 20000 in
theorem ggX6_turn_X6_isSlot : GoodIn wsX6_turn wsX6_isSlot := goodIn_r _ [4, 5, 6, 3, 7] (by decide +kernel) (by decide +kernel)
set_option maxRecDepth 20000 in
theorem gX6_turn_X6_isSlot : GoodIn wsX6_turn (va_wsS RX6 72 yX6_isSlot wsX6_isSlot) := goodIn_app (goodIn_of _ (by decide +kernel)) ggX6_turn_X6_isSlot
set_option maxRecDepth 20000 in
theorem ggX6_turn_X6_many : GoodIn wsX6_turn wsX6_many := goodIn_r _ [11, 12, 30, 31, 32, 33, 34, 35, 36, 37, 38, 39, 40, 41, 42] (by decide +kernel) (by decide +kernel)
set_option maxRecDepth 20000 in
theorem gX6_turn_X6_many : GoodIn wsX6_turn (wsV RX6 68 RX6 yX6_many wsX6_many) := goodIn_app (goodIn_of _ (by decide +kernel)) ggX6_turn_X6_many
set_option maxRecDepth 20000 in
theorem ggX6_turn_X6_in : GoodIn wsX6_turn wsX6_in := goodIn_r _ [7] (by decide +kernel) (by decide +kernel)
set_option maxRecDepth 20000 in
theorem gX6_turn_X6_in : GoodIn wsX6_turn (va_wsS RX6 33 yX6_in wsX6_in) := goodIn_app (goodIn_of _ (by decide +kernel)) ggX6_turn_X6_in
set_option maxRecDepth 20000 in
theorem ggX6_turn_X6_netOf : GoodIn wsX6_turn wsX6_netOf := goodIn_r _ [16, 12, 30, 31, 32, 33, 34, 35, 36, 37, 38, 39, 40, 41, 42] (by decide +kernel) (by decide +kernel)
set_option maxRecDepth 20000 in
theorem gX6_turn_X6_netOf : GoodIn wsX6_turn (wsV RX6 79 RX6 yX6_netOf wsX6_netOf) := goodIn_app (goodIn_of _ (by decide +kernel)) ggX6_turn_X6_netOf
set_option maxRecDepth 20000 in
theorem ggX6_turn_X6_switched : GoodIn wsX6_turn wsX6_switched := goodIn_r _ [19, 20, 21, 3, 22, 23, 24, 25] (by decide +kernel) (by decide +kernel)
set_option maxRecDepth 20000 in
theorem gX6_turn_X6_switched : GoodIn wsX6_turn (va_wsS RX6 55 yX6_switched wsX6_switched) := goodIn_app (goodIn_of _ (by decide +kernel)) ggX6_turn_X6_switched
set_option maxRecDepth 20000 in
theorem ggX6_turn_X6_hold : GoodIn wsX6_turn wsX6_hold := goodIn_r _ [29, 12, 30, 31, 32, 33, 34, 35, 36, 37, 38, 39, 40, 41, 42] (by decide +kernel) (by decide +kernel)
set_option maxRecDepth 20000 in
theorem gX6_turn_X6_hold : GoodIn wsX6_turn (wsV RX6 112 RX6 yX6_hold wsX6_hold) := goodIn_app (goodIn_of _ (by decide +kernel)) ggX6_turn_X6_hold
theorem dX6_turn_0 : decode cX6_turn 0 = .ok (.iload_n 1, 1) := by decide +kernel
theorem dX6_turn_1 : decode cX6_turn 1 = .ok (.invokestatic 72, 3) := by decide +kernel
theorem dX6_turn_4 : decode cX6_turn 4 = .ok (.ifCond .eq 10, 3) := by decide +kernel
theorem dX6_turn_7 : decode cX6_turn 7 = .ok (.iload_n 2, 1) := by decide +kernel
theorem dX6_turn_8 : decode cX6_turn 8 = .ok (.invokestatic 72, 3) := by decide +kernel
theorem dX6_turn_11 : decode cX6_turn 11 = .ok (.ifCond .ne 5, 3) := by decide +kernel
theorem dX6_turn_14 : decode cX6_turn 14 = .ok (.iconst (-1), 1) := by decide +kernel
theorem dX6_turn_15 : decode cX6_turn 15 = .ok (.ireturn, 1) := by decide +kernel
theorem dX6_turn_16 : decode cX6_turn 16 = .ok (.iload_n 3, 1) := by decide +kernel
theorem dX6_turn_17 : decode cX6_turn 17 = .ok (.iconst 0, 1) := by decide +kernel
theorem dX6_turn_18 : decode cX6_turn 18 = .ok (.iconst 1, 1) := by decide +kernel
theorem dX6_turn_19 : decode cX6_turn 19 = .ok (.aload_n 0, 1) := by decide +kernel
theorem dX6_turn_20 : decode cX6_turn 20 = .ok (.invokevirtual 68, 3) := by decide +kernel
theorem dX6_turn_23 : decode cX6_turn 23 = .ok (.ishl, 1) := by decide +kernel
theorem dX6_turn_24 : decode cX6_turn 24 = .ok (.iconst 1, 1) := by decide +kernel
theorem dX6_turn_25 : decode cX6_turn 25 = .ok (.isub, 1) := by decide +kernel
theorem dX6_turn_26 : decode cX6_turn 26 = .ok (.invokestatic 33, 3) := by decide +kernel
theorem dX6_turn_29 : decode cX6_turn 29 = .ok (.ifCond .eq 24, 3) := by decide +kernel
theorem dX6_turn_32 : decode cX6_turn 32 = .ok (.aload_n 0, 1) := by decide +kernel
theorem dX6_turn_33 : decode cX6_turn 33 = .ok (.iload_n 1, 1) := by decide +kernel
theorem dX6_turn_34 : decode cX6_turn 34 = .ok (.aload_n 0, 1) := by decide +kernel
theorem dX6_turn_35 : decode cX6_turn 35 = .ok (.invokevirtual 68, 3) := by decide +kernel
theorem dX6_turn_38 : decode cX6_turn 38 = .ok (.aload_n 0, 1) := by decide +kernel
theorem dX6_turn_39 : decode cX6_turn 39 = .ok (.iload_n 2, 1) := by decide +kernel
theorem dX6_turn_40 : decode cX6_turn 40 = .ok (.invokevirtual 79, 3) := by decide +kernel
theorem dX6_turn_43 : decode cX6_turn 43 = .ok (.iload_n 3, 1) := by decide +kernel
theorem dX6_turn_44 : decode cX6_turn 44 = .ok (.invokestatic 55, 3) := by decide +kernel
theorem dX6_turn_47 : decode cX6_turn 47 = .ok (.invokevirtual 112, 3) := by decide +kernel
theorem dX6_turn_50 : decode cX6_turn 50 = .ok (.goto 5, 3) := by decide +kernel
theorem dX6_turn_53 : decode cX6_turn 53 = .ok (.bipush (-2), 2) := by decide +kernel
theorem dX6_turn_55 : decode cX6_turn 55 = .ok (.ireturn, 1) := by decide +kernel
set_option maxRecDepth 20000 in
theorem ggX6_regular_X6_many : GoodIn wsX6_regular wsX6_many := goodIn_r _ [5, 6, 22, 23, 24, 25, 26, 27, 28, 29, 30, 31, 32, 33, 34] (by decide +kernel) (by decide +kernel)
set_option maxRecDepth 20000 in
theorem gX6_regular_X6_many : GoodIn wsX6_regular (wsV RX6 68 RX6 yX6_many wsX6_many) := goodIn_app (goodIn_of _ (by decide +kernel)) ggX6_regular_X6_many
set_option maxRecDepth 20000 in
theorem ggX6_regular_X6_oddOfPair : GoodIn wsX6_regular wsX6_oddOfPair := goodIn_r _ [9, 10, 11, 4, 12, 13, 14, 15, 16, 17, 18, 19, 20, 21] (by decide +kernel) (by decide +kernel)
set_option maxRecDepth 20000 in
theorem gX6_regular_X6_oddOfPair : GoodIn wsX6_regular (va_wsS RX6 62 yX6_oddOfPair wsX6_oddOfPair) := goodIn_app (goodIn_of _ (by decide +kernel)) ggX6_regular_X6_oddOfPair
theorem dX6_regular_0 : decode cX6_regular 0 = .ok (.aload_n 0, 1) := by decide +kernel
theorem dX6_regular_1 : decode cX6_regular 1 = .ok (.invokevirtual 68, 3) := by decide +kernel
theorem dX6_regular_4 : decode cX6_regular 4 = .ok (.iload_n 1, 1) := by decide +kernel
theorem dX6_regular_5 : decode cX6_regular 5 = .ok (.iconst 0, 1) := by decide +kernel
theorem dX6_regular_6 : decode cX6_regular 6 = .ok (.iconst 1, 1) := by decide +kernel
theorem dX6_regular_7 : decode cX6_regular 7 = .ok (.invokestatic 62, 3) := by decide +kernel
theorem dX6_regular_10 : decode cX6_regular 10 = .ok (.istore_n 2, 1) := by decide +kernel
theorem dX6_regular_11 : decode cX6_regular 11 = .ok (.iconst 1, 1) := by decide +kernel
theorem dX6_regular_12 : decode cX6_regular 12 = .ok (.istore_n 3, 1) := by decide +kernel
theorem dX6_regular_13 : decode cX6_regular 13 = .ok (.iconst 0, 1) := by decide +kernel
theorem dX6_regular_14 : decode cX6_regular 14 = .ok (.istore 4, 2) := by decide +kernel
theorem dX6_regular_16 : decode cX6_regular 16 = .ok (.iload 4, 2) := by decide +kernel
theorem dX6_regular_18 : decode cX6_regular 18 = .ok (.aload_n 0, 1) := by decide +kernel
theorem dX6_regular_19 : decode cX6_regular 19 = .ok (.invokevirtual 68, 3) := by decide +kernel
theorem dX6_regular_22 : decode cX6_regular 22 = .ok (.if_icmp .ge 56, 3) := by decide +kernel
theorem dX6_regular_25 : decode cX6_regular 25 = .ok (.iload 4, 2) := by decide +kernel
theorem dX6_regular_27 : decode cX6_regular 27 = .ok (.iconst 1, 1) := by decide +kernel
theorem dX6_regular_28 : decode cX6_regular 28 = .ok (.iadd, 1) := by decide +kernel
theorem dX6_regular_29 : decode cX6_regular 29 = .ok (.istore 5, 2) := by decide +kernel
theorem dX6_regular_31 : decode cX6_regular 31 = .ok (.iload 5, 2) := by decide +kernel
theorem dX6_regular_33 : decode cX6_regular 33 = .ok (.aload_n 0, 1) := by decide +kernel
theorem dX6_regular_34 : decode cX6_regular 34 = .ok (.invokevirtual 68, 3) := by decide +kernel
theorem dX6_regular_37 : decode cX6_regular 37 = .ok (.if_icmp .ge 35, 3) := by decide +kernel
theorem dX6_regular_40 : decode cX6_regular 40 = .ok (.iload_n 3, 1) := by decide +kernel
theorem dX6_regular_41 : decode cX6_regular 41 = .ok (.ifCond .eq 23, 3) := by decide +kernel
theorem dX6_regular_44 : decode cX6_regular 44 = .ok (.aload_n 0, 1) := by decide +kernel
theorem dX6_regular_45 : decode cX6_regular 45 = .ok (.invokevirtual 68, 3) := by decide +kernel
theorem dX6_regular_48 : decode cX6_regular 48 = .ok (.iload_n 1, 1) := by decide +kernel
theorem dX6_regular_49 : decode cX6_regular 49 = .ok (.iload 4, 2) := by decide +kernel
theorem dX6_regular_51 : decode cX6_regular 51 = .ok (.iload 5, 2) := by decide +kernel
theorem dX6_regular_53 : decode cX6_regular 53 = .ok (.invokestatic 62, 3) := by decide +kernel
theorem dX6_regular_56 : decode cX6_regular 56 = .ok (.iload_n 2, 1) := by decide +kernel
theorem dX6_regular_57 : decode cX6_regular 57 = .ok (.if_icmp .ne 7, 3) := by decide +kernel
theorem dX6_regular_60 : decode cX6_regular 60 = .ok (.iconst 1, 1) := by decide +kernel
theorem dX6_regular_61 : decode cX6_regular 61 = .ok (.goto 4, 3) := by decide +kernel
theorem dX6_regular_64 : decode cX6_regular 64 = .ok (.iconst 0, 1) := by decide +kernel
theorem dX6_regular_65 : decode cX6_regular 65 = .ok (.istore_n 3, 1) := by decide +kernel
theorem dX6_regular_66 : decode cX6_regular 66 = .ok (.iinc 5 1, 3) := by decide +kernel
theorem dX6_regular_69 : decode cX6_regular 69 = .ok (.goto (-38), 3) := by decide +kernel
theorem dX6_regular_72 : decode cX6_regular 72 = .ok (.iinc 4 1, 3) := by decide +kernel
theorem dX6_regular_75 : decode cX6_regular 75 = .ok (.goto (-59), 3) := by decide +kernel
theorem dX6_regular_78 : decode cX6_regular 78 = .ok (.iload_n 3, 1) := by decide +kernel
theorem dX6_regular_79 : decode cX6_regular 79 = .ok (.ifCond .eq 7, 3) := by decide +kernel
theorem dX6_regular_82 : decode cX6_regular 82 = .ok (.iload_n 2, 1) := by decide +kernel
theorem dX6_regular_83 : decode cX6_regular 83 = .ok (.goto 5, 3) := by decide +kernel
theorem dX6_regular_86 : decode cX6_regular 86 = .ok (.bipush (-6), 2) := by decide +kernel
theorem dX6_regular_88 : decode cX6_regular 88 = .ok (.ireturn, 1) := by decide +kernel
set_option maxRecDepth 20000 in
theorem ggX6_oddNodes_X6_many : GoodIn wsX6_oddNodes wsX6_many := goodIn_r _ [5, 6, 25, 26, 27, 28, 29, 30, 31, 32, 33, 34, 35, 36, 37] (by decide +kernel) (by decide +kernel)
set_option maxRecDepth 20000 in
theorem gX6_oddNodes_X6_many : GoodIn wsX6_oddNodes (wsV RX6 68 RX6 yX6_many wsX6_many) := goodIn_app (goodIn_of _ (by decide +kernel)) ggX6_oddNodes_X6_many
set_option maxRecDepth 20000 in
theorem ggX6_oddNodes_X6_degree : GoodIn wsX6_oddNodes wsX6_degree := goodIn_r _ [9, 10, 11, 4, 12, 13, 14, 15, 16, 17, 18, 19, 20, 21, 22, 23, 24] (by decide +kernel) (by decide +kernel)
set_option maxRecDepth 20000 in
theorem gX6_oddNodes_X6_degree : GoodIn wsX6_oddNodes (va_wsS RX6 116 yX6_degree wsX6_degree) := goodIn_app (goodIn_of _ (by decide +kernel)) ggX6_oddNodes_X6_degree
theorem dX6_oddNodes_0 : decode cX6_oddNodes 0 = .ok (.iconst 0, 1) := by decide +kernel
theorem dX6_oddNodes_1 : decode cX6_oddNodes 1 = .ok (.istore_n 2, 1) := by decide +kernel
theorem dX6_oddNodes_2 : decode cX6_oddNodes 2 = .ok (.iconst 0, 1) := by decide +kernel
theorem dX6_oddNodes_3 : decode cX6_oddNodes 3 = .ok (.istore_n 3, 1) := by decide +kernel
theorem dX6_oddNodes_4 : decode cX6_oddNodes 4 = .ok (.iload_n 3, 1) := by decide +kernel
theorem dX6_oddNodes_5 : decode cX6_oddNodes 5 = .ok (.aload_n 0, 1) := by decide +kernel
theorem dX6_oddNodes_6 : decode cX6_oddNodes 6 = .ok (.invokevirtual 68, 3) := by decide +kernel
theorem dX6_oddNodes_9 : decode cX6_oddNodes 9 = .ok (.if_icmp .ge 25, 3) := by decide +kernel
theorem dX6_oddNodes_12 : decode cX6_oddNodes 12 = .ok (.iload_n 2, 1) := by decide +kernel
theorem dX6_oddNodes_13 : decode cX6_oddNodes 13 = .ok (.aload_n 0, 1) := by decide +kernel
theorem dX6_oddNodes_14 : decode cX6_oddNodes 14 = .ok (.invokevirtual 68, 3) := by decide +kernel
theorem dX6_oddNodes_17 : decode cX6_oddNodes 17 = .ok (.iload_n 1, 1) := by decide +kernel
theorem dX6_oddNodes_18 : decode cX6_oddNodes 18 = .ok (.iload_n 3, 1) := by decide +kernel
theorem dX6_oddNodes_19 : decode cX6_oddNodes 19 = .ok (.invokestatic 116, 3) := by decide +kernel
theorem dX6_oddNodes_22 : decode cX6_oddNodes 22 = .ok (.iconst 2, 1) := by decide +kernel
theorem dX6_oddNodes_23 : decode cX6_oddNodes 23 = .ok (.irem, 1) := by decide +kernel
theorem dX6_oddNodes_24 : decode cX6_oddNodes 24 = .ok (.iload_n 3, 1) := by decide +kernel
theorem dX6_oddNodes_25 : decode cX6_oddNodes 25 = .ok (.ishl, 1) := by decide +kernel
theorem dX6_oddNodes_26 : decode cX6_oddNodes 26 = .ok (.ior, 1) := by decide +kernel
theorem dX6_oddNodes_27 : decode cX6_oddNodes 27 = .ok (.istore_n 2, 1) := by decide +kernel
theorem dX6_oddNodes_28 : decode cX6_oddNodes 28 = .ok (.iinc 3 1, 3) := by decide +kernel
theorem dX6_oddNodes_31 : decode cX6_oddNodes 31 = .ok (.goto (-27), 3) := by decide +kernel
theorem dX6_oddNodes_34 : decode cX6_oddNodes 34 = .ok (.iload_n 2, 1) := by decide +kernel
theorem dX6_oddNodes_35 : decode cX6_oddNodes 35 = .ok (.ireturn, 1) := by decide +kernel
set_option maxRecDepth 20000 in
theorem ggX6_of_X6_isSlot : GoodIn wsX6_of wsX6_isSlot := goodIn_r _ [4, 5, 6, 3, 7] (by decide +kernel) (by decide +kernel)
set_option maxRecDepth 20000 in
theorem gX6_of_X6_isSlot : GoodIn wsX6_of (va_wsS RX6 72 yX6_isSlot wsX6_isSlot) := goodIn_app (goodIn_of _ (by decide +kernel)) ggX6_of_X6_isSlot
set_option maxRecDepth 20000 in
theorem ggX6_of_X6_netOf : GoodIn wsX6_of wsX6_netOf := goodIn_r _ [11, 12, 55, 56, 57, 58, 59, 60, 61, 62, 63, 64, 65, 66, 67] (by decide +kernel) (by decide +kernel)
set_option maxRecDepth 20000 in
theorem gX6_of_X6_netOf : GoodIn wsX6_of (wsV RX6 79 RX6 yX6_netOf wsX6_netOf) := goodIn_app (goodIn_of _ (by decide +kernel)) ggX6_of_X6_netOf
set_option maxRecDepth 20000 in
theorem ggX6_of_X6_size : GoodIn wsX6_of wsX6_size := goodIn_r _ [15] (by decide +kernel) (by decide +kernel)
set_option maxRecDepth 20000 in
theorem gX6_of_X6_size : GoodIn wsX6_of (va_wsS RX6 52 yX6_size wsX6_size) := goodIn_app (goodIn_of _ (by decide +kernel)) ggX6_of_X6_size
set_option maxRecDepth 20000 in
theorem ggX6_of_X6_many : GoodIn wsX6_of wsX6_many := goodIn_r _ [19, 12, 55, 56, 57, 58, 59, 60, 61, 62, 63, 64, 65, 66, 67] (by decide +kernel) (by decide +kernel)
set_option maxRecDepth 20000 in
theorem gX6_of_X6_many : GoodIn wsX6_of (wsV RX6 68 RX6 yX6_many wsX6_many) := goodIn_app (goodIn_of _ (by decide +kernel)) ggX6_of_X6_many
set_option maxRecDepth 20000 in
theorem ggX6_of_X6_oddOfNet : GoodIn wsX6_of wsX6_oddOfNet := goodIn_r _ [22, 23, 24, 3, 25, 26, 27, 28, 29, 30, 31, 32, 33, 34, 35, 36, 37, 38, 39, 40] (by decide +kernel) (by decide +kernel)
set_option maxRecDepth 20000 in
theorem gX6_of_X6_oddOfNet : GoodIn wsX6_of (va_wsS RX6 119 yX6_oddOfNet wsX6_oddOfNet) := goodIn_app (goodIn_of _ (by decide +kernel)) ggX6_of_X6_oddOfNet
set_option maxRecDepth 20000 in
theorem ggX6_of_X6_regular : GoodIn wsX6_of wsX6_regular := goodIn_r _ [44, 16, 17, 18, 3, 19, 12, 26, 27, 28, 29, 30, 31, 32, 33, 34, 35, 36, 37, 38, 39, 40, 55, 56, 57, 58, 59, 60, 61, 62, 63, 64, 65, 66, 67] (by decide +kernel) (by decide +kernel)
set_option maxRecDepth 20000 in
theorem gX6_of_X6_regular : GoodIn wsX6_of (wsV RX6 122 RX6 yX6_regular wsX6_regular) := goodIn_app (goodIn_of _ (by decide +kernel)) ggX6_of_X6_regular
set_option maxRecDepth 20000 in
theorem ggX6_of_X6_oddNodes : GoodIn wsX6_of wsX6_oddNodes := goodIn_r _ [48, 16, 17, 18, 3, 19, 12, 49, 50, 51, 52, 53, 54, 32, 33, 34, 35, 36, 37, 38, 39, 40, 13, 14, 15, 55, 56, 57, 58, 59, 60, 61, 62, 63, 64, 65, 66, 67] (by decide +kernel) (by decide +kernel)
set_option maxRecDepth 20000 in
theorem gX6_of_X6_oddNodes : GoodIn wsX6_of (wsV RX6 125 RX6 yX6_oddNodes wsX6_oddNodes) := goodIn_app (goodIn_of _ (by decide +kernel)) ggX6_of_X6_oddNodes
theorem dX6_of_0 : decode cX6_of 0 = .ok (.iload_n 1, 1) := by decide +kernel
theorem dX6_of_1 : decode cX6_of 1 = .ok (.invokestatic 72, 3) := by decide +kernel
theorem dX6_of_4 : decode cX6_of 4 = .ok (.ifCond .ne 5, 3) := by decide +kernel
theorem dX6_of_7 : decode cX6_of 7 = .ok (.iconst (-1), 1) := by decide +kernel
theorem dX6_of_8 : decode cX6_of 8 = .ok (.ireturn, 1) := by decide +kernel
theorem dX6_of_9 : decode cX6_of 9 = .ok (.aload_n 0, 1) := by decide +kernel
theorem dX6_of_10 : decode cX6_of 10 = .ok (.iload_n 1, 1) := by decide +kernel
theorem dX6_of_11 : decode cX6_of 11 = .ok (.invokevirtual 79, 3) := by decide +kernel
theorem dX6_of_14 : decode cX6_of 14 = .ok (.istore_n 3, 1) := by decide +kernel
theorem dX6_of_15 : decode cX6_of 15 = .ok (.iload_n 2, 1) := by decide +kernel
theorem dX6_of_16 : decode cX6_of 16 = .ok (.tableswitch 64 0 4 #[36, 38, 43, 52, 58], 36) := by decide +kernel
theorem dX6_of_52 : decode cX6_of 52 = .ok (.iload_n 3, 1) := by decide +kernel
theorem dX6_of_53 : decode cX6_of 53 = .ok (.ireturn, 1) := by decide +kernel
theorem dX6_of_54 : decode cX6_of 54 = .ok (.iload_n 3, 1) := by decide +kernel
theorem dX6_of_55 : decode cX6_of 55 = .ok (.invokestatic 52, 3) := by decide +kernel
theorem dX6_of_58 : decode cX6_of 58 = .ok (.ireturn, 1) := by decide +kernel
theorem dX6_of_59 : decode cX6_of 59 = .ok (.aload_n 0, 1) := by decide +kernel
theorem dX6_of_60 : decode cX6_of 60 = .ok (.invokevirtual 68, 3) := by decide +kernel
theorem dX6_of_63 : decode cX6_of 63 = .ok (.iload_n 3, 1) := by decide +kernel
theorem dX6_of_64 : decode cX6_of 64 = .ok (.invokestatic 119, 3) := by decide +kernel
theorem dX6_of_67 : decode cX6_of 67 = .ok (.ireturn, 1) := by decide +kernel
theorem dX6_of_68 : decode cX6_of 68 = .ok (.aload_n 0, 1) := by decide +kernel
theorem dX6_of_69 : decode cX6_of 69 = .ok (.iload_n 3, 1) := by decide +kernel
theorem dX6_of_70 : decode cX6_of 70 = .ok (.invokevirtual 122, 3) := by decide +kernel
theorem dX6_of_73 : decode cX6_of 73 = .ok (.ireturn, 1) := by decide +kernel
theorem dX6_of_74 : decode cX6_of 74 = .ok (.aload_n 0, 1) := by decide +kernel
theorem dX6_of_75 : decode cX6_of 75 = .ok (.iload_n 3, 1) := by decide +kernel
theorem dX6_of_76 : decode cX6_of 76 = .ok (.invokevirtual 125, 3) := by decide +kernel
theorem dX6_of_79 : decode cX6_of 79 = .ok (.ireturn, 1) := by decide +kernel
theorem dX6_of_80 : decode cX6_of 80 = .ok (.bipush (-2), 2) := by decide +kernel
theorem dX6_of_82 : decode cX6_of 82 = .ok (.ireturn, 1) := by decide +kernel
set_option maxRecDepth 20000 in
theorem ggX6_node_X6_isSlot : GoodIn wsX6_node wsX6_isSlot := goodIn_r _ [4, 5, 6, 3, 7] (by decide +kernel) (by decide +kernel)
set_option maxRecDepth 20000 in
theorem gX6_node_X6_isSlot : GoodIn wsX6_node (va_wsS RX6 72 yX6_isSlot wsX6_isSlot) := goodIn_app (goodIn_of _ (by decide +kernel)) ggX6_node_X6_isSlot
set_option maxRecDepth 20000 in
theorem ggX6_node_X6_isNode : GoodIn wsX6_node wsX6_isNode := goodIn_r _ [11, 12, 5, 6, 3, 7, 57, 58, 59, 60, 61, 62, 63, 64, 65, 66, 67, 68, 69] (by decide +kernel) (by decide +kernel)
set_option maxRecDepth 20000 in
theorem gX6_node_X6_isNode : GoodIn wsX6_node (wsV RX6 76 RX6 yX6_isNode wsX6_isNode) := goodIn_app (goodIn_of _ (by decide +kernel)) ggX6_node_X6_isNode
set_option maxRecDepth 20000 in
theorem ggX6_node_X6_netOf : GoodIn wsX6_node wsX6_netOf := goodIn_r _ [16, 12, 57, 58, 59, 60, 61, 62, 63, 64, 65, 66, 67, 68, 69] (by decide +kernel) (by decide +kernel)
set_option maxRecDepth 20000 in
theorem gX6_node_X6_netOf : GoodIn wsX6_node (wsV RX6 79 RX6 yX6_netOf wsX6_netOf) := goodIn_app (goodIn_of _ (by decide +kernel)) ggX6_node_X6_netOf
set_option maxRecDepth 20000 in
theorem ggX6_node_X6_many : GoodIn wsX6_node wsX6_many := goodIn_r _ [20, 12, 57, 58, 59, 60, 61, 62, 63, 64, 65, 66, 67, 68, 69] (by decide +kernel) (by decide +kernel)
set_option maxRecDepth 20000 in
theorem gX6_node_X6_many : GoodIn wsX6_node (wsV RX6 68 RX6 yX6_many wsX6_many) := goodIn_app (goodIn_of _ (by decide +kernel)) ggX6_node_X6_many
set_option maxRecDepth 20000 in
theorem ggX6_node_X6_degree : GoodIn wsX6_node wsX6_degree := goodIn_r _ [23, 24, 25, 3, 26, 27, 28, 29, 30, 31, 32, 33, 34, 35, 36, 37, 38] (by decide +kernel) (by decide +kernel)
set_option maxRecDepth 20000 in
theorem gX6_node_X6_degree : GoodIn wsX6_node (va_wsS RX6 116 yX6_degree wsX6_degree) := goodIn_app (goodIn_of _ (by decide +kernel)) ggX6_node_X6_degree
set_option maxRecDepth 20000 in
theorem ggX6_node_X6_oddOfNode : GoodIn wsX6_node wsX6_oddOfNode := goodIn_r _ [41, 42, 43, 3, 44, 45, 46, 47, 27, 28, 29, 30, 31, 32, 33, 34, 35] (by decide +kernel) (by decide +kernel)
set_option maxRecDepth 20000 in
theorem gX6_node_X6_oddOfNode : GoodIn wsX6_node (va_wsS RX6 65 yX6_oddOfNode wsX6_oddOfNode) := goodIn_app (goodIn_of _ (by decide +kernel)) ggX6_node_X6_oddOfNode
set_option maxRecDepth 20000 in
theorem ggX6_node_X6_alone : GoodIn wsX6_node wsX6_alone := goodIn_r _ [50, 24, 25, 3, 26, 27, 28, 29, 30, 31, 32, 33, 34, 35, 51, 52, 53] (by decide +kernel) (by decide +kernel)
set_option maxRecDepth 20000 in
theorem gX6_node_X6_alone : GoodIn wsX6_node (va_wsS RX6 128 yX6_alone wsX6_alone) := goodIn_app (goodIn_of _ (by decide +kernel)) ggX6_node_X6_alone
set_option maxRecDepth 20000 in
theorem ggX6_node_X6_without : GoodIn wsX6_node wsX6_without := goodIn_r _ [56, 27, 28, 3, 29, 30, 31, 32, 33, 34, 35] (by decide +kernel) (by decide +kernel)
set_option maxRecDepth 20000 in
theorem gX6_node_X6_without : GoodIn wsX6_node (va_wsS RX6 131 yX6_without wsX6_without) := goodIn_app (goodIn_of _ (by decide +kernel)) ggX6_node_X6_without
theorem dX6_node_0 : decode cX6_node 0 = .ok (.iload_n 1, 1) := by decide +kernel
theorem dX6_node_1 : decode cX6_node 1 = .ok (.invokestatic 72, 3) := by decide +kernel
theorem dX6_node_4 : decode cX6_node 4 = .ok (.ifCond .eq 11, 3) := by decide +kernel
theorem dX6_node_7 : decode cX6_node 7 = .ok (.aload_n 0, 1) := by decide +kernel
theorem dX6_node_8 : decode cX6_node 8 = .ok (.iload_n 2, 1) := by decide +kernel
theorem dX6_node_9 : decode cX6_node 9 = .ok (.invokevirtual 76, 3) := by decide +kernel
theorem dX6_node_12 : decode cX6_node 12 = .ok (.ifCond .ne 5, 3) := by decide +kernel
theorem dX6_node_15 : decode cX6_node 15 = .ok (.iconst (-1), 1) := by decide +kernel
theorem dX6_node_16 : decode cX6_node 16 = .ok (.ireturn, 1) := by decide +kernel
theorem dX6_node_17 : decode cX6_node 17 = .ok (.aload_n 0, 1) := by decide +kernel
theorem dX6_node_18 : decode cX6_node 18 = .ok (.iload_n 1, 1) := by decide +kernel
theorem dX6_node_19 : decode cX6_node 19 = .ok (.invokevirtual 79, 3) := by decide +kernel
theorem dX6_node_22 : decode cX6_node 22 = .ok (.istore 4, 2) := by decide +kernel
theorem dX6_node_24 : decode cX6_node 24 = .ok (.iload_n 3, 1) := by decide +kernel
theorem dX6_node_25 : decode cX6_node 25 = .ok (.tableswitch 83 0 3 #[31, 42, 53, 64], 31) := by decide +kernel
theorem dX6_node_56 : decode cX6_node 56 = .ok (.aload_n 0, 1) := by decide +kernel
theorem dX6_node_57 : decode cX6_node 57 = .ok (.invokevirtual 68, 3) := by decide +kernel
theorem dX6_node_60 : decode cX6_node 60 = .ok (.iload 4, 2) := by decide +kernel
theorem dX6_node_62 : decode cX6_node 62 = .ok (.iload_n 2, 1) := by decide +kernel
theorem dX6_node_63 : decode cX6_node 63 = .ok (.invokestatic 116, 3) := by decide +kernel
theorem dX6_node_66 : decode cX6_node 66 = .ok (.ireturn, 1) := by decide +kernel
theorem dX6_node_67 : decode cX6_node 67 = .ok (.aload_n 0, 1) := by decide +kernel
theorem dX6_node_68 : decode cX6_node 68 = .ok (.invokevirtual 68, 3) := by decide +kernel
theorem dX6_node_71 : decode cX6_node 71 = .ok (.iload 4, 2) := by decide +kernel
theorem dX6_node_73 : decode cX6_node 73 = .ok (.iload_n 2, 1) := by decide +kernel
theorem dX6_node_74 : decode cX6_node 74 = .ok (.invokestatic 65, 3) := by decide +kernel
theorem dX6_node_77 : decode cX6_node 77 = .ok (.ireturn, 1) := by decide +kernel
theorem dX6_node_78 : decode cX6_node 78 = .ok (.aload_n 0, 1) := by decide +kernel
theorem dX6_node_79 : decode cX6_node 79 = .ok (.invokevirtual 68, 3) := by decide +kernel
theorem dX6_node_82 : decode cX6_node 82 = .ok (.iload 4, 2) := by decide +kernel
theorem dX6_node_84 : decode cX6_node 84 = .ok (.iload_n 2, 1) := by decide +kernel
theorem dX6_node_85 : decode cX6_node 85 = .ok (.invokestatic 128, 3) := by decide +kernel
theorem dX6_node_88 : decode cX6_node 88 = .ok (.ireturn, 1) := by decide +kernel
theorem dX6_node_89 : decode cX6_node 89 = .ok (.aload_n 0, 1) := by decide +kernel
theorem dX6_node_90 : decode cX6_node 90 = .ok (.invokevirtual 68, 3) := by decide +kernel
theorem dX6_node_93 : decode cX6_node 93 = .ok (.aload_n 0, 1) := by decide +kernel
theorem dX6_node_94 : decode cX6_node 94 = .ok (.invokevirtual 68, 3) := by decide +kernel
theorem dX6_node_97 : decode cX6_node 97 = .ok (.iload 4, 2) := by decide +kernel
theorem dX6_node_99 : decode cX6_node 99 = .ok (.iload_n 2, 1) := by decide +kernel
theorem dX6_node_100 : decode cX6_node 100 = .ok (.invokestatic 128, 3) := by decide +kernel
theorem dX6_node_103 : decode cX6_node 103 = .ok (.iload_n 2, 1) := by decide +kernel
theorem dX6_node_104 : decode cX6_node 104 = .ok (.invokestatic 131, 3) := by decide +kernel
theorem dX6_node_107 : decode cX6_node 107 = .ok (.ireturn, 1) := by decide +kernel
theorem dX6_node_108 : decode cX6_node 108 = .ok (.bipush (-2), 2) := by decide +kernel
theorem dX6_node_110 : decode cX6_node 110 = .ok (.ireturn, 1) := by decide +kernel
set_option maxRecDepth 20000 in
theorem ggX6_common_X6_neighbours : GoodIn wsX6_common wsX6_neighbours := goodIn_r _ [4, 5, 6, 3, 7, 8, 9, 10, 11, 12, 13] (by decide +kernel) (by decide +kernel)
set_option maxRecDepth 20000 in
theorem gX6_common_X6_neighbours : GoodIn wsX6_common (va_wsS RX6 49 yX6_neighbours wsX6_neighbours) := goodIn_app (goodIn_of _ (by decide +kernel)) ggX6_common_X6_neighbours
set_option maxRecDepth 20000 in
theorem ggX6_common_X6_size : GoodIn wsX6_common wsX6_size := goodIn_r _ [16] (by decide +kernel) (by decide +kernel)
set_option maxRecDepth 20000 in
theorem gX6_common_X6_size : GoodIn wsX6_common (va_wsS RX6 52 yX6_size wsX6_size) := goodIn_app (goodIn_of _ (by decide +kernel)) ggX6_common_X6_size
theorem dX6_common_0 : decode cX6_common 0 = .ok (.iload_n 0, 1) := by decide +kernel
theorem dX6_common_1 : decode cX6_common 1 = .ok (.iload_n 1, 1) := by decide +kernel
theorem dX6_common_2 : decode cX6_common 2 = .ok (.iload_n 2, 1) := by decide +kernel
theorem dX6_common_3 : decode cX6_common 3 = .ok (.invokestatic 49, 3) := by decide +kernel
theorem dX6_common_6 : decode cX6_common 6 = .ok (.iload_n 0, 1) := by decide +kernel
theorem dX6_common_7 : decode cX6_common 7 = .ok (.iload_n 1, 1) := by decide +kernel
theorem dX6_common_8 : decode cX6_common 8 = .ok (.iload_n 3, 1) := by decide +kernel
theorem dX6_common_9 : decode cX6_common 9 = .ok (.invokestatic 49, 3) := by decide +kernel
theorem dX6_common_12 : decode cX6_common 12 = .ok (.iand, 1) := by decide +kernel
theorem dX6_common_13 : decode cX6_common 13 = .ok (.invokestatic 52, 3) := by decide +kernel
theorem dX6_common_16 : decode cX6_common 16 = .ok (.ireturn, 1) := by decide +kernel
set_option maxRecDepth 20000 in
theorem ggX6_pair_X6_isSlot : GoodIn wsX6_pair wsX6_isSlot := goodIn_r _ [4, 5, 6, 3, 7] (by decide +kernel) (by decide +kernel)
set_option maxRecDepth 20000 in
theorem gX6_pair_X6_isSlot : GoodIn wsX6_pair (va_wsS RX6 72 yX6_isSlot wsX6_isSlot) := goodIn_app (goodIn_of _ (by decide +kernel)) ggX6_pair_X6_isSlot
set_option maxRecDepth 20000 in
theorem ggX6_pair_X6_isNode : GoodIn wsX6_pair wsX6_isNode := goodIn_r _ [11, 12, 5, 6, 3, 7, 45, 46, 47, 48, 49, 50, 51, 52, 53, 54, 55, 56, 57] (by decide +kernel) (by decide +kernel)
set_option maxRecDepth 20000 in
theorem gX6_pair_X6_isNode : GoodIn wsX6_pair (wsV RX6 76 RX6 yX6_isNode wsX6_isNode) := goodIn_app (goodIn_of _ (by decide +kernel)) ggX6_pair_X6_isNode
set_option maxRecDepth 20000 in
theorem ggX6_pair_X6_in : GoodIn wsX6_pair wsX6_in := goodIn_r _ [7] (by decide +kernel) (by decide +kernel)
set_option maxRecDepth 20000 in
theorem gX6_pair_X6_in : GoodIn wsX6_pair (va_wsS RX6 33 yX6_in wsX6_in) := goodIn_app (goodIn_of _ (by decide +kernel)) ggX6_pair_X6_in
set_option maxRecDepth 20000 in
theorem ggX6_pair_X6_netOf : GoodIn wsX6_pair wsX6_netOf := goodIn_r _ [16, 12, 45, 46, 47, 48, 49, 50, 51, 52, 53, 54, 55, 56, 57] (by decide +kernel) (by decide +kernel)
set_option maxRecDepth 20000 in
theorem gX6_pair_X6_netOf : GoodIn wsX6_pair (wsV RX6 79 RX6 yX6_netOf wsX6_netOf) := goodIn_app (goodIn_of _ (by decide +kernel)) ggX6_pair_X6_netOf
set_option maxRecDepth 20000 in
theorem ggX6_pair_X6_many : GoodIn wsX6_pair wsX6_many := goodIn_r _ [20, 12, 45, 46, 47, 48, 49, 50, 51, 52, 53, 54, 55, 56, 57] (by decide +kernel) (by decide +kernel)
set_option maxRecDepth 20000 in
theorem gX6_pair_X6_many : GoodIn wsX6_pair (wsV RX6 68 RX6 yX6_many wsX6_many) := goodIn_app (goodIn_of _ (by decide +kernel)) ggX6_pair_X6_many
set_option maxRecDepth 20000 in
theorem ggX6_pair_X6_joined : GoodIn wsX6_pair wsX6_joined := goodIn_r _ [23, 24, 25, 3, 26, 27, 28, 29] (by decide +kernel) (by decide +kernel)
set_option maxRecDepth 20000 in
theorem gX6_pair_X6_joined : GoodIn wsX6_pair (va_wsS RX6 45 yX6_joined wsX6_joined) := goodIn_app (goodIn_of _ (by decide +kernel)) ggX6_pair_X6_joined
set_option maxRecDepth 20000 in
theorem ggX6_pair_X6_oddOfPair : GoodIn wsX6_pair wsX6_oddOfPair := goodIn_r _ [32, 33, 34, 3, 35, 21, 22, 23, 24, 25, 26, 27, 28, 29] (by decide +kernel) (by decide +kernel)
set_option maxRecDepth 20000 in
theorem gX6_pair_X6_oddOfPair : GoodIn wsX6_pair (va_wsS RX6 62 yX6_oddOfPair wsX6_oddOfPair) := goodIn_app (goodIn_of _ (by decide +kernel)) ggX6_pair_X6_oddOfPair
set_option maxRecDepth 20000 in
theorem ggX6_pair_X6_common : GoodIn wsX6_pair wsX6_common := goodIn_r _ [38, 39, 40, 3, 41, 21, 22, 23, 24, 25, 26, 27, 28, 29, 42, 43, 44] (by decide +kernel) (by decide +kernel)
set_option maxRecDepth 20000 in
theorem gX6_pair_X6_common : GoodIn wsX6_pair (va_wsS RX6 134 yX6_common wsX6_common) := goodIn_app (goodIn_of _ (by decide +kernel)) ggX6_pair_X6_common
theorem dX6_pair_0 : decode cX6_pair 0 = .ok (.iload_n 1, 1) := by decide +kernel
theorem dX6_pair_1 : decode cX6_pair 1 = .ok (.invokestatic 72, 3) := by decide +kernel
theorem dX6_pair_4 : decode cX6_pair 4 = .ok (.ifCond .eq 19, 3) := by decide +kernel
theorem dX6_pair_7 : decode cX6_pair 7 = .ok (.aload_n 0, 1) := by decide +kernel
theorem dX6_pair_8 : decode cX6_pair 8 = .ok (.iload_n 2, 1) := by decide +kernel
theorem dX6_pair_9 : decode cX6_pair 9 = .ok (.invokevirtual 76, 3) := by decide +kernel
theorem dX6_pair_12 : decode cX6_pair 12 = .ok (.ifCond .eq 11, 3) := by decide +kernel
theorem dX6_pair_15 : decode cX6_pair 15 = .ok (.aload_n 0, 1) := by decide +kernel
theorem dX6_pair_16 : decode cX6_pair 16 = .ok (.iload_n 3, 1) := by decide +kernel
theorem dX6_pair_17 : decode cX6_pair 17 = .ok (.invokevirtual 76, 3) := by decide +kernel
theorem dX6_pair_20 : decode cX6_pair 20 = .ok (.ifCond .ne 5, 3) := by decide +kernel
theorem dX6_pair_23 : decode cX6_pair 23 = .ok (.iconst (-1), 1) := by decide +kernel
theorem dX6_pair_24 : decode cX6_pair 24 = .ok (.ireturn, 1) := by decide +kernel
theorem dX6_pair_25 : decode cX6_pair 25 = .ok (.iload_n 2, 1) := by decide +kernel
theorem dX6_pair_26 : decode cX6_pair 26 = .ok (.iload_n 3, 1) := by decide +kernel
theorem dX6_pair_27 : decode cX6_pair 27 = .ok (.if_icmp .eq 13, 3) := by decide +kernel
theorem dX6_pair_30 : decode cX6_pair 30 = .ok (.iload 4, 2) := by decide +kernel
theorem dX6_pair_32 : decode cX6_pair 32 = .ok (.iconst 0, 1) := by decide +kernel
theorem dX6_pair_33 : decode cX6_pair 33 = .ok (.iconst 2, 1) := by decide +kernel
theorem dX6_pair_34 : decode cX6_pair 34 = .ok (.invokestatic 33, 3) := by decide +kernel
theorem dX6_pair_37 : decode cX6_pair 37 = .ok (.ifCond .ne 6, 3) := by decide +kernel
theorem dX6_pair_40 : decode cX6_pair 40 = .ok (.bipush (-2), 2) := by decide +kernel
theorem dX6_pair_42 : decode cX6_pair 42 = .ok (.ireturn, 1) := by decide +kernel
theorem dX6_pair_43 : decode cX6_pair 43 = .ok (.aload_n 0, 1) := by decide +kernel
theorem dX6_pair_44 : decode cX6_pair 44 = .ok (.iload_n 1, 1) := by decide +kernel
theorem dX6_pair_45 : decode cX6_pair 45 = .ok (.invokevirtual 79, 3) := by decide +kernel
theorem dX6_pair_48 : decode cX6_pair 48 = .ok (.istore 5, 2) := by decide +kernel
theorem dX6_pair_50 : decode cX6_pair 50 = .ok (.iload 4, 2) := by decide +kernel
theorem dX6_pair_52 : decode cX6_pair 52 = .ok (.ifCond .ne 17, 3) := by decide +kernel
theorem dX6_pair_55 : decode cX6_pair 55 = .ok (.aload_n 0, 1) := by decide +kernel
theorem dX6_pair_56 : decode cX6_pair 56 = .ok (.invokevirtual 68, 3) := by decide +kernel
theorem dX6_pair_59 : decode cX6_pair 59 = .ok (.iload 5, 2) := by decide +kernel
theorem dX6_pair_61 : decode cX6_pair 61 = .ok (.iload_n 2, 1) := by decide +kernel
theorem dX6_pair_62 : decode cX6_pair 62 = .ok (.iload_n 3, 1) := by decide +kernel
theorem dX6_pair_63 : decode cX6_pair 63 = .ok (.invokestatic 45, 3) := by decide +kernel
theorem dX6_pair_66 : decode cX6_pair 66 = .ok (.goto 34, 3) := by decide +kernel
theorem dX6_pair_69 : decode cX6_pair 69 = .ok (.iload 4, 2) := by decide +kernel
theorem dX6_pair_71 : decode cX6_pair 71 = .ok (.iconst 1, 1) := by decide +kernel
theorem dX6_pair_72 : decode cX6_pair 72 = .ok (.if_icmp .ne 17, 3) := by decide +kernel
theorem dX6_pair_75 : decode cX6_pair 75 = .ok (.aload_n 0, 1) := by decide +kernel
theorem dX6_pair_76 : decode cX6_pair 76 = .ok (.invokevirtual 68, 3) := by decide +kernel
theorem dX6_pair_79 : decode cX6_pair 79 = .ok (.iload 5, 2) := by decide +kernel
theorem dX6_pair_81 : decode cX6_pair 81 = .ok (.iload_n 2, 1) := by decide +kernel
theorem dX6_pair_82 : decode cX6_pair 82 = .ok (.iload_n 3, 1) := by decide +kernel
theorem dX6_pair_83 : decode cX6_pair 83 = .ok (.invokestatic 62, 3) := by decide +kernel
theorem dX6_pair_86 : decode cX6_pair 86 = .ok (.goto 14, 3) := by decide +kernel
theorem dX6_pair_89 : decode cX6_pair 89 = .ok (.aload_n 0, 1) := by decide +kernel
theorem dX6_pair_90 : decode cX6_pair 90 = .ok (.invokevirtual 68, 3) := by decide +kernel
theorem dX6_pair_93 : decode cX6_pair 93 = .ok (.iload 5, 2) := by decide +kernel
theorem dX6_pair_95 : decode cX6_pair 95 = .ok (.iload_n 2, 1) := by decide +kernel
theorem dX6_pair_96 : decode cX6_pair 96 = .ok (.iload_n 3, 1) := by decide +kernel
theorem dX6_pair_97 : decode cX6_pair 97 = .ok (.invokestatic 134, 3) := by decide +kernel
theorem dX6_pair_100 : decode cX6_pair 100 = .ok (.ireturn, 1) := by decide +kernel
set_option maxRecDepth 20000 in
theorem ggX6_fewest_X6_isSlot : GoodIn wsX6_fewest wsX6_isSlot := goodIn_r _ [7, 8, 9, 6, 10] (by decide +kernel) (by decide +kernel)
set_option maxRecDepth 20000 in
theorem gX6_fewest_X6_isSlot : GoodIn wsX6_fewest (va_wsS RX6 72 yX6_isSlot wsX6_isSlot) := goodIn_app (goodIn_of _ (by decide +kernel)) ggX6_fewest_X6_isSlot
set_option maxRecDepth 20000 in
theorem ggX6_fewest_X6_in : GoodIn wsX6_fewest wsX6_in := goodIn_r _ [10] (by decide +kernel) (by decide +kernel)
set_option maxRecDepth 20000 in
theorem gX6_fewest_X6_in : GoodIn wsX6_fewest (va_wsS RX6 33 yX6_in wsX6_in) := goodIn_app (goodIn_of _ (by decide +kernel)) ggX6_fewest_X6_in
set_option maxRecDepth 20000 in
theorem ggX6_fewest_X6_many : GoodIn wsX6_fewest wsX6_many := goodIn_r _ [14, 15, 32, 33, 34, 35, 36, 37, 38, 39, 40, 41, 42, 43, 44] (by decide +kernel) (by decide +kernel)
set_option maxRecDepth 20000 in
theorem gX6_fewest_X6_many : GoodIn wsX6_fewest (wsV RX6 68 RX6 yX6_many wsX6_many) := goodIn_app (goodIn_of _ (by decide +kernel)) ggX6_fewest_X6_many
set_option maxRecDepth 20000 in
theorem ggX6_fewest_X6_netOf : GoodIn wsX6_fewest wsX6_netOf := goodIn_r _ [19, 15, 32, 33, 34, 35, 36, 37, 38, 39, 40, 41, 42, 43, 44] (by decide +kernel) (by decide +kernel)
set_option maxRecDepth 20000 in
theorem gX6_fewest_X6_netOf : GoodIn wsX6_fewest (wsV RX6 79 RX6 yX6_netOf wsX6_netOf) := goodIn_app (goodIn_of _ (by decide +kernel)) ggX6_fewest_X6_netOf
set_option maxRecDepth 20000 in
theorem ggX6_fewest_X6_switched : GoodIn wsX6_fewest wsX6_switched := goodIn_r _ [22, 23, 24, 6, 25, 26, 27, 28] (by decide +kernel) (by decide +kernel)
set_option maxRecDepth 20000 in
theorem gX6_fewest_X6_switched : GoodIn wsX6_fewest (va_wsS RX6 55 yX6_switched wsX6_switched) := goodIn_app (goodIn_of _ (by decide +kernel)) ggX6_fewest_X6_switched
set_option maxRecDepth 20000 in
theorem ggX6_fewest_X6_size : GoodIn wsX6_fewest wsX6_size := goodIn_r _ [31] (by decide +kernel) (by decide +kernel)
set_option maxRecDepth 20000 in
theorem gX6_fewest_X6_size : GoodIn wsX6_fewest (va_wsS RX6 52 yX6_size wsX6_size) := goodIn_app (goodIn_of _ (by decide +kernel)) ggX6_fewest_X6_size
theorem dX6_fewest_0 : decode cX6_fewest 0 = .ok (.iload_n 1, 1) := by decide +kernel
theorem dX6_fewest_1 : decode cX6_fewest 1 = .ok (.invokestatic 72, 3) := by decide +kernel
theorem dX6_fewest_4 : decode cX6_fewest 4 = .ok (.ifCond .ne 5, 3) := by decide +kernel
theorem dX6_fewest_7 : decode cX6_fewest 7 = .ok (.iconst (-1), 1) := by decide +kernel
theorem dX6_fewest_8 : decode cX6_fewest 8 = .ok (.ireturn, 1) := by decide +kernel
theorem dX6_fewest_9 : decode cX6_fewest 9 = .ok (.iload_n 2, 1) := by decide +kernel
theorem dX6_fewest_10 : decode cX6_fewest 10 = .ok (.iconst 0, 1) := by decide +kernel
theorem dX6_fewest_11 : decode cX6_fewest 11 = .ok (.iconst 2, 1) := by decide +kernel
theorem dX6_fewest_12 : decode cX6_fewest 12 = .ok (.invokestatic 33, 3) := by decide +kernel
theorem dX6_fewest_15 : decode cX6_fewest 15 = .ok (.ifCond .ne 6, 3) := by decide +kernel
theorem dX6_fewest_18 : decode cX6_fewest 18 = .ok (.bipush (-2), 2) := by decide +kernel
theorem dX6_fewest_20 : decode cX6_fewest 20 = .ok (.ireturn, 1) := by decide +kernel
theorem dX6_fewest_21 : decode cX6_fewest 21 = .ok (.aload_n 0, 1) := by decide +kernel
theorem dX6_fewest_22 : decode cX6_fewest 22 = .ok (.bipush 99, 2) := by decide +kernel
theorem dX6_fewest_24 : decode cX6_fewest 24 = .ok (.putfield 137, 3) := by decide +kernel
theorem dX6_fewest_27 : decode cX6_fewest 27 = .ok (.iconst 0, 1) := by decide +kernel
theorem dX6_fewest_28 : decode cX6_fewest 28 = .ok (.istore_n 3, 1) := by decide +kernel
theorem dX6_fewest_29 : decode cX6_fewest 29 = .ok (.iload_n 3, 1) := by decide +kernel
theorem dX6_fewest_30 : decode cX6_fewest 30 = .ok (.iconst 1, 1) := by decide +kernel
theorem dX6_fewest_31 : decode cX6_fewest 31 = .ok (.aload_n 0, 1) := by decide +kernel
theorem dX6_fewest_32 : decode cX6_fewest 32 = .ok (.invokevirtual 68, 3) := by decide +kernel
theorem dX6_fewest_35 : decode cX6_fewest 35 = .ok (.ishl, 1) := by decide +kernel
theorem dX6_fewest_36 : decode cX6_fewest 36 = .ok (.if_icmp .ge 75, 3) := by decide +kernel
theorem dX6_fewest_39 : decode cX6_fewest 39 = .ok (.aload_n 0, 1) := by decide +kernel
theorem dX6_fewest_40 : decode cX6_fewest 40 = .ok (.invokevirtual 68, 3) := by decide +kernel
theorem dX6_fewest_43 : decode cX6_fewest 43 = .ok (.aload_n 0, 1) := by decide +kernel
theorem dX6_fewest_44 : decode cX6_fewest 44 = .ok (.iload_n 1, 1) := by decide +kernel
theorem dX6_fewest_45 : decode cX6_fewest 45 = .ok (.invokevirtual 79, 3) := by decide +kernel
theorem dX6_fewest_48 : decode cX6_fewest 48 = .ok (.iload_n 3, 1) := by decide +kernel
theorem dX6_fewest_49 : decode cX6_fewest 49 = .ok (.invokestatic 55, 3) := by decide +kernel
theorem dX6_fewest_52 : decode cX6_fewest 52 = .ok (.invokestatic 52, 3) := by decide +kernel
theorem dX6_fewest_55 : decode cX6_fewest 55 = .ok (.istore 4, 2) := by decide +kernel
theorem dX6_fewest_57 : decode cX6_fewest 57 = .ok (.iload 4, 2) := by decide +kernel
theorem dX6_fewest_59 : decode cX6_fewest 59 = .ok (.aload_n 0, 1) := by decide +kernel
theorem dX6_fewest_60 : decode cX6_fewest 60 = .ok (.getfield 137, 3) := by decide +kernel
theorem dX6_fewest_63 : decode cX6_fewest 63 = .ok (.if_icmp .ge 19, 3) := by decide +kernel
theorem dX6_fewest_66 : decode cX6_fewest 66 = .ok (.aload_n 0, 1) := by decide +kernel
theorem dX6_fewest_67 : decode cX6_fewest 67 = .ok (.iload 4, 2) := by decide +kernel
theorem dX6_fewest_69 : decode cX6_fewest 69 = .ok (.putfield 137, 3) := by decide +kernel
theorem dX6_fewest_72 : decode cX6_fewest 72 = .ok (.aload_n 0, 1) := by decide +kernel
theorem dX6_fewest_73 : decode cX6_fewest 73 = .ok (.iload_n 3, 1) := by decide +kernel
theorem dX6_fewest_74 : decode cX6_fewest 74 = .ok (.putfield 140, 3) := by decide +kernel
theorem dX6_fewest_77 : decode cX6_fewest 77 = .ok (.aload_n 0, 1) := by decide +kernel
theorem dX6_fewest_78 : decode cX6_fewest 78 = .ok (.iconst 0, 1) := by decide +kernel
theorem dX6_fewest_79 : decode cX6_fewest 79 = .ok (.putfield 143, 3) := by decide +kernel
theorem dX6_fewest_82 : decode cX6_fewest 82 = .ok (.aload_n 0, 1) := by decide +kernel
theorem dX6_fewest_83 : decode cX6_fewest 83 = .ok (.dup, 1) := by decide +kernel
theorem dX6_fewest_84 : decode cX6_fewest 84 = .ok (.getfield 143, 3) := by decide +kernel
theorem dX6_fewest_87 : decode cX6_fewest 87 = .ok (.iload 4, 2) := by decide +kernel
theorem dX6_fewest_89 : decode cX6_fewest 89 = .ok (.aload_n 0, 1) := by decide +kernel
theorem dX6_fewest_90 : decode cX6_fewest 90 = .ok (.getfield 137, 3) := by decide +kernel
theorem dX6_fewest_93 : decode cX6_fewest 93 = .ok (.if_icmp .ne 7, 3) := by decide +kernel
theorem dX6_fewest_96 : decode cX6_fewest 96 = .ok (.iconst 1, 1) := by decide +kernel
theorem dX6_fewest_97 : decode cX6_fewest 97 = .ok (.goto 4, 3) := by decide +kernel
theorem dX6_fewest_100 : decode cX6_fewest 100 = .ok (.iconst 0, 1) := by decide +kernel
theorem dX6_fewest_101 : decode cX6_fewest 101 = .ok (.iadd, 1) := by decide +kernel
theorem dX6_fewest_102 : decode cX6_fewest 102 = .ok (.putfield 143, 3) := by decide +kernel
theorem dX6_fewest_105 : decode cX6_fewest 105 = .ok (.iinc 3 2, 3) := by decide +kernel
theorem dX6_fewest_108 : decode cX6_fewest 108 = .ok (.goto (-79), 3) := by decide +kernel
theorem dX6_fewest_111 : decode cX6_fewest 111 = .ok (.iload_n 2, 1) := by decide +kernel
theorem dX6_fewest_112 : decode cX6_fewest 112 = .ok (.ifCond .ne 10, 3) := by decide +kernel
theorem dX6_fewest_115 : decode cX6_fewest 115 = .ok (.aload_n 0, 1) := by decide +kernel
theorem dX6_fewest_116 : decode cX6_fewest 116 = .ok (.getfield 137, 3) := by decide +kernel
theorem dX6_fewest_119 : decode cX6_fewest 119 = .ok (.goto 19, 3) := by decide +kernel
theorem dX6_fewest_122 : decode cX6_fewest 122 = .ok (.iload_n 2, 1) := by decide +kernel
theorem dX6_fewest_123 : decode cX6_fewest 123 = .ok (.iconst 1, 1) := by decide +kernel
theorem dX6_fewest_124 : decode cX6_fewest 124 = .ok (.if_icmp .ne 10, 3) := by decide +kernel
theorem dX6_fewest_127 : decode cX6_fewest 127 = .ok (.aload_n 0, 1) := by decide +kernel
theorem dX6_fewest_128 : decode cX6_fewest 128 = .ok (.getfield 140, 3) := by decide +kernel
theorem dX6_fewest_131 : decode cX6_fewest 131 = .ok (.goto 7, 3) := by decide +kernel
theorem dX6_fewest_134 : decode cX6_fewest 134 = .ok (.aload_n 0, 1) := by decide +kernel
theorem dX6_fewest_135 : decode cX6_fewest 135 = .ok (.getfield 143, 3) := by decide +kernel
theorem dX6_fewest_138 : decode cX6_fewest 138 = .ok (.ireturn, 1) := by decide +kernel
theorem dX6_beginFound_0 : decode cX6_beginFound 0 = .ok (.aload_n 0, 1) := by decide +kernel
theorem dX6_beginFound_1 : decode cX6_beginFound 1 = .ok (.iconst 0, 1) := by decide +kernel
theorem dX6_beginFound_2 : decode cX6_beginFound 2 = .ok (.putfield 143, 3) := by decide +kernel
theorem dX6_beginFound_5 : decode cX6_beginFound 5 = .ok (.aload_n 0, 1) := by decide +kernel
theorem dX6_beginFound_6 : decode cX6_beginFound 6 = .ok (.bipush (-6), 2) := by decide +kernel
theorem dX6_beginFound_8 : decode cX6_beginFound 8 = .ok (.putfield 140, 3) := by decide +kernel
theorem dX6_beginFound_11 : decode cX6_beginFound 11 = .ok (.return_, 1) := by decide +kernel
theorem dX6_find_0 : decode cX6_find 0 = .ok (.aload_n 0, 1) := by decide +kernel
theorem dX6_find_1 : decode cX6_find 1 = .ok (.aload_n 0, 1) := by decide +kernel
theorem dX6_find_2 : decode cX6_find 2 = .ok (.getfield 143, 3) := by decide +kernel
theorem dX6_find_5 : decode cX6_find 5 = .ok (.ifCond .ne 7, 3) := by decide +kernel
theorem dX6_find_8 : decode cX6_find 8 = .ok (.iload_n 1, 1) := by decide +kernel
theorem dX6_find_9 : decode cX6_find 9 = .ok (.goto 7, 3) := by decide +kernel
theorem dX6_find_12 : decode cX6_find 12 = .ok (.aload_n 0, 1) := by decide +kernel
theorem dX6_find_13 : decode cX6_find 13 = .ok (.getfield 140, 3) := by decide +kernel
theorem dX6_find_16 : decode cX6_find 16 = .ok (.putfield 140, 3) := by decide +kernel
theorem dX6_find_19 : decode cX6_find 19 = .ok (.aload_n 0, 1) := by decide +kernel
theorem dX6_find_20 : decode cX6_find 20 = .ok (.dup, 1) := by decide +kernel
theorem dX6_find_21 : decode cX6_find 21 = .ok (.getfield 143, 3) := by decide +kernel
theorem dX6_find_24 : decode cX6_find 24 = .ok (.iconst 1, 1) := by decide +kernel
theorem dX6_find_25 : decode cX6_find 25 = .ok (.iadd, 1) := by decide +kernel
theorem dX6_find_26 : decode cX6_find 26 = .ok (.putfield 143, 3) := by decide +kernel
theorem dX6_find_29 : decode cX6_find 29 = .ok (.return_, 1) := by decide +kernel
set_option maxRecDepth 20000 in
theorem ggX6_even_X6_isSlot : GoodIn wsX6_even wsX6_isSlot := goodIn_r _ [6, 7, 8, 5, 9] (by decide +kernel) (by decide +kernel)
set_option maxRecDepth 20000 in
theorem gX6_even_X6_isSlot : GoodIn wsX6_even (va_wsS RX6 72 yX6_isSlot wsX6_isSlot) := goodIn_app (goodIn_of _ (by decide +kernel)) ggX6_even_X6_isSlot
set_option maxRecDepth 20000 in
theorem ggX6_even_X6_in : GoodIn wsX6_even wsX6_in := goodIn_r _ [9] (by decide +kernel) (by decide +kernel)
set_option maxRecDepth 20000 in
theorem gX6_even_X6_in : GoodIn wsX6_even (va_wsS RX6 33 yX6_in wsX6_in) := goodIn_app (goodIn_of _ (by decide +kernel)) ggX6_even_X6_in
set_option maxRecDepth 20000 in
theorem ggX6_even_X6_beginFound : GoodIn wsX6_even wsX6_beginFound := goodIn_r _ [13, 1, 2, 52, 53, 54, 55, 56, 57, 58, 59, 60, 61, 62, 63, 64] (by decide +kernel) (by decide +kernel)
set_option maxRecDepth 20000 in
theorem gX6_even_X6_beginFound : GoodIn wsX6_even (wsV RX6 146 RX6 yX6_beginFound wsX6_beginFound) := goodIn_app (goodIn_of _ (by decide +kernel)) ggX6_even_X6_beginFound
set_option maxRecDepth 20000 in
theorem ggX6_even_X6_many : GoodIn wsX6_even wsX6_many := goodIn_r _ [17, 18, 52, 53, 54, 55, 56, 57, 58, 59, 60, 61, 62, 63, 64] (by decide +kernel) (by decide +kernel)
set_option maxRecDepth 20000 in
theorem gX6_even_X6_many : GoodIn wsX6_even (wsV RX6 68 RX6 yX6_many wsX6_many) := goodIn_app (goodIn_of _ (by decide +kernel)) ggX6_even_X6_many
set_option maxRecDepth 20000 in
theorem ggX6_even_X6_netOf : GoodIn wsX6_even wsX6_netOf := goodIn_r _ [22, 18, 52, 53, 54, 55, 56, 57, 58, 59, 60, 61, 62, 63, 64] (by decide +kernel) (by decide +kernel)
set_option maxRecDepth 20000 in
theorem gX6_even_X6_netOf : GoodIn wsX6_even (wsV RX6 79 RX6 yX6_netOf wsX6_netOf) := goodIn_app (goodIn_of _ (by decide +kernel)) ggX6_even_X6_netOf
set_option maxRecDepth 20000 in
theorem ggX6_even_X6_switched : GoodIn wsX6_even wsX6_switched := goodIn_r _ [25, 26, 27, 5, 28, 29, 30, 31] (by decide +kernel) (by decide +kernel)
set_option maxRecDepth 20000 in
theorem gX6_even_X6_switched : GoodIn wsX6_even (va_wsS RX6 55 yX6_switched wsX6_switched) := goodIn_app (goodIn_of _ (by decide +kernel)) ggX6_even_X6_switched
set_option maxRecDepth 20000 in
theorem ggX6_even_X6_oddNodes : GoodIn wsX6_even wsX6_oddNodes := goodIn_r _ [35, 14, 15, 16, 5, 17, 18, 36, 37, 38, 39, 40, 41, 42, 43, 44, 26, 27, 28, 29, 30, 31, 45, 46, 47, 52, 53, 54, 55, 56, 57, 58, 59, 60, 61, 62, 63, 64] (by decide +kernel) (by decide +kernel)
set_option maxRecDepth 20000 in
theorem gX6_even_X6_oddNodes : GoodIn wsX6_even (wsV RX6 125 RX6 yX6_oddNodes wsX6_oddNodes) := goodIn_app (goodIn_of _ (by decide +kernel)) ggX6_even_X6_oddNodes
set_option maxRecDepth 20000 in
theorem ggX6_even_X6_find : GoodIn wsX6_even wsX6_find := goodIn_r _ [51, 1, 2, 52, 53, 54, 55, 56, 57, 58, 59, 60, 61, 62, 63, 64] (by decide +kernel) (by decide +kernel)
set_option maxRecDepth 20000 in
theorem gX6_even_X6_find : GoodIn wsX6_even (wsV RX6 149 RX6 yX6_find wsX6_find) := goodIn_app (goodIn_of _ (by decide +kernel)) ggX6_even_X6_find
theorem dX6_even_0 : decode cX6_even 0 = .ok (.iload_n 1, 1) := by decide +kernel
theorem dX6_even_1 : decode cX6_even 1 = .ok (.invokestatic 72, 3) := by decide +kernel
theorem dX6_even_4 : decode cX6_even 4 = .ok (.ifCond .ne 5, 3) := by decide +kernel
theorem dX6_even_7 : decode cX6_even 7 = .ok (.iconst (-1), 1) := by decide +kernel
theorem dX6_even_8 : decode cX6_even 8 = .ok (.ireturn, 1) := by decide +kernel
theorem dX6_even_9 : decode cX6_even 9 = .ok (.iload_n 2, 1) := by decide +kernel
theorem dX6_even_10 : decode cX6_even 10 = .ok (.iconst 0, 1) := by decide +kernel
theorem dX6_even_11 : decode cX6_even 11 = .ok (.iconst 1, 1) := by decide +kernel
theorem dX6_even_12 : decode cX6_even 12 = .ok (.invokestatic 33, 3) := by decide +kernel
theorem dX6_even_15 : decode cX6_even 15 = .ok (.ifCond .ne 6, 3) := by decide +kernel
theorem dX6_even_18 : decode cX6_even 18 = .ok (.bipush (-2), 2) := by decide +kernel
theorem dX6_even_20 : decode cX6_even 20 = .ok (.ireturn, 1) := by decide +kernel
theorem dX6_even_21 : decode cX6_even 21 = .ok (.aload_n 0, 1) := by decide +kernel
theorem dX6_even_22 : decode cX6_even 22 = .ok (.invokevirtual 146, 3) := by decide +kernel
theorem dX6_even_25 : decode cX6_even 25 = .ok (.iconst 0, 1) := by decide +kernel
theorem dX6_even_26 : decode cX6_even 26 = .ok (.istore_n 3, 1) := by decide +kernel
theorem dX6_even_27 : decode cX6_even 27 = .ok (.iload_n 3, 1) := by decide +kernel
theorem dX6_even_28 : decode cX6_even 28 = .ok (.iconst 1, 1) := by decide +kernel
theorem dX6_even_29 : decode cX6_even 29 = .ok (.aload_n 0, 1) := by decide +kernel
theorem dX6_even_30 : decode cX6_even 30 = .ok (.invokevirtual 68, 3) := by decide +kernel
theorem dX6_even_33 : decode cX6_even 33 = .ok (.ishl, 1) := by decide +kernel
theorem dX6_even_34 : decode cX6_even 34 = .ok (.if_icmp .ge 34, 3) := by decide +kernel
theorem dX6_even_37 : decode cX6_even 37 = .ok (.aload_n 0, 1) := by decide +kernel
theorem dX6_even_38 : decode cX6_even 38 = .ok (.aload_n 0, 1) := by decide +kernel
theorem dX6_even_39 : decode cX6_even 39 = .ok (.invokevirtual 68, 3) := by decide +kernel
theorem dX6_even_42 : decode cX6_even 42 = .ok (.aload_n 0, 1) := by decide +kernel
theorem dX6_even_43 : decode cX6_even 43 = .ok (.iload_n 1, 1) := by decide +kernel
theorem dX6_even_44 : decode cX6_even 44 = .ok (.invokevirtual 79, 3) := by decide +kernel
theorem dX6_even_47 : decode cX6_even 47 = .ok (.iload_n 3, 1) := by decide +kernel
theorem dX6_even_48 : decode cX6_even 48 = .ok (.invokestatic 55, 3) := by decide +kernel
theorem dX6_even_51 : decode cX6_even 51 = .ok (.invokevirtual 125, 3) := by decide +kernel
theorem dX6_even_54 : decode cX6_even 54 = .ok (.ifCond .ne 8, 3) := by decide +kernel
theorem dX6_even_57 : decode cX6_even 57 = .ok (.aload_n 0, 1) := by decide +kernel
theorem dX6_even_58 : decode cX6_even 58 = .ok (.iload_n 3, 1) := by decide +kernel
theorem dX6_even_59 : decode cX6_even 59 = .ok (.invokevirtual 149, 3) := by decide +kernel
theorem dX6_even_62 : decode cX6_even 62 = .ok (.iinc 3 2, 3) := by decide +kernel
theorem dX6_even_65 : decode cX6_even 65 = .ok (.goto (-38), 3) := by decide +kernel
theorem dX6_even_68 : decode cX6_even 68 = .ok (.iload_n 2, 1) := by decide +kernel
theorem dX6_even_69 : decode cX6_even 69 = .ok (.ifCond .ne 10, 3) := by decide +kernel
theorem dX6_even_72 : decode cX6_even 72 = .ok (.aload_n 0, 1) := by decide +kernel
theorem dX6_even_73 : decode cX6_even 73 = .ok (.getfield 143, 3) := by decide +kernel
theorem dX6_even_76 : decode cX6_even 76 = .ok (.goto 7, 3) := by decide +kernel
theorem dX6_even_79 : decode cX6_even 79 = .ok (.aload_n 0, 1) := by decide +kernel
theorem dX6_even_80 : decode cX6_even 80 = .ok (.getfield 140, 3) := by decide +kernel
theorem dX6_even_83 : decode cX6_even 83 = .ok (.ireturn, 1) := by decide +kernel
set_option maxRecDepth 20000 in
theorem ggX6_isBy_X6_many : GoodIn wsX6_isBy wsX6_many := goodIn_r _ [5, 6, 25, 26, 27, 28, 29, 30, 31, 32, 33, 34, 35, 36, 37] (by decide +kernel) (by decide +kernel)
set_option maxRecDepth 20000 in
theorem gX6_isBy_X6_many : GoodIn wsX6_isBy (wsV RX6 68 RX6 yX6_many wsX6_many) := goodIn_app (goodIn_of _ (by decide +kernel)) ggX6_isBy_X6_many
set_option maxRecDepth 20000 in
theorem ggX6_isBy_X6_degree : GoodIn wsX6_isBy wsX6_degree := goodIn_r _ [9, 10, 11, 4, 12, 13, 14, 15, 16, 17, 18, 19, 20, 21, 22, 23, 24] (by decide +kernel) (by decide +kernel)
set_option maxRecDepth 20000 in
theorem gX6_isBy_X6_degree : GoodIn wsX6_isBy (va_wsS RX6 116 yX6_degree wsX6_degree) := goodIn_app (goodIn_of _ (by decide +kernel)) ggX6_isBy_X6_degree
theorem dX6_isBy_0 : decode cX6_isBy 0 = .ok (.iconst 1, 1) := by decide +kernel
theorem dX6_isBy_1 : decode cX6_isBy 1 = .ok (.istore_n 3, 1) := by decide +kernel
theorem dX6_isBy_2 : decode cX6_isBy 2 = .ok (.iconst 0, 1) := by decide +kernel
theorem dX6_isBy_3 : decode cX6_isBy 3 = .ok (.istore 4, 2) := by decide +kernel
theorem dX6_isBy_5 : decode cX6_isBy 5 = .ok (.iload 4, 2) := by decide +kernel
theorem dX6_isBy_7 : decode cX6_isBy 7 = .ok (.aload_n 0, 1) := by decide +kernel
theorem dX6_isBy_8 : decode cX6_isBy 8 = .ok (.invokevirtual 68, 3) := by decide +kernel
theorem dX6_isBy_11 : decode cX6_isBy 11 = .ok (.if_icmp .ge 33, 3) := by decide +kernel
theorem dX6_isBy_14 : decode cX6_isBy 14 = .ok (.iload_n 3, 1) := by decide +kernel
theorem dX6_isBy_15 : decode cX6_isBy 15 = .ok (.ifCond .eq 21, 3) := by decide +kernel
theorem dX6_isBy_18 : decode cX6_isBy 18 = .ok (.aload_n 0, 1) := by decide +kernel
theorem dX6_isBy_19 : decode cX6_isBy 19 = .ok (.invokevirtual 68, 3) := by decide +kernel
theorem dX6_isBy_22 : decode cX6_isBy 22 = .ok (.iload_n 1, 1) := by decide +kernel
theorem dX6_isBy_23 : decode cX6_isBy 23 = .ok (.iload 4, 2) := by decide +kernel
theorem dX6_isBy_25 : decode cX6_isBy 25 = .ok (.invokestatic 116, 3) := by decide +kernel
theorem dX6_isBy_28 : decode cX6_isBy 28 = .ok (.iload_n 2, 1) := by decide +kernel
theorem dX6_isBy_29 : decode cX6_isBy 29 = .ok (.if_icmp .ne 7, 3) := by decide +kernel
theorem dX6_isBy_32 : decode cX6_isBy 32 = .ok (.iconst 1, 1) := by decide +kernel
theorem dX6_isBy_33 : decode cX6_isBy 33 = .ok (.goto 4, 3) := by decide +kernel
theorem dX6_isBy_36 : decode cX6_isBy 36 = .ok (.iconst 0, 1) := by decide +kernel
theorem dX6_isBy_37 : decode cX6_isBy 37 = .ok (.istore_n 3, 1) := by decide +kernel
theorem dX6_isBy_38 : decode cX6_isBy 38 = .ok (.iinc 4 1, 3) := by decide +kernel
theorem dX6_isBy_41 : decode cX6_isBy 41 = .ok (.goto (-36), 3) := by decide +kernel
theorem dX6_isBy_44 : decode cX6_isBy 44 = .ok (.iload_n 3, 1) := by decide +kernel
theorem dX6_isBy_45 : decode cX6_isBy 45 = .ok (.ireturn, 1) := by decide +kernel
set_option maxRecDepth 20000 in
theorem ggX6_isEvenly_X6_many : GoodIn wsX6_isEvenly wsX6_many := goodIn_r _ [5, 6, 25, 26, 27, 28, 29, 30, 31, 32, 33, 34, 35, 36, 37] (by decide +kernel) (by decide +kernel)
set_option maxRecDepth 20000 in
theorem gX6_isEvenly_X6_many : GoodIn wsX6_isEvenly (wsV RX6 68 RX6 yX6_many wsX6_many) := goodIn_app (goodIn_of _ (by decide +kernel)) ggX6_isEvenly_X6_many
set_option maxRecDepth 20000 in
theorem ggX6_isEvenly_X6_joined : GoodIn wsX6_isEvenly wsX6_joined := goodIn_r _ [9, 10, 11, 4, 12, 13, 14, 15] (by decide +kernel) (by decide +kernel)
set_option maxRecDepth 20000 in
theorem gX6_isEvenly_X6_joined : GoodIn wsX6_isEvenly (va_wsS RX6 45 yX6_joined wsX6_joined) := goodIn_app (goodIn_of _ (by decide +kernel)) ggX6_isEvenly_X6_joined
set_option maxRecDepth 20000 in
theorem ggX6_isEvenly_X6_common : GoodIn wsX6_isEvenly wsX6_common := goodIn_r _ [18, 19, 20, 4, 21, 7, 8, 9, 10, 11, 12, 13, 14, 15, 22, 23, 24] (by decide +kernel) (by decide +kernel)
set_option maxRecDepth 20000 in
theorem gX6_isEvenly_X6_common : GoodIn wsX6_isEvenly (va_wsS RX6 134 yX6_common wsX6_common) := goodIn_app (goodIn_of _ (by decide +kernel)) ggX6_isEvenly_X6_common
theorem dX6_isEvenly_0 : decode cX6_isEvenly 0 = .ok (.bipush (-6), 2) := by decide +kernel
theorem dX6_isEvenly_2 : decode cX6_isEvenly 2 = .ok (.istore_n 3, 1) := by decide +kernel
theorem dX6_isEvenly_3 : decode cX6_isEvenly 3 = .ok (.iconst 1, 1) := by decide +kernel
theorem dX6_isEvenly_4 : decode cX6_isEvenly 4 = .ok (.istore 4, 2) := by decide +kernel
theorem dX6_isEvenly_6 : decode cX6_isEvenly 6 = .ok (.iconst 0, 1) := by decide +kernel
theorem dX6_isEvenly_7 : decode cX6_isEvenly 7 = .ok (.istore 5, 2) := by decide +kernel
theorem dX6_isEvenly_9 : decode cX6_isEvenly 9 = .ok (.iload 5, 2) := by decide +kernel
theorem dX6_isEvenly_11 : decode cX6_isEvenly 11 = .ok (.aload_n 0, 1) := by decide +kernel
theorem dX6_isEvenly_12 : decode cX6_isEvenly 12 = .ok (.invokevirtual 68, 3) := by decide +kernel
theorem dX6_isEvenly_15 : decode cX6_isEvenly 15 = .ok (.if_icmp .ge 85, 3) := by decide +kernel
theorem dX6_isEvenly_18 : decode cX6_isEvenly 18 = .ok (.iload 5, 2) := by decide +kernel
theorem dX6_isEvenly_20 : decode cX6_isEvenly 20 = .ok (.iconst 1, 1) := by decide +kernel
theorem dX6_isEvenly_21 : decode cX6_isEvenly 21 = .ok (.iadd, 1) := by decide +kernel
theorem dX6_isEvenly_22 : decode cX6_isEvenly 22 = .ok (.istore 6, 2) := by decide +kernel
theorem dX6_isEvenly_24 : decode cX6_isEvenly 24 = .ok (.iload 6, 2) := by decide +kernel
theorem dX6_isEvenly_26 : decode cX6_isEvenly 26 = .ok (.aload_n 0, 1) := by decide +kernel
theorem dX6_isEvenly_27 : decode cX6_isEvenly 27 = .ok (.invokevirtual 68, 3) := by decide +kernel
theorem dX6_isEvenly_30 : decode cX6_isEvenly 30 = .ok (.if_icmp .ge 64, 3) := by decide +kernel
theorem dX6_isEvenly_33 : decode cX6_isEvenly 33 = .ok (.aload_n 0, 1) := by decide +kernel
theorem dX6_isEvenly_34 : decode cX6_isEvenly 34 = .ok (.invokevirtual 68, 3) := by decide +kernel
theorem dX6_isEvenly_37 : decode cX6_isEvenly 37 = .ok (.iload_n 1, 1) := by decide +kernel
theorem dX6_isEvenly_38 : decode cX6_isEvenly 38 = .ok (.iload 5, 2) := by decide +kernel
theorem dX6_isEvenly_40 : decode cX6_isEvenly 40 = .ok (.iload 6, 2) := by decide +kernel
theorem dX6_isEvenly_42 : decode cX6_isEvenly 42 = .ok (.invokestatic 45, 3) := by decide +kernel
theorem dX6_isEvenly_45 : decode cX6_isEvenly 45 = .ok (.iload_n 2, 1) := by decide +kernel
theorem dX6_isEvenly_46 : decode cX6_isEvenly 46 = .ok (.if_icmp .ne 42, 3) := by decide +kernel
theorem dX6_isEvenly_49 : decode cX6_isEvenly 49 = .ok (.aload_n 0, 1) := by decide +kernel
theorem dX6_isEvenly_50 : decode cX6_isEvenly 50 = .ok (.invokevirtual 68, 3) := by decide +kernel
theorem dX6_isEvenly_53 : decode cX6_isEvenly 53 = .ok (.iload_n 1, 1) := by decide +kernel
theorem dX6_isEvenly_54 : decode cX6_isEvenly 54 = .ok (.iload 5, 2) := by decide +kernel
theorem dX6_isEvenly_56 : decode cX6_isEvenly 56 = .ok (.iload 6, 2) := by decide +kernel
theorem dX6_isEvenly_58 : decode cX6_isEvenly 58 = .ok (.invokestatic 134, 3) := by decide +kernel
theorem dX6_isEvenly_61 : decode cX6_isEvenly 61 = .ok (.istore 7, 2) := by decide +kernel
theorem dX6_isEvenly_63 : decode cX6_isEvenly 63 = .ok (.iload 4, 2) := by decide +kernel
theorem dX6_isEvenly_65 : decode cX6_isEvenly 65 = .ok (.ifCond .eq 17, 3) := by decide +kernel
theorem dX6_isEvenly_68 : decode cX6_isEvenly 68 = .ok (.iload_n 3, 1) := by decide +kernel
theorem dX6_isEvenly_69 : decode cX6_isEvenly 69 = .ok (.ifCond .lt 9, 3) := by decide +kernel
theorem dX6_isEvenly_72 : decode cX6_isEvenly 72 = .ok (.iload 7, 2) := by decide +kernel
theorem dX6_isEvenly_74 : decode cX6_isEvenly 74 = .ok (.iload_n 3, 1) := by decide +kernel
theorem dX6_isEvenly_75 : decode cX6_isEvenly 75 = .ok (.if_icmp .ne 7, 3) := by decide +kernel
theorem dX6_isEvenly_78 : decode cX6_isEvenly 78 = .ok (.iconst 1, 1) := by decide +kernel
theorem dX6_isEvenly_79 : decode cX6_isEvenly 79 = .ok (.goto 4, 3) := by decide +kernel
theorem dX6_isEvenly_82 : decode cX6_isEvenly 82 = .ok (.iconst 0, 1) := by decide +kernel
theorem dX6_isEvenly_83 : decode cX6_isEvenly 83 = .ok (.istore 4, 2) := by decide +kernel
theorem dX6_isEvenly_85 : decode cX6_isEvenly 85 = .ok (.iload 7, 2) := by decide +kernel
theorem dX6_isEvenly_87 : decode cX6_isEvenly 87 = .ok (.istore_n 3, 1) := by decide +kernel
theorem dX6_isEvenly_88 : decode cX6_isEvenly 88 = .ok (.iinc 6 1, 3) := by decide +kernel
theorem dX6_isEvenly_91 : decode cX6_isEvenly 91 = .ok (.goto (-67), 3) := by decide +kernel
theorem dX6_isEvenly_94 : decode cX6_isEvenly 94 = .ok (.iinc 5 1, 3) := by decide +kernel
theorem dX6_isEvenly_97 : decode cX6_isEvenly 97 = .ok (.goto (-88), 3) := by decide +kernel
theorem dX6_isEvenly_100 : decode cX6_isEvenly 100 = .ok (.iload 4, 2) := by decide +kernel
theorem dX6_isEvenly_102 : decode cX6_isEvenly 102 = .ok (.ireturn, 1) := by decide +kernel
set_option maxRecDepth 20000 in
theorem ggX6_by_X6_isSlot : GoodIn wsX6_by wsX6_isSlot := goodIn_r _ [6, 7, 8, 5, 9] (by decide +kernel) (by decide +kernel)
set_option maxRecDepth 20000 in
theorem gX6_by_X6_isSlot : GoodIn wsX6_by (va_wsS RX6 72 yX6_isSlot wsX6_isSlot) := goodIn_app (goodIn_of _ (by decide +kernel)) ggX6_by_X6_isSlot
set_option maxRecDepth 20000 in
theorem ggX6_by_X6_in : GoodIn wsX6_by wsX6_in := goodIn_r _ [9] (by decide +kernel) (by decide +kernel)
set_option maxRecDepth 20000 in
theorem gX6_by_X6_in : GoodIn wsX6_by (va_wsS RX6 33 yX6_in wsX6_in) := goodIn_app (goodIn_of _ (by decide +kernel)) ggX6_by_X6_in
set_option maxRecDepth 20000 in
theorem ggX6_by_X6_beginFound : GoodIn wsX6_by wsX6_beginFound := goodIn_r _ [13, 1, 2, 59, 60, 61, 62, 63, 64, 65, 66, 67, 68, 69, 70, 71] (by decide +kernel) (by decide +kernel)
set_option maxRecDepth 20000 in
theorem gX6_by_X6_beginFound : GoodIn wsX6_by (wsV RX6 146 RX6 yX6_beginFound wsX6_beginFound) := goodIn_app (goodIn_of _ (by decide +kernel)) ggX6_by_X6_beginFound
set_option maxRecDepth 20000 in
theorem ggX6_by_X6_many : GoodIn wsX6_by wsX6_many := goodIn_r _ [17, 18, 59, 60, 61, 62, 63, 64, 65, 66, 67, 68, 69, 70, 71] (by decide +kernel) (by decide +kernel)
set_option maxRecDepth 20000 in
theorem gX6_by_X6_many : GoodIn wsX6_by (wsV RX6 68 RX6 yX6_many wsX6_many) := goodIn_app (goodIn_of _ (by decide +kernel)) ggX6_by_X6_many
set_option maxRecDepth 20000 in
theorem ggX6_by_X6_netOf : GoodIn wsX6_by wsX6_netOf := goodIn_r _ [22, 18, 59, 60, 61, 62, 63, 64, 65, 66, 67, 68, 69, 70, 71] (by decide +kernel) (by decide +kernel)
set_option maxRecDepth 20000 in
theorem gX6_by_X6_netOf : GoodIn wsX6_by (wsV RX6 79 RX6 yX6_netOf wsX6_netOf) := goodIn_app (goodIn_of _ (by decide +kernel)) ggX6_by_X6_netOf
set_option maxRecDepth 20000 in
theorem ggX6_by_X6_switched : GoodIn wsX6_by wsX6_switched := goodIn_r _ [25, 26, 27, 5, 28, 29, 30, 31] (by decide +kernel) (by decide +kernel)
set_option maxRecDepth 20000 in
theorem gX6_by_X6_switched : GoodIn wsX6_by (va_wsS RX6 55 yX6_switched wsX6_switched) := goodIn_app (goodIn_of _ (by decide +kernel)) ggX6_by_X6_switched
set_option maxRecDepth 20000 in
theorem ggX6_by_X6_isBy : GoodIn wsX6_by wsX6_isBy := goodIn_r _ [35, 14, 15, 16, 5, 17, 18, 36, 37, 38, 39, 40, 41, 42, 43, 44, 26, 27, 28, 29, 30, 31, 45, 46, 47, 59, 60, 61, 62, 63, 64, 65, 66, 67, 68, 69, 70, 71] (by decide +kernel) (by decide +kernel)
set_option maxRecDepth 20000 in
theorem gX6_by_X6_isBy : GoodIn wsX6_by (wsV RX6 153 RX6 yX6_isBy wsX6_isBy) := goodIn_app (goodIn_of _ (by decide +kernel)) ggX6_by_X6_isBy
set_option maxRecDepth 20000 in
theorem ggX6_by_X6_find : GoodIn wsX6_by wsX6_find := goodIn_r _ [51, 1, 2, 59, 60, 61, 62, 63, 64, 65, 66, 67, 68, 69, 70, 71] (by decide +kernel) (by decide +kernel)
set_option maxRecDepth 20000 in
theorem gX6_by_X6_find : GoodIn wsX6_by (wsV RX6 149 RX6 yX6_find wsX6_find) := goodIn_app (goodIn_of _ (by decide +kernel)) ggX6_by_X6_find
set_option maxRecDepth 20000 in
theorem ggX6_by_X6_isEvenly : GoodIn wsX6_by wsX6_isEvenly := goodIn_r _ [55, 14, 15, 16, 5, 17, 18, 42, 43, 44, 26, 27, 28, 29, 30, 31, 56, 57, 58, 39, 40, 41, 45, 46, 47, 59, 60, 61, 62, 63, 64, 65, 66, 67, 68, 69, 70, 71] (by decide +kernel) (by decide +kernel)
set_option maxRecDepth 20000 in
theorem gX6_by_X6_isEvenly : GoodIn wsX6_by (wsV RX6 157 RX6 yX6_isEvenly wsX6_isEvenly) := goodIn_app (goodIn_of _ (by decide +kernel)) ggX6_by_X6_isEvenly
theorem dX6_by_0 : decode cX6_by 0 = .ok (.iload_n 1, 1) := by decide +kernel
theorem dX6_by_1 : decode cX6_by 1 = .ok (.invokestatic 72, 3) := by decide +kernel
theorem dX6_by_4 : decode cX6_by 4 = .ok (.ifCond .ne 5, 3) := by decide +kernel
theorem dX6_by_7 : decode cX6_by 7 = .ok (.iconst (-1), 1) := by decide +kernel
theorem dX6_by_8 : decode cX6_by 8 = .ok (.ireturn, 1) := by decide +kernel
theorem dX6_by_9 : decode cX6_by 9 = .ok (.iload_n 2, 1) := by decide +kernel
theorem dX6_by_10 : decode cX6_by 10 = .ok (.iconst 0, 1) := by decide +kernel
theorem dX6_by_11 : decode cX6_by 11 = .ok (.bipush 6, 2) := by decide +kernel
theorem dX6_by_13 : decode cX6_by 13 = .ok (.invokestatic 33, 3) := by decide +kernel
theorem dX6_by_16 : decode cX6_by 16 = .ok (.ifCond .eq 12, 3) := by decide +kernel
theorem dX6_by_19 : decode cX6_by 19 = .ok (.iload_n 3, 1) := by decide +kernel
theorem dX6_by_20 : decode cX6_by 20 = .ok (.iconst 0, 1) := by decide +kernel
theorem dX6_by_21 : decode cX6_by 21 = .ok (.iconst 2, 1) := by decide +kernel
theorem dX6_by_22 : decode cX6_by 22 = .ok (.invokestatic 33, 3) := by decide +kernel
theorem dX6_by_25 : decode cX6_by 25 = .ok (.ifCond .ne 6, 3) := by decide +kernel
theorem dX6_by_28 : decode cX6_by 28 = .ok (.bipush (-2), 2) := by decide +kernel
theorem dX6_by_30 : decode cX6_by 30 = .ok (.ireturn, 1) := by decide +kernel
theorem dX6_by_31 : decode cX6_by 31 = .ok (.aload_n 0, 1) := by decide +kernel
theorem dX6_by_32 : decode cX6_by 32 = .ok (.invokevirtual 146, 3) := by decide +kernel
theorem dX6_by_35 : decode cX6_by 35 = .ok (.iconst 0, 1) := by decide +kernel
theorem dX6_by_36 : decode cX6_by 36 = .ok (.istore 4, 2) := by decide +kernel
theorem dX6_by_38 : decode cX6_by 38 = .ok (.iconst 0, 1) := by decide +kernel
theorem dX6_by_39 : decode cX6_by 39 = .ok (.istore 5, 2) := by decide +kernel
theorem dX6_by_41 : decode cX6_by 41 = .ok (.iload 5, 2) := by decide +kernel
theorem dX6_by_43 : decode cX6_by 43 = .ok (.iconst 1, 1) := by decide +kernel
theorem dX6_by_44 : decode cX6_by 44 = .ok (.aload_n 0, 1) := by decide +kernel
theorem dX6_by_45 : decode cX6_by 45 = .ok (.invokevirtual 68, 3) := by decide +kernel
theorem dX6_by_48 : decode cX6_by 48 = .ok (.ishl, 1) := by decide +kernel
theorem dX6_by_49 : decode cX6_by 49 = .ok (.if_icmp .ge 71, 3) := by decide +kernel
theorem dX6_by_52 : decode cX6_by 52 = .ok (.aload_n 0, 1) := by decide +kernel
theorem dX6_by_53 : decode cX6_by 53 = .ok (.invokevirtual 68, 3) := by decide +kernel
theorem dX6_by_56 : decode cX6_by 56 = .ok (.aload_n 0, 1) := by decide +kernel
theorem dX6_by_57 : decode cX6_by 57 = .ok (.iload_n 1, 1) := by decide +kernel
theorem dX6_by_58 : decode cX6_by 58 = .ok (.invokevirtual 79, 3) := by decide +kernel
theorem dX6_by_61 : decode cX6_by 61 = .ok (.iload 5, 2) := by decide +kernel
theorem dX6_by_63 : decode cX6_by 63 = .ok (.invokestatic 55, 3) := by decide +kernel
theorem dX6_by_66 : decode cX6_by 66 = .ok (.istore 6, 2) := by decide +kernel
theorem dX6_by_68 : decode cX6_by 68 = .ok (.aload_n 0, 1) := by decide +kernel
theorem dX6_by_69 : decode cX6_by 69 = .ok (.iload 6, 2) := by decide +kernel
theorem dX6_by_71 : decode cX6_by 71 = .ok (.iload_n 2, 1) := by decide +kernel
theorem dX6_by_72 : decode cX6_by 72 = .ok (.invokevirtual 153, 3) := by decide +kernel
theorem dX6_by_75 : decode cX6_by 75 = .ok (.ifCond .eq 39, 3) := by decide +kernel
theorem dX6_by_78 : decode cX6_by 78 = .ok (.aload_n 0, 1) := by decide +kernel
theorem dX6_by_79 : decode cX6_by 79 = .ok (.iload 5, 2) := by decide +kernel
theorem dX6_by_81 : decode cX6_by 81 = .ok (.invokevirtual 149, 3) := by decide +kernel
theorem dX6_by_84 : decode cX6_by 84 = .ok (.iload 4, 2) := by decide +kernel
theorem dX6_by_86 : decode cX6_by 86 = .ok (.aload_n 0, 1) := by decide +kernel
theorem dX6_by_87 : decode cX6_by 87 = .ok (.iload 6, 2) := by decide +kernel
theorem dX6_by_89 : decode cX6_by 89 = .ok (.iconst 0, 1) := by decide +kernel
theorem dX6_by_90 : decode cX6_by 90 = .ok (.invokevirtual 157, 3) := by decide +kernel
theorem dX6_by_93 : decode cX6_by 93 = .ok (.ifCond .eq 17, 3) := by decide +kernel
theorem dX6_by_96 : decode cX6_by 96 = .ok (.aload_n 0, 1) := by decide +kernel
theorem dX6_by_97 : decode cX6_by 97 = .ok (.iload 6, 2) := by decide +kernel
theorem dX6_by_99 : decode cX6_by 99 = .ok (.iconst 1, 1) := by decide +kernel
theorem dX6_by_100 : decode cX6_by 100 = .ok (.invokevirtual 157, 3) := by decide +kernel
theorem dX6_by_103 : decode cX6_by 103 = .ok (.ifCond .eq 7, 3) := by decide +kernel
theorem dX6_by_106 : decode cX6_by 106 = .ok (.iconst 1, 1) := by decide +kernel
theorem dX6_by_107 : decode cX6_by 107 = .ok (.goto 4, 3) := by decide +kernel
theorem dX6_by_110 : decode cX6_by 110 = .ok (.iconst 0, 1) := by decide +kernel
theorem dX6_by_111 : decode cX6_by 111 = .ok (.iadd, 1) := by decide +kernel
theorem dX6_by_112 : decode cX6_by 112 = .ok (.istore 4, 2) := by decide +kernel
theorem dX6_by_114 : decode cX6_by 114 = .ok (.iinc 5 2, 3) := by decide +kernel
theorem dX6_by_117 : decode cX6_by 117 = .ok (.goto (-76), 3) := by decide +kernel
theorem dX6_by_120 : decode cX6_by 120 = .ok (.iload_n 3, 1) := by decide +kernel
theorem dX6_by_121 : decode cX6_by 121 = .ok (.ifCond .ne 10, 3) := by decide +kernel
theorem dX6_by_124 : decode cX6_by 124 = .ok (.aload_n 0, 1) := by decide +kernel
theorem dX6_by_125 : decode cX6_by 125 = .ok (.getfield 143, 3) := by decide +kernel
theorem dX6_by_128 : decode cX6_by 128 = .ok (.goto 17, 3) := by decide +kernel
theorem dX6_by_131 : decode cX6_by 131 = .ok (.iload_n 3, 1) := by decide +kernel
theorem dX6_by_132 : decode cX6_by 132 = .ok (.iconst 1, 1) := by decide +kernel
theorem dX6_by_133 : decode cX6_by 133 = .ok (.if_icmp .ne 10, 3) := by decide +kernel
theorem dX6_by_136 : decode cX6_by 136 = .ok (.aload_n 0, 1) := by decide +kernel
theorem dX6_by_137 : decode cX6_by 137 = .ok (.getfield 140, 3) := by decide +kernel
theorem dX6_by_140 : decode cX6_by 140 = .ok (.goto 5, 3) := by decide +kernel
theorem dX6_by_143 : decode cX6_by 143 = .ok (.iload 4, 2) := by decide +kernel
theorem dX6_by_145 : decode cX6_by 145 = .ok (.ireturn, 1) := by decide +kernel
theorem dX6_orders_0 : decode cX6_orders 0 = .ok (.iconst 1, 1) := by decide +kernel
theorem dX6_orders_1 : decode cX6_orders 1 = .ok (.istore_n 1, 1) := by decide +kernel
theorem dX6_orders_2 : decode cX6_orders 2 = .ok (.iconst 2, 1) := by decide +kernel
theorem dX6_orders_3 : decode cX6_orders 3 = .ok (.istore_n 2, 1) := by decide +kernel
theorem dX6_orders_4 : decode cX6_orders 4 = .ok (.iload_n 2, 1) := by decide +kernel
theorem dX6_orders_5 : decode cX6_orders 5 = .ok (.iload_n 0, 1) := by decide +kernel
theorem dX6_orders_6 : decode cX6_orders 6 = .ok (.if_icmp .gt 13, 3) := by decide +kernel
theorem dX6_orders_9 : decode cX6_orders 9 = .ok (.iload_n 1, 1) := by decide +kernel
theorem dX6_orders_10 : decode cX6_orders 10 = .ok (.iload_n 2, 1) := by decide +kernel
theorem dX6_orders_11 : decode cX6_orders 11 = .ok (.imul, 1) := by decide +kernel
theorem dX6_orders_12 : decode cX6_orders 12 = .ok (.istore_n 1, 1) := by decide +kernel
theorem dX6_orders_13 : decode cX6_orders 13 = .ok (.iinc 2 1, 3) := by decide +kernel
theorem dX6_orders_16 : decode cX6_orders 16 = .ok (.goto (-12), 3) := by decide +kernel
theorem dX6_orders_19 : decode cX6_orders 19 = .ok (.iload_n 1, 1) := by decide +kernel
theorem dX6_orders_20 : decode cX6_orders 20 = .ok (.ireturn, 1) := by decide +kernel
theorem dX6_layRank_0 : decode cX6_layRank 0 = .ok (.iload_n 2, 1) := by decide +kernel
theorem dX6_layRank_1 : decode cX6_layRank 1 = .ok (.istore_n 3, 1) := by decide +kernel
theorem dX6_layRank_2 : decode cX6_layRank 2 = .ok (.iload_n 1, 1) := by decide +kernel
theorem dX6_layRank_3 : decode cX6_layRank 3 = .ok (.iconst 1, 1) := by decide +kernel
theorem dX6_layRank_4 : decode cX6_layRank 4 = .ok (.isub, 1) := by decide +kernel
theorem dX6_layRank_5 : decode cX6_layRank 5 = .ok (.istore 4, 2) := by decide +kernel
theorem dX6_layRank_7 : decode cX6_layRank 7 = .ok (.iload 4, 2) := by decide +kernel
theorem dX6_layRank_9 : decode cX6_layRank 9 = .ok (.ifCond .lt 37, 3) := by decide +kernel
theorem dX6_layRank_12 : decode cX6_layRank 12 = .ok (.aload_n 0, 1) := by decide +kernel
theorem dX6_layRank_13 : decode cX6_layRank 13 = .ok (.getfield 23, 3) := by decide +kernel
theorem dX6_layRank_16 : decode cX6_layRank 16 = .ok (.iload 4, 2) := by decide +kernel
theorem dX6_layRank_18 : decode cX6_layRank 18 = .ok (.iload_n 3, 1) := by decide +kernel
theorem dX6_layRank_19 : decode cX6_layRank 19 = .ok (.iload_n 1, 1) := by decide +kernel
theorem dX6_layRank_20 : decode cX6_layRank 20 = .ok (.iload 4, 2) := by decide +kernel
theorem dX6_layRank_22 : decode cX6_layRank 22 = .ok (.isub, 1) := by decide +kernel
theorem dX6_layRank_23 : decode cX6_layRank 23 = .ok (.irem, 1) := by decide +kernel
theorem dX6_layRank_24 : decode cX6_layRank 24 = .ok (.iastore, 1) := by decide +kernel
theorem dX6_layRank_25 : decode cX6_layRank 25 = .ok (.iload_n 3, 1) := by decide +kernel
theorem dX6_layRank_26 : decode cX6_layRank 26 = .ok (.iload_n 1, 1) := by decide +kernel
theorem dX6_layRank_27 : decode cX6_layRank 27 = .ok (.iload 4, 2) := by decide +kernel
theorem dX6_layRank_29 : decode cX6_layRank 29 = .ok (.isub, 1) := by decide +kernel
theorem dX6_layRank_30 : decode cX6_layRank 30 = .ok (.idiv, 1) := by decide +kernel
theorem dX6_layRank_31 : decode cX6_layRank 31 = .ok (.istore_n 3, 1) := by decide +kernel
theorem dX6_layRank_32 : decode cX6_layRank 32 = .ok (.aload_n 0, 1) := by decide +kernel
theorem dX6_layRank_33 : decode cX6_layRank 33 = .ok (.getfield 26, 3) := by decide +kernel
theorem dX6_layRank_36 : decode cX6_layRank 36 = .ok (.iload 4, 2) := by decide +kernel
theorem dX6_layRank_38 : decode cX6_layRank 38 = .ok (.iconst 0, 1) := by decide +kernel
theorem dX6_layRank_39 : decode cX6_layRank 39 = .ok (.bastore, 1) := by decide +kernel
theorem dX6_layRank_40 : decode cX6_layRank 40 = .ok (.iinc 4 (-1), 3) := by decide +kernel
theorem dX6_layRank_43 : decode cX6_layRank 43 = .ok (.goto (-36), 3) := by decide +kernel
theorem dX6_layRank_46 : decode cX6_layRank 46 = .ok (.iconst 0, 1) := by decide +kernel
theorem dX6_layRank_47 : decode cX6_layRank 47 = .ok (.istore 4, 2) := by decide +kernel
theorem dX6_layRank_49 : decode cX6_layRank 49 = .ok (.iload 4, 2) := by decide +kernel
theorem dX6_layRank_51 : decode cX6_layRank 51 = .ok (.iload_n 1, 1) := by decide +kernel
theorem dX6_layRank_52 : decode cX6_layRank 52 = .ok (.if_icmp .ge 79, 3) := by decide +kernel
theorem dX6_layRank_55 : decode cX6_layRank 55 = .ok (.aload_n 0, 1) := by decide +kernel
theorem dX6_layRank_56 : decode cX6_layRank 56 = .ok (.getfield 23, 3) := by decide +kernel
theorem dX6_layRank_59 : decode cX6_layRank 59 = .ok (.iload 4, 2) := by decide +kernel
theorem dX6_layRank_61 : decode cX6_layRank 61 = .ok (.iaload, 1) := by decide +kernel
theorem dX6_layRank_62 : decode cX6_layRank 62 = .ok (.istore 5, 2) := by decide +kernel
theorem dX6_layRank_64 : decode cX6_layRank 64 = .ok (.iconst 0, 1) := by decide +kernel
theorem dX6_layRank_65 : decode cX6_layRank 65 = .ok (.istore 6, 2) := by decide +kernel
theorem dX6_layRank_67 : decode cX6_layRank 67 = .ok (.aload_n 0, 1) := by decide +kernel
theorem dX6_layRank_68 : decode cX6_layRank 68 = .ok (.getfield 26, 3) := by decide +kernel
theorem dX6_layRank_71 : decode cX6_layRank 71 = .ok (.iload 6, 2) := by decide +kernel
theorem dX6_layRank_73 : decode cX6_layRank 73 = .ok (.baload, 1) := by decide +kernel
theorem dX6_layRank_74 : decode cX6_layRank 74 = .ok (.ifCond .ne 8, 3) := by decide +kernel
theorem dX6_layRank_77 : decode cX6_layRank 77 = .ok (.iload 5, 2) := by decide +kernel
theorem dX6_layRank_79 : decode cX6_layRank 79 = .ok (.ifCond .le 29, 3) := by decide +kernel
theorem dX6_layRank_82 : decode cX6_layRank 82 = .ok (.iload 5, 2) := by decide +kernel
theorem dX6_layRank_84 : decode cX6_layRank 84 = .ok (.aload_n 0, 1) := by decide +kernel
theorem dX6_layRank_85 : decode cX6_layRank 85 = .ok (.getfield 26, 3) := by decide +kernel
theorem dX6_layRank_88 : decode cX6_layRank 88 = .ok (.iload 6, 2) := by decide +kernel
theorem dX6_layRank_90 : decode cX6_layRank 90 = .ok (.baload, 1) := by decide +kernel
theorem dX6_layRank_91 : decode cX6_layRank 91 = .ok (.ifCond .eq 7, 3) := by decide +kernel
theorem dX6_layRank_94 : decode cX6_layRank 94 = .ok (.iconst 0, 1) := by decide +kernel
theorem dX6_layRank_95 : decode cX6_layRank 95 = .ok (.goto 4, 3) := by decide +kernel
theorem dX6_layRank_98 : decode cX6_layRank 98 = .ok (.iconst 1, 1) := by decide +kernel
theorem dX6_layRank_99 : decode cX6_layRank 99 = .ok (.isub, 1) := by decide +kernel
theorem dX6_layRank_100 : decode cX6_layRank 100 = .ok (.istore 5, 2) := by decide +kernel
theorem dX6_layRank_102 : decode cX6_layRank 102 = .ok (.iinc 6 1, 3) := by decide +kernel
theorem dX6_layRank_105 : decode cX6_layRank 105 = .ok (.goto (-38), 3) := by decide +kernel
theorem dX6_layRank_108 : decode cX6_layRank 108 = .ok (.aload_n 0, 1) := by decide +kernel
theorem dX6_layRank_109 : decode cX6_layRank 109 = .ok (.getfield 26, 3) := by decide +kernel
theorem dX6_layRank_112 : decode cX6_layRank 112 = .ok (.iload 6, 2) := by decide +kernel
theorem dX6_layRank_114 : decode cX6_layRank 114 = .ok (.iconst 1, 1) := by decide +kernel
theorem dX6_layRank_115 : decode cX6_layRank 115 = .ok (.bastore, 1) := by decide +kernel
theorem dX6_layRank_116 : decode cX6_layRank 116 = .ok (.aload_n 0, 1) := by decide +kernel
theorem dX6_layRank_117 : decode cX6_layRank 117 = .ok (.getfield 23, 3) := by decide +kernel
theorem dX6_layRank_120 : decode cX6_layRank 120 = .ok (.iload 4, 2) := by decide +kernel
theorem dX6_layRank_122 : decode cX6_layRank 122 = .ok (.iload 6, 2) := by decide +kernel
theorem dX6_layRank_124 : decode cX6_layRank 124 = .ok (.iastore, 1) := by decide +kernel
theorem dX6_layRank_125 : decode cX6_layRank 125 = .ok (.iinc 4 1, 3) := by decide +kernel
theorem dX6_layRank_128 : decode cX6_layRank 128 = .ok (.goto (-79), 3) := by decide +kernel
theorem dX6_layRank_131 : decode cX6_layRank 131 = .ok (.return_, 1) := by decide +kernel
set_option maxRecDepth 20000 in
theorem ggX6_renumbered_X6_joined : GoodIn wsX6_renumbered wsX6_joined := goodIn_r _ [5, 6, 7, 4, 8, 9, 10, 11] (by decide +kernel) (by decide +kernel)
set_option maxRecDepth 20000 in
theorem gX6_renumbered_X6_joined : GoodIn wsX6_renumbered (va_wsS RX6 45 yX6_joined wsX6_joined) := goodIn_app (goodIn_of _ (by decide +kernel)) ggX6_renumbered_X6_joined
set_option maxRecDepth 20000 in
theorem ggX6_renumbered_X6_valueOf : GoodIn wsX6_renumbered wsX6_valueOf := goodIn_r _ [8, 9, 10, 4, 11] (by decide +kernel) (by decide +kernel)
set_option maxRecDepth 20000 in
theorem gX6_renumbered_X6_valueOf : GoodIn wsX6_renumbered (va_wsS RX6 41 yX6_valueOf wsX6_valueOf) := goodIn_app (goodIn_of _ (by decide +kernel)) ggX6_renumbered_X6_valueOf
theorem dX6_renumbered_0 : decode cX6_renumbered 0 = .ok (.iconst 0, 1) := by decide +kernel
theorem dX6_renumbered_1 : decode cX6_renumbered 1 = .ok (.istore_n 3, 1) := by decide +kernel
theorem dX6_renumbered_2 : decode cX6_renumbered 2 = .ok (.iconst 0, 1) := by decide +kernel
theorem dX6_renumbered_3 : decode cX6_renumbered 3 = .ok (.istore 4, 2) := by decide +kernel
theorem dX6_renumbered_5 : decode cX6_renumbered 5 = .ok (.iload 4, 2) := by decide +kernel
theorem dX6_renumbered_7 : decode cX6_renumbered 7 = .ok (.iload_n 1, 1) := by decide +kernel
theorem dX6_renumbered_8 : decode cX6_renumbered 8 = .ok (.if_icmp .ge 65, 3) := by decide +kernel
theorem dX6_renumbered_11 : decode cX6_renumbered 11 = .ok (.iload 4, 2) := by decide +kernel
theorem dX6_renumbered_13 : decode cX6_renumbered 13 = .ok (.iconst 1, 1) := by decide +kernel
theorem dX6_renumbered_14 : decode cX6_renumbered 14 = .ok (.iadd, 1) := by decide +kernel
theorem dX6_renumbered_15 : decode cX6_renumbered 15 = .ok (.istore 5, 2) := by decide +kernel
theorem dX6_renumbered_17 : decode cX6_renumbered 17 = .ok (.iload 5, 2) := by decide +kernel
theorem dX6_renumbered_19 : decode cX6_renumbered 19 = .ok (.iload_n 1, 1) := by decide +kernel
theorem dX6_renumbered_20 : decode cX6_renumbered 20 = .ok (.if_icmp .ge 47, 3) := by decide +kernel
theorem dX6_renumbered_23 : decode cX6_renumbered 23 = .ok (.iload_n 3, 1) := by decide +kernel
theorem dX6_renumbered_24 : decode cX6_renumbered 24 = .ok (.iload_n 1, 1) := by decide +kernel
theorem dX6_renumbered_25 : decode cX6_renumbered 25 = .ok (.iload_n 2, 1) := by decide +kernel
theorem dX6_renumbered_26 : decode cX6_renumbered 26 = .ok (.iload 4, 2) := by decide +kernel
theorem dX6_renumbered_28 : decode cX6_renumbered 28 = .ok (.iload 5, 2) := by decide +kernel
theorem dX6_renumbered_30 : decode cX6_renumbered 30 = .ok (.invokestatic 45, 3) := by decide +kernel
theorem dX6_renumbered_33 : decode cX6_renumbered 33 = .ok (.iconst 1, 1) := by decide +kernel
theorem dX6_renumbered_34 : decode cX6_renumbered 34 = .ok (.if_icmp .ne 24, 3) := by decide +kernel
theorem dX6_renumbered_37 : decode cX6_renumbered 37 = .ok (.iload_n 1, 1) := by decide +kernel
theorem dX6_renumbered_38 : decode cX6_renumbered 38 = .ok (.aload_n 0, 1) := by decide +kernel
theorem dX6_renumbered_39 : decode cX6_renumbered 39 = .ok (.getfield 23, 3) := by decide +kernel
theorem dX6_renumbered_42 : decode cX6_renumbered 42 = .ok (.iload 4, 2) := by decide +kernel
theorem dX6_renumbered_44 : decode cX6_renumbered 44 = .ok (.iaload, 1) := by decide +kernel
theorem dX6_renumbered_45 : decode cX6_renumbered 45 = .ok (.aload_n 0, 1) := by decide +kernel
theorem dX6_renumbered_46 : decode cX6_renumbered 46 = .ok (.getfield 23, 3) := by decide +kernel
theorem dX6_renumbered_49 : decode cX6_renumbered 49 = .ok (.iload 5, 2) := by decide +kernel
theorem dX6_renumbered_51 : decode cX6_renumbered 51 = .ok (.iaload, 1) := by decide +kernel
theorem dX6_renumbered_52 : decode cX6_renumbered 52 = .ok (.invokestatic 41, 3) := by decide +kernel
theorem dX6_renumbered_55 : decode cX6_renumbered 55 = .ok (.goto 4, 3) := by decide +kernel
theorem dX6_renumbered_58 : decode cX6_renumbered 58 = .ok (.iconst 0, 1) := by decide +kernel
theorem dX6_renumbered_59 : decode cX6_renumbered 59 = .ok (.ior, 1) := by decide +kernel
theorem dX6_renumbered_60 : decode cX6_renumbered 60 = .ok (.istore_n 3, 1) := by decide +kernel
theorem dX6_renumbered_61 : decode cX6_renumbered 61 = .ok (.iinc 5 1, 3) := by decide +kernel
theorem dX6_renumbered_64 : decode cX6_renumbered 64 = .ok (.goto (-47), 3) := by decide +kernel
theorem dX6_renumbered_67 : decode cX6_renumbered 67 = .ok (.iinc 4 1, 3) := by decide +kernel
theorem dX6_renumbered_70 : decode cX6_renumbered 70 = .ok (.goto (-65), 3) := by decide +kernel
theorem dX6_renumbered_73 : decode cX6_renumbered 73 = .ok (.iload_n 3, 1) := by decide +kernel
theorem dX6_renumbered_74 : decode cX6_renumbered 74 = .ok (.ireturn, 1) := by decide +kernel
set_option maxRecDepth 20000 in
theorem ggX6_kindOf_X6_alone : GoodIn wsX6_kindOf wsX6_alone := goodIn_r _ [5, 6, 7, 4, 8, 9, 10, 11, 12, 13, 14, 15, 16, 17, 18, 19, 20] (by decide +kernel) (by decide +kernel)
set_option maxRecDepth 20000 in
theorem gX6_kindOf_X6_alone : GoodIn wsX6_kindOf (va_wsS RX6 128 yX6_alone wsX6_alone) := goodIn_app (goodIn_of _ (by decide +kernel)) ggX6_kindOf_X6_alone
set_option maxRecDepth 20000 in
theorem ggX6_kindOf_X6_orders : GoodIn wsX6_kindOf wsX6_orders := goodIn_r _ [23] (by decide +kernel) (by decide +kernel)
set_option maxRecDepth 20000 in
theorem gX6_kindOf_X6_orders : GoodIn wsX6_kindOf (va_wsS RX6 160 yX6_orders wsX6_orders) := goodIn_app (goodIn_of _ (by decide +kernel)) ggX6_kindOf_X6_orders
set_option maxRecDepth 20000 in
theorem ggX6_kindOf_X6_layRank : GoodIn wsX6_kindOf wsX6_layRank := goodIn_r _ [27, 1, 28, 33, 34, 35, 36, 37, 38, 39, 40, 41, 42, 43, 44, 45] (by decide +kernel) (by decide +kernel)
set_option maxRecDepth 20000 in
theorem gX6_kindOf_X6_layRank : GoodIn wsX6_kindOf (wsV RX6 163 RX6 yX6_layRank wsX6_layRank) := goodIn_app (goodIn_of _ (by decide +kernel)) ggX6_kindOf_X6_layRank
set_option maxRecDepth 20000 in
theorem ggX6_kindOf_X6_renumbered : GoodIn wsX6_kindOf wsX6_renumbered := goodIn_r _ [32, 1, 9, 10, 4, 11, 12, 13, 14, 15, 16, 17, 33, 34, 35, 36, 37, 38, 39, 40, 41, 42, 43, 44, 45] (by decide +kernel) (by decide +kernel)
set_option maxRecDepth 20000 in
theorem gX6_kindOf_X6_renumbered : GoodIn wsX6_kindOf (wsV RX6 167 RX6 yX6_renumbered wsX6_renumbered) := goodIn_app (goodIn_of _ (by decide +kernel)) ggX6_kindOf_X6_renumbered
end
section
theorem dX6_kindOf_0 : decode cX6_kindOf 0 = .ok (.bipush (-6), 2) := by decide +kernel
theorem dX6_kindOf_2 : decode cX6_kindOf 2 = .ok (.istore_n 3, 1) := by decide +kernel
theorem dX6_kindOf_3 : decode cX6_kindOf 3 = .ok (.iconst 0, 1) := by decide +kernel
theorem dX6_kindOf_4 : decode cX6_kindOf 4 = .ok (.istore 4, 2) := by decide +kernel
theorem dX6_kindOf_6 : decode cX6_kindOf 6 = .ok (.iload 4, 2) := by decide +kernel
theorem dX6_kindOf_8 : decode cX6_kindOf 8 = .ok (.iload_n 1, 1) := by decide +kernel
theorem dX6_kindOf_9 : decode cX6_kindOf 9 = .ok (.if_icmp .ge 79, 3) := by decide +kernel
theorem dX6_kindOf_12 : decode cX6_kindOf 12 = .ok (.iload_n 1, 1) := by decide +kernel
theorem dX6_kindOf_13 : decode cX6_kindOf 13 = .ok (.iload_n 2, 1) := by decide +kernel
theorem dX6_kindOf_14 : decode cX6_kindOf 14 = .ok (.iload 4, 2) := by decide +kernel
theorem dX6_kindOf_16 : decode cX6_kindOf 16 = .ok (.invokestatic 128, 3) := by decide +kernel
theorem dX6_kindOf_19 : decode cX6_kindOf 19 = .ok (.istore 5, 2) := by decide +kernel
theorem dX6_kindOf_21 : decode cX6_kindOf 21 = .ok (.iconst 0, 1) := by decide +kernel
theorem dX6_kindOf_22 : decode cX6_kindOf 22 = .ok (.istore 6, 2) := by decide +kernel
theorem dX6_kindOf_24 : decode cX6_kindOf 24 = .ok (.iload 6, 2) := by decide +kernel
theorem dX6_kindOf_26 : decode cX6_kindOf 26 = .ok (.iload_n 1, 1) := by decide +kernel
theorem dX6_kindOf_27 : decode cX6_kindOf 27 = .ok (.invokestatic 160, 3) := by decide +kernel
theorem dX6_kindOf_30 : decode cX6_kindOf 30 = .ok (.if_icmp .ge 52, 3) := by decide +kernel
theorem dX6_kindOf_33 : decode cX6_kindOf 33 = .ok (.aload_n 0, 1) := by decide +kernel
theorem dX6_kindOf_34 : decode cX6_kindOf 34 = .ok (.iload_n 1, 1) := by decide +kernel
theorem dX6_kindOf_35 : decode cX6_kindOf 35 = .ok (.iload 6, 2) := by decide +kernel
theorem dX6_kindOf_37 : decode cX6_kindOf 37 = .ok (.invokevirtual 163, 3) := by decide +kernel
theorem dX6_kindOf_40 : decode cX6_kindOf 40 = .ok (.aload_n 0, 1) := by decide +kernel
theorem dX6_kindOf_41 : decode cX6_kindOf 41 = .ok (.getfield 23, 3) := by decide +kernel
theorem dX6_kindOf_44 : decode cX6_kindOf 44 = .ok (.iload 4, 2) := by decide +kernel
theorem dX6_kindOf_46 : decode cX6_kindOf 46 = .ok (.iaload, 1) := by decide +kernel
theorem dX6_kindOf_47 : decode cX6_kindOf 47 = .ok (.ifCond .ne 29, 3) := by decide +kernel
theorem dX6_kindOf_50 : decode cX6_kindOf 50 = .ok (.aload_n 0, 1) := by decide +kernel
theorem dX6_kindOf_51 : decode cX6_kindOf 51 = .ok (.iload_n 1, 1) := by decide +kernel
theorem dX6_kindOf_52 : decode cX6_kindOf 52 = .ok (.iload 5, 2) := by decide +kernel
theorem dX6_kindOf_54 : decode cX6_kindOf 54 = .ok (.invokevirtual 167, 3) := by decide +kernel
theorem dX6_kindOf_57 : decode cX6_kindOf 57 = .ok (.istore 7, 2) := by decide +kernel
theorem dX6_kindOf_59 : decode cX6_kindOf 59 = .ok (.iload_n 3, 1) := by decide +kernel
theorem dX6_kindOf_60 : decode cX6_kindOf 60 = .ok (.ifCond .lt 9, 3) := by decide +kernel
theorem dX6_kindOf_63 : decode cX6_kindOf 63 = .ok (.iload 7, 2) := by decide +kernel
theorem dX6_kindOf_65 : decode cX6_kindOf 65 = .ok (.iload_n 3, 1) := by decide +kernel
theorem dX6_kindOf_66 : decode cX6_kindOf 66 = .ok (.if_icmp .ge 8, 3) := by decide +kernel
theorem dX6_kindOf_69 : decode cX6_kindOf 69 = .ok (.iload 7, 2) := by decide +kernel
theorem dX6_kindOf_71 : decode cX6_kindOf 71 = .ok (.goto 4, 3) := by decide +kernel
theorem dX6_kindOf_74 : decode cX6_kindOf 74 = .ok (.iload_n 3, 1) := by decide +kernel
theorem dX6_kindOf_75 : decode cX6_kindOf 75 = .ok (.istore_n 3, 1) := by decide +kernel
theorem dX6_kindOf_76 : decode cX6_kindOf 76 = .ok (.iinc 6 1, 3) := by decide +kernel
theorem dX6_kindOf_79 : decode cX6_kindOf 79 = .ok (.goto (-55), 3) := by decide +kernel
theorem dX6_kindOf_82 : decode cX6_kindOf 82 = .ok (.iinc 4 1, 3) := by decide +kernel
theorem dX6_kindOf_85 : decode cX6_kindOf 85 = .ok (.goto (-79), 3) := by decide +kernel
theorem dX6_kindOf_88 : decode cX6_kindOf 88 = .ok (.iload_n 3, 1) := by decide +kernel
theorem dX6_kindOf_89 : decode cX6_kindOf 89 = .ok (.ireturn, 1) := by decide +kernel
set_option maxRecDepth 20000 in
theorem ggX6_comesTo_X6_alone : GoodIn wsX6_comesTo wsX6_alone := goodIn_r _ [4, 5, 6, 3, 7, 8, 9, 10, 11, 12, 13, 14, 15, 16, 17, 18, 19] (by decide +kernel) (by decide +kernel)
set_option maxRecDepth 20000 in
theorem gX6_comesTo_X6_alone : GoodIn wsX6_comesTo (va_wsS RX6 128 yX6_alone wsX6_alone) := goodIn_app (goodIn_of _ (by decide +kernel)) ggX6_comesTo_X6_alone
set_option maxRecDepth 20000 in
theorem ggX6_comesTo_X6_orders : GoodIn wsX6_comesTo wsX6_orders := goodIn_r _ [22] (by decide +kernel) (by decide +kernel)
set_option maxRecDepth 20000 in
theorem gX6_comesTo_X6_orders : GoodIn wsX6_comesTo (va_wsS RX6 160 yX6_orders wsX6_orders) := goodIn_app (goodIn_of _ (by decide +kernel)) ggX6_comesTo_X6_orders
set_option maxRecDepth 20000 in
theorem ggX6_comesTo_X6_layRank : GoodIn wsX6_comesTo wsX6_layRank := goodIn_r _ [26, 27, 28, 33, 34, 35, 36, 37, 38, 39, 40, 41, 42, 43, 44, 45] (by decide +kernel) (by decide +kernel)
set_option maxRecDepth 20000 in
theorem gX6_comesTo_X6_layRank : GoodIn wsX6_comesTo (wsV RX6 163 RX6 yX6_layRank wsX6_layRank) := goodIn_app (goodIn_of _ (by decide +kernel)) ggX6_comesTo_X6_layRank
set_option maxRecDepth 20000 in
theorem ggX6_comesTo_X6_renumbered : GoodIn wsX6_comesTo wsX6_renumbered := goodIn_r _ [32, 27, 8, 9, 3, 10, 11, 12, 13, 14, 15, 16, 33, 34, 35, 36, 37, 38, 39, 40, 41, 42, 43, 44, 45] (by decide +kernel) (by decide +kernel)
set_option maxRecDepth 20000 in
theorem gX6_comesTo_X6_renumbered : GoodIn wsX6_comesTo (wsV RX6 167 RX6 yX6_renumbered wsX6_renumbered) := goodIn_app (goodIn_of _ (by decide +kernel)) ggX6_comesTo_X6_renumbered
theorem dX6_comesTo_0 : decode cX6_comesTo 0 = .ok (.iload 4, 2) := by decide +kernel
theorem dX6_comesTo_2 : decode cX6_comesTo 2 = .ok (.ifCond .eq 12, 3) := by decide +kernel
theorem dX6_comesTo_5 : decode cX6_comesTo 5 = .ok (.iload_n 1, 1) := by decide +kernel
theorem dX6_comesTo_6 : decode cX6_comesTo 6 = .ok (.iload_n 3, 1) := by decide +kernel
theorem dX6_comesTo_7 : decode cX6_comesTo 7 = .ok (.iconst 0, 1) := by decide +kernel
theorem dX6_comesTo_8 : decode cX6_comesTo 8 = .ok (.invokestatic 128, 3) := by decide +kernel
theorem dX6_comesTo_11 : decode cX6_comesTo 11 = .ok (.goto 4, 3) := by decide +kernel
theorem dX6_comesTo_14 : decode cX6_comesTo 14 = .ok (.iload_n 3, 1) := by decide +kernel
theorem dX6_comesTo_15 : decode cX6_comesTo 15 = .ok (.istore 5, 2) := by decide +kernel
theorem dX6_comesTo_17 : decode cX6_comesTo 17 = .ok (.iconst 0, 1) := by decide +kernel
theorem dX6_comesTo_18 : decode cX6_comesTo 18 = .ok (.istore 6, 2) := by decide +kernel
theorem dX6_comesTo_20 : decode cX6_comesTo 20 = .ok (.iconst 0, 1) := by decide +kernel
theorem dX6_comesTo_21 : decode cX6_comesTo 21 = .ok (.istore 7, 2) := by decide +kernel
theorem dX6_comesTo_23 : decode cX6_comesTo 23 = .ok (.iload 7, 2) := by decide +kernel
theorem dX6_comesTo_25 : decode cX6_comesTo 25 = .ok (.iload_n 1, 1) := by decide +kernel
theorem dX6_comesTo_26 : decode cX6_comesTo 26 = .ok (.invokestatic 160, 3) := by decide +kernel
theorem dX6_comesTo_29 : decode cX6_comesTo 29 = .ok (.if_icmp .ge 56, 3) := by decide +kernel
theorem dX6_comesTo_32 : decode cX6_comesTo 32 = .ok (.aload_n 0, 1) := by decide +kernel
theorem dX6_comesTo_33 : decode cX6_comesTo 33 = .ok (.iload_n 1, 1) := by decide +kernel
theorem dX6_comesTo_34 : decode cX6_comesTo 34 = .ok (.iload 7, 2) := by decide +kernel
theorem dX6_comesTo_36 : decode cX6_comesTo 36 = .ok (.invokevirtual 163, 3) := by decide +kernel
theorem dX6_comesTo_39 : decode cX6_comesTo 39 = .ok (.aload_n 0, 1) := by decide +kernel
theorem dX6_comesTo_40 : decode cX6_comesTo 40 = .ok (.iload_n 1, 1) := by decide +kernel
theorem dX6_comesTo_41 : decode cX6_comesTo 41 = .ok (.iload_n 2, 1) := by decide +kernel
theorem dX6_comesTo_42 : decode cX6_comesTo 42 = .ok (.invokevirtual 167, 3) := by decide +kernel
theorem dX6_comesTo_45 : decode cX6_comesTo 45 = .ok (.istore 8, 2) := by decide +kernel
theorem dX6_comesTo_47 : decode cX6_comesTo 47 = .ok (.iload 6, 2) := by decide +kernel
theorem dX6_comesTo_49 : decode cX6_comesTo 49 = .ok (.iload 4, 2) := by decide +kernel
theorem dX6_comesTo_51 : decode cX6_comesTo 51 = .ok (.ifCond .eq 13, 3) := by decide +kernel
theorem dX6_comesTo_54 : decode cX6_comesTo 54 = .ok (.iload_n 1, 1) := by decide +kernel
theorem dX6_comesTo_55 : decode cX6_comesTo 55 = .ok (.iload 8, 2) := by decide +kernel
theorem dX6_comesTo_57 : decode cX6_comesTo 57 = .ok (.iconst 0, 1) := by decide +kernel
theorem dX6_comesTo_58 : decode cX6_comesTo 58 = .ok (.invokestatic 128, 3) := by decide +kernel
theorem dX6_comesTo_61 : decode cX6_comesTo 61 = .ok (.goto 5, 3) := by decide +kernel
theorem dX6_comesTo_64 : decode cX6_comesTo 64 = .ok (.iload 8, 2) := by decide +kernel
theorem dX6_comesTo_66 : decode cX6_comesTo 66 = .ok (.iload 5, 2) := by decide +kernel
theorem dX6_comesTo_68 : decode cX6_comesTo 68 = .ok (.if_icmp .ne 7, 3) := by decide +kernel
theorem dX6_comesTo_71 : decode cX6_comesTo 71 = .ok (.iconst 1, 1) := by decide +kernel
theorem dX6_comesTo_72 : decode cX6_comesTo 72 = .ok (.goto 4, 3) := by decide +kernel
theorem dX6_comesTo_75 : decode cX6_comesTo 75 = .ok (.iconst 0, 1) := by decide +kernel
theorem dX6_comesTo_76 : decode cX6_comesTo 76 = .ok (.iadd, 1) := by decide +kernel
theorem dX6_comesTo_77 : decode cX6_comesTo 77 = .ok (.istore 6, 2) := by decide +kernel
theorem dX6_comesTo_79 : decode cX6_comesTo 79 = .ok (.iinc 7 1, 3) := by decide +kernel
theorem dX6_comesTo_82 : decode cX6_comesTo 82 = .ok (.goto (-59), 3) := by decide +kernel
theorem dX6_comesTo_85 : decode cX6_comesTo 85 = .ok (.iload 6, 2) := by decide +kernel
theorem dX6_comesTo_87 : decode cX6_comesTo 87 = .ok (.ireturn, 1) := by decide +kernel
set_option maxRecDepth 20000 in
theorem ggX6_setBetween_X6_many : GoodIn wsX6_setBetween wsX6_many := goodIn_r _ [5, 6, 22, 23, 24, 25, 26, 27, 28, 29, 30, 31, 32, 33, 34] (by decide +kernel) (by decide +kernel)
set_option maxRecDepth 20000 in
theorem gX6_setBetween_X6_many : GoodIn wsX6_setBetween (wsV RX6 68 RX6 yX6_many wsX6_many) := goodIn_app (goodIn_of _ (by decide +kernel)) ggX6_setBetween_X6_many
set_option maxRecDepth 20000 in
theorem ggX6_setBetween_X6_neighbours : GoodIn wsX6_setBetween wsX6_neighbours := goodIn_r _ [9, 10, 11, 4, 12, 13, 14, 15, 16, 17, 18] (by decide +kernel) (by decide +kernel)
set_option maxRecDepth 20000 in
theorem gX6_setBetween_X6_neighbours : GoodIn wsX6_setBetween (va_wsS RX6 49 yX6_neighbours wsX6_neighbours) := goodIn_app (goodIn_of _ (by decide +kernel)) ggX6_setBetween_X6_neighbours
set_option maxRecDepth 20000 in
theorem ggX6_setBetween_X6_switched : GoodIn wsX6_setBetween wsX6_switched := goodIn_r _ [21, 13, 14, 4, 15, 16, 17, 18] (by decide +kernel) (by decide +kernel)
set_option maxRecDepth 20000 in
theorem gX6_setBetween_X6_switched : GoodIn wsX6_setBetween (va_wsS RX6 55 yX6_switched wsX6_switched) := goodIn_app (goodIn_of _ (by decide +kernel)) ggX6_setBetween_X6_switched
theorem dX6_setBetween_0 : decode cX6_setBetween 0 = .ok (.aload_n 0, 1) := by decide +kernel
theorem dX6_setBetween_1 : decode cX6_setBetween 1 = .ok (.invokevirtual 68, 3) := by decide +kernel
theorem dX6_setBetween_4 : decode cX6_setBetween 4 = .ok (.iload_n 1, 1) := by decide +kernel
theorem dX6_setBetween_5 : decode cX6_setBetween 5 = .ok (.iload_n 2, 1) := by decide +kernel
theorem dX6_setBetween_6 : decode cX6_setBetween 6 = .ok (.ixor, 1) := by decide +kernel
theorem dX6_setBetween_7 : decode cX6_setBetween 7 = .ok (.iconst 0, 1) := by decide +kernel
theorem dX6_setBetween_8 : decode cX6_setBetween 8 = .ok (.invokestatic 49, 3) := by decide +kernel
theorem dX6_setBetween_11 : decode cX6_setBetween 11 = .ok (.istore_n 3, 1) := by decide +kernel
theorem dX6_setBetween_12 : decode cX6_setBetween 12 = .ok (.aload_n 0, 1) := by decide +kernel
theorem dX6_setBetween_13 : decode cX6_setBetween 13 = .ok (.invokevirtual 68, 3) := by decide +kernel
theorem dX6_setBetween_16 : decode cX6_setBetween 16 = .ok (.iload_n 1, 1) := by decide +kernel
theorem dX6_setBetween_17 : decode cX6_setBetween 17 = .ok (.iload_n 3, 1) := by decide +kernel
theorem dX6_setBetween_18 : decode cX6_setBetween 18 = .ok (.invokestatic 55, 3) := by decide +kernel
theorem dX6_setBetween_21 : decode cX6_setBetween 21 = .ok (.iload_n 2, 1) := by decide +kernel
theorem dX6_setBetween_22 : decode cX6_setBetween 22 = .ok (.if_icmp .ne 7, 3) := by decide +kernel
theorem dX6_setBetween_25 : decode cX6_setBetween 25 = .ok (.iload_n 3, 1) := by decide +kernel
theorem dX6_setBetween_26 : decode cX6_setBetween 26 = .ok (.goto 5, 3) := by decide +kernel
theorem dX6_setBetween_29 : decode cX6_setBetween 29 = .ok (.bipush (-6), 2) := by decide +kernel
theorem dX6_setBetween_31 : decode cX6_setBetween 31 = .ok (.ireturn, 1) := by decide +kernel
set_option maxRecDepth 20000 in
theorem ggX6_compare_X6_isSlot : GoodIn wsX6_compare wsX6_isSlot := goodIn_r _ [4, 5, 6, 3, 7] (by decide +kernel) (by decide +kernel)
set_option maxRecDepth 20000 in
theorem gX6_compare_X6_isSlot : GoodIn wsX6_compare (va_wsS RX6 72 yX6_isSlot wsX6_isSlot) := goodIn_app (goodIn_of _ (by decide +kernel)) ggX6_compare_X6_isSlot
set_option maxRecDepth 20000 in
theorem ggX6_compare_X6_netOf : GoodIn wsX6_compare wsX6_netOf := goodIn_r _ [11, 12, 56, 57, 58, 59, 60, 61, 62, 63, 64, 65, 66, 67, 68] (by decide +kernel) (by decide +kernel)
set_option maxRecDepth 20000 in
theorem gX6_compare_X6_netOf : GoodIn wsX6_compare (wsV RX6 79 RX6 yX6_netOf wsX6_netOf) := goodIn_app (goodIn_of _ (by decide +kernel)) ggX6_compare_X6_netOf
set_option maxRecDepth 20000 in
theorem ggX6_compare_X6_setBetween : GoodIn wsX6_compare wsX6_setBetween := goodIn_r _ [16, 17, 18, 19, 3, 20, 12, 21, 22, 23, 24, 25, 26, 27, 28, 29, 30, 31, 32, 33, 34, 35, 56, 57, 58, 59, 60, 61, 62, 63, 64, 65, 66, 67, 68] (by decide +kernel) (by decide +kernel)
set_option maxRecDepth 20000 in
theorem gX6_compare_X6_setBetween : GoodIn wsX6_compare (wsV RX6 170 RX6 yX6_setBetween wsX6_setBetween) := goodIn_app (goodIn_of _ (by decide +kernel)) ggX6_compare_X6_setBetween
set_option maxRecDepth 20000 in
theorem ggX6_compare_X6_many : GoodIn wsX6_compare wsX6_many := goodIn_r _ [20, 12, 56, 57, 58, 59, 60, 61, 62, 63, 64, 65, 66, 67, 68] (by decide +kernel) (by decide +kernel)
set_option maxRecDepth 20000 in
theorem gX6_compare_X6_many : GoodIn wsX6_compare (wsV RX6 68 RX6 yX6_many wsX6_many) := goodIn_app (goodIn_of _ (by decide +kernel)) ggX6_compare_X6_many
set_option maxRecDepth 20000 in
theorem ggX6_compare_X6_comesTo : GoodIn wsX6_compare wsX6_comesTo := goodIn_r _ [39, 40, 41, 3, 42, 21, 22, 23, 24, 25, 26, 27, 28, 29, 30, 31, 32, 33, 34, 35, 43, 44, 45, 46, 47, 48, 49, 50, 51, 52, 53, 54, 55, 56, 57, 58, 59, 60, 61, 62, 63, 64, 65, 66, 67, 68] (by decide +kernel) (by decide +kernel)
set_option maxRecDepth 20000 in
theorem gX6_compare_X6_comesTo : GoodIn wsX6_compare (wsV RX6 173 RX6 yX6_comesTo wsX6_comesTo) := goodIn_app (goodIn_of _ (by decide +kernel)) ggX6_compare_X6_comesTo
theorem dX6_compare_0 : decode cX6_compare 0 = .ok (.iload_n 1, 1) := by decide +kernel
theorem dX6_compare_1 : decode cX6_compare 1 = .ok (.invokestatic 72, 3) := by decide +kernel
theorem dX6_compare_4 : decode cX6_compare 4 = .ok (.ifCond .eq 10, 3) := by decide +kernel
theorem dX6_compare_7 : decode cX6_compare 7 = .ok (.iload_n 2, 1) := by decide +kernel
theorem dX6_compare_8 : decode cX6_compare 8 = .ok (.invokestatic 72, 3) := by decide +kernel
theorem dX6_compare_11 : decode cX6_compare 11 = .ok (.ifCond .ne 5, 3) := by decide +kernel
theorem dX6_compare_14 : decode cX6_compare 14 = .ok (.iconst (-1), 1) := by decide +kernel
theorem dX6_compare_15 : decode cX6_compare 15 = .ok (.ireturn, 1) := by decide +kernel
theorem dX6_compare_16 : decode cX6_compare 16 = .ok (.aload_n 0, 1) := by decide +kernel
theorem dX6_compare_17 : decode cX6_compare 17 = .ok (.iload_n 1, 1) := by decide +kernel
theorem dX6_compare_18 : decode cX6_compare 18 = .ok (.invokevirtual 79, 3) := by decide +kernel
theorem dX6_compare_21 : decode cX6_compare 21 = .ok (.istore 4, 2) := by decide +kernel
theorem dX6_compare_23 : decode cX6_compare 23 = .ok (.aload_n 0, 1) := by decide +kernel
theorem dX6_compare_24 : decode cX6_compare 24 = .ok (.iload_n 2, 1) := by decide +kernel
theorem dX6_compare_25 : decode cX6_compare 25 = .ok (.invokevirtual 79, 3) := by decide +kernel
theorem dX6_compare_28 : decode cX6_compare 28 = .ok (.istore 5, 2) := by decide +kernel
theorem dX6_compare_30 : decode cX6_compare 30 = .ok (.iload_n 3, 1) := by decide +kernel
theorem dX6_compare_31 : decode cX6_compare 31 = .ok (.tableswitch 99 0 3 #[29, 46, 55, 77], 29) := by decide +kernel
theorem dX6_compare_60 : decode cX6_compare 60 = .ok (.aload_n 0, 1) := by decide +kernel
theorem dX6_compare_61 : decode cX6_compare 61 = .ok (.iload 4, 2) := by decide +kernel
theorem dX6_compare_63 : decode cX6_compare 63 = .ok (.iload 5, 2) := by decide +kernel
theorem dX6_compare_65 : decode cX6_compare 65 = .ok (.invokevirtual 170, 3) := by decide +kernel
theorem dX6_compare_68 : decode cX6_compare 68 = .ok (.ifCond .lt 7, 3) := by decide +kernel
theorem dX6_compare_71 : decode cX6_compare 71 = .ok (.iconst 1, 1) := by decide +kernel
theorem dX6_compare_72 : decode cX6_compare 72 = .ok (.goto 4, 3) := by decide +kernel
theorem dX6_compare_75 : decode cX6_compare 75 = .ok (.iconst 0, 1) := by decide +kernel
theorem dX6_compare_76 : decode cX6_compare 76 = .ok (.ireturn, 1) := by decide +kernel
theorem dX6_compare_77 : decode cX6_compare 77 = .ok (.aload_n 0, 1) := by decide +kernel
theorem dX6_compare_78 : decode cX6_compare 78 = .ok (.iload 4, 2) := by decide +kernel
theorem dX6_compare_80 : decode cX6_compare 80 = .ok (.iload 5, 2) := by decide +kernel
theorem dX6_compare_82 : decode cX6_compare 82 = .ok (.invokevirtual 170, 3) := by decide +kernel
theorem dX6_compare_85 : decode cX6_compare 85 = .ok (.ireturn, 1) := by decide +kernel
theorem dX6_compare_86 : decode cX6_compare 86 = .ok (.aload_n 0, 1) := by decide +kernel
theorem dX6_compare_87 : decode cX6_compare 87 = .ok (.aload_n 0, 1) := by decide +kernel
theorem dX6_compare_88 : decode cX6_compare 88 = .ok (.invokevirtual 68, 3) := by decide +kernel
theorem dX6_compare_91 : decode cX6_compare 91 = .ok (.iload 4, 2) := by decide +kernel
theorem dX6_compare_93 : decode cX6_compare 93 = .ok (.iload 5, 2) := by decide +kernel
theorem dX6_compare_95 : decode cX6_compare 95 = .ok (.iconst 0, 1) := by decide +kernel
theorem dX6_compare_96 : decode cX6_compare 96 = .ok (.invokevirtual 173, 3) := by decide +kernel
theorem dX6_compare_99 : decode cX6_compare 99 = .ok (.ifCond .le 7, 3) := by decide +kernel
theorem dX6_compare_102 : decode cX6_compare 102 = .ok (.iconst 1, 1) := by decide +kernel
theorem dX6_compare_103 : decode cX6_compare 103 = .ok (.goto 4, 3) := by decide +kernel
theorem dX6_compare_106 : decode cX6_compare 106 = .ok (.iconst 0, 1) := by decide +kernel
theorem dX6_compare_107 : decode cX6_compare 107 = .ok (.ireturn, 1) := by decide +kernel
theorem dX6_compare_108 : decode cX6_compare 108 = .ok (.aload_n 0, 1) := by decide +kernel
theorem dX6_compare_109 : decode cX6_compare 109 = .ok (.aload_n 0, 1) := by decide +kernel
theorem dX6_compare_110 : decode cX6_compare 110 = .ok (.invokevirtual 68, 3) := by decide +kernel
theorem dX6_compare_113 : decode cX6_compare 113 = .ok (.iload 4, 2) := by decide +kernel
theorem dX6_compare_115 : decode cX6_compare 115 = .ok (.iload 5, 2) := by decide +kernel
theorem dX6_compare_117 : decode cX6_compare 117 = .ok (.iconst 1, 1) := by decide +kernel
theorem dX6_compare_118 : decode cX6_compare 118 = .ok (.invokevirtual 173, 3) := by decide +kernel
theorem dX6_compare_121 : decode cX6_compare 121 = .ok (.ifCond .le 7, 3) := by decide +kernel
theorem dX6_compare_124 : decode cX6_compare 124 = .ok (.iconst 1, 1) := by decide +kernel
theorem dX6_compare_125 : decode cX6_compare 125 = .ok (.goto 4, 3) := by decide +kernel
theorem dX6_compare_128 : decode cX6_compare 128 = .ok (.iconst 0, 1) := by decide +kernel
theorem dX6_compare_129 : decode cX6_compare 129 = .ok (.ireturn, 1) := by decide +kernel
theorem dX6_compare_130 : decode cX6_compare 130 = .ok (.bipush (-2), 2) := by decide +kernel
theorem dX6_compare_132 : decode cX6_compare 132 = .ok (.ireturn, 1) := by decide +kernel
set_option maxRecDepth 20000 in
theorem ggX6_kind_X6_isSlot : GoodIn wsX6_kind wsX6_isSlot := goodIn_r _ [4, 5, 6, 3, 7] (by decide +kernel) (by decide +kernel)
set_option maxRecDepth 20000 in
theorem gX6_kind_X6_isSlot : GoodIn wsX6_kind (va_wsS RX6 72 yX6_isSlot wsX6_isSlot) := goodIn_app (goodIn_of _ (by decide +kernel)) ggX6_kind_X6_isSlot
set_option maxRecDepth 20000 in
theorem ggX6_kind_X6_netOf : GoodIn wsX6_kind wsX6_netOf := goodIn_r _ [11, 12, 56, 57, 58, 59, 60, 61, 62, 63, 64, 65, 66, 67, 68] (by decide +kernel) (by decide +kernel)
set_option maxRecDepth 20000 in
theorem gX6_kind_X6_netOf : GoodIn wsX6_kind (wsV RX6 79 RX6 yX6_netOf wsX6_netOf) := goodIn_app (goodIn_of _ (by decide +kernel)) ggX6_kind_X6_netOf
set_option maxRecDepth 20000 in
theorem ggX6_kind_X6_many : GoodIn wsX6_kind wsX6_many := goodIn_r _ [16, 12, 56, 57, 58, 59, 60, 61, 62, 63, 64, 65, 66, 67, 68] (by decide +kernel) (by decide +kernel)
set_option maxRecDepth 20000 in
theorem gX6_kind_X6_many : GoodIn wsX6_kind (wsV RX6 68 RX6 yX6_many wsX6_many) := goodIn_app (goodIn_of _ (by decide +kernel)) ggX6_kind_X6_many
set_option maxRecDepth 20000 in
theorem ggX6_kind_X6_kindOf : GoodIn wsX6_kind wsX6_kindOf := goodIn_r _ [20, 21, 22, 23, 3, 24, 25, 26, 27, 28, 29, 30, 31, 32, 33, 34, 35, 36, 37, 38, 39, 40, 41, 42, 43, 44, 45, 46, 47, 48, 49, 50, 51, 56, 57, 58, 59, 60, 61, 62, 63, 64, 65, 66, 67, 68] (by decide +kernel) (by decide +kernel)
set_option maxRecDepth 20000 in
theorem gX6_kind_X6_kindOf : GoodIn wsX6_kind (wsV RX6 177 RX6 yX6_kindOf wsX6_kindOf) := goodIn_app (goodIn_of _ (by decide +kernel)) ggX6_kind_X6_kindOf
set_option maxRecDepth 20000 in
theorem ggX6_kind_X6_comesTo : GoodIn wsX6_kind wsX6_comesTo := goodIn_r _ [55, 22, 23, 3, 24, 25, 26, 27, 28, 29, 30, 31, 32, 33, 34, 35, 36, 37, 38, 39, 40, 41, 42, 43, 44, 45, 46, 21, 47, 48, 49, 50, 51, 56, 57, 58, 59, 60, 61, 62, 63, 64, 65, 66, 67, 68] (by decide +kernel) (by decide +kernel)
set_option maxRecDepth 20000 in
theorem gX6_kind_X6_comesTo : GoodIn wsX6_kind (wsV RX6 173 RX6 yX6_comesTo wsX6_comesTo) := goodIn_app (goodIn_of _ (by decide +kernel)) ggX6_kind_X6_comesTo
theorem dX6_kind_0 : decode cX6_kind 0 = .ok (.iload_n 1, 1) := by decide +kernel
theorem dX6_kind_1 : decode cX6_kind 1 = .ok (.invokestatic 72, 3) := by decide +kernel
theorem dX6_kind_4 : decode cX6_kind 4 = .ok (.ifCond .ne 5, 3) := by decide +kernel
theorem dX6_kind_7 : decode cX6_kind 7 = .ok (.iconst (-1), 1) := by decide +kernel
theorem dX6_kind_8 : decode cX6_kind 8 = .ok (.ireturn, 1) := by decide +kernel
theorem dX6_kind_9 : decode cX6_kind 9 = .ok (.aload_n 0, 1) := by decide +kernel
theorem dX6_kind_10 : decode cX6_kind 10 = .ok (.iload_n 1, 1) := by decide +kernel
theorem dX6_kind_11 : decode cX6_kind 11 = .ok (.invokevirtual 79, 3) := by decide +kernel
theorem dX6_kind_14 : decode cX6_kind 14 = .ok (.istore_n 3, 1) := by decide +kernel
theorem dX6_kind_15 : decode cX6_kind 15 = .ok (.iload_n 2, 1) := by decide +kernel
theorem dX6_kind_16 : decode cX6_kind 16 = .ok (.tableswitch 62 0 2 #[28, 38, 50], 28) := by decide +kernel
theorem dX6_kind_44 : decode cX6_kind 44 = .ok (.aload_n 0, 1) := by decide +kernel
theorem dX6_kind_45 : decode cX6_kind 45 = .ok (.aload_n 0, 1) := by decide +kernel
theorem dX6_kind_46 : decode cX6_kind 46 = .ok (.invokevirtual 68, 3) := by decide +kernel
theorem dX6_kind_49 : decode cX6_kind 49 = .ok (.iload_n 3, 1) := by decide +kernel
theorem dX6_kind_50 : decode cX6_kind 50 = .ok (.invokevirtual 177, 3) := by decide +kernel
theorem dX6_kind_53 : decode cX6_kind 53 = .ok (.ireturn, 1) := by decide +kernel
theorem dX6_kind_54 : decode cX6_kind 54 = .ok (.aload_n 0, 1) := by decide +kernel
theorem dX6_kind_55 : decode cX6_kind 55 = .ok (.aload_n 0, 1) := by decide +kernel
theorem dX6_kind_56 : decode cX6_kind 56 = .ok (.invokevirtual 68, 3) := by decide +kernel
theorem dX6_kind_59 : decode cX6_kind 59 = .ok (.iload_n 3, 1) := by decide +kernel
theorem dX6_kind_60 : decode cX6_kind 60 = .ok (.iload_n 3, 1) := by decide +kernel
theorem dX6_kind_61 : decode cX6_kind 61 = .ok (.iconst 1, 1) := by decide +kernel
theorem dX6_kind_62 : decode cX6_kind 62 = .ok (.invokevirtual 173, 3) := by decide +kernel
theorem dX6_kind_65 : decode cX6_kind 65 = .ok (.ireturn, 1) := by decide +kernel
theorem dX6_kind_66 : decode cX6_kind 66 = .ok (.aload_n 0, 1) := by decide +kernel
theorem dX6_kind_67 : decode cX6_kind 67 = .ok (.aload_n 0, 1) := by decide +kernel
theorem dX6_kind_68 : decode cX6_kind 68 = .ok (.invokevirtual 68, 3) := by decide +kernel
theorem dX6_kind_71 : decode cX6_kind 71 = .ok (.iload_n 3, 1) := by decide +kernel
theorem dX6_kind_72 : decode cX6_kind 72 = .ok (.iload_n 3, 1) := by decide +kernel
theorem dX6_kind_73 : decode cX6_kind 73 = .ok (.iconst 0, 1) := by decide +kernel
theorem dX6_kind_74 : decode cX6_kind 74 = .ok (.invokevirtual 173, 3) := by decide +kernel
theorem dX6_kind_77 : decode cX6_kind 77 = .ok (.ireturn, 1) := by decide +kernel
theorem dX6_kind_78 : decode cX6_kind 78 = .ok (.bipush (-2), 2) := by decide +kernel
theorem dX6_kind_80 : decode cX6_kind 80 = .ok (.ireturn, 1) := by decide +kernel
set_option maxRecDepth 20000 in
theorem ggX6_card_X6_isSlot : GoodIn wsX6_card wsX6_isSlot := goodIn_r _ [4, 5, 6, 3, 7] (by decide +kernel) (by decide +kernel)
set_option maxRecDepth 20000 in
theorem gX6_card_X6_isSlot : GoodIn wsX6_card (va_wsS RX6 72 yX6_isSlot wsX6_isSlot) := goodIn_app (goodIn_of _ (by decide +kernel)) ggX6_card_X6_isSlot
set_option maxRecDepth 20000 in
theorem ggX6_card_X6_isNode : GoodIn wsX6_card wsX6_isNode := goodIn_r _ [11, 12, 5, 6, 3, 7, 59, 60, 61, 62, 63, 64, 65, 66, 67, 68, 69, 70, 71] (by decide +kernel) (by decide +kernel)
set_option maxRecDepth 20000 in
theorem gX6_card_X6_isNode : GoodIn wsX6_card (wsV RX6 76 RX6 yX6_isNode wsX6_isNode) := goodIn_app (goodIn_of _ (by decide +kernel)) ggX6_card_X6_isNode
set_option maxRecDepth 20000 in
theorem ggX6_card_X6_many : GoodIn wsX6_card wsX6_many := goodIn_r _ [16, 12, 59, 60, 61, 62, 63, 64, 65, 66, 67, 68, 69, 70, 71] (by decide +kernel) (by decide +kernel)
set_option maxRecDepth 20000 in
theorem gX6_card_X6_many : GoodIn wsX6_card (wsV RX6 68 RX6 yX6_many wsX6_many) := goodIn_app (goodIn_of _ (by decide +kernel)) ggX6_card_X6_many
set_option maxRecDepth 20000 in
theorem ggX6_card_X6_netOf : GoodIn wsX6_card wsX6_netOf := goodIn_r _ [20, 12, 59, 60, 61, 62, 63, 64, 65, 66, 67, 68, 69, 70, 71] (by decide +kernel) (by decide +kernel)
set_option maxRecDepth 20000 in
theorem gX6_card_X6_netOf : GoodIn wsX6_card (wsV RX6 79 RX6 yX6_netOf wsX6_netOf) := goodIn_app (goodIn_of _ (by decide +kernel)) ggX6_card_X6_netOf
set_option maxRecDepth 20000 in
theorem ggX6_card_X6_without : GoodIn wsX6_card wsX6_without := goodIn_r _ [23, 24, 25, 3, 26, 27, 28, 29, 30, 31, 32] (by decide +kernel) (by decide +kernel)
set_option maxRecDepth 20000 in
theorem gX6_card_X6_without : GoodIn wsX6_card (va_wsS RX6 131 yX6_without wsX6_without) := goodIn_app (goodIn_of _ (by decide +kernel)) ggX6_card_X6_without
set_option maxRecDepth 20000 in
theorem ggX6_card_X6_kindOf : GoodIn wsX6_card wsX6_kindOf := goodIn_r _ [36, 37, 38, 39, 3, 40, 41, 42, 43, 24, 25, 26, 27, 28, 29, 30, 31, 32, 44, 45, 46, 47, 48, 49, 50, 51, 52, 53, 54, 55, 56, 57, 58, 59, 60, 61, 62, 63, 64, 65, 66, 67, 68, 69, 70, 71] (by decide +kernel) (by decide +kernel)
set_option maxRecDepth 20000 in
theorem gX6_card_X6_kindOf : GoodIn wsX6_card (wsV RX6 177 RX6 yX6_kindOf wsX6_kindOf) := goodIn_app (goodIn_of _ (by decide +kernel)) ggX6_card_X6_kindOf
theorem dX6_card_0 : decode cX6_card 0 = .ok (.iload_n 1, 1) := by decide +kernel
theorem dX6_card_1 : decode cX6_card 1 = .ok (.invokestatic 72, 3) := by decide +kernel
theorem dX6_card_4 : decode cX6_card 4 = .ok (.ifCond .eq 11, 3) := by decide +kernel
theorem dX6_card_7 : decode cX6_card 7 = .ok (.aload_n 0, 1) := by decide +kernel
theorem dX6_card_8 : decode cX6_card 8 = .ok (.iload_n 2, 1) := by decide +kernel
theorem dX6_card_9 : decode cX6_card 9 = .ok (.invokevirtual 76, 3) := by decide +kernel
theorem dX6_card_12 : decode cX6_card 12 = .ok (.ifCond .ne 5, 3) := by decide +kernel
theorem dX6_card_15 : decode cX6_card 15 = .ok (.iconst (-1), 1) := by decide +kernel
theorem dX6_card_16 : decode cX6_card 16 = .ok (.ireturn, 1) := by decide +kernel
theorem dX6_card_17 : decode cX6_card 17 = .ok (.aload_n 0, 1) := by decide +kernel
theorem dX6_card_18 : decode cX6_card 18 = .ok (.invokevirtual 68, 3) := by decide +kernel
theorem dX6_card_21 : decode cX6_card 21 = .ok (.iconst 3, 1) := by decide +kernel
theorem dX6_card_22 : decode cX6_card 22 = .ok (.if_icmp .ne 6, 3) := by decide +kernel
theorem dX6_card_25 : decode cX6_card 25 = .ok (.bipush (-3), 2) := by decide +kernel
theorem dX6_card_27 : decode cX6_card 27 = .ok (.ireturn, 1) := by decide +kernel
theorem dX6_card_28 : decode cX6_card 28 = .ok (.aload_n 0, 1) := by decide +kernel
theorem dX6_card_29 : decode cX6_card 29 = .ok (.aload_n 0, 1) := by decide +kernel
theorem dX6_card_30 : decode cX6_card 30 = .ok (.invokevirtual 68, 3) := by decide +kernel
theorem dX6_card_33 : decode cX6_card 33 = .ok (.iconst 1, 1) := by decide +kernel
theorem dX6_card_34 : decode cX6_card 34 = .ok (.isub, 1) := by decide +kernel
theorem dX6_card_35 : decode cX6_card 35 = .ok (.aload_n 0, 1) := by decide +kernel
theorem dX6_card_36 : decode cX6_card 36 = .ok (.invokevirtual 68, 3) := by decide +kernel
theorem dX6_card_39 : decode cX6_card 39 = .ok (.aload_n 0, 1) := by decide +kernel
theorem dX6_card_40 : decode cX6_card 40 = .ok (.iload_n 1, 1) := by decide +kernel
theorem dX6_card_41 : decode cX6_card 41 = .ok (.invokevirtual 79, 3) := by decide +kernel
theorem dX6_card_44 : decode cX6_card 44 = .ok (.iload_n 2, 1) := by decide +kernel
theorem dX6_card_45 : decode cX6_card 45 = .ok (.invokestatic 131, 3) := by decide +kernel
theorem dX6_card_48 : decode cX6_card 48 = .ok (.invokevirtual 177, 3) := by decide +kernel
theorem dX6_card_51 : decode cX6_card 51 = .ok (.ireturn, 1) := by decide +kernel
set_option maxRecDepth 20000 in
theorem ggX6_layTable_X6_many : GoodIn wsX6_layTable wsX6_many := goodIn_r _ [6, 7, 17, 18, 19, 20, 21, 22, 23, 24, 25, 26, 27, 28, 29] (by decide +kernel) (by decide +kernel)
set_option maxRecDepth 20000 in
theorem gX6_layTable_X6_many : GoodIn wsX6_layTable (wsV RX6 68 RX6 yX6_many wsX6_many) := goodIn_app (goodIn_of _ (by decide +kernel)) ggX6_layTable_X6_many
set_option maxRecDepth 20000 in
theorem ggX6_layTable_X6_joined : GoodIn wsX6_layTable wsX6_joined := goodIn_r _ [10, 11, 12, 5, 13, 14, 15, 16] (by decide +kernel) (by decide +kernel)
set_option maxRecDepth 20000 in
theorem gX6_layTable_X6_joined : GoodIn wsX6_layTable (va_wsS RX6 45 yX6_joined wsX6_joined) := goodIn_app (goodIn_of _ (by decide +kernel)) ggX6_layTable_X6_joined
theorem dX6_layTable_0 : decode cX6_layTable 0 = .ok (.iconst 0, 1) := by decide +kernel
theorem dX6_layTable_1 : decode cX6_layTable 1 = .ok (.istore_n 3, 1) := by decide +kernel
theorem dX6_layTable_2 : decode cX6_layTable 2 = .ok (.iload_n 3, 1) := by decide +kernel
theorem dX6_layTable_3 : decode cX6_layTable 3 = .ok (.aload_n 0, 1) := by decide +kernel
theorem dX6_layTable_4 : decode cX6_layTable 4 = .ok (.invokevirtual 68, 3) := by decide +kernel
theorem dX6_layTable_7 : decode cX6_layTable 7 = .ok (.if_icmp .ge 67, 3) := by decide +kernel
theorem dX6_layTable_10 : decode cX6_layTable 10 = .ok (.iconst 0, 1) := by decide +kernel
theorem dX6_layTable_11 : decode cX6_layTable 11 = .ok (.istore 4, 2) := by decide +kernel
theorem dX6_layTable_13 : decode cX6_layTable 13 = .ok (.iload 4, 2) := by decide +kernel
theorem dX6_layTable_15 : decode cX6_layTable 15 = .ok (.aload_n 0, 1) := by decide +kernel
theorem dX6_layTable_16 : decode cX6_layTable 16 = .ok (.invokevirtual 68, 3) := by decide +kernel
theorem dX6_layTable_19 : decode cX6_layTable 19 = .ok (.if_icmp .ge 49, 3) := by decide +kernel
theorem dX6_layTable_22 : decode cX6_layTable 22 = .ok (.aload_n 0, 1) := by decide +kernel
theorem dX6_layTable_23 : decode cX6_layTable 23 = .ok (.getfield 29, 3) := by decide +kernel
theorem dX6_layTable_26 : decode cX6_layTable 26 = .ok (.bipush 7, 2) := by decide +kernel
theorem dX6_layTable_28 : decode cX6_layTable 28 = .ok (.iload_n 3, 1) := by decide +kernel
theorem dX6_layTable_29 : decode cX6_layTable 29 = .ok (.imul, 1) := by decide +kernel
theorem dX6_layTable_30 : decode cX6_layTable 30 = .ok (.iload 4, 2) := by decide +kernel
theorem dX6_layTable_32 : decode cX6_layTable 32 = .ok (.iadd, 1) := by decide +kernel
theorem dX6_layTable_33 : decode cX6_layTable 33 = .ok (.iload_n 3, 1) := by decide +kernel
theorem dX6_layTable_34 : decode cX6_layTable 34 = .ok (.iload 4, 2) := by decide +kernel
theorem dX6_layTable_36 : decode cX6_layTable 36 = .ok (.if_icmp .ne 9, 3) := by decide +kernel
theorem dX6_layTable_39 : decode cX6_layTable 39 = .ok (.iload_n 2, 1) := by decide +kernel
theorem dX6_layTable_40 : decode cX6_layTable 40 = .ok (.ineg, 1) := by decide +kernel
theorem dX6_layTable_41 : decode cX6_layTable 41 = .ok (.i2l, 1) := by decide +kernel
theorem dX6_layTable_42 : decode cX6_layTable 42 = .ok (.goto 19, 3) := by decide +kernel
theorem dX6_layTable_45 : decode cX6_layTable 45 = .ok (.iconst 1, 1) := by decide +kernel
theorem dX6_layTable_46 : decode cX6_layTable 46 = .ok (.iconst 2, 1) := by decide +kernel
theorem dX6_layTable_47 : decode cX6_layTable 47 = .ok (.aload_n 0, 1) := by decide +kernel
theorem dX6_layTable_48 : decode cX6_layTable 48 = .ok (.invokevirtual 68, 3) := by decide +kernel
theorem dX6_layTable_51 : decode cX6_layTable 51 = .ok (.iload_n 1, 1) := by decide +kernel
theorem dX6_layTable_52 : decode cX6_layTable 52 = .ok (.iload_n 3, 1) := by decide +kernel
theorem dX6_layTable_53 : decode cX6_layTable 53 = .ok (.iload 4, 2) := by decide +kernel
theorem dX6_layTable_55 : decode cX6_layTable 55 = .ok (.invokestatic 45, 3) := by decide +kernel
theorem dX6_layTable_58 : decode cX6_layTable 58 = .ok (.imul, 1) := by decide +kernel
theorem dX6_layTable_59 : decode cX6_layTable 59 = .ok (.isub, 1) := by decide +kernel
theorem dX6_layTable_60 : decode cX6_layTable 60 = .ok (.i2l, 1) := by decide +kernel
theorem dX6_layTable_61 : decode cX6_layTable 61 = .ok (.lastore, 1) := by decide +kernel
theorem dX6_layTable_62 : decode cX6_layTable 62 = .ok (.iinc 4 1, 3) := by decide +kernel
theorem dX6_layTable_65 : decode cX6_layTable 65 = .ok (.goto (-52), 3) := by decide +kernel
theorem dX6_layTable_68 : decode cX6_layTable 68 = .ok (.iinc 3 1, 3) := by decide +kernel
theorem dX6_layTable_71 : decode cX6_layTable 71 = .ok (.goto (-69), 3) := by decide +kernel
theorem dX6_layTable_74 : decode cX6_layTable 74 = .ok (.return_, 1) := by decide +kernel
set_option maxRecDepth 20000 in
theorem ggX6_swapRows_X6_many : GoodIn wsX6_swapRows wsX6_many := goodIn_r _ [6, 7, 8, 9, 10, 11, 12, 13, 14, 15, 16, 17, 18, 19, 20] (by decide +kernel) (by decide +kernel)
set_option maxRecDepth 20000 in
theorem gX6_swapRows_X6_many : GoodIn wsX6_swapRows (wsV RX6 68 RX6 yX6_many wsX6_many) := goodIn_app (goodIn_of _ (by decide +kernel)) ggX6_swapRows_X6_many
theorem dX6_swapRows_0 : decode cX6_swapRows 0 = .ok (.iconst 0, 1) := by decide +kernel
theorem dX6_swapRows_1 : decode cX6_swapRows 1 = .ok (.istore_n 3, 1) := by decide +kernel
theorem dX6_swapRows_2 : decode cX6_swapRows 2 = .ok (.iload_n 3, 1) := by decide +kernel
theorem dX6_swapRows_3 : decode cX6_swapRows 3 = .ok (.aload_n 0, 1) := by decide +kernel
theorem dX6_swapRows_4 : decode cX6_swapRows 4 = .ok (.invokevirtual 68, 3) := by decide +kernel
theorem dX6_swapRows_7 : decode cX6_swapRows 7 = .ok (.if_icmp .ge 57, 3) := by decide +kernel
theorem dX6_swapRows_10 : decode cX6_swapRows 10 = .ok (.aload_n 0, 1) := by decide +kernel
theorem dX6_swapRows_11 : decode cX6_swapRows 11 = .ok (.getfield 29, 3) := by decide +kernel
theorem dX6_swapRows_14 : decode cX6_swapRows 14 = .ok (.bipush 7, 2) := by decide +kernel
theorem dX6_swapRows_16 : decode cX6_swapRows 16 = .ok (.iload_n 1, 1) := by decide +kernel
theorem dX6_swapRows_17 : decode cX6_swapRows 17 = .ok (.imul, 1) := by decide +kernel
theorem dX6_swapRows_18 : decode cX6_swapRows 18 = .ok (.iload_n 3, 1) := by decide +kernel
theorem dX6_swapRows_19 : decode cX6_swapRows 19 = .ok (.iadd, 1) := by decide +kernel
theorem dX6_swapRows_20 : decode cX6_swapRows 20 = .ok (.laload, 1) := by decide +kernel
theorem dX6_swapRows_21 : decode cX6_swapRows 21 = .ok (.lstore 4, 2) := by decide +kernel
theorem dX6_swapRows_23 : decode cX6_swapRows 23 = .ok (.aload_n 0, 1) := by decide +kernel
theorem dX6_swapRows_24 : decode cX6_swapRows 24 = .ok (.getfield 29, 3) := by decide +kernel
theorem dX6_swapRows_27 : decode cX6_swapRows 27 = .ok (.bipush 7, 2) := by decide +kernel
theorem dX6_swapRows_29 : decode cX6_swapRows 29 = .ok (.iload_n 1, 1) := by decide +kernel
theorem dX6_swapRows_30 : decode cX6_swapRows 30 = .ok (.imul, 1) := by decide +kernel
theorem dX6_swapRows_31 : decode cX6_swapRows 31 = .ok (.iload_n 3, 1) := by decide +kernel
theorem dX6_swapRows_32 : decode cX6_swapRows 32 = .ok (.iadd, 1) := by decide +kernel
theorem dX6_swapRows_33 : decode cX6_swapRows 33 = .ok (.aload_n 0, 1) := by decide +kernel
theorem dX6_swapRows_34 : decode cX6_swapRows 34 = .ok (.getfield 29, 3) := by decide +kernel
theorem dX6_swapRows_37 : decode cX6_swapRows 37 = .ok (.bipush 7, 2) := by decide +kernel
theorem dX6_swapRows_39 : decode cX6_swapRows 39 = .ok (.iload_n 2, 1) := by decide +kernel
theorem dX6_swapRows_40 : decode cX6_swapRows 40 = .ok (.imul, 1) := by decide +kernel
theorem dX6_swapRows_41 : decode cX6_swapRows 41 = .ok (.iload_n 3, 1) := by decide +kernel
theorem dX6_swapRows_42 : decode cX6_swapRows 42 = .ok (.iadd, 1) := by decide +kernel
theorem dX6_swapRows_43 : decode cX6_swapRows 43 = .ok (.laload, 1) := by decide +kernel
theorem dX6_swapRows_44 : decode cX6_swapRows 44 = .ok (.lastore, 1) := by decide +kernel
theorem dX6_swapRows_45 : decode cX6_swapRows 45 = .ok (.aload_n 0, 1) := by decide +kernel
theorem dX6_swapRows_46 : decode cX6_swapRows 46 = .ok (.getfield 29, 3) := by decide +kernel
theorem dX6_swapRows_49 : decode cX6_swapRows 49 = .ok (.bipush 7, 2) := by decide +kernel
theorem dX6_swapRows_51 : decode cX6_swapRows 51 = .ok (.iload_n 2, 1) := by decide +kernel
theorem dX6_swapRows_52 : decode cX6_swapRows 52 = .ok (.imul, 1) := by decide +kernel
theorem dX6_swapRows_53 : decode cX6_swapRows 53 = .ok (.iload_n 3, 1) := by decide +kernel
theorem dX6_swapRows_54 : decode cX6_swapRows 54 = .ok (.iadd, 1) := by decide +kernel
theorem dX6_swapRows_55 : decode cX6_swapRows 55 = .ok (.lload 4, 2) := by decide +kernel
theorem dX6_swapRows_57 : decode cX6_swapRows 57 = .ok (.lastore, 1) := by decide +kernel
theorem dX6_swapRows_58 : decode cX6_swapRows 58 = .ok (.iinc 3 1, 3) := by decide +kernel
theorem dX6_swapRows_61 : decode cX6_swapRows 61 = .ok (.goto (-59), 3) := by decide +kernel
theorem dX6_swapRows_64 : decode cX6_swapRows 64 = .ok (.return_, 1) := by decide +kernel
set_option maxRecDepth 20000 in
theorem ggX6_rowWith_X6_many : GoodIn wsX6_rowWith wsX6_many := goodIn_r _ [6, 7, 8, 9, 10, 11, 12, 13, 14, 15, 16, 17, 18, 19, 20] (by decide +kernel) (by decide +kernel)
set_option maxRecDepth 20000 in
theorem gX6_rowWith_X6_many : GoodIn wsX6_rowWith (wsV RX6 68 RX6 yX6_many wsX6_many) := goodIn_app (goodIn_of _ (by decide +kernel)) ggX6_rowWith_X6_many
theorem dX6_rowWith_0 : decode cX6_rowWith 0 = .ok (.iload_n 2, 1) := by decide +kernel
theorem dX6_rowWith_1 : decode cX6_rowWith 1 = .ok (.istore_n 3, 1) := by decide +kernel
theorem dX6_rowWith_2 : decode cX6_rowWith 2 = .ok (.iload_n 3, 1) := by decide +kernel
theorem dX6_rowWith_3 : decode cX6_rowWith 3 = .ok (.aload_n 0, 1) := by decide +kernel
theorem dX6_rowWith_4 : decode cX6_rowWith 4 = .ok (.invokevirtual 68, 3) := by decide +kernel
theorem dX6_rowWith_7 : decode cX6_rowWith 7 = .ok (.if_icmp .ge 27, 3) := by decide +kernel
theorem dX6_rowWith_10 : decode cX6_rowWith 10 = .ok (.aload_n 0, 1) := by decide +kernel
theorem dX6_rowWith_11 : decode cX6_rowWith 11 = .ok (.getfield 29, 3) := by decide +kernel
theorem dX6_rowWith_14 : decode cX6_rowWith 14 = .ok (.bipush 7, 2) := by decide +kernel
theorem dX6_rowWith_16 : decode cX6_rowWith 16 = .ok (.iload_n 3, 1) := by decide +kernel
theorem dX6_rowWith_17 : decode cX6_rowWith 17 = .ok (.imul, 1) := by decide +kernel
theorem dX6_rowWith_18 : decode cX6_rowWith 18 = .ok (.iload_n 1, 1) := by decide +kernel
theorem dX6_rowWith_19 : decode cX6_rowWith 19 = .ok (.iadd, 1) := by decide +kernel
theorem dX6_rowWith_20 : decode cX6_rowWith 20 = .ok (.laload, 1) := by decide +kernel
theorem dX6_rowWith_21 : decode cX6_rowWith 21 = .ok (.lconst 0, 1) := by decide +kernel
theorem dX6_rowWith_22 : decode cX6_rowWith 22 = .ok (.lcmp, 1) := by decide +kernel
theorem dX6_rowWith_23 : decode cX6_rowWith 23 = .ok (.ifCond .eq 5, 3) := by decide +kernel
theorem dX6_rowWith_26 : decode cX6_rowWith 26 = .ok (.iload_n 3, 1) := by decide +kernel
theorem dX6_rowWith_27 : decode cX6_rowWith 27 = .ok (.ireturn, 1) := by decide +kernel
theorem dX6_rowWith_28 : decode cX6_rowWith 28 = .ok (.iinc 3 1, 3) := by decide +kernel
theorem dX6_rowWith_31 : decode cX6_rowWith 31 = .ok (.goto (-29), 3) := by decide +kernel
theorem dX6_rowWith_34 : decode cX6_rowWith 34 = .ok (.bipush (-6), 2) := by decide +kernel
theorem dX6_rowWith_36 : decode cX6_rowWith 36 = .ok (.ireturn, 1) := by decide +kernel
set_option maxRecDepth 20000 in
theorem ggX6_clearBelow_X6_many : GoodIn wsX6_clearBelow wsX6_many := goodIn_r _ [6, 7, 8, 9, 10, 11, 12, 13, 14, 15, 16, 17, 18, 19, 20] (by decide +kernel) (by decide +kernel)
set_option maxRecDepth 20000 in
theorem gX6_clearBelow_X6_many : GoodIn wsX6_clearBelow (wsV RX6 68 RX6 yX6_many wsX6_many) := goodIn_app (goodIn_of _ (by decide +kernel)) ggX6_clearBelow_X6_many
theorem dX6_clearBelow_0 : decode cX6_clearBelow 0 = .ok (.aload_n 0, 1) := by decide +kernel
theorem dX6_clearBelow_1 : decode cX6_clearBelow 1 = .ok (.getfield 29, 3) := by decide +kernel
theorem dX6_clearBelow_4 : decode cX6_clearBelow 4 = .ok (.bipush 7, 2) := by decide +kernel
theorem dX6_clearBelow_6 : decode cX6_clearBelow 6 = .ok (.iload_n 1, 1) := by decide +kernel
theorem dX6_clearBelow_7 : decode cX6_clearBelow 7 = .ok (.imul, 1) := by decide +kernel
theorem dX6_clearBelow_8 : decode cX6_clearBelow 8 = .ok (.iload_n 2, 1) := by decide +kernel
theorem dX6_clearBelow_9 : decode cX6_clearBelow 9 = .ok (.iadd, 1) := by decide +kernel
theorem dX6_clearBelow_10 : decode cX6_clearBelow 10 = .ok (.laload, 1) := by decide +kernel
theorem dX6_clearBelow_11 : decode cX6_clearBelow 11 = .ok (.lstore 5, 2) := by decide +kernel
theorem dX6_clearBelow_13 : decode cX6_clearBelow 13 = .ok (.iload_n 1, 1) := by decide +kernel
theorem dX6_clearBelow_14 : decode cX6_clearBelow 14 = .ok (.iconst 1, 1) := by decide +kernel
theorem dX6_clearBelow_15 : decode cX6_clearBelow 15 = .ok (.iadd, 1) := by decide +kernel
theorem dX6_clearBelow_16 : decode cX6_clearBelow 16 = .ok (.istore 7, 2) := by decide +kernel
theorem dX6_clearBelow_18 : decode cX6_clearBelow 18 = .ok (.iload 7, 2) := by decide +kernel
theorem dX6_clearBelow_20 : decode cX6_clearBelow 20 = .ok (.aload_n 0, 1) := by decide +kernel
theorem dX6_clearBelow_21 : decode cX6_clearBelow 21 = .ok (.invokevirtual 68, 3) := by decide +kernel
theorem dX6_clearBelow_24 : decode cX6_clearBelow 24 = .ok (.if_icmp .ge 88, 3) := by decide +kernel
theorem dX6_clearBelow_27 : decode cX6_clearBelow 27 = .ok (.aload_n 0, 1) := by decide +kernel
theorem dX6_clearBelow_28 : decode cX6_clearBelow 28 = .ok (.getfield 29, 3) := by decide +kernel
theorem dX6_clearBelow_31 : decode cX6_clearBelow 31 = .ok (.bipush 7, 2) := by decide +kernel
theorem dX6_clearBelow_33 : decode cX6_clearBelow 33 = .ok (.iload 7, 2) := by decide +kernel
theorem dX6_clearBelow_35 : decode cX6_clearBelow 35 = .ok (.imul, 1) := by decide +kernel
theorem dX6_clearBelow_36 : decode cX6_clearBelow 36 = .ok (.iload_n 2, 1) := by decide +kernel
theorem dX6_clearBelow_37 : decode cX6_clearBelow 37 = .ok (.iadd, 1) := by decide +kernel
theorem dX6_clearBelow_38 : decode cX6_clearBelow 38 = .ok (.laload, 1) := by decide +kernel
theorem dX6_clearBelow_39 : decode cX6_clearBelow 39 = .ok (.lstore 8, 2) := by decide +kernel
theorem dX6_clearBelow_41 : decode cX6_clearBelow 41 = .ok (.iconst 0, 1) := by decide +kernel
theorem dX6_clearBelow_42 : decode cX6_clearBelow 42 = .ok (.istore 10, 2) := by decide +kernel
theorem dX6_clearBelow_44 : decode cX6_clearBelow 44 = .ok (.iload 10, 2) := by decide +kernel
theorem dX6_clearBelow_46 : decode cX6_clearBelow 46 = .ok (.aload_n 0, 1) := by decide +kernel
theorem dX6_clearBelow_47 : decode cX6_clearBelow 47 = .ok (.invokevirtual 68, 3) := by decide +kernel
theorem dX6_clearBelow_50 : decode cX6_clearBelow 50 = .ok (.if_icmp .ge 56, 3) := by decide +kernel
theorem dX6_clearBelow_53 : decode cX6_clearBelow 53 = .ok (.aload_n 0, 1) := by decide +kernel
theorem dX6_clearBelow_54 : decode cX6_clearBelow 54 = .ok (.getfield 29, 3) := by decide +kernel
theorem dX6_clearBelow_57 : decode cX6_clearBelow 57 = .ok (.bipush 7, 2) := by decide +kernel
theorem dX6_clearBelow_59 : decode cX6_clearBelow 59 = .ok (.iload 7, 2) := by decide +kernel
theorem dX6_clearBelow_61 : decode cX6_clearBelow 61 = .ok (.imul, 1) := by decide +kernel
theorem dX6_clearBelow_62 : decode cX6_clearBelow 62 = .ok (.iload 10, 2) := by decide +kernel
theorem dX6_clearBelow_64 : decode cX6_clearBelow 64 = .ok (.iadd, 1) := by decide +kernel
theorem dX6_clearBelow_65 : decode cX6_clearBelow 65 = .ok (.aload_n 0, 1) := by decide +kernel
theorem dX6_clearBelow_66 : decode cX6_clearBelow 66 = .ok (.getfield 29, 3) := by decide +kernel
theorem dX6_clearBelow_69 : decode cX6_clearBelow 69 = .ok (.bipush 7, 2) := by decide +kernel
theorem dX6_clearBelow_71 : decode cX6_clearBelow 71 = .ok (.iload 7, 2) := by decide +kernel
theorem dX6_clearBelow_73 : decode cX6_clearBelow 73 = .ok (.imul, 1) := by decide +kernel
theorem dX6_clearBelow_74 : decode cX6_clearBelow 74 = .ok (.iload 10, 2) := by decide +kernel
theorem dX6_clearBelow_76 : decode cX6_clearBelow 76 = .ok (.iadd, 1) := by decide +kernel
theorem dX6_clearBelow_77 : decode cX6_clearBelow 77 = .ok (.laload, 1) := by decide +kernel
theorem dX6_clearBelow_78 : decode cX6_clearBelow 78 = .ok (.lload 5, 2) := by decide +kernel
theorem dX6_clearBelow_80 : decode cX6_clearBelow 80 = .ok (.lmul, 1) := by decide +kernel
theorem dX6_clearBelow_81 : decode cX6_clearBelow 81 = .ok (.lload 8, 2) := by decide +kernel
theorem dX6_clearBelow_83 : decode cX6_clearBelow 83 = .ok (.aload_n 0, 1) := by decide +kernel
theorem dX6_clearBelow_84 : decode cX6_clearBelow 84 = .ok (.getfield 29, 3) := by decide +kernel
theorem dX6_clearBelow_87 : decode cX6_clearBelow 87 = .ok (.bipush 7, 2) := by decide +kernel
theorem dX6_clearBelow_89 : decode cX6_clearBelow 89 = .ok (.iload_n 1, 1) := by decide +kernel
theorem dX6_clearBelow_90 : decode cX6_clearBelow 90 = .ok (.imul, 1) := by decide +kernel
theorem dX6_clearBelow_91 : decode cX6_clearBelow 91 = .ok (.iload 10, 2) := by decide +kernel
theorem dX6_clearBelow_93 : decode cX6_clearBelow 93 = .ok (.iadd, 1) := by decide +kernel
theorem dX6_clearBelow_94 : decode cX6_clearBelow 94 = .ok (.laload, 1) := by decide +kernel
theorem dX6_clearBelow_95 : decode cX6_clearBelow 95 = .ok (.lmul, 1) := by decide +kernel
theorem dX6_clearBelow_96 : decode cX6_clearBelow 96 = .ok (.lsub, 1) := by decide +kernel
theorem dX6_clearBelow_97 : decode cX6_clearBelow 97 = .ok (.lload_n 3, 1) := by decide +kernel
theorem dX6_clearBelow_98 : decode cX6_clearBelow 98 = .ok (.ldiv, 1) := by decide +kernel
theorem dX6_clearBelow_99 : decode cX6_clearBelow 99 = .ok (.lastore, 1) := by decide +kernel
theorem dX6_clearBelow_100 : decode cX6_clearBelow 100 = .ok (.iinc 10 1, 3) := by decide +kernel
theorem dX6_clearBelow_103 : decode cX6_clearBelow 103 = .ok (.goto (-59), 3) := by decide +kernel
theorem dX6_clearBelow_106 : decode cX6_clearBelow 106 = .ok (.iinc 7 1, 3) := by decide +kernel
theorem dX6_clearBelow_109 : decode cX6_clearBelow 109 = .ok (.goto (-91), 3) := by decide +kernel
theorem dX6_clearBelow_112 : decode cX6_clearBelow 112 = .ok (.return_, 1) := by decide +kernel
set_option maxRecDepth 20000 in
theorem ggX6_workOut_X6_many : GoodIn wsX6_workOut wsX6_many := goodIn_r _ [8, 9, 22, 23, 24, 25, 26, 27, 28, 29, 30, 31, 32, 33, 34] (by decide +kernel) (by decide +kernel)
set_option maxRecDepth 20000 in
theorem gX6_workOut_X6_many : GoodIn wsX6_workOut (wsV RX6 68 RX6 yX6_many wsX6_many) := goodIn_app (goodIn_of _ (by decide +kernel)) ggX6_workOut_X6_many
set_option maxRecDepth 20000 in
theorem ggX6_workOut_X6_rowWith : GoodIn wsX6_workOut wsX6_rowWith := goodIn_r _ [13, 2, 4, 5, 6, 7, 8, 9, 22, 23, 24, 25, 26, 27, 28, 29, 30, 31, 32, 33, 34] (by decide +kernel) (by decide +kernel)
set_option maxRecDepth 20000 in
theorem gX6_workOut_X6_rowWith : GoodIn wsX6_workOut (wsV RX6 183 RX6 yX6_rowWith wsX6_rowWith) := goodIn_app (goodIn_of _ (by decide +kernel)) ggX6_workOut_X6_rowWith
set_option maxRecDepth 20000 in
theorem ggX6_workOut_X6_swapRows : GoodIn wsX6_workOut wsX6_swapRows := goodIn_r _ [17, 2, 4, 5, 6, 7, 8, 9, 22, 23, 24, 25, 26, 27, 28, 29, 30, 31, 32, 33, 34] (by decide +kernel) (by decide +kernel)
set_option maxRecDepth 20000 in
theorem gX6_workOut_X6_swapRows : GoodIn wsX6_workOut (wsV RX6 186 RX6 yX6_swapRows wsX6_swapRows) := goodIn_app (goodIn_of _ (by decide +kernel)) ggX6_workOut_X6_swapRows
set_option maxRecDepth 20000 in
theorem ggX6_workOut_X6_clearBelow : GoodIn wsX6_workOut wsX6_clearBelow := goodIn_r _ [21, 2, 4, 5, 6, 7, 8, 9, 22, 23, 24, 25, 26, 27, 28, 29, 30, 31, 32, 33, 34] (by decide +kernel) (by decide +kernel)
set_option maxRecDepth 20000 in
theorem gX6_workOut_X6_clearBelow : GoodIn wsX6_workOut (wsV RX6 189 RX6 yX6_clearBelow wsX6_clearBelow) := goodIn_app (goodIn_of _ (by decide +kernel)) ggX6_workOut_X6_clearBelow
theorem dX6_workOut_0 : decode cX6_workOut 0 = .ok (.aload_n 0, 1) := by decide +kernel
theorem dX6_workOut_1 : decode cX6_workOut 1 = .ok (.iconst 0, 1) := by decide +kernel
theorem dX6_workOut_2 : decode cX6_workOut 2 = .ok (.putfield 180, 3) := by decide +kernel
theorem dX6_workOut_5 : decode cX6_workOut 5 = .ok (.lconst 1, 1) := by decide +kernel
theorem dX6_workOut_6 : decode cX6_workOut 6 = .ok (.lstore_n 1, 1) := by decide +kernel
theorem dX6_workOut_7 : decode cX6_workOut 7 = .ok (.iconst 1, 1) := by decide +kernel
theorem dX6_workOut_8 : decode cX6_workOut 8 = .ok (.istore_n 3, 1) := by decide +kernel
theorem dX6_workOut_9 : decode cX6_workOut 9 = .ok (.iconst 0, 1) := by decide +kernel
theorem dX6_workOut_10 : decode cX6_workOut 10 = .ok (.istore 4, 2) := by decide +kernel
theorem dX6_workOut_12 : decode cX6_workOut 12 = .ok (.iload 4, 2) := by decide +kernel
theorem dX6_workOut_14 : decode cX6_workOut 14 = .ok (.aload_n 0, 1) := by decide +kernel
theorem dX6_workOut_15 : decode cX6_workOut 15 = .ok (.invokevirtual 68, 3) := by decide +kernel
theorem dX6_workOut_18 : decode cX6_workOut 18 = .ok (.if_icmp .ge 89, 3) := by decide +kernel
theorem dX6_workOut_21 : decode cX6_workOut 21 = .ok (.aload_n 0, 1) := by decide +kernel
theorem dX6_workOut_22 : decode cX6_workOut 22 = .ok (.iload 4, 2) := by decide +kernel
theorem dX6_workOut_24 : decode cX6_workOut 24 = .ok (.aload_n 0, 1) := by decide +kernel
theorem dX6_workOut_25 : decode cX6_workOut 25 = .ok (.getfield 180, 3) := by decide +kernel
theorem dX6_workOut_28 : decode cX6_workOut 28 = .ok (.invokevirtual 183, 3) := by decide +kernel
theorem dX6_workOut_31 : decode cX6_workOut 31 = .ok (.istore 5, 2) := by decide +kernel
theorem dX6_workOut_33 : decode cX6_workOut 33 = .ok (.iload 5, 2) := by decide +kernel
theorem dX6_workOut_35 : decode cX6_workOut 35 = .ok (.ifCond .lt 66, 3) := by decide +kernel
theorem dX6_workOut_38 : decode cX6_workOut 38 = .ok (.iload 5, 2) := by decide +kernel
theorem dX6_workOut_40 : decode cX6_workOut 40 = .ok (.aload_n 0, 1) := by decide +kernel
theorem dX6_workOut_41 : decode cX6_workOut 41 = .ok (.getfield 180, 3) := by decide +kernel
theorem dX6_workOut_44 : decode cX6_workOut 44 = .ok (.if_icmp .ne 7, 3) := by decide +kernel
theorem dX6_workOut_47 : decode cX6_workOut 47 = .ok (.iload_n 3, 1) := by decide +kernel
theorem dX6_workOut_48 : decode cX6_workOut 48 = .ok (.goto 5, 3) := by decide +kernel
theorem dX6_workOut_51 : decode cX6_workOut 51 = .ok (.iload_n 3, 1) := by decide +kernel
theorem dX6_workOut_52 : decode cX6_workOut 52 = .ok (.ineg, 1) := by decide +kernel
theorem dX6_workOut_53 : decode cX6_workOut 53 = .ok (.istore_n 3, 1) := by decide +kernel
theorem dX6_workOut_54 : decode cX6_workOut 54 = .ok (.aload_n 0, 1) := by decide +kernel
theorem dX6_workOut_55 : decode cX6_workOut 55 = .ok (.aload_n 0, 1) := by decide +kernel
theorem dX6_workOut_56 : decode cX6_workOut 56 = .ok (.getfield 180, 3) := by decide +kernel
theorem dX6_workOut_59 : decode cX6_workOut 59 = .ok (.iload 5, 2) := by decide +kernel
theorem dX6_workOut_61 : decode cX6_workOut 61 = .ok (.invokevirtual 186, 3) := by decide +kernel
theorem dX6_workOut_64 : decode cX6_workOut 64 = .ok (.aload_n 0, 1) := by decide +kernel
theorem dX6_workOut_65 : decode cX6_workOut 65 = .ok (.aload_n 0, 1) := by decide +kernel
theorem dX6_workOut_66 : decode cX6_workOut 66 = .ok (.getfield 180, 3) := by decide +kernel
theorem dX6_workOut_69 : decode cX6_workOut 69 = .ok (.iload 4, 2) := by decide +kernel
theorem dX6_workOut_71 : decode cX6_workOut 71 = .ok (.lload_n 1, 1) := by decide +kernel
theorem dX6_workOut_72 : decode cX6_workOut 72 = .ok (.invokevirtual 189, 3) := by decide +kernel
theorem dX6_workOut_75 : decode cX6_workOut 75 = .ok (.aload_n 0, 1) := by decide +kernel
theorem dX6_workOut_76 : decode cX6_workOut 76 = .ok (.getfield 29, 3) := by decide +kernel
theorem dX6_workOut_79 : decode cX6_workOut 79 = .ok (.bipush 7, 2) := by decide +kernel
theorem dX6_workOut_81 : decode cX6_workOut 81 = .ok (.aload_n 0, 1) := by decide +kernel
theorem dX6_workOut_82 : decode cX6_workOut 82 = .ok (.getfield 180, 3) := by decide +kernel
theorem dX6_workOut_85 : decode cX6_workOut 85 = .ok (.imul, 1) := by decide +kernel
theorem dX6_workOut_86 : decode cX6_workOut 86 = .ok (.iload 4, 2) := by decide +kernel
theorem dX6_workOut_88 : decode cX6_workOut 88 = .ok (.iadd, 1) := by decide +kernel
theorem dX6_workOut_89 : decode cX6_workOut 89 = .ok (.laload, 1) := by decide +kernel
theorem dX6_workOut_90 : decode cX6_workOut 90 = .ok (.lstore_n 1, 1) := by decide +kernel
theorem dX6_workOut_91 : decode cX6_workOut 91 = .ok (.aload_n 0, 1) := by decide +kernel
theorem dX6_workOut_92 : decode cX6_workOut 92 = .ok (.dup, 1) := by decide +kernel
theorem dX6_workOut_93 : decode cX6_workOut 93 = .ok (.getfield 180, 3) := by decide +kernel
theorem dX6_workOut_96 : decode cX6_workOut 96 = .ok (.iconst 1, 1) := by decide +kernel
theorem dX6_workOut_97 : decode cX6_workOut 97 = .ok (.iadd, 1) := by decide +kernel
theorem dX6_workOut_98 : decode cX6_workOut 98 = .ok (.putfield 180, 3) := by decide +kernel
theorem dX6_workOut_101 : decode cX6_workOut 101 = .ok (.iinc 4 1, 3) := by decide +kernel
theorem dX6_workOut_104 : decode cX6_workOut 104 = .ok (.goto (-92), 3) := by decide +kernel
theorem dX6_workOut_107 : decode cX6_workOut 107 = .ok (.aload_n 0, 1) := by decide +kernel
theorem dX6_workOut_108 : decode cX6_workOut 108 = .ok (.aload_n 0, 1) := by decide +kernel
theorem dX6_workOut_109 : decode cX6_workOut 109 = .ok (.getfield 180, 3) := by decide +kernel
theorem dX6_workOut_112 : decode cX6_workOut 112 = .ok (.aload_n 0, 1) := by decide +kernel
theorem dX6_workOut_113 : decode cX6_workOut 113 = .ok (.invokevirtual 68, 3) := by decide +kernel
theorem dX6_workOut_116 : decode cX6_workOut 116 = .ok (.if_icmp .ne 10, 3) := by decide +kernel
theorem dX6_workOut_119 : decode cX6_workOut 119 = .ok (.iload_n 3, 1) := by decide +kernel
theorem dX6_workOut_120 : decode cX6_workOut 120 = .ok (.i2l, 1) := by decide +kernel
theorem dX6_workOut_121 : decode cX6_workOut 121 = .ok (.lload_n 1, 1) := by decide +kernel
theorem dX6_workOut_122 : decode cX6_workOut 122 = .ok (.lmul, 1) := by decide +kernel
theorem dX6_workOut_123 : decode cX6_workOut 123 = .ok (.goto 4, 3) := by decide +kernel
theorem dX6_workOut_126 : decode cX6_workOut 126 = .ok (.lconst 0, 1) := by decide +kernel
theorem dX6_workOut_127 : decode cX6_workOut 127 = .ok (.putfield 193, 3) := by decide +kernel
theorem dX6_workOut_130 : decode cX6_workOut 130 = .ok (.return_, 1) := by decide +kernel
set_option maxRecDepth 20000 in
theorem ggX6_root_X6_isSlot : GoodIn wsX6_root wsX6_isSlot := goodIn_r _ [8, 9, 10, 7, 11] (by decide +kernel) (by decide +kernel)
set_option maxRecDepth 20000 in
theorem gX6_root_X6_isSlot : GoodIn wsX6_root (va_wsS RX6 72 yX6_isSlot wsX6_isSlot) := goodIn_app (goodIn_of _ (by decide +kernel)) ggX6_root_X6_isSlot
set_option maxRecDepth 20000 in
theorem ggX6_root_X6_in : GoodIn wsX6_root wsX6_in := goodIn_r _ [11] (by decide +kernel) (by decide +kernel)
set_option maxRecDepth 20000 in
theorem gX6_root_X6_in : GoodIn wsX6_root (va_wsS RX6 33 yX6_in wsX6_in) := goodIn_app (goodIn_of _ (by decide +kernel)) ggX6_root_X6_in
set_option maxRecDepth 20000 in
theorem ggX6_root_X6_netOf : GoodIn wsX6_root wsX6_netOf := goodIn_r _ [15, 16, 51, 52, 53, 54, 55, 56, 57, 58, 59, 60, 61, 62, 63] (by decide +kernel) (by decide +kernel)
set_option maxRecDepth 20000 in
theorem gX6_root_X6_netOf : GoodIn wsX6_root (wsV RX6 79 RX6 yX6_netOf wsX6_netOf) := goodIn_app (goodIn_of _ (by decide +kernel)) ggX6_root_X6_netOf
set_option maxRecDepth 20000 in
theorem ggX6_root_X6_layTable : GoodIn wsX6_root wsX6_layTable := goodIn_r _ [20, 21, 22, 23, 24, 7, 25, 16, 26, 27, 28, 29, 30, 31, 32, 33, 34, 51, 52, 53, 54, 55, 56, 57, 58, 59, 60, 61, 62, 63] (by decide +kernel) (by decide +kernel)
set_option maxRecDepth 20000 in
theorem gX6_root_X6_layTable : GoodIn wsX6_root (wsV RX6 201 RX6 yX6_layTable wsX6_layTable) := goodIn_app (goodIn_of _ (by decide +kernel)) ggX6_root_X6_layTable
set_option maxRecDepth 20000 in
theorem ggX6_root_X6_workOut : GoodIn wsX6_root wsX6_workOut := goodIn_r _ [38, 4, 21, 3, 22, 23, 24, 7, 25, 16, 39, 40, 41, 42, 43, 44, 45, 46, 47, 48, 49, 50, 51, 52, 53, 54, 55, 56, 57, 58, 59, 60, 61, 62, 63] (by decide +kernel) (by decide +kernel)
set_option maxRecDepth 20000 in
theorem gX6_root_X6_workOut : GoodIn wsX6_root (wsV RX6 204 RX6 yX6_workOut wsX6_workOut) := goodIn_app (goodIn_of _ (by decide +kernel)) ggX6_root_X6_workOut
set_option maxRecDepth 20000 in
theorem ggX6_root_X6_many : GoodIn wsX6_root wsX6_many := goodIn_r _ [25, 16, 51, 52, 53, 54, 55, 56, 57, 58, 59, 60, 61, 62, 63] (by decide +kernel) (by decide +kernel)
set_option maxRecDepth 20000 in
theorem gX6_root_X6_many : GoodIn wsX6_root (wsV RX6 68 RX6 yX6_many wsX6_many) := goodIn_app (goodIn_of _ (by decide +kernel)) ggX6_root_X6_many
theorem dX6_root_0 : decode cX6_root 0 = .ok (.iload_n 1, 1) := by decide +kernel
theorem dX6_root_1 : decode cX6_root 1 = .ok (.invokestatic 72, 3) := by decide +kernel
theorem dX6_root_4 : decode cX6_root 4 = .ok (.ifCond .ne 7, 3) := by decide +kernel
theorem dX6_root_7 : decode cX6_root 7 = .ok (.ldc2_w 197, 3) := by decide +kernel
theorem dX6_root_10 : decode cX6_root 10 = .ok (.lreturn, 1) := by decide +kernel
theorem dX6_root_11 : decode cX6_root 11 = .ok (.iload_n 2, 1) := by decide +kernel
theorem dX6_root_12 : decode cX6_root 12 = .ok (.bipush (-9), 2) := by decide +kernel
theorem dX6_root_14 : decode cX6_root 14 = .ok (.bipush 9, 2) := by decide +kernel
theorem dX6_root_16 : decode cX6_root 16 = .ok (.invokestatic 33, 3) := by decide +kernel
theorem dX6_root_19 : decode cX6_root 19 = .ok (.ifCond .eq 12, 3) := by decide +kernel
theorem dX6_root_22 : decode cX6_root 22 = .ok (.iload_n 3, 1) := by decide +kernel
theorem dX6_root_23 : decode cX6_root 23 = .ok (.iconst 0, 1) := by decide +kernel
theorem dX6_root_24 : decode cX6_root 24 = .ok (.iconst 1, 1) := by decide +kernel
theorem dX6_root_25 : decode cX6_root 25 = .ok (.invokestatic 33, 3) := by decide +kernel
theorem dX6_root_28 : decode cX6_root 28 = .ok (.ifCond .ne 7, 3) := by decide +kernel
theorem dX6_root_31 : decode cX6_root 31 = .ok (.ldc2_w 199, 3) := by decide +kernel
theorem dX6_root_34 : decode cX6_root 34 = .ok (.lreturn, 1) := by decide +kernel
theorem dX6_root_35 : decode cX6_root 35 = .ok (.aload_n 0, 1) := by decide +kernel
theorem dX6_root_36 : decode cX6_root 36 = .ok (.aload_n 0, 1) := by decide +kernel
theorem dX6_root_37 : decode cX6_root 37 = .ok (.iload_n 1, 1) := by decide +kernel
theorem dX6_root_38 : decode cX6_root 38 = .ok (.invokevirtual 79, 3) := by decide +kernel
theorem dX6_root_41 : decode cX6_root 41 = .ok (.iload_n 2, 1) := by decide +kernel
theorem dX6_root_42 : decode cX6_root 42 = .ok (.invokevirtual 201, 3) := by decide +kernel
theorem dX6_root_45 : decode cX6_root 45 = .ok (.aload_n 0, 1) := by decide +kernel
theorem dX6_root_46 : decode cX6_root 46 = .ok (.invokevirtual 204, 3) := by decide +kernel
theorem dX6_root_49 : decode cX6_root 49 = .ok (.iload_n 3, 1) := by decide +kernel
theorem dX6_root_50 : decode cX6_root 50 = .ok (.ifCond .ne 10, 3) := by decide +kernel
theorem dX6_root_53 : decode cX6_root 53 = .ok (.aload_n 0, 1) := by decide +kernel
theorem dX6_root_54 : decode cX6_root 54 = .ok (.getfield 193, 3) := by decide +kernel
theorem dX6_root_57 : decode cX6_root 57 = .ok (.goto 13, 3) := by decide +kernel
theorem dX6_root_60 : decode cX6_root 60 = .ok (.aload_n 0, 1) := by decide +kernel
theorem dX6_root_61 : decode cX6_root 61 = .ok (.invokevirtual 68, 3) := by decide +kernel
theorem dX6_root_64 : decode cX6_root 64 = .ok (.aload_n 0, 1) := by decide +kernel
theorem dX6_root_65 : decode cX6_root 65 = .ok (.getfield 180, 3) := by decide +kernel
theorem dX6_root_68 : decode cX6_root 68 = .ok (.isub, 1) := by decide +kernel
theorem dX6_root_69 : decode cX6_root 69 = .ok (.i2l, 1) := by decide +kernel
theorem dX6_root_70 : decode cX6_root 70 = .ok (.lreturn, 1) := by decide +kernel
set_option maxRecDepth 20000 in
theorem ggX6_image_X6_in : GoodIn wsX6_image wsX6_in := goodIn_r _ [7] (by decide +kernel) (by decide +kernel)
set_option maxRecDepth 20000 in
theorem gX6_image_X6_in : GoodIn wsX6_image (va_wsS RX6 33 yX6_in wsX6_in) := goodIn_app (goodIn_of _ (by decide +kernel)) ggX6_image_X6_in
theorem dX6_image_0 : decode cX6_image 0 = .ok (.iload_n 1, 1) := by decide +kernel
theorem dX6_image_1 : decode cX6_image 1 = .ok (.iconst 0, 1) := by decide +kernel
theorem dX6_image_2 : decode cX6_image 2 = .ok (.iconst 1, 1) := by decide +kernel
theorem dX6_image_3 : decode cX6_image 3 = .ok (.invokestatic 33, 3) := by decide +kernel
theorem dX6_image_6 : decode cX6_image 6 = .ok (.ifCond .ne 6, 3) := by decide +kernel
theorem dX6_image_9 : decode cX6_image 9 = .ok (.bipush (-2), 2) := by decide +kernel
theorem dX6_image_11 : decode cX6_image 11 = .ok (.ireturn, 1) := by decide +kernel
theorem dX6_image_12 : decode cX6_image 12 = .ok (.iconst 0, 1) := by decide +kernel
theorem dX6_image_13 : decode cX6_image 13 = .ok (.istore_n 2, 1) := by decide +kernel
theorem dX6_image_14 : decode cX6_image 14 = .ok (.iload_n 2, 1) := by decide +kernel
theorem dX6_image_15 : decode cX6_image 15 = .ok (.iconst 4, 1) := by decide +kernel
theorem dX6_image_16 : decode cX6_image 16 = .ok (.if_icmp .ge 25, 3) := by decide +kernel
theorem dX6_image_19 : decode cX6_image 19 = .ok (.aload_n 0, 1) := by decide +kernel
theorem dX6_image_20 : decode cX6_image 20 = .ok (.getfield 13, 3) := by decide +kernel
theorem dX6_image_23 : decode cX6_image 23 = .ok (.iconst 4, 1) := by decide +kernel
theorem dX6_image_24 : decode cX6_image 24 = .ok (.iload_n 1, 1) := by decide +kernel
theorem dX6_image_25 : decode cX6_image 25 = .ok (.imul, 1) := by decide +kernel
theorem dX6_image_26 : decode cX6_image 26 = .ok (.iload_n 2, 1) := by decide +kernel
theorem dX6_image_27 : decode cX6_image 27 = .ok (.iadd, 1) := by decide +kernel
theorem dX6_image_28 : decode cX6_image 28 = .ok (.aload_n 0, 1) := by decide +kernel
theorem dX6_image_29 : decode cX6_image 29 = .ok (.getfield 7, 3) := by decide +kernel
theorem dX6_image_32 : decode cX6_image 32 = .ok (.iload_n 2, 1) := by decide +kernel
theorem dX6_image_33 : decode cX6_image 33 = .ok (.iaload, 1) := by decide +kernel
theorem dX6_image_34 : decode cX6_image 34 = .ok (.iastore, 1) := by decide +kernel
theorem dX6_image_35 : decode cX6_image 35 = .ok (.iinc 2 1, 3) := by decide +kernel
theorem dX6_image_38 : decode cX6_image 38 = .ok (.goto (-24), 3) := by decide +kernel
theorem dX6_image_41 : decode cX6_image 41 = .ok (.aload_n 0, 1) := by decide +kernel
theorem dX6_image_42 : decode cX6_image 42 = .ok (.getfield 16, 3) := by decide +kernel
theorem dX6_image_45 : decode cX6_image 45 = .ok (.iload_n 1, 1) := by decide +kernel
theorem dX6_image_46 : decode cX6_image 46 = .ok (.iconst 1, 1) := by decide +kernel
theorem dX6_image_47 : decode cX6_image 47 = .ok (.bastore, 1) := by decide +kernel
theorem dX6_image_48 : decode cX6_image 48 = .ok (.iconst 1, 1) := by decide +kernel
theorem dX6_image_49 : decode cX6_image 49 = .ok (.ireturn, 1) := by decide +kernel
set_option maxRecDepth 20000 in
theorem ggX6_restore_X6_in : GoodIn wsX6_restore wsX6_in := goodIn_r _ [7] (by decide +kernel) (by decide +kernel)
set_option maxRecDepth 20000 in
theorem gX6_restore_X6_in : GoodIn wsX6_restore (va_wsS RX6 33 yX6_in wsX6_in) := goodIn_app (goodIn_of _ (by decide +kernel)) ggX6_restore_X6_in
theorem dX6_restore_0 : decode cX6_restore 0 = .ok (.iload_n 1, 1) := by decide +kernel
theorem dX6_restore_1 : decode cX6_restore 1 = .ok (.iconst 0, 1) := by decide +kernel
theorem dX6_restore_2 : decode cX6_restore 2 = .ok (.iconst 1, 1) := by decide +kernel
theorem dX6_restore_3 : decode cX6_restore 3 = .ok (.invokestatic 33, 3) := by decide +kernel
theorem dX6_restore_6 : decode cX6_restore 6 = .ok (.ifCond .ne 6, 3) := by decide +kernel
theorem dX6_restore_9 : decode cX6_restore 9 = .ok (.bipush (-2), 2) := by decide +kernel
theorem dX6_restore_11 : decode cX6_restore 11 = .ok (.ireturn, 1) := by decide +kernel
theorem dX6_restore_12 : decode cX6_restore 12 = .ok (.aload_n 0, 1) := by decide +kernel
theorem dX6_restore_13 : decode cX6_restore 13 = .ok (.getfield 16, 3) := by decide +kernel
theorem dX6_restore_16 : decode cX6_restore 16 = .ok (.iload_n 1, 1) := by decide +kernel
theorem dX6_restore_17 : decode cX6_restore 17 = .ok (.baload, 1) := by decide +kernel
theorem dX6_restore_18 : decode cX6_restore 18 = .ok (.ifCond .ne 6, 3) := by decide +kernel
theorem dX6_restore_21 : decode cX6_restore 21 = .ok (.bipush (-3), 2) := by decide +kernel
theorem dX6_restore_23 : decode cX6_restore 23 = .ok (.ireturn, 1) := by decide +kernel
theorem dX6_restore_24 : decode cX6_restore 24 = .ok (.iconst 0, 1) := by decide +kernel
theorem dX6_restore_25 : decode cX6_restore 25 = .ok (.istore_n 2, 1) := by decide +kernel
theorem dX6_restore_26 : decode cX6_restore 26 = .ok (.iload_n 2, 1) := by decide +kernel
theorem dX6_restore_27 : decode cX6_restore 27 = .ok (.iconst 4, 1) := by decide +kernel
theorem dX6_restore_28 : decode cX6_restore 28 = .ok (.if_icmp .ge 25, 3) := by decide +kernel
theorem dX6_restore_31 : decode cX6_restore 31 = .ok (.aload_n 0, 1) := by decide +kernel
theorem dX6_restore_32 : decode cX6_restore 32 = .ok (.getfield 7, 3) := by decide +kernel
theorem dX6_restore_35 : decode cX6_restore 35 = .ok (.iload_n 2, 1) := by decide +kernel
theorem dX6_restore_36 : decode cX6_restore 36 = .ok (.aload_n 0, 1) := by decide +kernel
theorem dX6_restore_37 : decode cX6_restore 37 = .ok (.getfield 13, 3) := by decide +kernel
theorem dX6_restore_40 : decode cX6_restore 40 = .ok (.iconst 4, 1) := by decide +kernel
theorem dX6_restore_41 : decode cX6_restore 41 = .ok (.iload_n 1, 1) := by decide +kernel
theorem dX6_restore_42 : decode cX6_restore 42 = .ok (.imul, 1) := by decide +kernel
theorem dX6_restore_43 : decode cX6_restore 43 = .ok (.iload_n 2, 1) := by decide +kernel
theorem dX6_restore_44 : decode cX6_restore 44 = .ok (.iadd, 1) := by decide +kernel
theorem dX6_restore_45 : decode cX6_restore 45 = .ok (.iaload, 1) := by decide +kernel
theorem dX6_restore_46 : decode cX6_restore 46 = .ok (.iastore, 1) := by decide +kernel
theorem dX6_restore_47 : decode cX6_restore 47 = .ok (.iinc 2 1, 3) := by decide +kernel
theorem dX6_restore_50 : decode cX6_restore 50 = .ok (.goto (-24), 3) := by decide +kernel
theorem dX6_restore_53 : decode cX6_restore 53 = .ok (.iconst 1, 1) := by decide +kernel
theorem dX6_restore_54 : decode cX6_restore 54 = .ok (.ireturn, 1) := by decide +kernel
set_option maxRecDepth 20000 in
theorem ggX6_classes_X6_many : GoodIn wsX6_classes wsX6_many := goodIn_r _ [5, 6, 50, 51, 52, 53, 54, 55, 56, 57, 58, 59, 60, 61, 62] (by decide +kernel) (by decide +kernel)
set_option maxRecDepth 20000 in
theorem gX6_classes_X6_many : GoodIn wsX6_classes (wsV RX6 68 RX6 yX6_many wsX6_many) := goodIn_app (goodIn_of _ (by decide +kernel)) ggX6_classes_X6_many
set_option maxRecDepth 20000 in
theorem ggX6_classes_X6_netOf : GoodIn wsX6_classes wsX6_netOf := goodIn_r _ [10, 6, 50, 51, 52, 53, 54, 55, 56, 57, 58, 59, 60, 61, 62] (by decide +kernel) (by decide +kernel)
set_option maxRecDepth 20000 in
theorem gX6_classes_X6_netOf : GoodIn wsX6_classes (wsV RX6 79 RX6 yX6_netOf wsX6_netOf) := goodIn_app (goodIn_of _ (by decide +kernel)) ggX6_classes_X6_netOf
set_option maxRecDepth 20000 in
theorem ggX6_classes_X6_comesTo : GoodIn wsX6_classes wsX6_comesTo := goodIn_r _ [14, 15, 16, 4, 17, 18, 19, 20, 21, 22, 23, 24, 25, 26, 27, 28, 29, 30, 31, 32, 33, 34, 35, 36, 37, 38, 39, 40, 41, 42, 43, 44, 45, 50, 51, 52, 53, 54, 55, 56, 57, 58, 59, 60, 61, 62] (by decide +kernel) (by decide +kernel)
set_option maxRecDepth 20000 in
theorem gX6_classes_X6_comesTo : GoodIn wsX6_classes (wsV RX6 173 RX6 yX6_comesTo wsX6_comesTo) := goodIn_app (goodIn_of _ (by decide +kernel)) ggX6_classes_X6_comesTo
set_option maxRecDepth 20000 in
theorem ggX6_classes_X6_setBetween : GoodIn wsX6_classes wsX6_setBetween := goodIn_r _ [49, 1, 2, 3, 4, 5, 6, 18, 19, 20, 21, 22, 23, 24, 25, 26, 27, 28, 29, 30, 31, 32, 50, 51, 52, 53, 54, 55, 56, 57, 58, 59, 60, 61, 62] (by decide +kernel) (by decide +kernel)
set_option maxRecDepth 20000 in
theorem gX6_classes_X6_setBetween : GoodIn wsX6_classes (wsV RX6 170 RX6 yX6_setBetween wsX6_setBetween) := goodIn_app (goodIn_of _ (by decide +kernel)) ggX6_classes_X6_setBetween
theorem dX6_classes_0 : decode cX6_classes 0 = .ok (.iconst 0, 1) := by decide +kernel
theorem dX6_classes_1 : decode cX6_classes 1 = .ok (.istore_n 2, 1) := by decide +kernel
theorem dX6_classes_2 : decode cX6_classes 2 = .ok (.iconst 0, 1) := by decide +kernel
theorem dX6_classes_3 : decode cX6_classes 3 = .ok (.istore_n 3, 1) := by decide +kernel
theorem dX6_classes_4 : decode cX6_classes 4 = .ok (.iload_n 3, 1) := by decide +kernel
theorem dX6_classes_5 : decode cX6_classes 5 = .ok (.iconst 3, 1) := by decide +kernel
theorem dX6_classes_6 : decode cX6_classes 6 = .ok (.if_icmp .ge 100, 3) := by decide +kernel
theorem dX6_classes_9 : decode cX6_classes 9 = .ok (.iconst 1, 1) := by decide +kernel
theorem dX6_classes_10 : decode cX6_classes 10 = .ok (.istore 4, 2) := by decide +kernel
theorem dX6_classes_12 : decode cX6_classes 12 = .ok (.iconst 0, 1) := by decide +kernel
theorem dX6_classes_13 : decode cX6_classes 13 = .ok (.istore 5, 2) := by decide +kernel
theorem dX6_classes_15 : decode cX6_classes 15 = .ok (.iload 5, 2) := by decide +kernel
theorem dX6_classes_17 : decode cX6_classes 17 = .ok (.iload_n 3, 1) := by decide +kernel
theorem dX6_classes_18 : decode cX6_classes 18 = .ok (.if_icmp .ge 69, 3) := by decide +kernel
theorem dX6_classes_21 : decode cX6_classes 21 = .ok (.iload 4, 2) := by decide +kernel
theorem dX6_classes_23 : decode cX6_classes 23 = .ok (.ifCond .eq 55, 3) := by decide +kernel
theorem dX6_classes_26 : decode cX6_classes 26 = .ok (.iload_n 1, 1) := by decide +kernel
theorem dX6_classes_27 : decode cX6_classes 27 = .ok (.ifCond .eq 29, 3) := by decide +kernel
theorem dX6_classes_30 : decode cX6_classes 30 = .ok (.aload_n 0, 1) := by decide +kernel
theorem dX6_classes_31 : decode cX6_classes 31 = .ok (.aload_n 0, 1) := by decide +kernel
theorem dX6_classes_32 : decode cX6_classes 32 = .ok (.invokevirtual 68, 3) := by decide +kernel
theorem dX6_classes_35 : decode cX6_classes 35 = .ok (.aload_n 0, 1) := by decide +kernel
theorem dX6_classes_36 : decode cX6_classes 36 = .ok (.iload_n 3, 1) := by decide +kernel
theorem dX6_classes_37 : decode cX6_classes 37 = .ok (.invokevirtual 79, 3) := by decide +kernel
theorem dX6_classes_40 : decode cX6_classes 40 = .ok (.aload_n 0, 1) := by decide +kernel
theorem dX6_classes_41 : decode cX6_classes 41 = .ok (.iload 5, 2) := by decide +kernel
theorem dX6_classes_43 : decode cX6_classes 43 = .ok (.invokevirtual 79, 3) := by decide +kernel
theorem dX6_classes_46 : decode cX6_classes 46 = .ok (.iconst 1, 1) := by decide +kernel
theorem dX6_classes_47 : decode cX6_classes 47 = .ok (.invokevirtual 173, 3) := by decide +kernel
theorem dX6_classes_50 : decode cX6_classes 50 = .ok (.ifCond .ne 28, 3) := by decide +kernel
theorem dX6_classes_53 : decode cX6_classes 53 = .ok (.goto 21, 3) := by decide +kernel
theorem dX6_classes_56 : decode cX6_classes 56 = .ok (.aload_n 0, 1) := by decide +kernel
theorem dX6_classes_57 : decode cX6_classes 57 = .ok (.aload_n 0, 1) := by decide +kernel
theorem dX6_classes_58 : decode cX6_classes 58 = .ok (.iload_n 3, 1) := by decide +kernel
theorem dX6_classes_59 : decode cX6_classes 59 = .ok (.invokevirtual 79, 3) := by decide +kernel
theorem dX6_classes_62 : decode cX6_classes 62 = .ok (.aload_n 0, 1) := by decide +kernel
theorem dX6_classes_63 : decode cX6_classes 63 = .ok (.iload 5, 2) := by decide +kernel
theorem dX6_classes_65 : decode cX6_classes 65 = .ok (.invokevirtual 79, 3) := by decide +kernel
theorem dX6_classes_68 : decode cX6_classes 68 = .ok (.invokevirtual 170, 3) := by decide +kernel
theorem dX6_classes_71 : decode cX6_classes 71 = .ok (.ifCond .ge 7, 3) := by decide +kernel
theorem dX6_classes_74 : decode cX6_classes 74 = .ok (.iconst 1, 1) := by decide +kernel
theorem dX6_classes_75 : decode cX6_classes 75 = .ok (.goto 4, 3) := by decide +kernel
theorem dX6_classes_78 : decode cX6_classes 78 = .ok (.iconst 0, 1) := by decide +kernel
theorem dX6_classes_79 : decode cX6_classes 79 = .ok (.istore 4, 2) := by decide +kernel
theorem dX6_classes_81 : decode cX6_classes 81 = .ok (.iinc 5 1, 3) := by decide +kernel
theorem dX6_classes_84 : decode cX6_classes 84 = .ok (.goto (-69), 3) := by decide +kernel
theorem dX6_classes_87 : decode cX6_classes 87 = .ok (.iload_n 2, 1) := by decide +kernel
theorem dX6_classes_88 : decode cX6_classes 88 = .ok (.iload 4, 2) := by decide +kernel
theorem dX6_classes_90 : decode cX6_classes 90 = .ok (.ifCond .eq 7, 3) := by decide +kernel
theorem dX6_classes_93 : decode cX6_classes 93 = .ok (.iconst 1, 1) := by decide +kernel
theorem dX6_classes_94 : decode cX6_classes 94 = .ok (.goto 4, 3) := by decide +kernel
theorem dX6_classes_97 : decode cX6_classes 97 = .ok (.iconst 0, 1) := by decide +kernel
theorem dX6_classes_98 : decode cX6_classes 98 = .ok (.iadd, 1) := by decide +kernel
theorem dX6_classes_99 : decode cX6_classes 99 = .ok (.istore_n 2, 1) := by decide +kernel
theorem dX6_classes_100 : decode cX6_classes 100 = .ok (.iinc 3 1, 3) := by decide +kernel
theorem dX6_classes_103 : decode cX6_classes 103 = .ok (.goto (-99), 3) := by decide +kernel
theorem dX6_classes_106 : decode cX6_classes 106 = .ok (.iload_n 2, 1) := by decide +kernel
theorem dX6_classes_107 : decode cX6_classes 107 = .ok (.ireturn, 1) := by decide +kernel
set_option maxRecDepth 20000 in
theorem ggX6_count_X6_many : GoodIn wsX6_count wsX6_many := goodIn_r _ [7, 8, 59, 60, 61, 62, 63, 64, 65, 66, 67, 68, 69, 70, 71] (by decide +kernel) (by decide +kernel)
set_option maxRecDepth 20000 in
theorem gX6_count_X6_many : GoodIn wsX6_count (wsV RX6 68 RX6 yX6_many wsX6_many) := goodIn_app (goodIn_of _ (by decide +kernel)) ggX6_count_X6_many
set_option maxRecDepth 20000 in
theorem ggX6_count_X6_pairs : GoodIn wsX6_count wsX6_pairs := goodIn_r _ [11] (by decide +kernel) (by decide +kernel)
set_option maxRecDepth 20000 in
theorem gX6_count_X6_pairs : GoodIn wsX6_count (va_wsS RX6 37 yX6_pairs wsX6_pairs) := goodIn_app (goodIn_of _ (by decide +kernel)) ggX6_count_X6_pairs
set_option maxRecDepth 20000 in
theorem ggX6_count_X6_triples : GoodIn wsX6_count wsX6_triples := goodIn_r _ [14] (by decide +kernel) (by decide +kernel)
set_option maxRecDepth 20000 in
theorem gX6_count_X6_triples : GoodIn wsX6_count (va_wsS RX6 86 yX6_triples wsX6_triples) := goodIn_app (goodIn_of _ (by decide +kernel)) ggX6_count_X6_triples
set_option maxRecDepth 20000 in
theorem ggX6_count_X6_classes : GoodIn wsX6_count wsX6_classes := goodIn_r _ [18, 3, 4, 5, 6, 7, 8, 19, 20, 21, 22, 23, 24, 25, 26, 27, 28, 29, 30, 31, 32, 33, 34, 35, 36, 37, 38, 9, 10, 11, 39, 40, 41, 42, 43, 44, 45, 46, 47, 48, 49, 50, 51, 52, 53, 54, 55, 56, 57, 58, 59, 60, 61, 62, 63, 64, 65, 66, 67, 68, 69, 70, 71] (by decide +kernel) (by decide +kernel)
set_option maxRecDepth 20000 in
theorem gX6_count_X6_classes : GoodIn wsX6_count (wsV RX6 207 RX6 yX6_classes wsX6_classes) := goodIn_app (goodIn_of _ (by decide +kernel)) ggX6_count_X6_classes
theorem dX6_count_0 : decode cX6_count 0 = .ok (.iload_n 1, 1) := by decide +kernel
theorem dX6_count_1 : decode cX6_count 1 = .ok (.tableswitch 111 0 6 #[43, 48, 56, 64, 69, 75, 81], 43) := by decide +kernel
theorem dX6_count_44 : decode cX6_count 44 = .ok (.aload_n 0, 1) := by decide +kernel
theorem dX6_count_45 : decode cX6_count 45 = .ok (.invokevirtual 68, 3) := by decide +kernel
theorem dX6_count_48 : decode cX6_count 48 = .ok (.ireturn, 1) := by decide +kernel
theorem dX6_count_49 : decode cX6_count 49 = .ok (.aload_n 0, 1) := by decide +kernel
theorem dX6_count_50 : decode cX6_count 50 = .ok (.invokevirtual 68, 3) := by decide +kernel
theorem dX6_count_53 : decode cX6_count 53 = .ok (.invokestatic 37, 3) := by decide +kernel
theorem dX6_count_56 : decode cX6_count 56 = .ok (.ireturn, 1) := by decide +kernel
theorem dX6_count_57 : decode cX6_count 57 = .ok (.aload_n 0, 1) := by decide +kernel
theorem dX6_count_58 : decode cX6_count 58 = .ok (.invokevirtual 68, 3) := by decide +kernel
theorem dX6_count_61 : decode cX6_count 61 = .ok (.invokestatic 86, 3) := by decide +kernel
theorem dX6_count_64 : decode cX6_count 64 = .ok (.ireturn, 1) := by decide +kernel
theorem dX6_count_65 : decode cX6_count 65 = .ok (.aload_n 0, 1) := by decide +kernel
theorem dX6_count_66 : decode cX6_count 66 = .ok (.getfield 82, 3) := by decide +kernel
theorem dX6_count_69 : decode cX6_count 69 = .ok (.ireturn, 1) := by decide +kernel
theorem dX6_count_70 : decode cX6_count 70 = .ok (.aload_n 0, 1) := by decide +kernel
theorem dX6_count_71 : decode cX6_count 71 = .ok (.iconst 0, 1) := by decide +kernel
theorem dX6_count_72 : decode cX6_count 72 = .ok (.invokevirtual 207, 3) := by decide +kernel
theorem dX6_count_75 : decode cX6_count 75 = .ok (.ireturn, 1) := by decide +kernel
theorem dX6_count_76 : decode cX6_count 76 = .ok (.aload_n 0, 1) := by decide +kernel
theorem dX6_count_77 : decode cX6_count 77 = .ok (.iconst 1, 1) := by decide +kernel
theorem dX6_count_78 : decode cX6_count 78 = .ok (.invokevirtual 207, 3) := by decide +kernel
theorem dX6_count_81 : decode cX6_count 81 = .ok (.ireturn, 1) := by decide +kernel
theorem dX6_count_82 : decode cX6_count 82 = .ok (.aload_n 0, 1) := by decide +kernel
theorem dX6_count_83 : decode cX6_count 83 = .ok (.getfield 16, 3) := by decide +kernel
theorem dX6_count_86 : decode cX6_count 86 = .ok (.iconst 0, 1) := by decide +kernel
theorem dX6_count_87 : decode cX6_count 87 = .ok (.baload, 1) := by decide +kernel
theorem dX6_count_88 : decode cX6_count 88 = .ok (.ifCond .eq 7, 3) := by decide +kernel
theorem dX6_count_91 : decode cX6_count 91 = .ok (.iconst 1, 1) := by decide +kernel
theorem dX6_count_92 : decode cX6_count 92 = .ok (.goto 4, 3) := by decide +kernel
theorem dX6_count_95 : decode cX6_count 95 = .ok (.iconst 0, 1) := by decide +kernel
theorem dX6_count_96 : decode cX6_count 96 = .ok (.aload_n 0, 1) := by decide +kernel
theorem dX6_count_97 : decode cX6_count 97 = .ok (.getfield 16, 3) := by decide +kernel
theorem dX6_count_100 : decode cX6_count 100 = .ok (.iconst 1, 1) := by decide +kernel
theorem dX6_count_101 : decode cX6_count 101 = .ok (.baload, 1) := by decide +kernel
theorem dX6_count_102 : decode cX6_count 102 = .ok (.ifCond .eq 7, 3) := by decide +kernel
theorem dX6_count_105 : decode cX6_count 105 = .ok (.iconst 2, 1) := by decide +kernel
theorem dX6_count_106 : decode cX6_count 106 = .ok (.goto 4, 3) := by decide +kernel
theorem dX6_count_109 : decode cX6_count 109 = .ok (.iconst 0, 1) := by decide +kernel
theorem dX6_count_110 : decode cX6_count 110 = .ok (.iadd, 1) := by decide +kernel
theorem dX6_count_111 : decode cX6_count 111 = .ok (.ireturn, 1) := by decide +kernel
theorem dX6_count_112 : decode cX6_count 112 = .ok (.bipush (-2), 2) := by decide +kernel
theorem dX6_count_114 : decode cX6_count 114 = .ok (.ireturn, 1) := by decide +kernel
theorem dJ6_bitCount_0f7a4_0 : decode cJ6_bitCount_0f7a4 0 = .ok (.iload_n 0, 1) := by decide +kernel
theorem dJ6_bitCount_0f7a4_1 : decode cJ6_bitCount_0f7a4 1 = .ok (.iload_n 0, 1) := by decide +kernel
theorem dJ6_bitCount_0f7a4_2 : decode cJ6_bitCount_0f7a4 2 = .ok (.iconst 1, 1) := by decide +kernel
theorem dJ6_bitCount_0f7a4_3 : decode cJ6_bitCount_0f7a4 3 = .ok (.iushr, 1) := by decide +kernel
theorem dJ6_bitCount_0f7a4_4 : decode cJ6_bitCount_0f7a4 4 = .ok (.ldc_w 265, 3) := by decide +kernel
theorem dJ6_bitCount_0f7a4_7 : decode cJ6_bitCount_0f7a4 7 = .ok (.iand, 1) := by decide +kernel
theorem dJ6_bitCount_0f7a4_8 : decode cJ6_bitCount_0f7a4 8 = .ok (.isub, 1) := by decide +kernel
theorem dJ6_bitCount_0f7a4_9 : decode cJ6_bitCount_0f7a4 9 = .ok (.istore_n 0, 1) := by decide +kernel
theorem dJ6_bitCount_0f7a4_10 : decode cJ6_bitCount_0f7a4 10 = .ok (.iload_n 0, 1) := by decide +kernel
theorem dJ6_bitCount_0f7a4_11 : decode cJ6_bitCount_0f7a4 11 = .ok (.ldc_w 266, 3) := by decide +kernel
theorem dJ6_bitCount_0f7a4_14 : decode cJ6_bitCount_0f7a4 14 = .ok (.iand, 1) := by decide +kernel
theorem dJ6_bitCount_0f7a4_15 : decode cJ6_bitCount_0f7a4 15 = .ok (.iload_n 0, 1) := by decide +kernel
theorem dJ6_bitCount_0f7a4_16 : decode cJ6_bitCount_0f7a4 16 = .ok (.iconst 2, 1) := by decide +kernel
theorem dJ6_bitCount_0f7a4_17 : decode cJ6_bitCount_0f7a4 17 = .ok (.iushr, 1) := by decide +kernel
theorem dJ6_bitCount_0f7a4_18 : decode cJ6_bitCount_0f7a4 18 = .ok (.ldc_w 266, 3) := by decide +kernel
theorem dJ6_bitCount_0f7a4_21 : decode cJ6_bitCount_0f7a4 21 = .ok (.iand, 1) := by decide +kernel
theorem dJ6_bitCount_0f7a4_22 : decode cJ6_bitCount_0f7a4 22 = .ok (.iadd, 1) := by decide +kernel
theorem dJ6_bitCount_0f7a4_23 : decode cJ6_bitCount_0f7a4 23 = .ok (.istore_n 0, 1) := by decide +kernel
theorem dJ6_bitCount_0f7a4_24 : decode cJ6_bitCount_0f7a4 24 = .ok (.iload_n 0, 1) := by decide +kernel
theorem dJ6_bitCount_0f7a4_25 : decode cJ6_bitCount_0f7a4 25 = .ok (.iload_n 0, 1) := by decide +kernel
theorem dJ6_bitCount_0f7a4_26 : decode cJ6_bitCount_0f7a4 26 = .ok (.iconst 4, 1) := by decide +kernel
theorem dJ6_bitCount_0f7a4_27 : decode cJ6_bitCount_0f7a4 27 = .ok (.iushr, 1) := by decide +kernel
theorem dJ6_bitCount_0f7a4_28 : decode cJ6_bitCount_0f7a4 28 = .ok (.iadd, 1) := by decide +kernel
theorem dJ6_bitCount_0f7a4_29 : decode cJ6_bitCount_0f7a4 29 = .ok (.ldc_w 267, 3) := by decide +kernel
theorem dJ6_bitCount_0f7a4_32 : decode cJ6_bitCount_0f7a4 32 = .ok (.iand, 1) := by decide +kernel
theorem dJ6_bitCount_0f7a4_33 : decode cJ6_bitCount_0f7a4 33 = .ok (.istore_n 0, 1) := by decide +kernel
theorem dJ6_bitCount_0f7a4_34 : decode cJ6_bitCount_0f7a4 34 = .ok (.iload_n 0, 1) := by decide +kernel
theorem dJ6_bitCount_0f7a4_35 : decode cJ6_bitCount_0f7a4 35 = .ok (.iload_n 0, 1) := by decide +kernel
theorem dJ6_bitCount_0f7a4_36 : decode cJ6_bitCount_0f7a4 36 = .ok (.bipush 8, 2) := by decide +kernel
theorem dJ6_bitCount_0f7a4_38 : decode cJ6_bitCount_0f7a4 38 = .ok (.iushr, 1) := by decide +kernel
theorem dJ6_bitCount_0f7a4_39 : decode cJ6_bitCount_0f7a4 39 = .ok (.iadd, 1) := by decide +kernel
theorem dJ6_bitCount_0f7a4_40 : decode cJ6_bitCount_0f7a4 40 = .ok (.istore_n 0, 1) := by decide +kernel
theorem dJ6_bitCount_0f7a4_41 : decode cJ6_bitCount_0f7a4 41 = .ok (.iload_n 0, 1) := by decide +kernel
theorem dJ6_bitCount_0f7a4_42 : decode cJ6_bitCount_0f7a4 42 = .ok (.iload_n 0, 1) := by decide +kernel
theorem dJ6_bitCount_0f7a4_43 : decode cJ6_bitCount_0f7a4 43 = .ok (.bipush 16, 2) := by decide +kernel
theorem dJ6_bitCount_0f7a4_45 : decode cJ6_bitCount_0f7a4 45 = .ok (.iushr, 1) := by decide +kernel
theorem dJ6_bitCount_0f7a4_46 : decode cJ6_bitCount_0f7a4 46 = .ok (.iadd, 1) := by decide +kernel
theorem dJ6_bitCount_0f7a4_47 : decode cJ6_bitCount_0f7a4 47 = .ok (.istore_n 0, 1) := by decide +kernel
theorem dJ6_bitCount_0f7a4_48 : decode cJ6_bitCount_0f7a4 48 = .ok (.iload_n 0, 1) := by decide +kernel
theorem dJ6_bitCount_0f7a4_49 : decode cJ6_bitCount_0f7a4 49 = .ok (.bipush 63, 2) := by decide +kernel
theorem dJ6_bitCount_0f7a4_51 : decode cJ6_bitCount_0f7a4 51 = .ok (.iand, 1) := by decide +kernel
theorem dJ6_bitCount_0f7a4_52 : decode cJ6_bitCount_0f7a4 52 = .ok (.ireturn, 1) := by decide +kernel
theorem dJ9_min_7cf53_0 : decode cJ9_min_7cf53 0 = .ok (.iload_n 0, 1) := by decide +kernel
theorem dJ9_min_7cf53_1 : decode cJ9_min_7cf53 1 = .ok (.iload_n 1, 1) := by decide +kernel
theorem dJ9_min_7cf53_2 : decode cJ9_min_7cf53 2 = .ok (.if_icmp .gt 7, 3) := by decide +kernel
theorem dJ9_min_7cf53_5 : decode cJ9_min_7cf53 5 = .ok (.iload_n 0, 1) := by decide +kernel
theorem dJ9_min_7cf53_6 : decode cJ9_min_7cf53 6 = .ok (.goto 4, 3) := by decide +kernel
theorem dJ9_min_7cf53_9 : decode cJ9_min_7cf53 9 = .ok (.iload_n 1, 1) := by decide +kernel
theorem dJ9_min_7cf53_10 : decode cJ9_min_7cf53 10 = .ok (.ireturn, 1) := by decide +kernel
theorem dJ7_fill_53178_0 : decode cJ7_fill_53178 0 = .ok (.iconst 0, 1) := by decide +kernel
theorem dJ7_fill_53178_1 : decode cJ7_fill_53178 1 = .ok (.istore_n 2, 1) := by decide +kernel
theorem dJ7_fill_53178_2 : decode cJ7_fill_53178 2 = .ok (.aload_n 0, 1) := by decide +kernel
theorem dJ7_fill_53178_3 : decode cJ7_fill_53178 3 = .ok (.arraylength, 1) := by decide +kernel
theorem dJ7_fill_53178_4 : decode cJ7_fill_53178 4 = .ok (.istore_n 3, 1) := by decide +kernel
theorem dJ7_fill_53178_5 : decode cJ7_fill_53178 5 = .ok (.iload_n 2, 1) := by decide +kernel
theorem dJ7_fill_53178_6 : decode cJ7_fill_53178 6 = .ok (.iload_n 3, 1) := by decide +kernel
theorem dJ7_fill_53178_7 : decode cJ7_fill_53178 7 = .ok (.if_icmp .ge 13, 3) := by decide +kernel
theorem dJ7_fill_53178_10 : decode cJ7_fill_53178 10 = .ok (.aload_n 0, 1) := by decide +kernel
theorem dJ7_fill_53178_11 : decode cJ7_fill_53178 11 = .ok (.iload_n 2, 1) := by decide +kernel
theorem dJ7_fill_53178_12 : decode cJ7_fill_53178 12 = .ok (.iload_n 1, 1) := by decide +kernel
theorem dJ7_fill_53178_13 : decode cJ7_fill_53178 13 = .ok (.iastore, 1) := by decide +kernel
theorem dJ7_fill_53178_14 : decode cJ7_fill_53178 14 = .ok (.iinc 2 1, 3) := by decide +kernel
theorem dJ7_fill_53178_17 : decode cJ7_fill_53178 17 = .ok (.goto (-12), 3) := by decide +kernel
theorem dJ7_fill_53178_20 : decode cJ7_fill_53178 20 = .ok (.return_, 1) := by decide +kernel
set_option maxRecDepth 20000 in
theorem ggL_law_X5_init : GoodIn wsL_law wsX5_init := goodIn_r _ [8, 9, 10, 11, 12, 13, 14, 15, 16, 17, 18, 19, 20, 21, 22, 23, 24, 25, 26, 27, 28, 29, 30, 31, 32, 33, 34, 35, 36, 37, 38, 39, 40, 41, 42, 43, 44, 45, 46, 47, 48, 49, 50, 51, 52, 53, 54, 55, 56, 57, 58, 59, 60, 61, 62, 63, 64, 65, 66, 67, 68, 69, 70, 71, 686, 687, 665, 666, 667, 668, 669, 670, 671, 672, 688, 689, 690, 691, 692, 693, 694, 695, 696, 697] (by decide +kernel) (by decide +kernel)
set_option maxRecDepth 20000 in
theorem gL_law_X5_init : GoodIn wsL_law (wsX5_init) := ggL_law_X5_init
set_option maxRecDepth 20000 in
theorem ggL_law_X6_init : GoodIn wsL_law wsX6_init := goodIn_r _ [74, 75, 10, 11, 34, 76, 77, 78, 79, 80, 81, 82, 63, 83, 673, 674, 675, 676, 677, 678, 679, 680, 681, 682, 683, 684, 685] (by decide +kernel) (by decide +kernel)
set_option maxRecDepth 20000 in
theorem gL_law_X6_init : GoodIn wsL_law (wsX6_init) := ggL_law_X6_init
set_option maxRecDepth 20000 in
theorem ggL_law_X5_nodes : GoodIn wsL_law wsX5_nodes := goodIn_r _ [87, 15, 88, 89, 2, 90, 65, 14, 66, 67, 39, 40, 68, 69, 70, 71, 665, 666, 667, 668, 669, 670, 671, 672, 686, 687] (by decide +kernel) (by decide +kernel)
set_option maxRecDepth 20000 in
theorem gL_law_X5_nodes : GoodIn wsL_law (wsV RL 13 RX5 yX5_nodes wsX5_nodes) := goodIn_app (goodIn_of _ (by decide +kernel)) ggL_law_X5_nodes
set_option maxRecDepth 20000 in
theorem ggL_law_X6_nodes : GoodIn wsL_law wsX6_nodes := goodIn_r _ [94, 76, 95, 96, 5, 97, 98, 99, 100, 101, 673, 674, 675, 676, 677, 678, 679, 680, 681, 682, 683, 684, 685] (by decide +kernel) (by decide +kernel)
set_option maxRecDepth 20000 in
theorem gL_law_X6_nodes : GoodIn wsL_law (wsV RL 17 RX6 yX6_nodes wsX6_nodes) := goodIn_app (goodIn_of _ (by decide +kernel)) ggL_law_X6_nodes
set_option maxRecDepth 20000 in
theorem ggL_law_X5_join : GoodIn wsL_law wsX5_join := goodIn_r _ [105, 24, 15, 106, 107, 2, 108, 88, 89, 90, 109, 110, 111, 112, 113, 114, 115, 116, 117, 23, 118, 119, 49, 50, 120, 69, 70, 71, 121, 122, 123, 124, 125, 126, 127, 128, 129, 130, 131, 132, 133, 134, 135, 136, 137, 138, 139, 140, 141, 142, 143, 144, 145, 146, 147, 148, 149, 150, 665, 666, 667, 668, 669, 670, 671, 672, 686, 687, 690, 691] (by decide +kernel) (by decide +kernel)
set_option maxRecDepth 20000 in
theorem gL_law_X5_join : GoodIn wsL_law (wsV RL 18 RX5 yX5_join wsX5_join) := goodIn_app (goodIn_of _ (by decide +kernel)) ggL_law_X5_join
set_option maxRecDepth 20000 in
theorem ggL_law_X6_join : GoodIn wsL_law wsX6_join := goodIn_r _ [154, 76, 155, 156, 5, 157, 95, 96, 97, 158, 159, 160, 161, 98, 99, 100, 101, 162, 163, 164, 165, 166, 167, 168, 169, 170, 171, 172, 173, 174, 673, 674, 675, 676, 677, 678, 679, 680, 681, 682, 683, 684, 685] (by decide +kernel) (by decide +kernel)
set_option maxRecDepth 20000 in
theorem gL_law_X6_join : GoodIn wsL_law (wsV RL 22 RX6 yX6_join wsX6_join) := goodIn_app (goodIn_of _ (by decide +kernel)) ggL_law_X6_join
set_option maxRecDepth 20000 in
theorem ggL_law_X5_set : GoodIn wsL_law wsX5_set := goodIn_r _ [178, 15, 106, 107, 2, 108, 88, 89, 90, 179, 124, 125, 665, 666, 667, 668, 669, 670, 671, 672, 686, 687] (by decide +kernel) (by decide +kernel)
set_option maxRecDepth 20000 in
theorem gL_law_X5_set : GoodIn wsL_law (wsV RL 23 RX5 yX5_set wsX5_set) := goodIn_app (goodIn_of _ (by decide +kernel)) ggL_law_X5_set
set_option maxRecDepth 20000 in
theorem ggL_law_X6_set : GoodIn wsL_law wsX6_set := goodIn_r _ [183, 76, 155, 156, 5, 157, 95, 96, 97, 98, 99, 100, 101, 165, 166, 167, 168, 169, 170, 171, 673, 674, 675, 676, 677, 678, 679, 680, 681, 682, 683, 684, 685] (by decide +kernel) (by decide +kernel)
set_option maxRecDepth 20000 in
theorem gL_law_X6_set : GoodIn wsL_law (wsV RL 27 RX6 yX6_set wsX6_set) := goodIn_app (goodIn_of _ (by decide +kernel)) ggL_law_X6_set
set_option maxRecDepth 20000 in
theorem ggL_law_X5_say : GoodIn wsL_law wsX5_say := goodIn_r _ [187, 20, 88, 89, 2, 90, 188, 19, 189, 190, 44, 45, 665, 666, 667, 668, 669, 670, 671, 672, 688, 689] (by decide +kernel) (by decide +kernel)
set_option maxRecDepth 20000 in
theorem gL_law_X5_say : GoodIn wsL_law (wsV RL 28 RX5 yX5_say wsX5_say) := goodIn_app (goodIn_of _ (by decide +kernel)) ggL_law_X5_say
set_option maxRecDepth 20000 in
theorem ggL_law_X6_say : GoodIn wsL_law wsX6_say := goodIn_r _ [194, 195, 80, 95, 96, 5, 97, 673, 674, 675, 676, 677, 678, 679, 680, 681, 682, 683, 684, 685] (by decide +kernel) (by decide +kernel)
set_option maxRecDepth 20000 in
theorem gL_law_X6_say : GoodIn wsL_law (wsV RL 31 RX6 yX6_say wsX6_say) := goodIn_app (goodIn_of _ (by decide +kernel)) ggL_law_X6_say
set_option maxRecDepth 20000 in
theorem ggL_law_X5_wipe : GoodIn wsL_law wsX5_wipe := goodIn_r _ [199, 20, 665, 666, 667, 668, 669, 670, 671, 672, 688, 689] (by decide +kernel) (by decide +kernel)
set_option maxRecDepth 20000 in
theorem gL_law_X5_wipe : GoodIn wsL_law (wsV RL 32 RX5 yX5_wipe wsX5_wipe) := goodIn_app (goodIn_of _ (by decide +kernel)) ggL_law_X5_wipe
set_option maxRecDepth 20000 in
theorem ggL_law_X6_wipe : GoodIn wsL_law wsX6_wipe := goodIn_r _ [203, 195, 673, 674, 675, 676, 677, 678, 679, 680, 681, 682, 683, 684, 685] (by decide +kernel) (by decide +kernel)
set_option maxRecDepth 20000 in
theorem gL_law_X6_wipe : GoodIn wsL_law (wsV RL 36 RX6 yX6_wipe wsX6_wipe) := goodIn_app (goodIn_of _ (by decide +kernel)) ggL_law_X6_wipe
set_option maxRecDepth 20000 in
theorem ggL_law_X5_fault : GoodIn wsL_law wsX5_fault := goodIn_r _ [207, 20, 88, 89, 2, 90, 208, 209, 210, 211, 15, 179, 124, 125, 212, 213, 214, 215, 19, 216, 217, 44, 45, 665, 666, 667, 668, 669, 670, 671, 672, 686, 687, 688, 689] (by decide +kernel) (by decide +kernel)
set_option maxRecDepth 20000 in
theorem gL_law_X5_fault : GoodIn wsL_law (wsV RL 37 RX5 yX5_fault wsX5_fault) := goodIn_app (goodIn_of _ (by decide +kernel)) ggL_law_X5_fault
set_option maxRecDepth 20000 in
theorem ggL_law_X6_fault : GoodIn wsL_law wsX6_fault := goodIn_r _ [221, 95, 96, 5, 97, 222, 223, 224, 225, 195, 80, 98, 99, 100, 101, 76, 165, 166, 167, 226, 227, 228, 673, 674, 675, 676, 677, 678, 679, 680, 681, 682, 683, 684, 685] (by decide +kernel) (by decide +kernel)
set_option maxRecDepth 20000 in
theorem gL_law_X6_fault : GoodIn wsL_law (wsV RL 40 RX6 yX6_fault wsX6_fault) := goodIn_app (goodIn_of _ (by decide +kernel)) ggL_law_X6_fault
set_option maxRecDepth 20000 in
theorem ggL_law_X5_read : GoodIn wsL_law wsX5_read := goodIn_r _ [232, 20, 24, 15, 106, 107, 2, 108, 88, 89, 90, 208, 209, 210, 211, 179, 124, 125, 212, 213, 214, 215, 19, 216, 217, 44, 45, 117, 23, 118, 119, 49, 50, 120, 69, 70, 71, 233, 234, 235, 236, 237, 238, 126, 127, 128, 129, 239, 240, 241, 242, 243, 244, 245, 133, 134, 135, 136, 130, 131, 132, 665, 666, 667, 668, 669, 670, 671, 672, 686, 687, 688, 689, 690, 691] (by decide +kernel) (by decide +kernel)
set_option maxRecDepth 20000 in
theorem gL_law_X5_read : GoodIn wsL_law (wsV RL 41 RX5 yX5_read wsX5_read) := goodIn_app (goodIn_of _ (by decide +kernel)) ggL_law_X5_read
set_option maxRecDepth 20000 in
theorem ggL_law_X6_read : GoodIn wsL_law wsX6_read := goodIn_r _ [249, 195, 155, 156, 5, 157, 95, 96, 97, 222, 223, 224, 225, 80, 98, 99, 100, 101, 76, 165, 166, 167, 226, 227, 228, 250, 251, 252, 253, 254, 255, 256, 257, 258, 259, 260, 261, 262, 263, 264, 265, 266, 267, 268, 269, 270, 271, 272, 273, 162, 163, 164, 274, 275, 276, 277, 673, 674, 675, 676, 677, 678, 679, 680, 681, 682, 683, 684, 685] (by decide +kernel) (by decide +kernel)
set_option maxRecDepth 20000 in
theorem gL_law_X6_read : GoodIn wsL_law (wsV RL 44 RX6 yX6_read wsX6_read) := goodIn_app (goodIn_of _ (by decide +kernel)) ggL_law_X6_read
set_option maxRecDepth 20000 in
theorem ggL_law_X5_turn : GoodIn wsL_law wsX5_turn := goodIn_r _ [281, 15, 24, 106, 107, 2, 108, 88, 89, 90, 113, 114, 115, 116, 117, 23, 118, 119, 49, 50, 120, 69, 70, 71, 121, 122, 123, 124, 125, 126, 127, 128, 129, 282, 283, 284, 285, 286, 287, 288, 130, 131, 132, 133, 134, 135, 136, 665, 666, 667, 668, 669, 670, 671, 672, 686, 687, 690, 691] (by decide +kernel) (by decide +kernel)
set_option maxRecDepth 20000 in
theorem gL_law_X5_turn : GoodIn wsL_law (wsV RL 45 RX5 yX5_turn wsX5_turn) := goodIn_app (goodIn_of _ (by decide +kernel)) ggL_law_X5_turn
set_option maxRecDepth 20000 in
theorem ggL_law_X6_turn : GoodIn wsL_law wsX6_turn := goodIn_r _ [292, 155, 156, 5, 157, 95, 96, 97, 98, 99, 100, 101, 76, 168, 169, 170, 171, 293, 294, 295, 162, 163, 164, 165, 166, 167, 274, 275, 276, 277, 673, 674, 675, 676, 677, 678, 679, 680, 681, 682, 683, 684, 685] (by decide +kernel) (by decide +kernel)
set_option maxRecDepth 20000 in
theorem gL_law_X6_turn : GoodIn wsL_law (wsV RL 49 RX6 yX6_turn wsX6_turn) := goodIn_app (goodIn_of _ (by decide +kernel)) ggL_law_X6_turn
set_option maxRecDepth 20000 in
theorem ggL_law_X5_of : GoodIn wsL_law wsX5_of := goodIn_r _ [299, 24, 15, 106, 107, 2, 108, 88, 89, 90, 113, 114, 115, 116, 117, 23, 118, 119, 49, 50, 120, 69, 70, 71, 121, 122, 123, 124, 125, 126, 127, 128, 129, 137, 138, 139, 140, 141, 142, 143, 144, 145, 146, 147, 148, 149, 150, 300, 301, 302, 303, 304, 305, 306, 307, 308, 309, 310, 133, 134, 135, 136, 285, 286, 287, 288, 311, 312, 313, 314, 315, 316, 665, 666, 667, 668, 669, 670, 671, 672, 686, 687, 690, 691] (by decide +kernel) (by decide +kernel)
set_option maxRecDepth 20000 in
theorem gL_law_X5_of : GoodIn wsL_law (wsV RL 50 RX5 yX5_of wsX5_of) := goodIn_app (goodIn_of _ (by decide +kernel)) ggL_law_X5_of
set_option maxRecDepth 20000 in
theorem ggL_law_X6_of : GoodIn wsL_law wsX6_of := goodIn_r _ [320, 155, 156, 5, 157, 95, 96, 97, 168, 169, 170, 171, 76, 172, 173, 174, 98, 99, 100, 101, 321, 322, 323, 324, 325, 326, 327, 328, 329, 330, 331, 332, 333, 334, 335, 162, 163, 164, 165, 166, 167, 336, 337, 338, 339, 340, 341, 342, 343, 344, 345, 346, 347, 348, 349, 673, 674, 675, 676, 677, 678, 679, 680, 681, 682, 683, 684, 685] (by decide +kernel) (by decide +kernel)
set_option maxRecDepth 20000 in
theorem gL_law_X6_of : GoodIn wsL_law (wsV RL 53 RX6 yX6_of wsX6_of) := goodIn_app (goodIn_of _ (by decide +kernel)) ggL_law_X6_of
set_option maxRecDepth 20000 in
theorem ggL_law_X5_node : GoodIn wsL_law wsX5_node := goodIn_r _ [353, 24, 106, 107, 2, 108, 88, 89, 90, 109, 110, 111, 112, 15, 113, 114, 115, 116, 117, 23, 118, 119, 49, 50, 120, 69, 70, 71, 121, 122, 123, 124, 125, 126, 127, 128, 129, 141, 142, 143, 144, 145, 146, 147, 148, 149, 150, 304, 305, 306, 307, 308, 309, 310, 133, 134, 135, 136, 285, 286, 287, 288, 354, 355, 356, 357, 282, 283, 284, 130, 131, 132, 358, 359, 360, 665, 666, 667, 668, 669, 670, 671, 672, 686, 687, 690, 691] (by decide +kernel) (by decide +kernel)
set_option maxRecDepth 20000 in
theorem gL_law_X5_node : GoodIn wsL_law (wsV RL 54 RX5 yX5_node wsX5_node) := goodIn_app (goodIn_of _ (by decide +kernel)) ggL_law_X5_node
set_option maxRecDepth 20000 in
theorem ggL_law_X6_node : GoodIn wsL_law wsX6_node := goodIn_r _ [364, 155, 156, 5, 157, 95, 96, 97, 158, 159, 160, 161, 76, 168, 169, 170, 171, 98, 99, 100, 101, 344, 345, 346, 347, 348, 349, 333, 334, 335, 162, 163, 164, 165, 166, 167, 172, 173, 174, 324, 325, 326, 327, 328, 329, 330, 331, 332, 365, 366, 367, 293, 294, 295, 368, 369, 370, 673, 674, 675, 676, 677, 678, 679, 680, 681, 682, 683, 684, 685] (by decide +kernel) (by decide +kernel)
set_option maxRecDepth 20000 in
theorem gL_law_X6_node : GoodIn wsL_law (wsV RL 57 RX6 yX6_node wsX6_node) := goodIn_app (goodIn_of _ (by decide +kernel)) ggL_law_X6_node
set_option maxRecDepth 20000 in
theorem ggL_law_X5_pair : GoodIn wsL_law wsX5_pair := goodIn_r _ [374, 24, 106, 107, 2, 108, 88, 89, 90, 109, 110, 111, 112, 15, 113, 114, 115, 116, 117, 23, 118, 119, 49, 50, 120, 69, 70, 71, 121, 122, 123, 124, 125, 126, 127, 128, 129, 134, 135, 136, 308, 309, 310, 133, 285, 286, 287, 288, 144, 145, 146, 147, 148, 149, 150, 375, 376, 377, 665, 666, 667, 668, 669, 670, 671, 672, 686, 687, 690, 691] (by decide +kernel) (by decide +kernel)
set_option maxRecDepth 20000 in
theorem gL_law_X5_pair : GoodIn wsL_law (wsV RL 58 RX5 yX5_pair wsX5_pair) := goodIn_app (goodIn_of _ (by decide +kernel)) ggL_law_X5_pair
set_option maxRecDepth 20000 in
theorem ggL_law_X6_pair : GoodIn wsL_law wsX6_pair := goodIn_r _ [381, 155, 156, 5, 157, 95, 96, 97, 158, 159, 160, 161, 76, 168, 169, 170, 171, 98, 99, 100, 101, 333, 334, 335, 162, 163, 164, 165, 166, 167, 327, 328, 329, 330, 331, 332, 382, 383, 384, 347, 348, 349, 172, 173, 174, 673, 674, 675, 676, 677, 678, 679, 680, 681, 682, 683, 684, 685] (by decide +kernel) (by decide +kernel)
set_option maxRecDepth 20000 in
theorem gL_law_X6_pair : GoodIn wsL_law (wsV RL 61 RX6 yX6_pair wsX6_pair) := goodIn_app (goodIn_of _ (by decide +kernel)) ggL_law_X6_pair
set_option maxRecDepth 20000 in
theorem ggL_law_X5_fewest : GoodIn wsL_law wsX5_fewest := goodIn_r _ [388, 24, 15, 25, 106, 107, 2, 108, 88, 89, 90, 113, 114, 115, 116, 117, 23, 118, 119, 49, 50, 120, 69, 70, 71, 121, 122, 123, 124, 125, 126, 127, 128, 129, 179, 389, 390, 391, 392, 393, 394, 395, 357, 282, 283, 284, 285, 286, 287, 288, 137, 138, 139, 140, 141, 142, 143, 144, 145, 146, 147, 148, 149, 150, 665, 666, 667, 668, 669, 670, 671, 672, 686, 687, 690, 691] (by decide +kernel) (by decide +kernel)
set_option maxRecDepth 20000 in
theorem gL_law_X5_fewest : GoodIn wsL_law (wsV RL 62 RX5 yX5_fewest wsX5_fewest) := goodIn_app (goodIn_of _ (by decide +kernel)) ggL_law_X5_fewest
set_option maxRecDepth 20000 in
theorem ggL_law_X6_fewest : GoodIn wsL_law wsX6_fewest := goodIn_r _ [399, 400, 401, 402, 155, 156, 5, 157, 95, 96, 97, 98, 99, 100, 101, 76, 168, 169, 170, 171, 293, 294, 295, 162, 163, 164, 165, 166, 167, 172, 173, 174, 673, 674, 675, 676, 677, 678, 679, 680, 681, 682, 683, 684, 685] (by decide +kernel) (by decide +kernel)
set_option maxRecDepth 20000 in
theorem gL_law_X6_fewest : GoodIn wsL_law (wsV RL 65 RX6 yX6_fewest wsX6_fewest) := goodIn_app (goodIn_of _ (by decide +kernel)) ggL_law_X6_fewest
set_option maxRecDepth 20000 in
theorem ggL_law_X5_even : GoodIn wsL_law wsX5_even := goodIn_r _ [406, 24, 106, 107, 2, 108, 88, 89, 90, 113, 114, 115, 116, 15, 117, 23, 118, 119, 49, 50, 120, 69, 70, 71, 121, 122, 123, 124, 125, 126, 127, 128, 129, 407, 408, 409, 410, 25, 389, 390, 391, 392, 393, 394, 395, 357, 282, 283, 284, 285, 286, 287, 288, 411, 412, 413, 414, 314, 315, 316, 140, 141, 142, 143, 144, 145, 146, 147, 148, 149, 150, 415, 416, 417, 418, 419, 420, 421, 133, 134, 135, 136, 422, 375, 376, 377, 423, 424, 425, 426, 665, 666, 667, 668, 669, 670, 671, 672, 686, 687, 690, 691] (by decide +kernel) (by decide +kernel)
set_option maxRecDepth 20000 in
theorem gL_law_X5_even : GoodIn wsL_law (wsV RL 66 RX5 yX5_even wsX5_even) := goodIn_app (goodIn_of _ (by decide +kernel)) ggL_law_X5_even
set_option maxRecDepth 20000 in
theorem ggL_law_X6_even : GoodIn wsL_law wsX6_even := goodIn_r _ [430, 402, 401, 155, 156, 5, 157, 95, 96, 97, 431, 432, 433, 434, 98, 99, 100, 101, 76, 168, 169, 170, 171, 293, 294, 295, 162, 163, 164, 165, 166, 167, 340, 341, 342, 343, 344, 345, 346, 347, 348, 349, 333, 334, 335, 172, 173, 174, 435, 436, 437, 438, 673, 674, 675, 676, 677, 678, 679, 680, 681, 682, 683, 684, 685] (by decide +kernel) (by decide +kernel)
set_option maxRecDepth 20000 in
theorem gL_law_X6_even : GoodIn wsL_law (wsV RL 69 RX6 yX6_even wsX6_even) := goodIn_app (goodIn_of _ (by decide +kernel)) ggL_law_X6_even
set_option maxRecDepth 20000 in
theorem ggL_law_X5_by : GoodIn wsL_law wsX5_by := goodIn_r _ [442, 24, 106, 107, 2, 108, 88, 89, 90, 113, 114, 115, 116, 15, 117, 23, 118, 119, 49, 50, 120, 69, 70, 71, 121, 122, 123, 124, 125, 126, 127, 128, 129, 423, 424, 425, 426, 25, 389, 390, 391, 392, 393, 394, 395, 357, 282, 283, 284, 285, 286, 287, 288, 411, 412, 413, 414, 314, 315, 316, 140, 141, 142, 143, 144, 145, 146, 147, 148, 149, 150, 407, 408, 409, 410, 415, 416, 417, 418, 419, 420, 421, 133, 134, 135, 136, 422, 375, 376, 377, 665, 666, 667, 668, 669, 670, 671, 672, 686, 687, 690, 691] (by decide +kernel) (by decide +kernel)
set_option maxRecDepth 20000 in
theorem gL_law_X5_by : GoodIn wsL_law (wsV RL 70 RX5 yX5_by wsX5_by) := goodIn_app (goodIn_of _ (by decide +kernel)) ggL_law_X5_by
set_option maxRecDepth 20000 in
theorem ggL_law_X6_by : GoodIn wsL_law wsX6_by := goodIn_r _ [446, 402, 401, 155, 156, 5, 157, 95, 96, 97, 431, 432, 433, 434, 98, 99, 100, 101, 76, 168, 169, 170, 171, 293, 294, 295, 162, 163, 164, 165, 166, 167, 447, 448, 449, 450, 344, 345, 346, 347, 348, 349, 333, 334, 335, 172, 173, 174, 435, 436, 437, 438, 451, 452, 453, 454, 382, 383, 384, 673, 674, 675, 676, 677, 678, 679, 680, 681, 682, 683, 684, 685] (by decide +kernel) (by decide +kernel)
set_option maxRecDepth 20000 in
theorem gL_law_X6_by : GoodIn wsL_law (wsV RL 73 RX6 yX6_by wsX6_by) := goodIn_app (goodIn_of _ (by decide +kernel)) ggL_law_X6_by
set_option maxRecDepth 20000 in
theorem ggL_law_X5_compare : GoodIn wsL_law wsX5_compare := goodIn_r _ [458, 24, 25, 29, 106, 107, 2, 108, 88, 89, 90, 459, 460, 461, 462, 113, 114, 115, 116, 15, 117, 23, 118, 119, 49, 50, 120, 69, 70, 71, 121, 122, 123, 124, 125, 126, 127, 128, 129, 282, 283, 284, 285, 286, 287, 288, 130, 131, 132, 133, 134, 135, 136, 463, 28, 464, 465, 54, 466, 467, 468, 469, 470, 471, 141, 142, 143, 144, 145, 146, 147, 148, 149, 150, 472, 473, 474, 475, 476, 477, 478, 479, 480, 481, 482, 354, 355, 356, 357, 483, 484, 485, 486, 487, 488, 489, 490, 491, 492, 493, 494, 495, 496, 497, 498, 499, 500, 665, 666, 667, 668, 669, 670, 671, 672, 690, 691, 686, 687, 692] (by decide +kernel) (by decide +kernel)
set_option maxRecDepth 20000 in
theorem gL_law_X5_compare : GoodIn wsL_law (wsV RL 74 RX5 yX5_compare wsX5_compare) := goodIn_app (goodIn_of _ (by decide +kernel)) ggL_law_X5_compare
set_option maxRecDepth 20000 in
theorem ggL_law_X6_compare : GoodIn wsL_law wsX6_compare := goodIn_r _ [504, 155, 156, 5, 157, 95, 96, 97, 168, 169, 170, 171, 76, 505, 506, 507, 508, 98, 99, 100, 101, 347, 348, 349, 333, 334, 335, 162, 163, 164, 165, 166, 167, 293, 294, 295, 509, 510, 511, 512, 365, 366, 367, 513, 514, 515, 516, 517, 518, 519, 81, 82, 520, 521, 522, 523, 673, 674, 675, 676, 677, 678, 679, 680, 681, 682, 683, 684, 685] (by decide +kernel) (by decide +kernel)
set_option maxRecDepth 20000 in
theorem gL_law_X6_compare : GoodIn wsL_law (wsV RL 77 RX6 yX6_compare wsX6_compare) := goodIn_app (goodIn_of _ (by decide +kernel)) ggL_law_X6_compare
set_option maxRecDepth 20000 in
theorem ggL_law_X5_kind : GoodIn wsL_law wsX5_kind := goodIn_r _ [527, 24, 29, 25, 106, 107, 2, 108, 88, 89, 90, 472, 473, 474, 475, 113, 114, 115, 116, 15, 117, 23, 118, 119, 49, 50, 120, 69, 70, 71, 121, 122, 123, 124, 125, 126, 127, 128, 129, 476, 28, 477, 478, 54, 479, 480, 481, 482, 354, 355, 356, 357, 282, 283, 284, 285, 286, 287, 288, 483, 484, 485, 486, 487, 488, 134, 135, 136, 489, 490, 491, 492, 493, 494, 495, 496, 497, 498, 499, 500, 528, 529, 530, 389, 390, 391, 392, 393, 394, 395, 466, 467, 468, 469, 470, 471, 141, 142, 143, 144, 145, 146, 147, 148, 149, 150, 531, 532, 533, 534, 535, 536, 537, 538, 665, 666, 667, 668, 669, 670, 671, 672, 686, 687, 690, 691, 692] (by decide +kernel) (by decide +kernel)
set_option maxRecDepth 20000 in
theorem gL_law_X5_kind : GoodIn wsL_law (wsV RL 78 RX5 yX5_kind wsX5_kind) := goodIn_app (goodIn_of _ (by decide +kernel)) ggL_law_X5_kind
set_option maxRecDepth 20000 in
theorem ggL_law_X6_kind : GoodIn wsL_law wsX6_kind := goodIn_r _ [542, 155, 156, 5, 157, 95, 96, 97, 168, 169, 170, 171, 76, 98, 99, 100, 101, 543, 544, 545, 546, 81, 365, 366, 367, 347, 348, 349, 333, 334, 335, 162, 163, 164, 165, 166, 167, 293, 294, 295, 513, 514, 515, 516, 517, 518, 519, 82, 520, 521, 522, 523, 509, 510, 511, 512, 673, 674, 675, 676, 677, 678, 679, 680, 681, 682, 683, 684, 685] (by decide +kernel) (by decide +kernel)
set_option maxRecDepth 20000 in
theorem gL_law_X6_kind : GoodIn wsL_law (wsV RL 81 RX6 yX6_kind wsX6_kind) := goodIn_app (goodIn_of _ (by decide +kernel)) ggL_law_X6_kind
set_option maxRecDepth 20000 in
theorem ggL_law_X5_card : GoodIn wsL_law wsX5_card := goodIn_r _ [550, 15, 24, 29, 106, 107, 2, 108, 88, 89, 90, 109, 110, 111, 112, 113, 114, 115, 116, 117, 23, 118, 119, 49, 50, 120, 69, 70, 71, 121, 122, 123, 124, 125, 126, 127, 128, 129, 358, 359, 360, 476, 28, 477, 478, 54, 479, 480, 481, 482, 354, 355, 356, 357, 282, 283, 284, 285, 286, 287, 288, 483, 484, 485, 486, 487, 488, 134, 135, 136, 489, 490, 491, 492, 493, 494, 495, 496, 497, 498, 499, 500, 665, 666, 667, 668, 669, 670, 671, 672, 686, 687, 690, 691, 692] (by decide +kernel) (by decide +kernel)
set_option maxRecDepth 20000 in
theorem gL_law_X5_card : GoodIn wsL_law (wsV RL 82 RX5 yX5_card wsX5_card) := goodIn_app (goodIn_of _ (by decide +kernel)) ggL_law_X5_card
set_option maxRecDepth 20000 in
theorem ggL_law_X6_card : GoodIn wsL_law wsX6_card := goodIn_r _ [554, 155, 156, 5, 157, 95, 96, 97, 158, 159, 160, 161, 76, 98, 99, 100, 101, 168, 169, 170, 171, 368, 369, 370, 333, 334, 335, 162, 163, 164, 165, 166, 167, 543, 544, 545, 546, 81, 365, 366, 367, 347, 348, 349, 293, 294, 295, 513, 514, 515, 516, 517, 518, 519, 82, 520, 521, 522, 523, 673, 674, 675, 676, 677, 678, 679, 680, 681, 682, 683, 684, 685] (by decide +kernel) (by decide +kernel)
set_option maxRecDepth 20000 in
theorem gL_law_X6_card : GoodIn wsL_law (wsV RL 85 RX6 yX6_card wsX6_card) := goodIn_app (goodIn_of _ (by decide +kernel)) ggL_law_X6_card
set_option maxRecDepth 20000 in
theorem ggL_law_X5_root : GoodIn wsL_law wsX5_root := goodIn_r _ [558, 559, 560, 24, 33, 15, 106, 107, 2, 108, 88, 89, 90, 113, 114, 115, 116, 117, 23, 118, 119, 49, 50, 120, 69, 70, 71, 121, 122, 123, 124, 125, 126, 127, 128, 129, 561, 32, 562, 563, 58, 64, 134, 135, 136, 564, 565, 566, 59, 60, 61, 567, 568, 569, 570, 571, 572, 573, 574, 575, 576, 577, 578, 579, 580, 581, 665, 666, 667, 668, 669, 670, 671, 672, 686, 687, 693, 694, 695, 696, 697, 690, 691] (by decide +kernel) (by decide +kernel)
set_option maxRecDepth 20000 in
theorem gL_law_X5_root : GoodIn wsL_law (wsV RL 86 RX5 yX5_root wsX5_root) := goodIn_app (goodIn_of _ (by decide +kernel)) ggL_law_X5_root
set_option maxRecDepth 20000 in
theorem ggL_law_X6_root : GoodIn wsL_law wsX6_root := goodIn_r _ [585, 586, 587, 588, 589, 155, 156, 5, 157, 95, 96, 97, 168, 169, 170, 171, 76, 590, 591, 592, 593, 83, 98, 99, 100, 101, 333, 334, 335, 162, 163, 164, 165, 166, 167, 594, 595, 596, 597, 598, 599, 600, 601, 602, 603, 604, 605, 606, 607, 608, 609, 673, 674, 675, 676, 677, 678, 679, 680, 681, 682, 683, 684, 685] (by decide +kernel) (by decide +kernel)
set_option maxRecDepth 20000 in
theorem gL_law_X6_root : GoodIn wsL_law (wsV RL 90 RX6 yX6_root wsX6_root) := goodIn_app (goodIn_of _ (by decide +kernel)) ggL_law_X6_root
set_option maxRecDepth 20000 in
theorem ggL_law_X5_image : GoodIn wsL_law wsX5_image := goodIn_r _ [613, 16, 15, 88, 89, 2, 90, 614, 14, 615, 616, 39, 40, 617, 393, 394, 395, 665, 666, 667, 668, 669, 670, 671, 672, 686, 687] (by decide +kernel) (by decide +kernel)
set_option maxRecDepth 20000 in
theorem gL_law_X5_image : GoodIn wsL_law (wsV RL 91 RX5 yX5_image wsX5_image) := goodIn_app (goodIn_of _ (by decide +kernel)) ggL_law_X5_image
set_option maxRecDepth 20000 in
theorem ggL_law_X6_image : GoodIn wsL_law wsX6_image := goodIn_r _ [621, 77, 76, 79, 95, 96, 5, 97, 673, 674, 675, 676, 677, 678, 679, 680, 681, 682, 683, 684, 685] (by decide +kernel) (by decide +kernel)
set_option maxRecDepth 20000 in
theorem gL_law_X6_image : GoodIn wsL_law (wsV RL 94 RX6 yX6_image wsX6_image) := goodIn_app (goodIn_of _ (by decide +kernel)) ggL_law_X6_image
set_option maxRecDepth 20000 in
theorem ggL_law_X5_restore : GoodIn wsL_law wsX5_restore := goodIn_r _ [625, 16, 15, 88, 89, 2, 90, 626, 14, 627, 628, 39, 614, 615, 616, 40, 617, 393, 394, 395, 665, 666, 667, 668, 669, 670, 671, 672, 686, 687] (by decide +kernel) (by decide +kernel)
set_option maxRecDepth 20000 in
theorem gL_law_X5_restore : GoodIn wsL_law (wsV RL 95 RX5 yX5_restore wsX5_restore) := goodIn_app (goodIn_of _ (by decide +kernel)) ggL_law_X5_restore
set_option maxRecDepth 20000 in
theorem ggL_law_X6_restore : GoodIn wsL_law wsX6_restore := goodIn_r _ [632, 79, 76, 77, 95, 96, 5, 97, 673, 674, 675, 676, 677, 678, 679, 680, 681, 682, 683, 684, 685] (by decide +kernel) (by decide +kernel)
set_option maxRecDepth 20000 in
theorem gL_law_X6_restore : GoodIn wsL_law (wsV RL 98 RX6 yX6_restore wsX6_restore) := goodIn_app (goodIn_of _ (by decide +kernel)) ggL_law_X6_restore
set_option maxRecDepth 20000 in
theorem ggL_law_X5_count : GoodIn wsL_law wsX5_count := goodIn_r _ [636, 15, 20, 179, 124, 2, 125, 212, 213, 214, 637, 638, 639, 640, 24, 35, 113, 114, 115, 116, 117, 23, 118, 119, 49, 50, 120, 69, 70, 71, 121, 122, 123, 126, 127, 128, 129, 354, 355, 356, 357, 282, 283, 284, 285, 286, 287, 288, 130, 131, 132, 133, 134, 135, 136, 641, 642, 643, 644, 645, 646, 647, 648, 649, 650, 651, 652, 472, 473, 474, 475, 29, 476, 28, 477, 478, 54, 479, 480, 481, 482, 483, 484, 485, 486, 487, 488, 489, 490, 491, 492, 493, 494, 495, 496, 497, 498, 499, 500, 653, 654, 655, 656, 16, 626, 14, 627, 628, 39, 665, 666, 667, 668, 669, 670, 671, 672, 686, 687, 688, 689, 690, 691, 692] (by decide +kernel) (by decide +kernel)
set_option maxRecDepth 20000 in
theorem gL_law_X5_count : GoodIn wsL_law (wsV RL 99 RX5 yX5_count wsX5_count) := goodIn_app (goodIn_of _ (by decide +kernel)) ggL_law_X5_count
set_option maxRecDepth 20000 in
theorem ggL_law_X6_count : GoodIn wsL_law wsX6_count := goodIn_r _ [660, 195, 79, 98, 99, 100, 5, 101, 76, 165, 166, 167, 226, 227, 228, 661, 662, 663, 664, 168, 169, 170, 171, 509, 510, 511, 512, 365, 366, 367, 347, 348, 349, 333, 334, 335, 162, 163, 164, 293, 294, 295, 513, 514, 515, 516, 517, 518, 519, 81, 82, 520, 521, 522, 523, 505, 506, 507, 508, 673, 674, 675, 676, 677, 678, 679, 680, 681, 682, 683, 684, 685] (by decide +kernel) (by decide +kernel)
set_option maxRecDepth 20000 in
theorem gL_law_X6_count : GoodIn wsL_law (wsV RL 102 RX6 yX6_count wsX6_count) := goodIn_app (goodIn_of _ (by decide +kernel)) ggL_law_X6_count
theorem dL_law_0 : decode cL_law 0 = .ok (.new 7, 3) := by decide +kernel
theorem dL_law_3 : decode cL_law 3 = .ok (.dup, 1) := by decide +kernel
theorem dL_law_4 : decode cL_law 4 = .ok (.invokespecial 9, 3) := by decide +kernel
theorem dL_law_7 : decode cL_law 7 = .ok (.astore_n 1, 1) := by decide +kernel
theorem dL_law_8 : decode cL_law 8 = .ok (.new 10, 3) := by decide +kernel
theorem dL_law_11 : decode cL_law 11 = .ok (.dup, 1) := by decide +kernel
theorem dL_law_12 : decode cL_law 12 = .ok (.invokespecial 12, 3) := by decide +kernel
theorem dL_law_15 : decode cL_law 15 = .ok (.astore_n 2, 1) := by decide +kernel
theorem dL_law_16 : decode cL_law 16 = .ok (.iconst 0, 1) := by decide +kernel
theorem dL_law_17 : decode cL_law 17 = .ok (.istore_n 3, 1) := by decide +kernel
theorem dL_law_18 : decode cL_law 18 = .ok (.iload_n 3, 1) := by decide +kernel
theorem dL_law_19 : decode cL_law 19 = .ok (.aload_n 0, 1) := by decide +kernel
theorem dL_law_20 : decode cL_law 20 = .ok (.arraylength, 1) := by decide +kernel
theorem dL_law_21 : decode cL_law 21 = .ok (.iconst 5, 1) := by decide +kernel
theorem dL_law_22 : decode cL_law 22 = .ok (.isub, 1) := by decide +kernel
theorem dL_law_23 : decode cL_law 23 = .ok (.if_icmp .gt 819, 3) := by decide +kernel
theorem dL_law_26 : decode cL_law 26 = .ok (.aload_n 0, 1) := by decide +kernel
theorem dL_law_27 : decode cL_law 27 = .ok (.iload_n 3, 1) := by decide +kernel
theorem dL_law_28 : decode cL_law 28 = .ok (.iaload, 1) := by decide +kernel
theorem dL_law_29 : decode cL_law 29 = .ok (.bipush 31, 2) := by decide +kernel
theorem dL_law_31 : decode cL_law 31 = .ok (.iand, 1) := by decide +kernel
theorem dL_law_32 : decode cL_law 32 = .ok (.tableswitch 804 0 20 #[100, 123, 176, 209, 232, 245, 268, 301, 344, 377, 420, 473, 506, 539, 582, 625, 658, 691, 735, 758, 781], 100) := by decide +kernel
theorem dL_law_132 : decode cL_law 132 = .ok (.aload_n 1, 1) := by decide +kernel
theorem dL_law_133 : decode cL_law 133 = .ok (.aload_n 0, 1) := by decide +kernel
theorem dL_law_134 : decode cL_law 134 = .ok (.iload_n 3, 1) := by decide +kernel
theorem dL_law_135 : decode cL_law 135 = .ok (.iconst 1, 1) := by decide +kernel
theorem dL_law_136 : decode cL_law 136 = .ok (.iadd, 1) := by decide +kernel
theorem dL_law_137 : decode cL_law 137 = .ok (.iaload, 1) := by decide +kernel
theorem dL_law_138 : decode cL_law 138 = .ok (.invokevirtual 13, 3) := by decide +kernel
theorem dL_law_141 : decode cL_law 141 = .ok (.aload_n 2, 1) := by decide +kernel
theorem dL_law_142 : decode cL_law 142 = .ok (.aload_n 0, 1) := by decide +kernel
theorem dL_law_143 : decode cL_law 143 = .ok (.iload_n 3, 1) := by decide +kernel
theorem dL_law_144 : decode cL_law 144 = .ok (.iconst 1, 1) := by decide +kernel
theorem dL_law_145 : decode cL_law 145 = .ok (.iadd, 1) := by decide +kernel
theorem dL_law_146 : decode cL_law 146 = .ok (.iaload, 1) := by decide +kernel
theorem dL_law_147 : decode cL_law 147 = .ok (.invokevirtual 17, 3) := by decide +kernel
theorem dL_law_150 : decode cL_law 150 = .ok (.if_icmp .eq 686, 3) := by decide +kernel
theorem dL_law_153 : decode cL_law 153 = .ok (.iconst 0, 1) := by decide +kernel
theorem dL_law_154 : decode cL_law 154 = .ok (.ireturn, 1) := by decide +kernel
theorem dL_law_155 : decode cL_law 155 = .ok (.aload_n 1, 1) := by decide +kernel
theorem dL_law_156 : decode cL_law 156 = .ok (.aload_n 0, 1) := by decide +kernel
theorem dL_law_157 : decode cL_law 157 = .ok (.iload_n 3, 1) := by decide +kernel
theorem dL_law_158 : decode cL_law 158 = .ok (.iconst 1, 1) := by decide +kernel
theorem dL_law_159 : decode cL_law 159 = .ok (.iadd, 1) := by decide +kernel
theorem dL_law_160 : decode cL_law 160 = .ok (.iaload, 1) := by decide +kernel
theorem dL_law_161 : decode cL_law 161 = .ok (.aload_n 0, 1) := by decide +kernel
theorem dL_law_162 : decode cL_law 162 = .ok (.iload_n 3, 1) := by decide +kernel
theorem dL_law_163 : decode cL_law 163 = .ok (.iconst 2, 1) := by decide +kernel
theorem dL_law_164 : decode cL_law 164 = .ok (.iadd, 1) := by decide +kernel
theorem dL_law_165 : decode cL_law 165 = .ok (.iaload, 1) := by decide +kernel
theorem dL_law_166 : decode cL_law 166 = .ok (.aload_n 0, 1) := by decide +kernel
theorem dL_law_167 : decode cL_law 167 = .ok (.iload_n 3, 1) := by decide +kernel
theorem dL_law_168 : decode cL_law 168 = .ok (.iconst 3, 1) := by decide +kernel
theorem dL_law_169 : decode cL_law 169 = .ok (.iadd, 1) := by decide +kernel
theorem dL_law_170 : decode cL_law 170 = .ok (.iaload, 1) := by decide +kernel
theorem dL_law_171 : decode cL_law 171 = .ok (.aload_n 0, 1) := by decide +kernel
theorem dL_law_172 : decode cL_law 172 = .ok (.iload_n 3, 1) := by decide +kernel
theorem dL_law_173 : decode cL_law 173 = .ok (.iconst 4, 1) := by decide +kernel
theorem dL_law_174 : decode cL_law 174 = .ok (.iadd, 1) := by decide +kernel
theorem dL_law_175 : decode cL_law 175 = .ok (.iaload, 1) := by decide +kernel
theorem dL_law_176 : decode cL_law 176 = .ok (.invokevirtual 18, 3) := by decide +kernel
theorem dL_law_179 : decode cL_law 179 = .ok (.aload_n 2, 1) := by decide +kernel
theorem dL_law_180 : decode cL_law 180 = .ok (.aload_n 0, 1) := by decide +kernel
theorem dL_law_181 : decode cL_law 181 = .ok (.iload_n 3, 1) := by decide +kernel
theorem dL_law_182 : decode cL_law 182 = .ok (.iconst 1, 1) := by decide +kernel
theorem dL_law_183 : decode cL_law 183 = .ok (.iadd, 1) := by decide +kernel
theorem dL_law_184 : decode cL_law 184 = .ok (.iaload, 1) := by decide +kernel
theorem dL_law_185 : decode cL_law 185 = .ok (.aload_n 0, 1) := by decide +kernel
theorem dL_law_186 : decode cL_law 186 = .ok (.iload_n 3, 1) := by decide +kernel
theorem dL_law_187 : decode cL_law 187 = .ok (.iconst 2, 1) := by decide +kernel
theorem dL_law_188 : decode cL_law 188 = .ok (.iadd, 1) := by decide +kernel
theorem dL_law_189 : decode cL_law 189 = .ok (.iaload, 1) := by decide +kernel
theorem dL_law_190 : decode cL_law 190 = .ok (.aload_n 0, 1) := by decide +kernel
theorem dL_law_191 : decode cL_law 191 = .ok (.iload_n 3, 1) := by decide +kernel
theorem dL_law_192 : decode cL_law 192 = .ok (.iconst 3, 1) := by decide +kernel
theorem dL_law_193 : decode cL_law 193 = .ok (.iadd, 1) := by decide +kernel
theorem dL_law_194 : decode cL_law 194 = .ok (.iaload, 1) := by decide +kernel
theorem dL_law_195 : decode cL_law 195 = .ok (.aload_n 0, 1) := by decide +kernel
theorem dL_law_196 : decode cL_law 196 = .ok (.iload_n 3, 1) := by decide +kernel
theorem dL_law_197 : decode cL_law 197 = .ok (.iconst 4, 1) := by decide +kernel
theorem dL_law_198 : decode cL_law 198 = .ok (.iadd, 1) := by decide +kernel
theorem dL_law_199 : decode cL_law 199 = .ok (.iaload, 1) := by decide +kernel
theorem dL_law_200 : decode cL_law 200 = .ok (.invokevirtual 22, 3) := by decide +kernel
theorem dL_law_203 : decode cL_law 203 = .ok (.if_icmp .eq 633, 3) := by decide +kernel
theorem dL_law_206 : decode cL_law 206 = .ok (.iconst 0, 1) := by decide +kernel
theorem dL_law_207 : decode cL_law 207 = .ok (.ireturn, 1) := by decide +kernel
theorem dL_law_208 : decode cL_law 208 = .ok (.aload_n 1, 1) := by decide +kernel
theorem dL_law_209 : decode cL_law 209 = .ok (.aload_n 0, 1) := by decide +kernel
theorem dL_law_210 : decode cL_law 210 = .ok (.iload_n 3, 1) := by decide +kernel
theorem dL_law_211 : decode cL_law 211 = .ok (.iconst 1, 1) := by decide +kernel
theorem dL_law_212 : decode cL_law 212 = .ok (.iadd, 1) := by decide +kernel
theorem dL_law_213 : decode cL_law 213 = .ok (.iaload, 1) := by decide +kernel
theorem dL_law_214 : decode cL_law 214 = .ok (.aload_n 0, 1) := by decide +kernel
theorem dL_law_215 : decode cL_law 215 = .ok (.iload_n 3, 1) := by decide +kernel
theorem dL_law_216 : decode cL_law 216 = .ok (.iconst 2, 1) := by decide +kernel
theorem dL_law_217 : decode cL_law 217 = .ok (.iadd, 1) := by decide +kernel
theorem dL_law_218 : decode cL_law 218 = .ok (.iaload, 1) := by decide +kernel
theorem dL_law_219 : decode cL_law 219 = .ok (.invokevirtual 23, 3) := by decide +kernel
theorem dL_law_222 : decode cL_law 222 = .ok (.aload_n 2, 1) := by decide +kernel
theorem dL_law_223 : decode cL_law 223 = .ok (.aload_n 0, 1) := by decide +kernel
theorem dL_law_224 : decode cL_law 224 = .ok (.iload_n 3, 1) := by decide +kernel
theorem dL_law_225 : decode cL_law 225 = .ok (.iconst 1, 1) := by decide +kernel
theorem dL_law_226 : decode cL_law 226 = .ok (.iadd, 1) := by decide +kernel
theorem dL_law_227 : decode cL_law 227 = .ok (.iaload, 1) := by decide +kernel
theorem dL_law_228 : decode cL_law 228 = .ok (.aload_n 0, 1) := by decide +kernel
theorem dL_law_229 : decode cL_law 229 = .ok (.iload_n 3, 1) := by decide +kernel
theorem dL_law_230 : decode cL_law 230 = .ok (.iconst 2, 1) := by decide +kernel
theorem dL_law_231 : decode cL_law 231 = .ok (.iadd, 1) := by decide +kernel
theorem dL_law_232 : decode cL_law 232 = .ok (.iaload, 1) := by decide +kernel
theorem dL_law_233 : decode cL_law 233 = .ok (.invokevirtual 27, 3) := by decide +kernel
theorem dL_law_236 : decode cL_law 236 = .ok (.if_icmp .eq 600, 3) := by decide +kernel
theorem dL_law_239 : decode cL_law 239 = .ok (.iconst 0, 1) := by decide +kernel
theorem dL_law_240 : decode cL_law 240 = .ok (.ireturn, 1) := by decide +kernel
theorem dL_law_241 : decode cL_law 241 = .ok (.aload_n 1, 1) := by decide +kernel
theorem dL_law_242 : decode cL_law 242 = .ok (.aload_n 0, 1) := by decide +kernel
theorem dL_law_243 : decode cL_law 243 = .ok (.iload_n 3, 1) := by decide +kernel
theorem dL_law_244 : decode cL_law 244 = .ok (.iconst 1, 1) := by decide +kernel
theorem dL_law_245 : decode cL_law 245 = .ok (.iadd, 1) := by decide +kernel
theorem dL_law_246 : decode cL_law 246 = .ok (.iaload, 1) := by decide +kernel
theorem dL_law_247 : decode cL_law 247 = .ok (.invokevirtual 28, 3) := by decide +kernel
theorem dL_law_250 : decode cL_law 250 = .ok (.aload_n 2, 1) := by decide +kernel
theorem dL_law_251 : decode cL_law 251 = .ok (.aload_n 0, 1) := by decide +kernel
theorem dL_law_252 : decode cL_law 252 = .ok (.iload_n 3, 1) := by decide +kernel
theorem dL_law_253 : decode cL_law 253 = .ok (.iconst 1, 1) := by decide +kernel
theorem dL_law_254 : decode cL_law 254 = .ok (.iadd, 1) := by decide +kernel
theorem dL_law_255 : decode cL_law 255 = .ok (.iaload, 1) := by decide +kernel
theorem dL_law_256 : decode cL_law 256 = .ok (.invokevirtual 31, 3) := by decide +kernel
theorem dL_law_259 : decode cL_law 259 = .ok (.if_icmp .eq 577, 3) := by decide +kernel
theorem dL_law_262 : decode cL_law 262 = .ok (.iconst 0, 1) := by decide +kernel
theorem dL_law_263 : decode cL_law 263 = .ok (.ireturn, 1) := by decide +kernel
theorem dL_law_264 : decode cL_law 264 = .ok (.aload_n 1, 1) := by decide +kernel
theorem dL_law_265 : decode cL_law 265 = .ok (.invokevirtual 32, 3) := by decide +kernel
theorem dL_law_268 : decode cL_law 268 = .ok (.aload_n 2, 1) := by decide +kernel
theorem dL_law_269 : decode cL_law 269 = .ok (.invokevirtual 36, 3) := by decide +kernel
theorem dL_law_272 : decode cL_law 272 = .ok (.if_icmp .eq 564, 3) := by decide +kernel
theorem dL_law_275 : decode cL_law 275 = .ok (.iconst 0, 1) := by decide +kernel
theorem dL_law_276 : decode cL_law 276 = .ok (.ireturn, 1) := by decide +kernel
theorem dL_law_277 : decode cL_law 277 = .ok (.aload_n 1, 1) := by decide +kernel
theorem dL_law_278 : decode cL_law 278 = .ok (.aload_n 0, 1) := by decide +kernel
theorem dL_law_279 : decode cL_law 279 = .ok (.iload_n 3, 1) := by decide +kernel
theorem dL_law_280 : decode cL_law 280 = .ok (.iconst 1, 1) := by decide +kernel
theorem dL_law_281 : decode cL_law 281 = .ok (.iadd, 1) := by decide +kernel
theorem dL_law_282 : decode cL_law 282 = .ok (.iaload, 1) := by decide +kernel
theorem dL_law_283 : decode cL_law 283 = .ok (.invokevirtual 37, 3) := by decide +kernel
theorem dL_law_286 : decode cL_law 286 = .ok (.aload_n 2, 1) := by decide +kernel
theorem dL_law_287 : decode cL_law 287 = .ok (.aload_n 0, 1) := by decide +kernel
theorem dL_law_288 : decode cL_law 288 = .ok (.iload_n 3, 1) := by decide +kernel
theorem dL_law_289 : decode cL_law 289 = .ok (.iconst 1, 1) := by decide +kernel
theorem dL_law_290 : decode cL_law 290 = .ok (.iadd, 1) := by decide +kernel
theorem dL_law_291 : decode cL_law 291 = .ok (.iaload, 1) := by decide +kernel
theorem dL_law_292 : decode cL_law 292 = .ok (.invokevirtual 40, 3) := by decide +kernel
theorem dL_law_295 : decode cL_law 295 = .ok (.if_icmp .eq 541, 3) := by decide +kernel
theorem dL_law_298 : decode cL_law 298 = .ok (.iconst 0, 1) := by decide +kernel
theorem dL_law_299 : decode cL_law 299 = .ok (.ireturn, 1) := by decide +kernel
theorem dL_law_300 : decode cL_law 300 = .ok (.aload_n 1, 1) := by decide +kernel
theorem dL_law_301 : decode cL_law 301 = .ok (.aload_n 0, 1) := by decide +kernel
theorem dL_law_302 : decode cL_law 302 = .ok (.iload_n 3, 1) := by decide +kernel
theorem dL_law_303 : decode cL_law 303 = .ok (.iconst 1, 1) := by decide +kernel
theorem dL_law_304 : decode cL_law 304 = .ok (.iadd, 1) := by decide +kernel
theorem dL_law_305 : decode cL_law 305 = .ok (.iaload, 1) := by decide +kernel
theorem dL_law_306 : decode cL_law 306 = .ok (.aload_n 0, 1) := by decide +kernel
theorem dL_law_307 : decode cL_law 307 = .ok (.iload_n 3, 1) := by decide +kernel
theorem dL_law_308 : decode cL_law 308 = .ok (.iconst 2, 1) := by decide +kernel
theorem dL_law_309 : decode cL_law 309 = .ok (.iadd, 1) := by decide +kernel
theorem dL_law_310 : decode cL_law 310 = .ok (.iaload, 1) := by decide +kernel
theorem dL_law_311 : decode cL_law 311 = .ok (.invokevirtual 41, 3) := by decide +kernel
theorem dL_law_314 : decode cL_law 314 = .ok (.aload_n 2, 1) := by decide +kernel
theorem dL_law_315 : decode cL_law 315 = .ok (.aload_n 0, 1) := by decide +kernel
theorem dL_law_316 : decode cL_law 316 = .ok (.iload_n 3, 1) := by decide +kernel
theorem dL_law_317 : decode cL_law 317 = .ok (.iconst 1, 1) := by decide +kernel
theorem dL_law_318 : decode cL_law 318 = .ok (.iadd, 1) := by decide +kernel
theorem dL_law_319 : decode cL_law 319 = .ok (.iaload, 1) := by decide +kernel
theorem dL_law_320 : decode cL_law 320 = .ok (.aload_n 0, 1) := by decide +kernel
theorem dL_law_321 : decode cL_law 321 = .ok (.iload_n 3, 1) := by decide +kernel
theorem dL_law_322 : decode cL_law 322 = .ok (.iconst 2, 1) := by decide +kernel
theorem dL_law_323 : decode cL_law 323 = .ok (.iadd, 1) := by decide +kernel
theorem dL_law_324 : decode cL_law 324 = .ok (.iaload, 1) := by decide +kernel
theorem dL_law_325 : decode cL_law 325 = .ok (.invokevirtual 44, 3) := by decide +kernel
theorem dL_law_328 : decode cL_law 328 = .ok (.if_icmp .eq 508, 3) := by decide +kernel
theorem dL_law_331 : decode cL_law 331 = .ok (.iconst 0, 1) := by decide +kernel
theorem dL_law_332 : decode cL_law 332 = .ok (.ireturn, 1) := by decide +kernel
theorem dL_law_333 : decode cL_law 333 = .ok (.aload_n 1, 1) := by decide +kernel
theorem dL_law_334 : decode cL_law 334 = .ok (.aload_n 0, 1) := by decide +kernel
theorem dL_law_335 : decode cL_law 335 = .ok (.iload_n 3, 1) := by decide +kernel
theorem dL_law_336 : decode cL_law 336 = .ok (.iconst 1, 1) := by decide +kernel
theorem dL_law_337 : decode cL_law 337 = .ok (.iadd, 1) := by decide +kernel
theorem dL_law_338 : decode cL_law 338 = .ok (.iaload, 1) := by decide +kernel
theorem dL_law_339 : decode cL_law 339 = .ok (.aload_n 0, 1) := by decide +kernel
theorem dL_law_340 : decode cL_law 340 = .ok (.iload_n 3, 1) := by decide +kernel
theorem dL_law_341 : decode cL_law 341 = .ok (.iconst 2, 1) := by decide +kernel
theorem dL_law_342 : decode cL_law 342 = .ok (.iadd, 1) := by decide +kernel
theorem dL_law_343 : decode cL_law 343 = .ok (.iaload, 1) := by decide +kernel
theorem dL_law_344 : decode cL_law 344 = .ok (.aload_n 0, 1) := by decide +kernel
theorem dL_law_345 : decode cL_law 345 = .ok (.iload_n 3, 1) := by decide +kernel
theorem dL_law_346 : decode cL_law 346 = .ok (.iconst 3, 1) := by decide +kernel
theorem dL_law_347 : decode cL_law 347 = .ok (.iadd, 1) := by decide +kernel
theorem dL_law_348 : decode cL_law 348 = .ok (.iaload, 1) := by decide +kernel
theorem dL_law_349 : decode cL_law 349 = .ok (.invokevirtual 45, 3) := by decide +kernel
theorem dL_law_352 : decode cL_law 352 = .ok (.aload_n 2, 1) := by decide +kernel
theorem dL_law_353 : decode cL_law 353 = .ok (.aload_n 0, 1) := by decide +kernel
theorem dL_law_354 : decode cL_law 354 = .ok (.iload_n 3, 1) := by decide +kernel
theorem dL_law_355 : decode cL_law 355 = .ok (.iconst 1, 1) := by decide +kernel
theorem dL_law_356 : decode cL_law 356 = .ok (.iadd, 1) := by decide +kernel
theorem dL_law_357 : decode cL_law 357 = .ok (.iaload, 1) := by decide +kernel
theorem dL_law_358 : decode cL_law 358 = .ok (.aload_n 0, 1) := by decide +kernel
theorem dL_law_359 : decode cL_law 359 = .ok (.iload_n 3, 1) := by decide +kernel
theorem dL_law_360 : decode cL_law 360 = .ok (.iconst 2, 1) := by decide +kernel
theorem dL_law_361 : decode cL_law 361 = .ok (.iadd, 1) := by decide +kernel
theorem dL_law_362 : decode cL_law 362 = .ok (.iaload, 1) := by decide +kernel
theorem dL_law_363 : decode cL_law 363 = .ok (.aload_n 0, 1) := by decide +kernel
theorem dL_law_364 : decode cL_law 364 = .ok (.iload_n 3, 1) := by decide +kernel
theorem dL_law_365 : decode cL_law 365 = .ok (.iconst 3, 1) := by decide +kernel
theorem dL_law_366 : decode cL_law 366 = .ok (.iadd, 1) := by decide +kernel
theorem dL_law_367 : decode cL_law 367 = .ok (.iaload, 1) := by decide +kernel
theorem dL_law_368 : decode cL_law 368 = .ok (.invokevirtual 49, 3) := by decide +kernel
theorem dL_law_371 : decode cL_law 371 = .ok (.if_icmp .eq 465, 3) := by decide +kernel
theorem dL_law_374 : decode cL_law 374 = .ok (.iconst 0, 1) := by decide +kernel
theorem dL_law_375 : decode cL_law 375 = .ok (.ireturn, 1) := by decide +kernel
theorem dL_law_376 : decode cL_law 376 = .ok (.aload_n 1, 1) := by decide +kernel
theorem dL_law_377 : decode cL_law 377 = .ok (.aload_n 0, 1) := by decide +kernel
theorem dL_law_378 : decode cL_law 378 = .ok (.iload_n 3, 1) := by decide +kernel
theorem dL_law_379 : decode cL_law 379 = .ok (.iconst 1, 1) := by decide +kernel
theorem dL_law_380 : decode cL_law 380 = .ok (.iadd, 1) := by decide +kernel
theorem dL_law_381 : decode cL_law 381 = .ok (.iaload, 1) := by decide +kernel
theorem dL_law_382 : decode cL_law 382 = .ok (.aload_n 0, 1) := by decide +kernel
theorem dL_law_383 : decode cL_law 383 = .ok (.iload_n 3, 1) := by decide +kernel
theorem dL_law_384 : decode cL_law 384 = .ok (.iconst 2, 1) := by decide +kernel
theorem dL_law_385 : decode cL_law 385 = .ok (.iadd, 1) := by decide +kernel
theorem dL_law_386 : decode cL_law 386 = .ok (.iaload, 1) := by decide +kernel
theorem dL_law_387 : decode cL_law 387 = .ok (.invokevirtual 50, 3) := by decide +kernel
theorem dL_law_390 : decode cL_law 390 = .ok (.aload_n 2, 1) := by decide +kernel
theorem dL_law_391 : decode cL_law 391 = .ok (.aload_n 0, 1) := by decide +kernel
theorem dL_law_392 : decode cL_law 392 = .ok (.iload_n 3, 1) := by decide +kernel
theorem dL_law_393 : decode cL_law 393 = .ok (.iconst 1, 1) := by decide +kernel
theorem dL_law_394 : decode cL_law 394 = .ok (.iadd, 1) := by decide +kernel
theorem dL_law_395 : decode cL_law 395 = .ok (.iaload, 1) := by decide +kernel
theorem dL_law_396 : decode cL_law 396 = .ok (.aload_n 0, 1) := by decide +kernel
theorem dL_law_397 : decode cL_law 397 = .ok (.iload_n 3, 1) := by decide +kernel
theorem dL_law_398 : decode cL_law 398 = .ok (.iconst 2, 1) := by decide +kernel
theorem dL_law_399 : decode cL_law 399 = .ok (.iadd, 1) := by decide +kernel
theorem dL_law_400 : decode cL_law 400 = .ok (.iaload, 1) := by decide +kernel
theorem dL_law_401 : decode cL_law 401 = .ok (.invokevirtual 53, 3) := by decide +kernel
theorem dL_law_404 : decode cL_law 404 = .ok (.if_icmp .eq 432, 3) := by decide +kernel
theorem dL_law_407 : decode cL_law 407 = .ok (.iconst 0, 1) := by decide +kernel
theorem dL_law_408 : decode cL_law 408 = .ok (.ireturn, 1) := by decide +kernel
theorem dL_law_409 : decode cL_law 409 = .ok (.aload_n 1, 1) := by decide +kernel
theorem dL_law_410 : decode cL_law 410 = .ok (.aload_n 0, 1) := by decide +kernel
theorem dL_law_411 : decode cL_law 411 = .ok (.iload_n 3, 1) := by decide +kernel
theorem dL_law_412 : decode cL_law 412 = .ok (.iconst 1, 1) := by decide +kernel
theorem dL_law_413 : decode cL_law 413 = .ok (.iadd, 1) := by decide +kernel
theorem dL_law_414 : decode cL_law 414 = .ok (.iaload, 1) := by decide +kernel
theorem dL_law_415 : decode cL_law 415 = .ok (.aload_n 0, 1) := by decide +kernel
theorem dL_law_416 : decode cL_law 416 = .ok (.iload_n 3, 1) := by decide +kernel
theorem dL_law_417 : decode cL_law 417 = .ok (.iconst 2, 1) := by decide +kernel
theorem dL_law_418 : decode cL_law 418 = .ok (.iadd, 1) := by decide +kernel
theorem dL_law_419 : decode cL_law 419 = .ok (.iaload, 1) := by decide +kernel
theorem dL_law_420 : decode cL_law 420 = .ok (.aload_n 0, 1) := by decide +kernel
theorem dL_law_421 : decode cL_law 421 = .ok (.iload_n 3, 1) := by decide +kernel
theorem dL_law_422 : decode cL_law 422 = .ok (.iconst 3, 1) := by decide +kernel
theorem dL_law_423 : decode cL_law 423 = .ok (.iadd, 1) := by decide +kernel
theorem dL_law_424 : decode cL_law 424 = .ok (.iaload, 1) := by decide +kernel
theorem dL_law_425 : decode cL_law 425 = .ok (.invokevirtual 54, 3) := by decide +kernel
theorem dL_law_428 : decode cL_law 428 = .ok (.aload_n 2, 1) := by decide +kernel
theorem dL_law_429 : decode cL_law 429 = .ok (.aload_n 0, 1) := by decide +kernel
theorem dL_law_430 : decode cL_law 430 = .ok (.iload_n 3, 1) := by decide +kernel
theorem dL_law_431 : decode cL_law 431 = .ok (.iconst 1, 1) := by decide +kernel
theorem dL_law_432 : decode cL_law 432 = .ok (.iadd, 1) := by decide +kernel
theorem dL_law_433 : decode cL_law 433 = .ok (.iaload, 1) := by decide +kernel
theorem dL_law_434 : decode cL_law 434 = .ok (.aload_n 0, 1) := by decide +kernel
theorem dL_law_435 : decode cL_law 435 = .ok (.iload_n 3, 1) := by decide +kernel
theorem dL_law_436 : decode cL_law 436 = .ok (.iconst 2, 1) := by decide +kernel
theorem dL_law_437 : decode cL_law 437 = .ok (.iadd, 1) := by decide +kernel
theorem dL_law_438 : decode cL_law 438 = .ok (.iaload, 1) := by decide +kernel
theorem dL_law_439 : decode cL_law 439 = .ok (.aload_n 0, 1) := by decide +kernel
theorem dL_law_440 : decode cL_law 440 = .ok (.iload_n 3, 1) := by decide +kernel
theorem dL_law_441 : decode cL_law 441 = .ok (.iconst 3, 1) := by decide +kernel
theorem dL_law_442 : decode cL_law 442 = .ok (.iadd, 1) := by decide +kernel
theorem dL_law_443 : decode cL_law 443 = .ok (.iaload, 1) := by decide +kernel
theorem dL_law_444 : decode cL_law 444 = .ok (.invokevirtual 57, 3) := by decide +kernel
theorem dL_law_447 : decode cL_law 447 = .ok (.if_icmp .eq 389, 3) := by decide +kernel
theorem dL_law_450 : decode cL_law 450 = .ok (.iconst 0, 1) := by decide +kernel
theorem dL_law_451 : decode cL_law 451 = .ok (.ireturn, 1) := by decide +kernel
theorem dL_law_452 : decode cL_law 452 = .ok (.aload_n 1, 1) := by decide +kernel
theorem dL_law_453 : decode cL_law 453 = .ok (.aload_n 0, 1) := by decide +kernel
theorem dL_law_454 : decode cL_law 454 = .ok (.iload_n 3, 1) := by decide +kernel
theorem dL_law_455 : decode cL_law 455 = .ok (.iconst 1, 1) := by decide +kernel
theorem dL_law_456 : decode cL_law 456 = .ok (.iadd, 1) := by decide +kernel
theorem dL_law_457 : decode cL_law 457 = .ok (.iaload, 1) := by decide +kernel
theorem dL_law_458 : decode cL_law 458 = .ok (.aload_n 0, 1) := by decide +kernel
theorem dL_law_459 : decode cL_law 459 = .ok (.iload_n 3, 1) := by decide +kernel
theorem dL_law_460 : decode cL_law 460 = .ok (.iconst 2, 1) := by decide +kernel
theorem dL_law_461 : decode cL_law 461 = .ok (.iadd, 1) := by decide +kernel
theorem dL_law_462 : decode cL_law 462 = .ok (.iaload, 1) := by decide +kernel
theorem dL_law_463 : decode cL_law 463 = .ok (.aload_n 0, 1) := by decide +kernel
theorem dL_law_464 : decode cL_law 464 = .ok (.iload_n 3, 1) := by decide +kernel
theorem dL_law_465 : decode cL_law 465 = .ok (.iconst 3, 1) := by decide +kernel
theorem dL_law_466 : decode cL_law 466 = .ok (.iadd, 1) := by decide +kernel
theorem dL_law_467 : decode cL_law 467 = .ok (.iaload, 1) := by decide +kernel
theorem dL_law_468 : decode cL_law 468 = .ok (.aload_n 0, 1) := by decide +kernel
theorem dL_law_469 : decode cL_law 469 = .ok (.iload_n 3, 1) := by decide +kernel
theorem dL_law_470 : decode cL_law 470 = .ok (.iconst 4, 1) := by decide +kernel
theorem dL_law_471 : decode cL_law 471 = .ok (.iadd, 1) := by decide +kernel
theorem dL_law_472 : decode cL_law 472 = .ok (.iaload, 1) := by decide +kernel
theorem dL_law_473 : decode cL_law 473 = .ok (.invokevirtual 58, 3) := by decide +kernel
theorem dL_law_476 : decode cL_law 476 = .ok (.aload_n 2, 1) := by decide +kernel
theorem dL_law_477 : decode cL_law 477 = .ok (.aload_n 0, 1) := by decide +kernel
theorem dL_law_478 : decode cL_law 478 = .ok (.iload_n 3, 1) := by decide +kernel
theorem dL_law_479 : decode cL_law 479 = .ok (.iconst 1, 1) := by decide +kernel
theorem dL_law_480 : decode cL_law 480 = .ok (.iadd, 1) := by decide +kernel
theorem dL_law_481 : decode cL_law 481 = .ok (.iaload, 1) := by decide +kernel
theorem dL_law_482 : decode cL_law 482 = .ok (.aload_n 0, 1) := by decide +kernel
theorem dL_law_483 : decode cL_law 483 = .ok (.iload_n 3, 1) := by decide +kernel
theorem dL_law_484 : decode cL_law 484 = .ok (.iconst 2, 1) := by decide +kernel
theorem dL_law_485 : decode cL_law 485 = .ok (.iadd, 1) := by decide +kernel
theorem dL_law_486 : decode cL_law 486 = .ok (.iaload, 1) := by decide +kernel
theorem dL_law_487 : decode cL_law 487 = .ok (.aload_n 0, 1) := by decide +kernel
theorem dL_law_488 : decode cL_law 488 = .ok (.iload_n 3, 1) := by decide +kernel
theorem dL_law_489 : decode cL_law 489 = .ok (.iconst 3, 1) := by decide +kernel
theorem dL_law_490 : decode cL_law 490 = .ok (.iadd, 1) := by decide +kernel
theorem dL_law_491 : decode cL_law 491 = .ok (.iaload, 1) := by decide +kernel
theorem dL_law_492 : decode cL_law 492 = .ok (.aload_n 0, 1) := by decide +kernel
theorem dL_law_493 : decode cL_law 493 = .ok (.iload_n 3, 1) := by decide +kernel
theorem dL_law_494 : decode cL_law 494 = .ok (.iconst 4, 1) := by decide +kernel
theorem dL_law_495 : decode cL_law 495 = .ok (.iadd, 1) := by decide +kernel
theorem dL_law_496 : decode cL_law 496 = .ok (.iaload, 1) := by decide +kernel
theorem dL_law_497 : decode cL_law 497 = .ok (.invokevirtual 61, 3) := by decide +kernel
theorem dL_law_500 : decode cL_law 500 = .ok (.if_icmp .eq 336, 3) := by decide +kernel
theorem dL_law_503 : decode cL_law 503 = .ok (.iconst 0, 1) := by decide +kernel
theorem dL_law_504 : decode cL_law 504 = .ok (.ireturn, 1) := by decide +kernel
theorem dL_law_505 : decode cL_law 505 = .ok (.aload_n 1, 1) := by decide +kernel
theorem dL_law_506 : decode cL_law 506 = .ok (.aload_n 0, 1) := by decide +kernel
theorem dL_law_507 : decode cL_law 507 = .ok (.iload_n 3, 1) := by decide +kernel
theorem dL_law_508 : decode cL_law 508 = .ok (.iconst 1, 1) := by decide +kernel
theorem dL_law_509 : decode cL_law 509 = .ok (.iadd, 1) := by decide +kernel
theorem dL_law_510 : decode cL_law 510 = .ok (.iaload, 1) := by decide +kernel
theorem dL_law_511 : decode cL_law 511 = .ok (.aload_n 0, 1) := by decide +kernel
theorem dL_law_512 : decode cL_law 512 = .ok (.iload_n 3, 1) := by decide +kernel
theorem dL_law_513 : decode cL_law 513 = .ok (.iconst 2, 1) := by decide +kernel
theorem dL_law_514 : decode cL_law 514 = .ok (.iadd, 1) := by decide +kernel
theorem dL_law_515 : decode cL_law 515 = .ok (.iaload, 1) := by decide +kernel
theorem dL_law_516 : decode cL_law 516 = .ok (.invokevirtual 62, 3) := by decide +kernel
theorem dL_law_519 : decode cL_law 519 = .ok (.aload_n 2, 1) := by decide +kernel
theorem dL_law_520 : decode cL_law 520 = .ok (.aload_n 0, 1) := by decide +kernel
theorem dL_law_521 : decode cL_law 521 = .ok (.iload_n 3, 1) := by decide +kernel
theorem dL_law_522 : decode cL_law 522 = .ok (.iconst 1, 1) := by decide +kernel
theorem dL_law_523 : decode cL_law 523 = .ok (.iadd, 1) := by decide +kernel
theorem dL_law_524 : decode cL_law 524 = .ok (.iaload, 1) := by decide +kernel
theorem dL_law_525 : decode cL_law 525 = .ok (.aload_n 0, 1) := by decide +kernel
theorem dL_law_526 : decode cL_law 526 = .ok (.iload_n 3, 1) := by decide +kernel
theorem dL_law_527 : decode cL_law 527 = .ok (.iconst 2, 1) := by decide +kernel
theorem dL_law_528 : decode cL_law 528 = .ok (.iadd, 1) := by decide +kernel
theorem dL_law_529 : decode cL_law 529 = .ok (.iaload, 1) := by decide +kernel
theorem dL_law_530 : decode cL_law 530 = .ok (.invokevirtual 65, 3) := by decide +kernel
theorem dL_law_533 : decode cL_law 533 = .ok (.if_icmp .eq 303, 3) := by decide +kernel
theorem dL_law_536 : decode cL_law 536 = .ok (.iconst 0, 1) := by decide +kernel
theorem dL_law_537 : decode cL_law 537 = .ok (.ireturn, 1) := by decide +kernel
theorem dL_law_538 : decode cL_law 538 = .ok (.aload_n 1, 1) := by decide +kernel
theorem dL_law_539 : decode cL_law 539 = .ok (.aload_n 0, 1) := by decide +kernel
theorem dL_law_540 : decode cL_law 540 = .ok (.iload_n 3, 1) := by decide +kernel
theorem dL_law_541 : decode cL_law 541 = .ok (.iconst 1, 1) := by decide +kernel
theorem dL_law_542 : decode cL_law 542 = .ok (.iadd, 1) := by decide +kernel
theorem dL_law_543 : decode cL_law 543 = .ok (.iaload, 1) := by decide +kernel
theorem dL_law_544 : decode cL_law 544 = .ok (.aload_n 0, 1) := by decide +kernel
theorem dL_law_545 : decode cL_law 545 = .ok (.iload_n 3, 1) := by decide +kernel
theorem dL_law_546 : decode cL_law 546 = .ok (.iconst 2, 1) := by decide +kernel
theorem dL_law_547 : decode cL_law 547 = .ok (.iadd, 1) := by decide +kernel
theorem dL_law_548 : decode cL_law 548 = .ok (.iaload, 1) := by decide +kernel
theorem dL_law_549 : decode cL_law 549 = .ok (.invokevirtual 66, 3) := by decide +kernel
theorem dL_law_552 : decode cL_law 552 = .ok (.aload_n 2, 1) := by decide +kernel
theorem dL_law_553 : decode cL_law 553 = .ok (.aload_n 0, 1) := by decide +kernel
theorem dL_law_554 : decode cL_law 554 = .ok (.iload_n 3, 1) := by decide +kernel
theorem dL_law_555 : decode cL_law 555 = .ok (.iconst 1, 1) := by decide +kernel
theorem dL_law_556 : decode cL_law 556 = .ok (.iadd, 1) := by decide +kernel
theorem dL_law_557 : decode cL_law 557 = .ok (.iaload, 1) := by decide +kernel
theorem dL_law_558 : decode cL_law 558 = .ok (.aload_n 0, 1) := by decide +kernel
theorem dL_law_559 : decode cL_law 559 = .ok (.iload_n 3, 1) := by decide +kernel
theorem dL_law_560 : decode cL_law 560 = .ok (.iconst 2, 1) := by decide +kernel
theorem dL_law_561 : decode cL_law 561 = .ok (.iadd, 1) := by decide +kernel
theorem dL_law_562 : decode cL_law 562 = .ok (.iaload, 1) := by decide +kernel
theorem dL_law_563 : decode cL_law 563 = .ok (.invokevirtual 69, 3) := by decide +kernel
theorem dL_law_566 : decode cL_law 566 = .ok (.if_icmp .eq 270, 3) := by decide +kernel
theorem dL_law_569 : decode cL_law 569 = .ok (.iconst 0, 1) := by decide +kernel
theorem dL_law_570 : decode cL_law 570 = .ok (.ireturn, 1) := by decide +kernel
theorem dL_law_571 : decode cL_law 571 = .ok (.aload_n 1, 1) := by decide +kernel
theorem dL_law_572 : decode cL_law 572 = .ok (.aload_n 0, 1) := by decide +kernel
theorem dL_law_573 : decode cL_law 573 = .ok (.iload_n 3, 1) := by decide +kernel
theorem dL_law_574 : decode cL_law 574 = .ok (.iconst 1, 1) := by decide +kernel
theorem dL_law_575 : decode cL_law 575 = .ok (.iadd, 1) := by decide +kernel
theorem dL_law_576 : decode cL_law 576 = .ok (.iaload, 1) := by decide +kernel
theorem dL_law_577 : decode cL_law 577 = .ok (.aload_n 0, 1) := by decide +kernel
theorem dL_law_578 : decode cL_law 578 = .ok (.iload_n 3, 1) := by decide +kernel
theorem dL_law_579 : decode cL_law 579 = .ok (.iconst 2, 1) := by decide +kernel
theorem dL_law_580 : decode cL_law 580 = .ok (.iadd, 1) := by decide +kernel
theorem dL_law_581 : decode cL_law 581 = .ok (.iaload, 1) := by decide +kernel
theorem dL_law_582 : decode cL_law 582 = .ok (.aload_n 0, 1) := by decide +kernel
theorem dL_law_583 : decode cL_law 583 = .ok (.iload_n 3, 1) := by decide +kernel
theorem dL_law_584 : decode cL_law 584 = .ok (.iconst 3, 1) := by decide +kernel
theorem dL_law_585 : decode cL_law 585 = .ok (.iadd, 1) := by decide +kernel
theorem dL_law_586 : decode cL_law 586 = .ok (.iaload, 1) := by decide +kernel
theorem dL_law_587 : decode cL_law 587 = .ok (.invokevirtual 70, 3) := by decide +kernel
theorem dL_law_590 : decode cL_law 590 = .ok (.aload_n 2, 1) := by decide +kernel
theorem dL_law_591 : decode cL_law 591 = .ok (.aload_n 0, 1) := by decide +kernel
theorem dL_law_592 : decode cL_law 592 = .ok (.iload_n 3, 1) := by decide +kernel
theorem dL_law_593 : decode cL_law 593 = .ok (.iconst 1, 1) := by decide +kernel
theorem dL_law_594 : decode cL_law 594 = .ok (.iadd, 1) := by decide +kernel
theorem dL_law_595 : decode cL_law 595 = .ok (.iaload, 1) := by decide +kernel
theorem dL_law_596 : decode cL_law 596 = .ok (.aload_n 0, 1) := by decide +kernel
theorem dL_law_597 : decode cL_law 597 = .ok (.iload_n 3, 1) := by decide +kernel
theorem dL_law_598 : decode cL_law 598 = .ok (.iconst 2, 1) := by decide +kernel
theorem dL_law_599 : decode cL_law 599 = .ok (.iadd, 1) := by decide +kernel
theorem dL_law_600 : decode cL_law 600 = .ok (.iaload, 1) := by decide +kernel
theorem dL_law_601 : decode cL_law 601 = .ok (.aload_n 0, 1) := by decide +kernel
theorem dL_law_602 : decode cL_law 602 = .ok (.iload_n 3, 1) := by decide +kernel
theorem dL_law_603 : decode cL_law 603 = .ok (.iconst 3, 1) := by decide +kernel
theorem dL_law_604 : decode cL_law 604 = .ok (.iadd, 1) := by decide +kernel
theorem dL_law_605 : decode cL_law 605 = .ok (.iaload, 1) := by decide +kernel
theorem dL_law_606 : decode cL_law 606 = .ok (.invokevirtual 73, 3) := by decide +kernel
theorem dL_law_609 : decode cL_law 609 = .ok (.if_icmp .eq 227, 3) := by decide +kernel
theorem dL_law_612 : decode cL_law 612 = .ok (.iconst 0, 1) := by decide +kernel
theorem dL_law_613 : decode cL_law 613 = .ok (.ireturn, 1) := by decide +kernel
theorem dL_law_614 : decode cL_law 614 = .ok (.aload_n 1, 1) := by decide +kernel
theorem dL_law_615 : decode cL_law 615 = .ok (.aload_n 0, 1) := by decide +kernel
theorem dL_law_616 : decode cL_law 616 = .ok (.iload_n 3, 1) := by decide +kernel
theorem dL_law_617 : decode cL_law 617 = .ok (.iconst 1, 1) := by decide +kernel
theorem dL_law_618 : decode cL_law 618 = .ok (.iadd, 1) := by decide +kernel
theorem dL_law_619 : decode cL_law 619 = .ok (.iaload, 1) := by decide +kernel
theorem dL_law_620 : decode cL_law 620 = .ok (.aload_n 0, 1) := by decide +kernel
theorem dL_law_621 : decode cL_law 621 = .ok (.iload_n 3, 1) := by decide +kernel
theorem dL_law_622 : decode cL_law 622 = .ok (.iconst 2, 1) := by decide +kernel
theorem dL_law_623 : decode cL_law 623 = .ok (.iadd, 1) := by decide +kernel
theorem dL_law_624 : decode cL_law 624 = .ok (.iaload, 1) := by decide +kernel
theorem dL_law_625 : decode cL_law 625 = .ok (.aload_n 0, 1) := by decide +kernel
theorem dL_law_626 : decode cL_law 626 = .ok (.iload_n 3, 1) := by decide +kernel
theorem dL_law_627 : decode cL_law 627 = .ok (.iconst 3, 1) := by decide +kernel
theorem dL_law_628 : decode cL_law 628 = .ok (.iadd, 1) := by decide +kernel
theorem dL_law_629 : decode cL_law 629 = .ok (.iaload, 1) := by decide +kernel
theorem dL_law_630 : decode cL_law 630 = .ok (.invokevirtual 74, 3) := by decide +kernel
theorem dL_law_633 : decode cL_law 633 = .ok (.aload_n 2, 1) := by decide +kernel
theorem dL_law_634 : decode cL_law 634 = .ok (.aload_n 0, 1) := by decide +kernel
theorem dL_law_635 : decode cL_law 635 = .ok (.iload_n 3, 1) := by decide +kernel
theorem dL_law_636 : decode cL_law 636 = .ok (.iconst 1, 1) := by decide +kernel
theorem dL_law_637 : decode cL_law 637 = .ok (.iadd, 1) := by decide +kernel
theorem dL_law_638 : decode cL_law 638 = .ok (.iaload, 1) := by decide +kernel
theorem dL_law_639 : decode cL_law 639 = .ok (.aload_n 0, 1) := by decide +kernel
theorem dL_law_640 : decode cL_law 640 = .ok (.iload_n 3, 1) := by decide +kernel
theorem dL_law_641 : decode cL_law 641 = .ok (.iconst 2, 1) := by decide +kernel
theorem dL_law_642 : decode cL_law 642 = .ok (.iadd, 1) := by decide +kernel
theorem dL_law_643 : decode cL_law 643 = .ok (.iaload, 1) := by decide +kernel
theorem dL_law_644 : decode cL_law 644 = .ok (.aload_n 0, 1) := by decide +kernel
theorem dL_law_645 : decode cL_law 645 = .ok (.iload_n 3, 1) := by decide +kernel
theorem dL_law_646 : decode cL_law 646 = .ok (.iconst 3, 1) := by decide +kernel
theorem dL_law_647 : decode cL_law 647 = .ok (.iadd, 1) := by decide +kernel
theorem dL_law_648 : decode cL_law 648 = .ok (.iaload, 1) := by decide +kernel
theorem dL_law_649 : decode cL_law 649 = .ok (.invokevirtual 77, 3) := by decide +kernel
theorem dL_law_652 : decode cL_law 652 = .ok (.if_icmp .eq 184, 3) := by decide +kernel
theorem dL_law_655 : decode cL_law 655 = .ok (.iconst 0, 1) := by decide +kernel
theorem dL_law_656 : decode cL_law 656 = .ok (.ireturn, 1) := by decide +kernel
theorem dL_law_657 : decode cL_law 657 = .ok (.aload_n 1, 1) := by decide +kernel
theorem dL_law_658 : decode cL_law 658 = .ok (.aload_n 0, 1) := by decide +kernel
theorem dL_law_659 : decode cL_law 659 = .ok (.iload_n 3, 1) := by decide +kernel
theorem dL_law_660 : decode cL_law 660 = .ok (.iconst 1, 1) := by decide +kernel
theorem dL_law_661 : decode cL_law 661 = .ok (.iadd, 1) := by decide +kernel
theorem dL_law_662 : decode cL_law 662 = .ok (.iaload, 1) := by decide +kernel
theorem dL_law_663 : decode cL_law 663 = .ok (.aload_n 0, 1) := by decide +kernel
theorem dL_law_664 : decode cL_law 664 = .ok (.iload_n 3, 1) := by decide +kernel
theorem dL_law_665 : decode cL_law 665 = .ok (.iconst 2, 1) := by decide +kernel
theorem dL_law_666 : decode cL_law 666 = .ok (.iadd, 1) := by decide +kernel
theorem dL_law_667 : decode cL_law 667 = .ok (.iaload, 1) := by decide +kernel
theorem dL_law_668 : decode cL_law 668 = .ok (.invokevirtual 78, 3) := by decide +kernel
theorem dL_law_671 : decode cL_law 671 = .ok (.aload_n 2, 1) := by decide +kernel
theorem dL_law_672 : decode cL_law 672 = .ok (.aload_n 0, 1) := by decide +kernel
theorem dL_law_673 : decode cL_law 673 = .ok (.iload_n 3, 1) := by decide +kernel
theorem dL_law_674 : decode cL_law 674 = .ok (.iconst 1, 1) := by decide +kernel
theorem dL_law_675 : decode cL_law 675 = .ok (.iadd, 1) := by decide +kernel
theorem dL_law_676 : decode cL_law 676 = .ok (.iaload, 1) := by decide +kernel
theorem dL_law_677 : decode cL_law 677 = .ok (.aload_n 0, 1) := by decide +kernel
theorem dL_law_678 : decode cL_law 678 = .ok (.iload_n 3, 1) := by decide +kernel
theorem dL_law_679 : decode cL_law 679 = .ok (.iconst 2, 1) := by decide +kernel
theorem dL_law_680 : decode cL_law 680 = .ok (.iadd, 1) := by decide +kernel
theorem dL_law_681 : decode cL_law 681 = .ok (.iaload, 1) := by decide +kernel
theorem dL_law_682 : decode cL_law 682 = .ok (.invokevirtual 81, 3) := by decide +kernel
theorem dL_law_685 : decode cL_law 685 = .ok (.if_icmp .eq 151, 3) := by decide +kernel
theorem dL_law_688 : decode cL_law 688 = .ok (.iconst 0, 1) := by decide +kernel
theorem dL_law_689 : decode cL_law 689 = .ok (.ireturn, 1) := by decide +kernel
theorem dL_law_690 : decode cL_law 690 = .ok (.aload_n 1, 1) := by decide +kernel
theorem dL_law_691 : decode cL_law 691 = .ok (.aload_n 0, 1) := by decide +kernel
theorem dL_law_692 : decode cL_law 692 = .ok (.iload_n 3, 1) := by decide +kernel
theorem dL_law_693 : decode cL_law 693 = .ok (.iconst 1, 1) := by decide +kernel
theorem dL_law_694 : decode cL_law 694 = .ok (.iadd, 1) := by decide +kernel
theorem dL_law_695 : decode cL_law 695 = .ok (.iaload, 1) := by decide +kernel
theorem dL_law_696 : decode cL_law 696 = .ok (.aload_n 0, 1) := by decide +kernel
theorem dL_law_697 : decode cL_law 697 = .ok (.iload_n 3, 1) := by decide +kernel
theorem dL_law_698 : decode cL_law 698 = .ok (.iconst 2, 1) := by decide +kernel
theorem dL_law_699 : decode cL_law 699 = .ok (.iadd, 1) := by decide +kernel
theorem dL_law_700 : decode cL_law 700 = .ok (.iaload, 1) := by decide +kernel
theorem dL_law_701 : decode cL_law 701 = .ok (.invokevirtual 82, 3) := by decide +kernel
theorem dL_law_704 : decode cL_law 704 = .ok (.aload_n 2, 1) := by decide +kernel
theorem dL_law_705 : decode cL_law 705 = .ok (.aload_n 0, 1) := by decide +kernel
theorem dL_law_706 : decode cL_law 706 = .ok (.iload_n 3, 1) := by decide +kernel
theorem dL_law_707 : decode cL_law 707 = .ok (.iconst 1, 1) := by decide +kernel
theorem dL_law_708 : decode cL_law 708 = .ok (.iadd, 1) := by decide +kernel
theorem dL_law_709 : decode cL_law 709 = .ok (.iaload, 1) := by decide +kernel
theorem dL_law_710 : decode cL_law 710 = .ok (.aload_n 0, 1) := by decide +kernel
theorem dL_law_711 : decode cL_law 711 = .ok (.iload_n 3, 1) := by decide +kernel
theorem dL_law_712 : decode cL_law 712 = .ok (.iconst 2, 1) := by decide +kernel
theorem dL_law_713 : decode cL_law 713 = .ok (.iadd, 1) := by decide +kernel
theorem dL_law_714 : decode cL_law 714 = .ok (.iaload, 1) := by decide +kernel
theorem dL_law_715 : decode cL_law 715 = .ok (.invokevirtual 85, 3) := by decide +kernel
theorem dL_law_718 : decode cL_law 718 = .ok (.if_icmp .eq 118, 3) := by decide +kernel
theorem dL_law_721 : decode cL_law 721 = .ok (.iconst 0, 1) := by decide +kernel
theorem dL_law_722 : decode cL_law 722 = .ok (.ireturn, 1) := by decide +kernel
theorem dL_law_723 : decode cL_law 723 = .ok (.aload_n 1, 1) := by decide +kernel
theorem dL_law_724 : decode cL_law 724 = .ok (.aload_n 0, 1) := by decide +kernel
theorem dL_law_725 : decode cL_law 725 = .ok (.iload_n 3, 1) := by decide +kernel
theorem dL_law_726 : decode cL_law 726 = .ok (.iconst 1, 1) := by decide +kernel
theorem dL_law_727 : decode cL_law 727 = .ok (.iadd, 1) := by decide +kernel
theorem dL_law_728 : decode cL_law 728 = .ok (.iaload, 1) := by decide +kernel
theorem dL_law_729 : decode cL_law 729 = .ok (.aload_n 0, 1) := by decide +kernel
theorem dL_law_730 : decode cL_law 730 = .ok (.iload_n 3, 1) := by decide +kernel
theorem dL_law_731 : decode cL_law 731 = .ok (.iconst 2, 1) := by decide +kernel
theorem dL_law_732 : decode cL_law 732 = .ok (.iadd, 1) := by decide +kernel
theorem dL_law_733 : decode cL_law 733 = .ok (.iaload, 1) := by decide +kernel
theorem dL_law_734 : decode cL_law 734 = .ok (.aload_n 0, 1) := by decide +kernel
theorem dL_law_735 : decode cL_law 735 = .ok (.iload_n 3, 1) := by decide +kernel
theorem dL_law_736 : decode cL_law 736 = .ok (.iconst 3, 1) := by decide +kernel
theorem dL_law_737 : decode cL_law 737 = .ok (.iadd, 1) := by decide +kernel
theorem dL_law_738 : decode cL_law 738 = .ok (.iaload, 1) := by decide +kernel
theorem dL_law_739 : decode cL_law 739 = .ok (.invokevirtual 86, 3) := by decide +kernel
theorem dL_law_742 : decode cL_law 742 = .ok (.aload_n 2, 1) := by decide +kernel
theorem dL_law_743 : decode cL_law 743 = .ok (.aload_n 0, 1) := by decide +kernel
theorem dL_law_744 : decode cL_law 744 = .ok (.iload_n 3, 1) := by decide +kernel
theorem dL_law_745 : decode cL_law 745 = .ok (.iconst 1, 1) := by decide +kernel
theorem dL_law_746 : decode cL_law 746 = .ok (.iadd, 1) := by decide +kernel
theorem dL_law_747 : decode cL_law 747 = .ok (.iaload, 1) := by decide +kernel
theorem dL_law_748 : decode cL_law 748 = .ok (.aload_n 0, 1) := by decide +kernel
theorem dL_law_749 : decode cL_law 749 = .ok (.iload_n 3, 1) := by decide +kernel
theorem dL_law_750 : decode cL_law 750 = .ok (.iconst 2, 1) := by decide +kernel
theorem dL_law_751 : decode cL_law 751 = .ok (.iadd, 1) := by decide +kernel
theorem dL_law_752 : decode cL_law 752 = .ok (.iaload, 1) := by decide +kernel
theorem dL_law_753 : decode cL_law 753 = .ok (.aload_n 0, 1) := by decide +kernel
theorem dL_law_754 : decode cL_law 754 = .ok (.iload_n 3, 1) := by decide +kernel
theorem dL_law_755 : decode cL_law 755 = .ok (.iconst 3, 1) := by decide +kernel
theorem dL_law_756 : decode cL_law 756 = .ok (.iadd, 1) := by decide +kernel
theorem dL_law_757 : decode cL_law 757 = .ok (.iaload, 1) := by decide +kernel
theorem dL_law_758 : decode cL_law 758 = .ok (.invokevirtual 90, 3) := by decide +kernel
theorem dL_law_761 : decode cL_law 761 = .ok (.lcmp, 1) := by decide +kernel
theorem dL_law_762 : decode cL_law 762 = .ok (.ifCond .eq 74, 3) := by decide +kernel
theorem dL_law_765 : decode cL_law 765 = .ok (.iconst 0, 1) := by decide +kernel
theorem dL_law_766 : decode cL_law 766 = .ok (.ireturn, 1) := by decide +kernel
theorem dL_law_767 : decode cL_law 767 = .ok (.aload_n 1, 1) := by decide +kernel
theorem dL_law_768 : decode cL_law 768 = .ok (.aload_n 0, 1) := by decide +kernel
theorem dL_law_769 : decode cL_law 769 = .ok (.iload_n 3, 1) := by decide +kernel
theorem dL_law_770 : decode cL_law 770 = .ok (.iconst 1, 1) := by decide +kernel
theorem dL_law_771 : decode cL_law 771 = .ok (.iadd, 1) := by decide +kernel
theorem dL_law_772 : decode cL_law 772 = .ok (.iaload, 1) := by decide +kernel
theorem dL_law_773 : decode cL_law 773 = .ok (.invokevirtual 91, 3) := by decide +kernel
theorem dL_law_776 : decode cL_law 776 = .ok (.aload_n 2, 1) := by decide +kernel
theorem dL_law_777 : decode cL_law 777 = .ok (.aload_n 0, 1) := by decide +kernel
theorem dL_law_778 : decode cL_law 778 = .ok (.iload_n 3, 1) := by decide +kernel
theorem dL_law_779 : decode cL_law 779 = .ok (.iconst 1, 1) := by decide +kernel
theorem dL_law_780 : decode cL_law 780 = .ok (.iadd, 1) := by decide +kernel
theorem dL_law_781 : decode cL_law 781 = .ok (.iaload, 1) := by decide +kernel
theorem dL_law_782 : decode cL_law 782 = .ok (.invokevirtual 94, 3) := by decide +kernel
theorem dL_law_785 : decode cL_law 785 = .ok (.if_icmp .eq 51, 3) := by decide +kernel
theorem dL_law_788 : decode cL_law 788 = .ok (.iconst 0, 1) := by decide +kernel
theorem dL_law_789 : decode cL_law 789 = .ok (.ireturn, 1) := by decide +kernel
theorem dL_law_790 : decode cL_law 790 = .ok (.aload_n 1, 1) := by decide +kernel
theorem dL_law_791 : decode cL_law 791 = .ok (.aload_n 0, 1) := by decide +kernel
theorem dL_law_792 : decode cL_law 792 = .ok (.iload_n 3, 1) := by decide +kernel
theorem dL_law_793 : decode cL_law 793 = .ok (.iconst 1, 1) := by decide +kernel
theorem dL_law_794 : decode cL_law 794 = .ok (.iadd, 1) := by decide +kernel
theorem dL_law_795 : decode cL_law 795 = .ok (.iaload, 1) := by decide +kernel
theorem dL_law_796 : decode cL_law 796 = .ok (.invokevirtual 95, 3) := by decide +kernel
theorem dL_law_799 : decode cL_law 799 = .ok (.aload_n 2, 1) := by decide +kernel
theorem dL_law_800 : decode cL_law 800 = .ok (.aload_n 0, 1) := by decide +kernel
theorem dL_law_801 : decode cL_law 801 = .ok (.iload_n 3, 1) := by decide +kernel
theorem dL_law_802 : decode cL_law 802 = .ok (.iconst 1, 1) := by decide +kernel
theorem dL_law_803 : decode cL_law 803 = .ok (.iadd, 1) := by decide +kernel
theorem dL_law_804 : decode cL_law 804 = .ok (.iaload, 1) := by decide +kernel
theorem dL_law_805 : decode cL_law 805 = .ok (.invokevirtual 98, 3) := by decide +kernel
theorem dL_law_808 : decode cL_law 808 = .ok (.if_icmp .eq 28, 3) := by decide +kernel
theorem dL_law_811 : decode cL_law 811 = .ok (.iconst 0, 1) := by decide +kernel
theorem dL_law_812 : decode cL_law 812 = .ok (.ireturn, 1) := by decide +kernel
theorem dL_law_813 : decode cL_law 813 = .ok (.aload_n 1, 1) := by decide +kernel
theorem dL_law_814 : decode cL_law 814 = .ok (.aload_n 0, 1) := by decide +kernel
theorem dL_law_815 : decode cL_law 815 = .ok (.iload_n 3, 1) := by decide +kernel
theorem dL_law_816 : decode cL_law 816 = .ok (.iconst 1, 1) := by decide +kernel
theorem dL_law_817 : decode cL_law 817 = .ok (.iadd, 1) := by decide +kernel
theorem dL_law_818 : decode cL_law 818 = .ok (.iaload, 1) := by decide +kernel
theorem dL_law_819 : decode cL_law 819 = .ok (.invokevirtual 99, 3) := by decide +kernel
theorem dL_law_822 : decode cL_law 822 = .ok (.aload_n 2, 1) := by decide +kernel
theorem dL_law_823 : decode cL_law 823 = .ok (.aload_n 0, 1) := by decide +kernel
theorem dL_law_824 : decode cL_law 824 = .ok (.iload_n 3, 1) := by decide +kernel
theorem dL_law_825 : decode cL_law 825 = .ok (.iconst 1, 1) := by decide +kernel
theorem dL_law_826 : decode cL_law 826 = .ok (.iadd, 1) := by decide +kernel
theorem dL_law_827 : decode cL_law 827 = .ok (.iaload, 1) := by decide +kernel
theorem dL_law_828 : decode cL_law 828 = .ok (.invokevirtual 102, 3) := by decide +kernel
theorem dL_law_831 : decode cL_law 831 = .ok (.if_icmp .eq 5, 3) := by decide +kernel
theorem dL_law_834 : decode cL_law 834 = .ok (.iconst 0, 1) := by decide +kernel
theorem dL_law_835 : decode cL_law 835 = .ok (.ireturn, 1) := by decide +kernel
theorem dL_law_836 : decode cL_law 836 = .ok (.iinc 3 5, 3) := by decide +kernel
theorem dL_law_839 : decode cL_law 839 = .ok (.goto (-821), 3) := by decide +kernel
theorem dL_law_842 : decode cL_law 842 = .ok (.iconst 1, 1) := by decide +kernel
theorem dL_law_843 : decode cL_law 843 = .ok (.ireturn, 1) := by decide +kernel
abbrev vwCl : List vw_C := [(RX0, TX0, 2), (RX1, TX1, 2), (RX2, TX2, 1), (RX3, TX3, 2), (RX4, TX4, 5), (RX5, TX5, 8), (RX6, TX6, 13)]
end
