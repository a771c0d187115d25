section
-- ===== PART A: goes FIRST, ahead of the names: the tables' words, and 'selects' of the private methods out of them =====
/-- a private method of a class that the tables say can be made, by its rows of tables_1 -/
def lw_okq (q : MethodName × Nat) : Prop := (q.1.cls ≠ "java/lang/invoke/MethodHandle" ∧ q.1.cls ≠ "java/lang/invoke/VarHandle") ∧ Cond.instantiable q.1.cls q.2 ∈ tables_1 ∧ Cond.privateMethod q.1 ∈ tables_1 ∧ Cond.instanceMethod q.1 ∈ tables_1
theorem lw_p0 : lw_okq (⟨"RankShelf", "findingOfGrown", "(I)I"⟩, 11) := ⟨⟨by decide +kernel, by decide +kernel⟩, List.mem_of_getElem? (i := 9) (by decide +kernel), List.mem_of_getElem? (i := 140) (by decide +kernel), List.mem_of_getElem? (i := 141) (by decide +kernel)⟩
theorem lw_p1 : lw_okq (⟨"RankShelf", "findingOfPlace", "(I)I"⟩, 11) := ⟨⟨by decide +kernel, by decide +kernel⟩, List.mem_of_getElem? (i := 9) (by decide +kernel), List.mem_of_getElem? (i := 144) (by decide +kernel), List.mem_of_getElem? (i := 145) (by decide +kernel)⟩
theorem lw_p2 : lw_okq (⟨"RankShelf", "told", "(I)I"⟩, 11) := ⟨⟨by decide +kernel, by decide +kernel⟩, List.mem_of_getElem? (i := 9) (by decide +kernel), List.mem_of_getElem? (i := 151) (by decide +kernel), List.mem_of_getElem? (i := 152) (by decide +kernel)⟩
theorem lw_p3 : lw_okq (⟨"RankShelf", "hasRoomFor", "(I)Z"⟩, 11) := ⟨⟨by decide +kernel, by decide +kernel⟩, List.mem_of_getElem? (i := 9) (by decide +kernel), List.mem_of_getElem? (i := 158) (by decide +kernel), List.mem_of_getElem? (i := 159) (by decide +kernel)⟩
theorem lw_p4 : lw_okq (⟨"RankShelf", "grow", "(LRankShelf$Version;II)LRankShelf$Version;"⟩, 11) := ⟨⟨by decide +kernel, by decide +kernel⟩, List.mem_of_getElem? (i := 9) (by decide +kernel), List.mem_of_getElem? (i := 162) (by decide +kernel), List.mem_of_getElem? (i := 163) (by decide +kernel)⟩
theorem lw_p5 : lw_okq (⟨"RankShelf$Version", "writeOwn", "(III)V"⟩, 9) := ⟨⟨by decide +kernel, by decide +kernel⟩, List.mem_of_getElem? (i := 54) (by decide +kernel), List.mem_of_getElem? (i := 166) (by decide +kernel), List.mem_of_getElem? (i := 167) (by decide +kernel)⟩
theorem lw_p6 : lw_okq (⟨"RankShelf", "showGrown", "(LRankShelf$Version;I)I"⟩, 11) := ⟨⟨by decide +kernel, by decide +kernel⟩, List.mem_of_getElem? (i := 9) (by decide +kernel), List.mem_of_getElem? (i := 170) (by decide +kernel), List.mem_of_getElem? (i := 171) (by decide +kernel)⟩
theorem lw_p7 : lw_okq (⟨"RankShelf", "findingOfSpan", "(III)I"⟩, 11) := ⟨⟨by decide +kernel, by decide +kernel⟩, List.mem_of_getElem? (i := 9) (by decide +kernel), List.mem_of_getElem? (i := 182) (by decide +kernel), List.mem_of_getElem? (i := 183) (by decide +kernel)⟩
theorem lw_p8 : lw_okq (⟨"RankShelf$Sheet", "layOut", "(LRankShelf$Version;)V"⟩, 4) := ⟨⟨by decide +kernel, by decide +kernel⟩, List.mem_of_getElem? (i := 19) (by decide +kernel), List.mem_of_getElem? (i := 186) (by decide +kernel), List.mem_of_getElem? (i := 187) (by decide +kernel)⟩
theorem lw_p9 : lw_okq (⟨"RankShelf", "isVersion", "(I)Z"⟩, 11) := ⟨⟨by decide +kernel, by decide +kernel⟩, List.mem_of_getElem? (i := 9) (by decide +kernel), List.mem_of_getElem? (i := 201) (by decide +kernel), List.mem_of_getElem? (i := 202) (by decide +kernel)⟩
theorem lw_p10 : lw_okq (⟨"RankShelf$Sheet", "leastFrom", "(III)I"⟩, 4) := ⟨⟨by decide +kernel, by decide +kernel⟩, List.mem_of_getElem? (i := 19) (by decide +kernel), List.mem_of_getElem? (i := 221) (by decide +kernel), List.mem_of_getElem? (i := 222) (by decide +kernel)⟩
theorem lw_p11 : lw_okq (⟨"RankShelf", "findingOfIndex", "(II)I"⟩, 11) := ⟨⟨by decide +kernel, by decide +kernel⟩, List.mem_of_getElem? (i := 9) (by decide +kernel), List.mem_of_getElem? (i := 241) (by decide +kernel), List.mem_of_getElem? (i := 242) (by decide +kernel)⟩
theorem lw_p12 : lw_okq (⟨"RankShelf", "findingOfPlane", "(II)I"⟩, 11) := ⟨⟨by decide +kernel, by decide +kernel⟩, List.mem_of_getElem? (i := 9) (by decide +kernel), List.mem_of_getElem? (i := 253) (by decide +kernel), List.mem_of_getElem? (i := 254) (by decide +kernel)⟩
theorem lw_p13 : lw_okq (⟨"RankShelf", "topBitOf", "(I)I"⟩, 11) := ⟨⟨by decide +kernel, by decide +kernel⟩, List.mem_of_getElem? (i := 9) (by decide +kernel), List.mem_of_getElem? (i := 257) (by decide +kernel), List.mem_of_getElem? (i := 258) (by decide +kernel)⟩
theorem lw_p14 : lw_okq (⟨"RankShelf", "layOutPlane", "(II)I"⟩, 11) := ⟨⟨by decide +kernel, by decide +kernel⟩, List.mem_of_getElem? (i := 9) (by decide +kernel), List.mem_of_getElem? (i := 261) (by decide +kernel), List.mem_of_getElem? (i := 262) (by decide +kernel)⟩
theorem lw_p15 : lw_okq (⟨"RankShelf$Sheet", "splitBy", "(I)V"⟩, 4) := ⟨⟨by decide +kernel, by decide +kernel⟩, List.mem_of_getElem? (i := 19) (by decide +kernel), List.mem_of_getElem? (i := 265) (by decide +kernel), List.mem_of_getElem? (i := 266) (by decide +kernel)⟩
def lw_privs_1 : List (MethodName × Nat) := [(⟨"RankShelf", "findingOfGrown", "(I)I"⟩, 11), (⟨"RankShelf", "findingOfPlace", "(I)I"⟩, 11), (⟨"RankShelf", "told", "(I)I"⟩, 11), (⟨"RankShelf", "hasRoomFor", "(I)Z"⟩, 11), (⟨"RankShelf", "grow", "(LRankShelf$Version;II)LRankShelf$Version;"⟩, 11), (⟨"RankShelf$Version", "writeOwn", "(III)V"⟩, 9), (⟨"RankShelf", "showGrown", "(LRankShelf$Version;I)I"⟩, 11), (⟨"RankShelf", "findingOfSpan", "(III)I"⟩, 11), (⟨"RankShelf$Sheet", "layOut", "(LRankShelf$Version;)V"⟩, 4), (⟨"RankShelf", "isVersion", "(I)Z"⟩, 11), (⟨"RankShelf$Sheet", "leastFrom", "(III)I"⟩, 4), (⟨"RankShelf", "findingOfIndex", "(II)I"⟩, 11), (⟨"RankShelf", "findingOfPlane", "(II)I"⟩, 11), (⟨"RankShelf", "topBitOf", "(I)I"⟩, 11), (⟨"RankShelf", "layOutPlane", "(II)I"⟩, 11), (⟨"RankShelf$Sheet", "splitBy", "(I)V"⟩, 4)]
theorem lw_r1 : ∀ q ∈ lw_privs_1, lw_okq q := List.forall_mem_cons.mpr ⟨lw_p0, List.forall_mem_cons.mpr ⟨lw_p1, List.forall_mem_cons.mpr ⟨lw_p2, List.forall_mem_cons.mpr ⟨lw_p3, List.forall_mem_cons.mpr ⟨lw_p4, List.forall_mem_cons.mpr ⟨lw_p5, List.forall_mem_cons.mpr ⟨lw_p6, List.forall_mem_cons.mpr ⟨lw_p7, List.forall_mem_cons.mpr ⟨lw_p8, List.forall_mem_cons.mpr ⟨lw_p9, List.forall_mem_cons.mpr ⟨lw_p10, List.forall_mem_cons.mpr ⟨lw_p11, List.forall_mem_cons.mpr ⟨lw_p12, List.forall_mem_cons.mpr ⟨lw_p13, List.forall_mem_cons.mpr ⟨lw_p14, List.forall_mem_cons.mpr ⟨lw_p15, fun _ h => absurd h List.not_mem_nil⟩⟩⟩⟩⟩⟩⟩⟩⟩⟩⟩⟩⟩⟩⟩⟩
theorem lw_p16 : lw_okq (⟨"RankShelf$Sheet", "countOnes", "(II)I"⟩, 4) := ⟨⟨by decide +kernel, by decide +kernel⟩, List.mem_of_getElem? (i := 19) (by decide +kernel), List.mem_of_getElem? (i := 273) (by decide +kernel), List.mem_of_getElem? (i := 274) (by decide +kernel)⟩
theorem lw_p17 : lw_okq (⟨"RankShelf", "layOutSpan", "(III)I"⟩, 11) := ⟨⟨by decide +kernel, by decide +kernel⟩, List.mem_of_getElem? (i := 9) (by decide +kernel), List.mem_of_getElem? (i := 281) (by decide +kernel), List.mem_of_getElem? (i := 282) (by decide +kernel)⟩
theorem lw_p18 : lw_okq (⟨"RankShelf", "goDown", "(IIII)I"⟩, 11) := ⟨⟨by decide +kernel, by decide +kernel⟩, List.mem_of_getElem? (i := 9) (by decide +kernel), List.mem_of_getElem? (i := 285) (by decide +kernel), List.mem_of_getElem? (i := 286) (by decide +kernel)⟩
theorem lw_p19 : lw_okq (⟨"RankShelf$Sheet", "countWithin", "(IIII)I"⟩, 4) := ⟨⟨by decide +kernel, by decide +kernel⟩, List.mem_of_getElem? (i := 19) (by decide +kernel), List.mem_of_getElem? (i := 289) (by decide +kernel), List.mem_of_getElem? (i := 290) (by decide +kernel)⟩
theorem lw_p20 : lw_okq (⟨"RankShelf$Sheet", "countBelow", "(III)I"⟩, 4) := ⟨⟨by decide +kernel, by decide +kernel⟩, List.mem_of_getElem? (i := 19) (by decide +kernel), List.mem_of_getElem? (i := 297) (by decide +kernel), List.mem_of_getElem? (i := 298) (by decide +kernel)⟩
theorem lw_p21 : lw_okq (⟨"RankShelf", "foundOrNone", "(I)I"⟩, 11) := ⟨⟨by decide +kernel, by decide +kernel⟩, List.mem_of_getElem? (i := 9) (by decide +kernel), List.mem_of_getElem? (i := 309) (by decide +kernel), List.mem_of_getElem? (i := 310) (by decide +kernel)⟩
theorem lw_p22 : lw_okq (⟨"RankShelf$Sheet", "greatestTo", "(III)I"⟩, 4) := ⟨⟨by decide +kernel, by decide +kernel⟩, List.mem_of_getElem? (i := 19) (by decide +kernel), List.mem_of_getElem? (i := 317) (by decide +kernel), List.mem_of_getElem? (i := 318) (by decide +kernel)⟩
theorem lw_p23 : lw_okq (⟨"RankShelf", "countSpan", "(III)I"⟩, 11) := ⟨⟨by decide +kernel, by decide +kernel⟩, List.mem_of_getElem? (i := 9) (by decide +kernel), List.mem_of_getElem? (i := 329) (by decide +kernel), List.mem_of_getElem? (i := 330) (by decide +kernel)⟩
theorem lw_p24 : lw_okq (⟨"RankShelf$Tally", "clear", "()V"⟩, 2) := ⟨⟨by decide +kernel, by decide +kernel⟩, List.mem_of_getElem? (i := 42) (by decide +kernel), List.mem_of_getElem? (i := 333) (by decide +kernel), List.mem_of_getElem? (i := 334) (by decide +kernel)⟩
theorem lw_p25 : lw_okq (⟨"RankShelf$Tally", "count", "(LRankShelf$Sheet;III)V"⟩, 2) := ⟨⟨by decide +kernel, by decide +kernel⟩, List.mem_of_getElem? (i := 42) (by decide +kernel), List.mem_of_getElem? (i := 340) (by decide +kernel), List.mem_of_getElem? (i := 341) (by decide +kernel)⟩
theorem lw_p26 : lw_okq (⟨"RankShelf$Tally", "valueOfMoreThan", "(I)I"⟩, 2) := ⟨⟨by decide +kernel, by decide +kernel⟩, List.mem_of_getElem? (i := 42) (by decide +kernel), List.mem_of_getElem? (i := 344) (by decide +kernel), List.mem_of_getElem? (i := 345) (by decide +kernel)⟩
theorem lw_p27 : lw_okq (⟨"RankShelf$Tally", "oftenest", "(I)I"⟩, 2) := ⟨⟨by decide +kernel, by decide +kernel⟩, List.mem_of_getElem? (i := 42) (by decide +kernel), List.mem_of_getElem? (i := 352) (by decide +kernel), List.mem_of_getElem? (i := 353) (by decide +kernel)⟩
theorem lw_p28 : lw_okq (⟨"RankShelf$Tally", "groupByCount", "()V"⟩, 2) := ⟨⟨by decide +kernel, by decide +kernel⟩, List.mem_of_getElem? (i := 42) (by decide +kernel), List.mem_of_getElem? (i := 356) (by decide +kernel), List.mem_of_getElem? (i := 357) (by decide +kernel)⟩
theorem lw_p29 : lw_okq (⟨"RankShelf$Tally", "valueOfCount", "(II)I"⟩, 2) := ⟨⟨by decide +kernel, by decide +kernel⟩, List.mem_of_getElem? (i := 42) (by decide +kernel), List.mem_of_getElem? (i := 360) (by decide +kernel), List.mem_of_getElem? (i := 361) (by decide +kernel)⟩
theorem lw_p30 : lw_okq (⟨"RankShelf$Tally", "countDifferent", "()I"⟩, 2) := ⟨⟨by decide +kernel, by decide +kernel⟩, List.mem_of_getElem? (i := 42) (by decide +kernel), List.mem_of_getElem? (i := 368) (by decide +kernel), List.mem_of_getElem? (i := 369) (by decide +kernel)⟩
theorem lw_p31 : lw_okq (⟨"RankShelf$Sheet", "weighBelow", "(III)J"⟩, 4) := ⟨⟨by decide +kernel, by decide +kernel⟩, List.mem_of_getElem? (i := 19) (by decide +kernel), List.mem_of_getElem? (i := 376) (by decide +kernel), List.mem_of_getElem? (i := 377) (by decide +kernel)⟩
def lw_privs_2 : List (MethodName × Nat) := [(⟨"RankShelf$Sheet", "countOnes", "(II)I"⟩, 4), (⟨"RankShelf", "layOutSpan", "(III)I"⟩, 11), (⟨"RankShelf", "goDown", "(IIII)I"⟩, 11), (⟨"RankShelf$Sheet", "countWithin", "(IIII)I"⟩, 4), (⟨"RankShelf$Sheet", "countBelow", "(III)I"⟩, 4), (⟨"RankShelf", "foundOrNone", "(I)I"⟩, 11), (⟨"RankShelf$Sheet", "greatestTo", "(III)I"⟩, 4), (⟨"RankShelf", "countSpan", "(III)I"⟩, 11), (⟨"RankShelf$Tally", "clear", "()V"⟩, 2), (⟨"RankShelf$Tally", "count", "(LRankShelf$Sheet;III)V"⟩, 2), (⟨"RankShelf$Tally", "valueOfMoreThan", "(I)I"⟩, 2), (⟨"RankShelf$Tally", "oftenest", "(I)I"⟩, 2), (⟨"RankShelf$Tally", "groupByCount", "()V"⟩, 2), (⟨"RankShelf$Tally", "valueOfCount", "(II)I"⟩, 2), (⟨"RankShelf$Tally", "countDifferent", "()I"⟩, 2), (⟨"RankShelf$Sheet", "weighBelow", "(III)J"⟩, 4)]
theorem lw_r2 : ∀ q ∈ lw_privs_2, lw_okq q := List.forall_mem_cons.mpr ⟨lw_p16, List.forall_mem_cons.mpr ⟨lw_p17, List.forall_mem_cons.mpr ⟨lw_p18, List.forall_mem_cons.mpr ⟨lw_p19, List.forall_mem_cons.mpr ⟨lw_p20, List.forall_mem_cons.mpr ⟨lw_p21, List.forall_mem_cons.mpr ⟨lw_p22, List.forall_mem_cons.mpr ⟨lw_p23, List.forall_mem_cons.mpr ⟨lw_p24, List.forall_mem_cons.mpr ⟨lw_p25, List.forall_mem_cons.mpr ⟨lw_p26, List.forall_mem_cons.mpr ⟨lw_p27, List.forall_mem_cons.mpr ⟨lw_p28, List.forall_mem_cons.mpr ⟨lw_p29, List.forall_mem_cons.mpr ⟨lw_p30, List.forall_mem_cons.mpr ⟨lw_p31, fun _ h => absurd h List.not_mem_nil⟩⟩⟩⟩⟩⟩⟩⟩⟩⟩⟩⟩⟩⟩⟩⟩
theorem lw_p32 : lw_okq (⟨"RankShelf$Tally", "leastUneven", "()I"⟩, 2) := ⟨⟨by decide +kernel, by decide +kernel⟩, List.mem_of_getElem? (i := 42) (by decide +kernel), List.mem_of_getElem? (i := 384) (by decide +kernel), List.mem_of_getElem? (i := 385) (by decide +kernel)⟩
theorem lw_p33 : lw_okq (⟨"RankShelf$Sheet", "placeApartFrom", "(LRankShelf$Sheet;)I"⟩, 4) := ⟨⟨by decide +kernel, by decide +kernel⟩, List.mem_of_getElem? (i := 19) (by decide +kernel), List.mem_of_getElem? (i := 392) (by decide +kernel), List.mem_of_getElem? (i := 393) (by decide +kernel)⟩
theorem lw_p34 : lw_okq (⟨"RankShelfModel", "look", "(I)I"⟩, 20) := ⟨⟨by decide +kernel, by decide +kernel⟩, List.mem_of_getElem? (i := 404) (by decide +kernel), List.mem_of_getElem? (i := 477) (by decide +kernel), List.mem_of_getElem? (i := 478) (by decide +kernel)⟩
theorem lw_p35 : lw_okq (⟨"RankShelfModel", "answer", "(I)I"⟩, 20) := ⟨⟨by decide +kernel, by decide +kernel⟩, List.mem_of_getElem? (i := 404) (by decide +kernel), List.mem_of_getElem? (i := 484) (by decide +kernel), List.mem_of_getElem? (i := 485) (by decide +kernel)⟩
theorem lw_p36 : lw_okq (⟨"RankShelfModel", "size", "(I)I"⟩, 20) := ⟨⟨by decide +kernel, by decide +kernel⟩, List.mem_of_getElem? (i := 404) (by decide +kernel), List.mem_of_getElem? (i := 488) (by decide +kernel), List.mem_of_getElem? (i := 489) (by decide +kernel)⟩
theorem lw_p37 : lw_okq (⟨"RankShelfModel", "begin", "(II)I"⟩, 20) := ⟨⟨by decide +kernel, by decide +kernel⟩, List.mem_of_getElem? (i := 404) (by decide +kernel), List.mem_of_getElem? (i := 492) (by decide +kernel), List.mem_of_getElem? (i := 493) (by decide +kernel)⟩
theorem lw_p38 : lw_okq (⟨"RankShelfModel", "add", "(II)V"⟩, 20) := ⟨⟨by decide +kernel, by decide +kernel⟩, List.mem_of_getElem? (i := 404) (by decide +kernel), List.mem_of_getElem? (i := 496) (by decide +kernel), List.mem_of_getElem? (i := 497) (by decide +kernel)⟩
theorem lw_p39 : lw_okq (⟨"RankShelfModel", "finish", "(II)I"⟩, 20) := ⟨⟨by decide +kernel, by decide +kernel⟩, List.mem_of_getElem? (i := 404) (by decide +kernel), List.mem_of_getElem? (i := 500) (by decide +kernel), List.mem_of_getElem? (i := 501) (by decide +kernel)⟩
theorem lw_p40 : lw_okq (⟨"RankShelfModel", "lookSpan", "(III)I"⟩, 20) := ⟨⟨by decide +kernel, by decide +kernel⟩, List.mem_of_getElem? (i := 404) (by decide +kernel), List.mem_of_getElem? (i := 512) (by decide +kernel), List.mem_of_getElem? (i := 513) (by decide +kernel)⟩
theorem lw_p41 : lw_okq (⟨"RankShelfModel", "span", "(IJJ)I"⟩, 20) := ⟨⟨by decide +kernel, by decide +kernel⟩, List.mem_of_getElem? (i := 404) (by decide +kernel), List.mem_of_getElem? (i := 516) (by decide +kernel), List.mem_of_getElem? (i := 517) (by decide +kernel)⟩
theorem lw_p42 : lw_okq (⟨"RankShelfModel", "valueAt", "(II)I"⟩, 20) := ⟨⟨by decide +kernel, by decide +kernel⟩, List.mem_of_getElem? (i := 404) (by decide +kernel), List.mem_of_getElem? (i := 520) (by decide +kernel), List.mem_of_getElem? (i := 521) (by decide +kernel)⟩
theorem lw_p43 : lw_okq (⟨"RankShelfModel", "weightAt", "(II)I"⟩, 20) := ⟨⟨by decide +kernel, by decide +kernel⟩, List.mem_of_getElem? (i := 404) (by decide +kernel), List.mem_of_getElem? (i := 524) (by decide +kernel), List.mem_of_getElem? (i := 525) (by decide +kernel)⟩
theorem lw_p44 : lw_okq (⟨"RankShelfModel", "isVersion", "(I)Z"⟩, 20) := ⟨⟨by decide +kernel, by decide +kernel⟩, List.mem_of_getElem? (i := 404) (by decide +kernel), List.mem_of_getElem? (i := 536) (by decide +kernel), List.mem_of_getElem? (i := 537) (by decide +kernel)⟩
theorem lw_p45 : lw_okq (⟨"RankShelfModel", "isAncestor", "(II)Z"⟩, 20) := ⟨⟨by decide +kernel, by decide +kernel⟩, List.mem_of_getElem? (i := 404) (by decide +kernel), List.mem_of_getElem? (i := 548) (by decide +kernel), List.mem_of_getElem? (i := 549) (by decide +kernel)⟩
theorem lw_p46 : lw_okq (⟨"RankShelfModel", "store", "(III)I"⟩, 20) := ⟨⟨by decide +kernel, by decide +kernel⟩, List.mem_of_getElem? (i := 404) (by decide +kernel), List.mem_of_getElem? (i := 560) (by decide +kernel), List.mem_of_getElem? (i := 561) (by decide +kernel)⟩
theorem lw_p47 : lw_okq (⟨"RankShelfModel", "lookAt", "(II)I"⟩, 20) := ⟨⟨by decide +kernel, by decide +kernel⟩, List.mem_of_getElem? (i := 404) (by decide +kernel), List.mem_of_getElem? (i := 580) (by decide +kernel), List.mem_of_getElem? (i := 581) (by decide +kernel)⟩
def lw_privs_3 : List (MethodName × Nat) := [(⟨"RankShelf$Tally", "leastUneven", "()I"⟩, 2), (⟨"RankShelf$Sheet", "placeApartFrom", "(LRankShelf$Sheet;)I"⟩, 4), (⟨"RankShelfModel", "look", "(I)I"⟩, 20), (⟨"RankShelfModel", "answer", "(I)I"⟩, 20), (⟨"RankShelfModel", "size", "(I)I"⟩, 20), (⟨"RankShelfModel", "begin", "(II)I"⟩, 20), (⟨"RankShelfModel", "add", "(II)V"⟩, 20), (⟨"RankShelfModel", "finish", "(II)I"⟩, 20), (⟨"RankShelfModel", "lookSpan", "(III)I"⟩, 20), (⟨"RankShelfModel", "span", "(IJJ)I"⟩, 20), (⟨"RankShelfModel", "valueAt", "(II)I"⟩, 20), (⟨"RankShelfModel", "weightAt", "(II)I"⟩, 20), (⟨"RankShelfModel", "isVersion", "(I)Z"⟩, 20), (⟨"RankShelfModel", "isAncestor", "(II)Z"⟩, 20), (⟨"RankShelfModel", "store", "(III)I"⟩, 20), (⟨"RankShelfModel", "lookAt", "(II)I"⟩, 20)]
theorem lw_r3 : ∀ q ∈ lw_privs_3, lw_okq q := List.forall_mem_cons.mpr ⟨lw_p32, List.forall_mem_cons.mpr ⟨lw_p33, List.forall_mem_cons.mpr ⟨lw_p34, List.forall_mem_cons.mpr ⟨lw_p35, List.forall_mem_cons.mpr ⟨lw_p36, List.forall_mem_cons.mpr ⟨lw_p37, List.forall_mem_cons.mpr ⟨lw_p38, List.forall_mem_cons.mpr ⟨lw_p39, List.forall_mem_cons.mpr ⟨lw_p40, List.forall_mem_cons.mpr ⟨lw_p41, List.forall_mem_cons.mpr ⟨lw_p42, List.forall_mem_cons.mpr ⟨lw_p43, List.forall_mem_cons.mpr ⟨lw_p44, List.forall_mem_cons.mpr ⟨lw_p45, List.forall_mem_cons.mpr ⟨lw_p46, List.forall_mem_cons.mpr ⟨lw_p47, fun _ h => absurd h List.not_mem_nil⟩⟩⟩⟩⟩⟩⟩⟩⟩⟩⟩⟩⟩⟩⟩⟩
theorem lw_p48 : lw_okq (⟨"RankShelfModel", "lookPlane", "(II)I"⟩, 20) := ⟨⟨by decide +kernel, by decide +kernel⟩, List.mem_of_getElem? (i := 404) (by decide +kernel), List.mem_of_getElem? (i := 592) (by decide +kernel), List.mem_of_getElem? (i := 593) (by decide +kernel)⟩
theorem lw_p49 : lw_okq (⟨"RankShelfModel", "bits", "(I)I"⟩, 20) := ⟨⟨by decide +kernel, by decide +kernel⟩, List.mem_of_getElem? (i := 404) (by decide +kernel), List.mem_of_getElem? (i := 596) (by decide +kernel), List.mem_of_getElem? (i := 597) (by decide +kernel)⟩
theorem lw_p50 : lw_okq (⟨"RankShelfModel", "arrange", "(II)V"⟩, 20) := ⟨⟨by decide +kernel, by decide +kernel⟩, List.mem_of_getElem? (i := 404) (by decide +kernel), List.mem_of_getElem? (i := 600) (by decide +kernel), List.mem_of_getElem? (i := 601) (by decide +kernel)⟩
theorem lw_p51 : lw_okq (⟨"RankShelfModel", "bitOf", "(III)I"⟩, 20) := ⟨⟨by decide +kernel, by decide +kernel⟩, List.mem_of_getElem? (i := 404) (by decide +kernel), List.mem_of_getElem? (i := 604) (by decide +kernel), List.mem_of_getElem? (i := 605) (by decide +kernel)⟩
theorem lw_p52 : lw_okq (⟨"RankShelfModel", "find", "(IIII)I"⟩, 20) := ⟨⟨by decide +kernel, by decide +kernel⟩, List.mem_of_getElem? (i := 404) (by decide +kernel), List.mem_of_getElem? (i := 616) (by decide +kernel), List.mem_of_getElem? (i := 617) (by decide +kernel)⟩
theorem lw_p53 : lw_okq (⟨"RankShelfModel", "count", "(III[I)V"⟩, 20) := ⟨⟨by decide +kernel, by decide +kernel⟩, List.mem_of_getElem? (i := 404) (by decide +kernel), List.mem_of_getElem? (i := 620) (by decide +kernel), List.mem_of_getElem? (i := 621) (by decide +kernel)⟩
theorem lw_p54 : lw_okq (⟨"RankShelfModel", "within", "(IIIJJ)I"⟩, 20) := ⟨⟨by decide +kernel, by decide +kernel⟩, List.mem_of_getElem? (i := 404) (by decide +kernel), List.mem_of_getElem? (i := 629) (by decide +kernel), List.mem_of_getElem? (i := 630) (by decide +kernel)⟩
def lw_privs_4 : List (MethodName × Nat) := [(⟨"RankShelfModel", "lookPlane", "(II)I"⟩, 20), (⟨"RankShelfModel", "bits", "(I)I"⟩, 20), (⟨"RankShelfModel", "arrange", "(II)V"⟩, 20), (⟨"RankShelfModel", "bitOf", "(III)I"⟩, 20), (⟨"RankShelfModel", "find", "(IIII)I"⟩, 20), (⟨"RankShelfModel", "count", "(III[I)V"⟩, 20), (⟨"RankShelfModel", "within", "(IIIJJ)I"⟩, 20)]
theorem lw_r4 : ∀ q ∈ lw_privs_4, lw_okq q := List.forall_mem_cons.mpr ⟨lw_p48, List.forall_mem_cons.mpr ⟨lw_p49, List.forall_mem_cons.mpr ⟨lw_p50, List.forall_mem_cons.mpr ⟨lw_p51, List.forall_mem_cons.mpr ⟨lw_p52, List.forall_mem_cons.mpr ⟨lw_p53, List.forall_mem_cons.mpr ⟨lw_p54, fun _ h => absurd h List.not_mem_nil⟩⟩⟩⟩⟩⟩⟩
def lw_privs : List (MethodName × Nat) := lw_privs_1 ++ (lw_privs_2 ++ (lw_privs_3 ++ (lw_privs_4)))
def lw_tbl : List Cond := k2_sels lw_privs ++ tables_1
theorem lw_privs_ok : ∀ q ∈ lw_privs, lw_okq q := by
  show ∀ q ∈ lw_privs_1 ++ (lw_privs_2 ++ (lw_privs_3 ++ (lw_privs_4))), lw_okq q
  exact List.forall_mem_append.mpr ⟨lw_r1, List.forall_mem_append.mpr ⟨lw_r2, List.forall_mem_append.mpr ⟨lw_r3, lw_r4⟩⟩⟩
-- ===== end of PART A; then your names; then what follows =====
end
section
def RX0 : String := "RankShelf$Sheet"
def TX0 : u_T := fun k => match k with
  | 0 => ("RankShelf$Sheet", "values", "[I", true)
  | 1 => ("RankShelf$Sheet", "weights", "[I", true)
  | 2 => ("RankShelf$Sheet", "oneSide", "[I", true)
  | _ => ("RankShelf$Sheet", "length", "I", false)
def tyX0 : Nat → FieldType := fun k => match k with
  | 0 => .array .int
  | 1 => .array .int
  | 2 => .array .int
  | _ => .int
abbrev wsX00 : List Cond := u_ws RX0 TX0 4
theorem nmX0 : ∀ a, a < 4 → ∀ b, b < 4 → a ≠ b → (TX0 a).2.1 ≠ (TX0 b).2.1 := by decide +kernel
theorem tyX0_ok : ∀ k, k < 4 → parseFieldDescriptor (TX0 k).2.2.1 = some (tyX0 k) := by decide +kernel
abbrev cX0_init : ByteArray := prog_2_method_1_code
def yX0_init : MethodName := ⟨RX0, "<init>", "()V"⟩
abbrev cX0_layOut : ByteArray := prog_2_method_2_code
def yX0_layOut : MethodName := ⟨RX0, "layOut", "(LRankShelf$Version;)V"⟩
abbrev cX0_countBelow : ByteArray := prog_2_method_3_code
def yX0_countBelow : MethodName := ⟨RX0, "countBelow", "(III)I"⟩
abbrev cX0_countWithin : ByteArray := prog_2_method_4_code
def yX0_countWithin : MethodName := ⟨RX0, "countWithin", "(IIII)I"⟩
abbrev cX0_weighBelow : ByteArray := prog_2_method_5_code
def yX0_weighBelow : MethodName := ⟨RX0, "weighBelow", "(III)J"⟩
abbrev cX0_leastFrom : ByteArray := prog_2_method_6_code
def yX0_leastFrom : MethodName := ⟨RX0, "leastFrom", "(III)I"⟩
abbrev cX0_greatestTo : ByteArray := prog_2_method_7_code
def yX0_greatestTo : MethodName := ⟨RX0, "greatestTo", "(III)I"⟩
abbrev cX0_countOnes : ByteArray := prog_2_method_8_code
def yX0_countOnes : MethodName := ⟨RX0, "countOnes", "(II)I"⟩
abbrev cX0_splitBy : ByteArray := prog_2_method_9_code
def yX0_splitBy : MethodName := ⟨RX0, "splitBy", "(I)V"⟩
abbrev cX0_placeApartFrom : ByteArray := prog_2_method_10_code
def yX0_placeApartFrom : MethodName := ⟨RX0, "placeApartFrom", "(LRankShelf$Sheet;)I"⟩
def RX1 : String := "RankShelf$Tally"
def TX1 : u_T := fun k => match k with
  | 0 => ("RankShelf$Tally", "counts", "[I", true)
  | _ => ("RankShelf$Tally", "sharers", "[I", true)
def tyX1 : Nat → FieldType := fun k => match k with
  | 0 => .array .int
  | _ => .array .int
abbrev wsX10 : List Cond := u_ws RX1 TX1 2
theorem nmX1 : ∀ a, a < 2 → ∀ b, b < 2 → a ≠ b → (TX1 a).2.1 ≠ (TX1 b).2.1 := by decide +kernel
theorem tyX1_ok : ∀ k, k < 2 → parseFieldDescriptor (TX1 k).2.2.1 = some (tyX1 k) := by decide +kernel
abbrev cX1_init : ByteArray := prog_3_method_1_code
def yX1_init : MethodName := ⟨RX1, "<init>", "()V"⟩
abbrev cX1_clear : ByteArray := prog_3_method_2_code
def yX1_clear : MethodName := ⟨RX1, "clear", "()V"⟩
abbrev cX1_count : ByteArray := prog_3_method_3_code
def yX1_count : MethodName := ⟨RX1, "count", "(LRankShelf$Sheet;III)V"⟩
abbrev cX1_countDifferent : ByteArray := prog_3_method_4_code
def yX1_countDifferent : MethodName := ⟨RX1, "countDifferent", "()I"⟩
abbrev cX1_leastUneven : ByteArray := prog_3_method_5_code
def yX1_leastUneven : MethodName := ⟨RX1, "leastUneven", "()I"⟩
abbrev cX1_valueOfMoreThan : ByteArray := prog_3_method_6_code
def yX1_valueOfMoreThan : MethodName := ⟨RX1, "valueOfMoreThan", "(I)I"⟩
abbrev cX1_oftenest : ByteArray := prog_3_method_7_code
def yX1_oftenest : MethodName := ⟨RX1, "oftenest", "(I)I"⟩
abbrev cX1_groupByCount : ByteArray := prog_3_method_8_code
def yX1_groupByCount : MethodName := ⟨RX1, "groupByCount", "()V"⟩
abbrev cX1_valueOfCount : ByteArray := prog_3_method_9_code
def yX1_valueOfCount : MethodName := ⟨RX1, "valueOfCount", "(II)I"⟩
def RX2 : String := "RankShelf$Version"
def TX2 : u_T := fun k => match k with
  | 0 => ("RankShelf$Version", "number", "I", true)
  | 1 => ("RankShelf$Version", "parent", "LRankShelf$Version;", true)
  | 2 => ("RankShelf$Version", "kept", "I", true)
  | 3 => ("RankShelf$Version", "length", "I", true)
  | 4 => ("RankShelf$Version", "ownValues", "[I", true)
  | 5 => ("RankShelf$Version", "ownWeights", "[I", true)
  | 6 => ("RankShelf$Version", "fork", "Z", true)
  | 7 => ("RankShelf$Version", "ancestors", "I", true)
  | _ => ("RankShelf$Version", "children", "I", false)
def tyX2 : Nat → FieldType := fun k => match k with
  | 0 => .int
  | 1 => .object "RankShelf$Version"
  | 2 => .int
  | 3 => .int
  | 4 => .array .int
  | 5 => .array .int
  | 6 => .boolean
  | 7 => .int
  | _ => .int
abbrev wsX20 : List Cond := u_ws RX2 TX2 9
theorem nmX2 : ∀ a, a < 9 → ∀ b, b < 9 → a ≠ b → (TX2 a).2.1 ≠ (TX2 b).2.1 := by decide +kernel
theorem tyX2_ok : ∀ k, k < 9 → parseFieldDescriptor (TX2 k).2.2.1 = some (tyX2 k) := by decide +kernel
abbrev cX2_init : ByteArray := prog_4_method_1_code
def yX2_init : MethodName := ⟨RX2, "<init>", "(ILRankShelf$Version;II)V"⟩
abbrev cX2_writeOwn : ByteArray := prog_4_method_2_code
def yX2_writeOwn : MethodName := ⟨RX2, "writeOwn", "(III)V"⟩
def RX3 : String := "RankShelf"
def TX3 : u_T := fun k => match k with
  | 0 => ("RankShelf", "history", "[LRankShelf$Version;", true)
  | 1 => ("RankShelf", "versionCount", "I", false)
  | 2 => ("RankShelf", "placesMade", "I", false)
  | 3 => ("RankShelf", "held", "[LRankShelf$Version;", true)
  | 4 => ("RankShelf", "kinds", "[I", true)
  | 5 => ("RankShelf", "sheet", "LRankShelf$Sheet;", true)
  | 6 => ("RankShelf", "otherSheet", "LRankShelf$Sheet;", true)
  | 7 => ("RankShelf", "tally", "LRankShelf$Tally;", true)
  | 8 => ("RankShelf", "steps", "[I", true)
  | 9 => ("RankShelf", "stepCount", "I", false)
  | _ => ("RankShelf", "tellings", "[I", true)
def tyX3 : Nat → FieldType := fun k => match k with
  | 0 => .array (.object "RankShelf$Version")
  | 1 => .int
  | 2 => .int
  | 3 => .array (.object "RankShelf$Version")
  | 4 => .array .int
  | 5 => .object "RankShelf$Sheet"
  | 6 => .object "RankShelf$Sheet"
  | 7 => .object "RankShelf$Tally"
  | 8 => .array .int
  | 9 => .int
  | _ => .array .int
abbrev wsX30 : List Cond := u_ws RX3 TX3 11
theorem nmX3 : ∀ a, a < 11 → ∀ b, b < 11 → a ≠ b → (TX3 a).2.1 ≠ (TX3 b).2.1 := by decide +kernel
theorem tyX3_ok : ∀ k, k < 11 → parseFieldDescriptor (TX3 k).2.2.1 = some (tyX3 k) := by decide +kernel
abbrev cX3_init : ByteArray := prog_1_method_1_code
def yX3_init : MethodName := ⟨RX3, "<init>", "()V"⟩
abbrev cX3_push : ByteArray := prog_1_method_2_code
def yX3_push : MethodName := ⟨RX3, "push", "(IIII)I"⟩
abbrev cX3_cut : ByteArray := prog_1_method_3_code
def yX3_cut : MethodName := ⟨RX3, "cut", "(III)I"⟩
abbrev cX3_join : ByteArray := prog_1_method_4_code
def yX3_join : MethodName := ⟨RX3, "join", "(IIIII)I"⟩
abbrev cX3_turn : ByteArray := prog_1_method_5_code
def yX3_turn : MethodName := ⟨RX3, "turn", "(IIII)I"⟩
abbrev cX3_version : ByteArray := prog_1_method_6_code
def yX3_version : MethodName := ⟨RX3, "version", "(II)I"⟩
abbrev cX3_about : ByteArray := prog_1_method_7_code
def yX3_about : MethodName := ⟨RX3, "about", "(II)I"⟩
abbrev cX3_common : ByteArray := prog_1_method_8_code
def yX3_common : MethodName := ⟨RX3, "common", "(II)I"⟩
abbrev cX3_versions : ByteArray := prog_1_method_9_code
def yX3_versions : MethodName := ⟨RX3, "versions", "(Z)I"⟩
abbrev cX3_seal : ByteArray := prog_1_method_10_code
def yX3_seal : MethodName := ⟨RX3, "seal", "(IIZ)I"⟩
abbrev cX3_put : ByteArray := prog_1_method_11_code
def yX3_put : MethodName := ⟨RX3, "put", "(II)I"⟩
abbrev cX3_take : ByteArray := prog_1_method_12_code
def yX3_take : MethodName := ⟨RX3, "take", "(I)I"⟩
abbrev cX3_row : ByteArray := prog_1_method_13_code
def yX3_row : MethodName := ⟨RX3, "row", "(II)I"⟩
abbrev cX3_at : ByteArray := prog_1_method_14_code
def yX3_at : MethodName := ⟨RX3, "at", "(II)I"⟩
abbrev cX3_weight : ByteArray := prog_1_method_15_code
def yX3_weight : MethodName := ⟨RX3, "weight", "(II)J"⟩
abbrev cX3_bit : ByteArray := prog_1_method_16_code
def yX3_bit : MethodName := ⟨RX3, "bit", "(III)I"⟩
abbrev cX3_ones : ByteArray := prog_1_method_17_code
def yX3_ones : MethodName := ⟨RX3, "ones", "(III)I"⟩
abbrev cX3_kth : ByteArray := prog_1_method_18_code
def yX3_kth : MethodName := ⟨RX3, "kth", "(IIII)I"⟩
abbrev cX3_rank : ByteArray := prog_1_method_19_code
def yX3_rank : MethodName := ⟨RX3, "rank", "(IIII)I"⟩
abbrev cX3_between : ByteArray := prog_1_method_20_code
def yX3_between : MethodName := ⟨RX3, "between", "(IIIII)I"⟩
abbrev cX3_next : ByteArray := prog_1_method_21_code
def yX3_next : MethodName := ⟨RX3, "next", "(IIII)I"⟩
abbrev cX3_prior : ByteArray := prog_1_method_22_code
def yX3_prior : MethodName := ⟨RX3, "prior", "(IIII)I"⟩
abbrev cX3_median : ByteArray := prog_1_method_23_code
def yX3_median : MethodName := ⟨RX3, "median", "(III)I"⟩
abbrev cX3_half : ByteArray := prog_1_method_24_code
def yX3_half : MethodName := ⟨RX3, "half", "(III)I"⟩
abbrev cX3_often : ByteArray := prog_1_method_25_code
def yX3_often : MethodName := ⟨RX3, "often", "(IIII)I"⟩
abbrev cX3_distinct : ByteArray := prog_1_method_26_code
def yX3_distinct : MethodName := ⟨RX3, "distinct", "(III)I"⟩
abbrev cX3_sum : ByteArray := prog_1_method_27_code
def yX3_sum : MethodName := ⟨RX3, "sum", "(IIII)J"⟩
abbrev cX3_differ : ByteArray := prog_1_method_28_code
def yX3_differ : MethodName := ⟨RX3, "differ", "(IIIII)I"⟩
abbrev cX3_first : ByteArray := prog_1_method_29_code
def yX3_first : MethodName := ⟨RX3, "first", "(II)I"⟩
abbrev cX3_step : ByteArray := prog_1_method_30_code
def yX3_step : MethodName := ⟨RX3, "step", "(I)I"⟩
abbrev cX3_found : ByteArray := prog_1_method_31_code
def yX3_found : MethodName := ⟨RX3, "found", "(I)I"⟩
abbrev cX3_told : ByteArray := prog_1_method_32_code
def yX3_told : MethodName := ⟨RX3, "told", "(I)I"⟩
abbrev cX3_foundOrNone : ByteArray := prog_1_method_33_code
def yX3_foundOrNone : MethodName := ⟨RX3, "foundOrNone", "(I)I"⟩
abbrev cX3_isShelfPlace : ByteArray := prog_1_method_34_code
def yX3_isShelfPlace : MethodName := ⟨RX3, "isShelfPlace", "(I)Z"⟩
abbrev cX3_isValue : ByteArray := prog_1_method_35_code
def yX3_isValue : MethodName := ⟨RX3, "isValue", "(I)Z"⟩
abbrev cX3_isVersion : ByteArray := prog_1_method_36_code
def yX3_isVersion : MethodName := ⟨RX3, "isVersion", "(I)Z"⟩
abbrev cX3_findingOfPlace : ByteArray := prog_1_method_37_code
def yX3_findingOfPlace : MethodName := ⟨RX3, "findingOfPlace", "(I)I"⟩
abbrev cX3_findingOfGrown : ByteArray := prog_1_method_38_code
def yX3_findingOfGrown : MethodName := ⟨RX3, "findingOfGrown", "(I)I"⟩
abbrev cX3_findingOfIndex : ByteArray := prog_1_method_39_code
def yX3_findingOfIndex : MethodName := ⟨RX3, "findingOfIndex", "(II)I"⟩
abbrev cX3_findingOfPlane : ByteArray := prog_1_method_40_code
def yX3_findingOfPlane : MethodName := ⟨RX3, "findingOfPlane", "(II)I"⟩
abbrev cX3_findingOfSpan : ByteArray := prog_1_method_41_code
def yX3_findingOfSpan : MethodName := ⟨RX3, "findingOfSpan", "(III)I"⟩
abbrev cX3_hasRoomFor : ByteArray := prog_1_method_42_code
def yX3_hasRoomFor : MethodName := ⟨RX3, "hasRoomFor", "(I)Z"⟩
abbrev cX3_grow : ByteArray := prog_1_method_43_code
def yX3_grow : MethodName := ⟨RX3, "grow", "(LRankShelf$Version;II)LRankShelf$Version;"⟩
abbrev cX3_showGrown : ByteArray := prog_1_method_44_code
def yX3_showGrown : MethodName := ⟨RX3, "showGrown", "(LRankShelf$Version;I)I"⟩
abbrev cX3_topBitOf : ByteArray := prog_1_method_45_code
def yX3_topBitOf : MethodName := ⟨RX3, "topBitOf", "(I)I"⟩
abbrev cX3_layOutSpan : ByteArray := prog_1_method_46_code
def yX3_layOutSpan : MethodName := ⟨RX3, "layOutSpan", "(III)I"⟩
abbrev cX3_countSpan : ByteArray := prog_1_method_47_code
def yX3_countSpan : MethodName := ⟨RX3, "countSpan", "(III)I"⟩
abbrev cX3_layOutPlane : ByteArray := prog_1_method_48_code
def yX3_layOutPlane : MethodName := ⟨RX3, "layOutPlane", "(II)I"⟩
abbrev cX3_goDown : ByteArray := prog_1_method_49_code
def yX3_goDown : MethodName := ⟨RX3, "goDown", "(IIII)I"⟩
def RX4 : String := "RankShelfModel"
def TX4 : u_T := fun k => match k with
  | 0 => ("RankShelfModel", "versions", "I", false)
  | 1 => ("RankShelfModel", "from", "[I", true)
  | 2 => ("RankShelfModel", "length", "[I", true)
  | 3 => ("RankShelfModel", "parent", "[I", true)
  | 4 => ("RankShelfModel", "value", "[S", true)
  | 5 => ("RankShelfModel", "weight", "[I", true)
  | 6 => ("RankShelfModel", "end", "I", false)
  | 7 => ("RankShelfModel", "made", "I", false)
  | 8 => ("RankShelfModel", "kind", "[I", true)
  | 9 => ("RankShelfModel", "version", "[I", true)
  | 10 => ("RankShelfModel", "sealed", "[I", true)
  | 11 => ("RankShelfModel", "sealedValue", "[I", true)
  | 12 => ("RankShelfModel", "sealedWeight", "[I", true)
  | 13 => ("RankShelfModel", "steps", "[I", true)
  | 14 => ("RankShelfModel", "stepMany", "I", false)
  | 15 => ("RankShelfModel", "founds", "[I", true)
  | 16 => ("RankShelfModel", "order", "[I", true)
  | 17 => ("RankShelfModel", "other", "[I", true)
  | 18 => ("RankShelfModel", "counts", "[I", true)
  | _ => ("RankShelfModel", "otherCounts", "[I", true)
def tyX4 : Nat → FieldType := fun k => match k with
  | 0 => .int
  | 1 => .array .int
  | 2 => .array .int
  | 3 => .array .int
  | 4 => .array .short
  | 5 => .array .int
  | 6 => .int
  | 7 => .int
  | 8 => .array .int
  | 9 => .array .int
  | 10 => .array .int
  | 11 => .array .int
  | 12 => .array .int
  | 13 => .array .int
  | 14 => .int
  | 15 => .array .int
  | 16 => .array .int
  | 17 => .array .int
  | 18 => .array .int
  | _ => .array .int
abbrev wsX40 : List Cond := u_ws RX4 TX4 20
theorem nmX4 : ∀ a, a < 20 → ∀ b, b < 20 → a ≠ b → (TX4 a).2.1 ≠ (TX4 b).2.1 := by decide +kernel
theorem tyX4_ok : ∀ k, k < 20 → parseFieldDescriptor (TX4 k).2.2.1 = some (tyX4 k) := by decide +kernel
abbrev cX4_init : ByteArray := prog_6_method_1_code
def yX4_init : MethodName := ⟨RX4, "<init>", "()V"⟩
abbrev cX4_answer : ByteArray := prog_6_method_2_code
def yX4_answer : MethodName := ⟨RX4, "answer", "(I)I"⟩
abbrev cX4_isPlace : ByteArray := prog_6_method_3_code
def yX4_isPlace : MethodName := ⟨RX4, "isPlace", "(I)Z"⟩
abbrev cX4_look : ByteArray := prog_6_method_4_code
def yX4_look : MethodName := ⟨RX4, "look", "(I)I"⟩
abbrev cX4_size : ByteArray := prog_6_method_5_code
def yX4_size : MethodName := ⟨RX4, "size", "(I)I"⟩
abbrev cX4_valueAt : ByteArray := prog_6_method_6_code
def yX4_valueAt : MethodName := ⟨RX4, "valueAt", "(II)I"⟩
abbrev cX4_weightAt : ByteArray := prog_6_method_7_code
def yX4_weightAt : MethodName := ⟨RX4, "weightAt", "(II)I"⟩
abbrev cX4_span : ByteArray := prog_6_method_8_code
def yX4_span : MethodName := ⟨RX4, "span", "(IJJ)I"⟩
abbrev cX4_lookSpan : ByteArray := prog_6_method_9_code
def yX4_lookSpan : MethodName := ⟨RX4, "lookSpan", "(III)I"⟩
abbrev cX4_add : ByteArray := prog_6_method_10_code
def yX4_add : MethodName := ⟨RX4, "add", "(II)V"⟩
abbrev cX4_begin : ByteArray := prog_6_method_11_code
def yX4_begin : MethodName := ⟨RX4, "begin", "(II)I"⟩
abbrev cX4_finish : ByteArray := prog_6_method_12_code
def yX4_finish : MethodName := ⟨RX4, "finish", "(II)I"⟩
abbrev cX4_push : ByteArray := prog_6_method_13_code
def yX4_push : MethodName := ⟨RX4, "push", "(IIII)I"⟩
abbrev cX4_cut : ByteArray := prog_6_method_14_code
def yX4_cut : MethodName := ⟨RX4, "cut", "(III)I"⟩
abbrev cX4_join : ByteArray := prog_6_method_15_code
def yX4_join : MethodName := ⟨RX4, "join", "(IIIII)I"⟩
abbrev cX4_turn : ByteArray := prog_6_method_16_code
def yX4_turn : MethodName := ⟨RX4, "turn", "(IIII)I"⟩
abbrev cX4_isVersion : ByteArray := prog_6_method_17_code
def yX4_isVersion : MethodName := ⟨RX4, "isVersion", "(I)Z"⟩
abbrev cX4_version : ByteArray := prog_6_method_18_code
def yX4_version : MethodName := ⟨RX4, "version", "(II)I"⟩
abbrev cX4_about : ByteArray := prog_6_method_19_code
def yX4_about : MethodName := ⟨RX4, "about", "(II)I"⟩
abbrev cX4_isAncestor : ByteArray := prog_6_method_20_code
def yX4_isAncestor : MethodName := ⟨RX4, "isAncestor", "(II)Z"⟩
abbrev cX4_common : ByteArray := prog_6_method_21_code
def yX4_common : MethodName := ⟨RX4, "common", "(II)I"⟩
abbrev cX4_versions : ByteArray := prog_6_method_22_code
def yX4_versions : MethodName := ⟨RX4, "versions", "(Z)I"⟩
abbrev cX4_seal : ByteArray := prog_6_method_23_code
def yX4_seal : MethodName := ⟨RX4, "seal", "(IIZ)I"⟩
abbrev cX4_store : ByteArray := prog_6_method_24_code
def yX4_store : MethodName := ⟨RX4, "store", "(III)I"⟩
abbrev cX4_put : ByteArray := prog_6_method_25_code
def yX4_put : MethodName := ⟨RX4, "put", "(II)I"⟩
abbrev cX4_take : ByteArray := prog_6_method_26_code
def yX4_take : MethodName := ⟨RX4, "take", "(I)I"⟩
abbrev cX4_row : ByteArray := prog_6_method_27_code
def yX4_row : MethodName := ⟨RX4, "row", "(II)I"⟩
abbrev cX4_lookAt : ByteArray := prog_6_method_28_code
def yX4_lookAt : MethodName := ⟨RX4, "lookAt", "(II)I"⟩
abbrev cX4_at : ByteArray := prog_6_method_29_code
def yX4_at : MethodName := ⟨RX4, "at", "(II)I"⟩
abbrev cX4_weight : ByteArray := prog_6_method_30_code
def yX4_weight : MethodName := ⟨RX4, "weight", "(II)J"⟩
abbrev cX4_bits : ByteArray := prog_6_method_31_code
def yX4_bits : MethodName := ⟨RX4, "bits", "(I)I"⟩
abbrev cX4_arrange : ByteArray := prog_6_method_32_code
def yX4_arrange : MethodName := ⟨RX4, "arrange", "(II)V"⟩
abbrev cX4_lookPlane : ByteArray := prog_6_method_33_code
def yX4_lookPlane : MethodName := ⟨RX4, "lookPlane", "(II)I"⟩
abbrev cX4_bitOf : ByteArray := prog_6_method_34_code
def yX4_bitOf : MethodName := ⟨RX4, "bitOf", "(III)I"⟩
abbrev cX4_bit : ByteArray := prog_6_method_35_code
def yX4_bit : MethodName := ⟨RX4, "bit", "(III)I"⟩
abbrev cX4_ones : ByteArray := prog_6_method_36_code
def yX4_ones : MethodName := ⟨RX4, "ones", "(III)I"⟩
abbrev cX4_count : ByteArray := prog_6_method_37_code
def yX4_count : MethodName := ⟨RX4, "count", "(III[I)V"⟩
abbrev cX4_find : ByteArray := prog_6_method_38_code
def yX4_find : MethodName := ⟨RX4, "find", "(IIII)I"⟩
abbrev cX4_kth : ByteArray := prog_6_method_39_code
def yX4_kth : MethodName := ⟨RX4, "kth", "(IIII)I"⟩
abbrev cX4_within : ByteArray := prog_6_method_40_code
def yX4_within : MethodName := ⟨RX4, "within", "(IIIJJ)I"⟩
abbrev cX4_rank : ByteArray := prog_6_method_41_code
def yX4_rank : MethodName := ⟨RX4, "rank", "(IIII)I"⟩
abbrev cX4_between : ByteArray := prog_6_method_42_code
def yX4_between : MethodName := ⟨RX4, "between", "(IIIII)I"⟩
abbrev cX4_next : ByteArray := prog_6_method_43_code
def yX4_next : MethodName := ⟨RX4, "next", "(IIII)I"⟩
abbrev cX4_prior : ByteArray := prog_6_method_44_code
def yX4_prior : MethodName := ⟨RX4, "prior", "(IIII)I"⟩
abbrev cX4_median : ByteArray := prog_6_method_45_code
def yX4_median : MethodName := ⟨RX4, "median", "(III)I"⟩
abbrev cX4_half : ByteArray := prog_6_method_46_code
def yX4_half : MethodName := ⟨RX4, "half", "(III)I"⟩
abbrev cX4_often : ByteArray := prog_6_method_47_code
def yX4_often : MethodName := ⟨RX4, "often", "(IIII)I"⟩
abbrev cX4_distinct : ByteArray := prog_6_method_48_code
def yX4_distinct : MethodName := ⟨RX4, "distinct", "(III)I"⟩
abbrev cX4_sum : ByteArray := prog_6_method_49_code
def yX4_sum : MethodName := ⟨RX4, "sum", "(IIII)J"⟩
abbrev cX4_differ : ByteArray := prog_6_method_50_code
def yX4_differ : MethodName := ⟨RX4, "differ", "(IIIII)I"⟩
abbrev cX4_first : ByteArray := prog_6_method_51_code
def yX4_first : MethodName := ⟨RX4, "first", "(II)I"⟩
abbrev cX4_step : ByteArray := prog_6_method_52_code
def yX4_step : MethodName := ⟨RX4, "step", "(I)I"⟩
abbrev cX4_found : ByteArray := prog_6_method_53_code
def yX4_found : MethodName := ⟨RX4, "found", "(I)I"⟩
def RJ9 : String := "java/lang/Math"
def TJ9 : u_T := fun k => match k with
  | _ => ("", "", "", false)
def tyJ9 : Nat → FieldType := fun k => match k with
  | _ => .int
abbrev wsJ90 : List Cond := u_ws RJ9 TJ9 0
theorem nmJ9 : ∀ a, a < 0 → ∀ b, b < 0 → a ≠ b → (TJ9 a).2.1 ≠ (TJ9 b).2.1 := by decide +kernel
theorem tyJ9_ok : ∀ k, k < 0 → parseFieldDescriptor (TJ9 k).2.2.1 = some (tyJ9 k) := by decide +kernel
abbrev cJ9_max_7cf53 : ByteArray := prog_7_method_65_code
def yJ9_max_7cf53 : MethodName := ⟨RJ9, "max", "(II)I"⟩
abbrev cJ9_min_7cf53 : ByteArray := prog_7_method_69_code
def yJ9_min_7cf53 : MethodName := ⟨RJ9, "min", "(II)I"⟩
def RJ7 : String := "java/util/Arrays"
def TJ7 : u_T := fun k => match k with
  | _ => ("", "", "", false)
def tyJ7 : Nat → FieldType := fun k => match k with
  | _ => .int
abbrev wsJ70 : List Cond := u_ws RJ7 TJ7 0
theorem nmJ7 : ∀ a, a < 0 → ∀ b, b < 0 → a ≠ b → (TJ7 a).2.1 ≠ (TJ7 b).2.1 := by decide +kernel
theorem tyJ7_ok : ∀ k, k < 0 → parseFieldDescriptor (TJ7 k).2.2.1 = some (tyJ7 k) := by decide +kernel
abbrev cJ7_fill_53178 : ByteArray := prog_8_method_103_code
def yJ7_fill_53178 : MethodName := ⟨RJ7, "fill", "([II)V"⟩
def RL : String := "RankShelfLaw"
abbrev cL_law : ByteArray := code
def yL_law : MethodName := ⟨RL, "law", "([I)Z"⟩
abbrev vwCl : List vw_C := [(RX0, TX0, 4), (RX1, TX1, 2), (RX2, TX2, 9), (RX3, TX3, 11), (RX4, TX4, 20)]
end
section
theorem dX0_init_0 : decode cX0_init 0 = .ok (.aload_n 0, 1) := by decide +kernel
theorem dX0_init_1 : decode cX0_init 1 = .ok (.invokespecial 3, 3) := by decide +kernel
theorem dX0_init_4 : decode cX0_init 4 = .ok (.aload_n 0, 1) := by decide +kernel
theorem dX0_init_5 : decode cX0_init 5 = .ok (.sipush 400, 3) := by decide +kernel
theorem dX0_init_8 : decode cX0_init 8 = .ok (.newarray .int, 2) := by decide +kernel
theorem dX0_init_10 : decode cX0_init 10 = .ok (.putfield 9, 3) := by decide +kernel
theorem dX0_init_13 : decode cX0_init 13 = .ok (.aload_n 0, 1) := by decide +kernel
theorem dX0_init_14 : decode cX0_init 14 = .ok (.sipush 400, 3) := by decide +kernel
theorem dX0_init_17 : decode cX0_init 17 = .ok (.newarray .int, 2) := by decide +kernel
theorem dX0_init_19 : decode cX0_init 19 = .ok (.putfield 15, 3) := by decide +kernel
theorem dX0_init_22 : decode cX0_init 22 = .ok (.aload_n 0, 1) := by decide +kernel
theorem dX0_init_23 : decode cX0_init 23 = .ok (.sipush 400, 3) := by decide +kernel
theorem dX0_init_26 : decode cX0_init 26 = .ok (.newarray .int, 2) := by decide +kernel
theorem dX0_init_28 : decode cX0_init 28 = .ok (.putfield 18, 3) := by decide +kernel
theorem dX0_init_31 : decode cX0_init 31 = .ok (.return_, 1) := by decide +kernel
theorem dX0_layOut_0 : decode cX0_layOut 0 = .ok (.aload_n 1, 1) := by decide +kernel
theorem dX0_layOut_1 : decode cX0_layOut 1 = .ok (.getfield 21, 3) := by decide +kernel
theorem dX0_layOut_4 : decode cX0_layOut 4 = .ok (.istore_n 2, 1) := by decide +kernel
theorem dX0_layOut_5 : decode cX0_layOut 5 = .ok (.aload_n 0, 1) := by decide +kernel
theorem dX0_layOut_6 : decode cX0_layOut 6 = .ok (.iload_n 2, 1) := by decide +kernel
theorem dX0_layOut_7 : decode cX0_layOut 7 = .ok (.putfield 27, 3) := by decide +kernel
theorem dX0_layOut_10 : decode cX0_layOut 10 = .ok (.aload_n 1, 1) := by decide +kernel
theorem dX0_layOut_11 : decode cX0_layOut 11 = .ok (.astore_n 3, 1) := by decide +kernel
theorem dX0_layOut_12 : decode cX0_layOut 12 = .ok (.aload_n 3, 1) := by decide +kernel
theorem dX0_layOut_13 : decode cX0_layOut 13 = .ok (.ifnull 80, 3) := by decide +kernel
theorem dX0_layOut_16 : decode cX0_layOut 16 = .ok (.iload_n 2, 1) := by decide +kernel
theorem dX0_layOut_17 : decode cX0_layOut 17 = .ok (.ifCond .le 76, 3) := by decide +kernel
theorem dX0_layOut_20 : decode cX0_layOut 20 = .ok (.aload_n 3, 1) := by decide +kernel
theorem dX0_layOut_21 : decode cX0_layOut 21 = .ok (.getfield 28, 3) := by decide +kernel
theorem dX0_layOut_24 : decode cX0_layOut 24 = .ok (.istore 4, 2) := by decide +kernel
theorem dX0_layOut_26 : decode cX0_layOut 26 = .ok (.iload 4, 2) := by decide +kernel
theorem dX0_layOut_28 : decode cX0_layOut 28 = .ok (.iload_n 2, 1) := by decide +kernel
theorem dX0_layOut_29 : decode cX0_layOut 29 = .ok (.if_icmp .ge 47, 3) := by decide +kernel
theorem dX0_layOut_32 : decode cX0_layOut 32 = .ok (.aload_n 0, 1) := by decide +kernel
theorem dX0_layOut_33 : decode cX0_layOut 33 = .ok (.getfield 9, 3) := by decide +kernel
theorem dX0_layOut_36 : decode cX0_layOut 36 = .ok (.iload 4, 2) := by decide +kernel
theorem dX0_layOut_38 : decode cX0_layOut 38 = .ok (.aload_n 3, 1) := by decide +kernel
theorem dX0_layOut_39 : decode cX0_layOut 39 = .ok (.getfield 31, 3) := by decide +kernel
theorem dX0_layOut_42 : decode cX0_layOut 42 = .ok (.iload 4, 2) := by decide +kernel
theorem dX0_layOut_44 : decode cX0_layOut 44 = .ok (.aload_n 3, 1) := by decide +kernel
theorem dX0_layOut_45 : decode cX0_layOut 45 = .ok (.getfield 28, 3) := by decide +kernel
theorem dX0_layOut_48 : decode cX0_layOut 48 = .ok (.isub, 1) := by decide +kernel
theorem dX0_layOut_49 : decode cX0_layOut 49 = .ok (.iaload, 1) := by decide +kernel
theorem dX0_layOut_50 : decode cX0_layOut 50 = .ok (.iastore, 1) := by decide +kernel
theorem dX0_layOut_51 : decode cX0_layOut 51 = .ok (.aload_n 0, 1) := by decide +kernel
theorem dX0_layOut_52 : decode cX0_layOut 52 = .ok (.getfield 15, 3) := by decide +kernel
theorem dX0_layOut_55 : decode cX0_layOut 55 = .ok (.iload 4, 2) := by decide +kernel
theorem dX0_layOut_57 : decode cX0_layOut 57 = .ok (.aload_n 3, 1) := by decide +kernel
theorem dX0_layOut_58 : decode cX0_layOut 58 = .ok (.getfield 34, 3) := by decide +kernel
theorem dX0_layOut_61 : decode cX0_layOut 61 = .ok (.iload 4, 2) := by decide +kernel
theorem dX0_layOut_63 : decode cX0_layOut 63 = .ok (.aload_n 3, 1) := by decide +kernel
theorem dX0_layOut_64 : decode cX0_layOut 64 = .ok (.getfield 28, 3) := by decide +kernel
theorem dX0_layOut_67 : decode cX0_layOut 67 = .ok (.isub, 1) := by decide +kernel
theorem dX0_layOut_68 : decode cX0_layOut 68 = .ok (.iaload, 1) := by decide +kernel
theorem dX0_layOut_69 : decode cX0_layOut 69 = .ok (.iastore, 1) := by decide +kernel
theorem dX0_layOut_70 : decode cX0_layOut 70 = .ok (.iinc 4 1, 3) := by decide +kernel
theorem dX0_layOut_73 : decode cX0_layOut 73 = .ok (.goto (-47), 3) := by decide +kernel
theorem dX0_layOut_76 : decode cX0_layOut 76 = .ok (.iload_n 2, 1) := by decide +kernel
theorem dX0_layOut_77 : decode cX0_layOut 77 = .ok (.aload_n 3, 1) := by decide +kernel
theorem dX0_layOut_78 : decode cX0_layOut 78 = .ok (.getfield 28, 3) := by decide +kernel
theorem dX0_layOut_81 : decode cX0_layOut 81 = .ok (.invokestatic 37, 3) := by decide +kernel
theorem dX0_layOut_84 : decode cX0_layOut 84 = .ok (.istore_n 2, 1) := by decide +kernel
theorem dX0_layOut_85 : decode cX0_layOut 85 = .ok (.aload_n 3, 1) := by decide +kernel
theorem dX0_layOut_86 : decode cX0_layOut 86 = .ok (.getfield 43, 3) := by decide +kernel
theorem dX0_layOut_89 : decode cX0_layOut 89 = .ok (.astore_n 3, 1) := by decide +kernel
theorem dX0_layOut_90 : decode cX0_layOut 90 = .ok (.goto (-78), 3) := by decide +kernel
theorem dX0_layOut_93 : decode cX0_layOut 93 = .ok (.return_, 1) := by decide +kernel
theorem dX0_countBelow_0 : decode cX0_countBelow 0 = .ok (.iconst 0, 1) := by decide +kernel
theorem dX0_countBelow_1 : decode cX0_countBelow 1 = .ok (.istore 4, 2) := by decide +kernel
theorem dX0_countBelow_3 : decode cX0_countBelow 3 = .ok (.iload_n 1, 1) := by decide +kernel
theorem dX0_countBelow_4 : decode cX0_countBelow 4 = .ok (.istore 5, 2) := by decide +kernel
theorem dX0_countBelow_6 : decode cX0_countBelow 6 = .ok (.iload 5, 2) := by decide +kernel
theorem dX0_countBelow_8 : decode cX0_countBelow 8 = .ok (.iload_n 2, 1) := by decide +kernel
theorem dX0_countBelow_9 : decode cX0_countBelow 9 = .ok (.if_icmp .ge 23, 3) := by decide +kernel
theorem dX0_countBelow_12 : decode cX0_countBelow 12 = .ok (.aload_n 0, 1) := by decide +kernel
theorem dX0_countBelow_13 : decode cX0_countBelow 13 = .ok (.getfield 9, 3) := by decide +kernel
theorem dX0_countBelow_16 : decode cX0_countBelow 16 = .ok (.iload 5, 2) := by decide +kernel
theorem dX0_countBelow_18 : decode cX0_countBelow 18 = .ok (.iaload, 1) := by decide +kernel
theorem dX0_countBelow_19 : decode cX0_countBelow 19 = .ok (.iload_n 3, 1) := by decide +kernel
theorem dX0_countBelow_20 : decode cX0_countBelow 20 = .ok (.if_icmp .ge 6, 3) := by decide +kernel
theorem dX0_countBelow_23 : decode cX0_countBelow 23 = .ok (.iinc 4 1, 3) := by decide +kernel
theorem dX0_countBelow_26 : decode cX0_countBelow 26 = .ok (.iinc 5 1, 3) := by decide +kernel
theorem dX0_countBelow_29 : decode cX0_countBelow 29 = .ok (.goto (-23), 3) := by decide +kernel
theorem dX0_countBelow_32 : decode cX0_countBelow 32 = .ok (.iload 4, 2) := by decide +kernel
theorem dX0_countBelow_34 : decode cX0_countBelow 34 = .ok (.ireturn, 1) := by decide +kernel
theorem dX0_countWithin_0 : decode cX0_countWithin 0 = .ok (.iconst 0, 1) := by decide +kernel
theorem dX0_countWithin_1 : decode cX0_countWithin 1 = .ok (.istore 5, 2) := by decide +kernel
theorem dX0_countWithin_3 : decode cX0_countWithin 3 = .ok (.iload_n 1, 1) := by decide +kernel
theorem dX0_countWithin_4 : decode cX0_countWithin 4 = .ok (.istore 6, 2) := by decide +kernel
theorem dX0_countWithin_6 : decode cX0_countWithin 6 = .ok (.iload 6, 2) := by decide +kernel
theorem dX0_countWithin_8 : decode cX0_countWithin 8 = .ok (.iload_n 2, 1) := by decide +kernel
theorem dX0_countWithin_9 : decode cX0_countWithin 9 = .ok (.if_icmp .ge 35, 3) := by decide +kernel
theorem dX0_countWithin_12 : decode cX0_countWithin 12 = .ok (.aload_n 0, 1) := by decide +kernel
theorem dX0_countWithin_13 : decode cX0_countWithin 13 = .ok (.getfield 9, 3) := by decide +kernel
theorem dX0_countWithin_16 : decode cX0_countWithin 16 = .ok (.iload 6, 2) := by decide +kernel
theorem dX0_countWithin_18 : decode cX0_countWithin 18 = .ok (.iaload, 1) := by decide +kernel
theorem dX0_countWithin_19 : decode cX0_countWithin 19 = .ok (.iload_n 3, 1) := by decide +kernel
theorem dX0_countWithin_20 : decode cX0_countWithin 20 = .ok (.if_icmp .lt 18, 3) := by decide +kernel
theorem dX0_countWithin_23 : decode cX0_countWithin 23 = .ok (.aload_n 0, 1) := by decide +kernel
theorem dX0_countWithin_24 : decode cX0_countWithin 24 = .ok (.getfield 9, 3) := by decide +kernel
theorem dX0_countWithin_27 : decode cX0_countWithin 27 = .ok (.iload 6, 2) := by decide +kernel
theorem dX0_countWithin_29 : decode cX0_countWithin 29 = .ok (.iaload, 1) := by decide +kernel
theorem dX0_countWithin_30 : decode cX0_countWithin 30 = .ok (.iload 4, 2) := by decide +kernel
theorem dX0_countWithin_32 : decode cX0_countWithin 32 = .ok (.if_icmp .gt 6, 3) := by decide +kernel
theorem dX0_countWithin_35 : decode cX0_countWithin 35 = .ok (.iinc 5 1, 3) := by decide +kernel
theorem dX0_countWithin_38 : decode cX0_countWithin 38 = .ok (.iinc 6 1, 3) := by decide +kernel
theorem dX0_countWithin_41 : decode cX0_countWithin 41 = .ok (.goto (-35), 3) := by decide +kernel
theorem dX0_countWithin_44 : decode cX0_countWithin 44 = .ok (.iload 5, 2) := by decide +kernel
theorem dX0_countWithin_46 : decode cX0_countWithin 46 = .ok (.ireturn, 1) := by decide +kernel
theorem dX0_weighBelow_0 : decode cX0_weighBelow 0 = .ok (.lconst 0, 1) := by decide +kernel
theorem dX0_weighBelow_1 : decode cX0_weighBelow 1 = .ok (.lstore 4, 2) := by decide +kernel
theorem dX0_weighBelow_3 : decode cX0_weighBelow 3 = .ok (.iload_n 1, 1) := by decide +kernel
theorem dX0_weighBelow_4 : decode cX0_weighBelow 4 = .ok (.istore 6, 2) := by decide +kernel
theorem dX0_weighBelow_6 : decode cX0_weighBelow 6 = .ok (.iload 6, 2) := by decide +kernel
theorem dX0_weighBelow_8 : decode cX0_weighBelow 8 = .ok (.iload_n 2, 1) := by decide +kernel
theorem dX0_weighBelow_9 : decode cX0_weighBelow 9 = .ok (.if_icmp .ge 33, 3) := by decide +kernel
theorem dX0_weighBelow_12 : decode cX0_weighBelow 12 = .ok (.aload_n 0, 1) := by decide +kernel
theorem dX0_weighBelow_13 : decode cX0_weighBelow 13 = .ok (.getfield 9, 3) := by decide +kernel
theorem dX0_weighBelow_16 : decode cX0_weighBelow 16 = .ok (.iload 6, 2) := by decide +kernel
theorem dX0_weighBelow_18 : decode cX0_weighBelow 18 = .ok (.iaload, 1) := by decide +kernel
theorem dX0_weighBelow_19 : decode cX0_weighBelow 19 = .ok (.iload_n 3, 1) := by decide +kernel
theorem dX0_weighBelow_20 : decode cX0_weighBelow 20 = .ok (.if_icmp .ge 16, 3) := by decide +kernel
theorem dX0_weighBelow_23 : decode cX0_weighBelow 23 = .ok (.lload 4, 2) := by decide +kernel
theorem dX0_weighBelow_25 : decode cX0_weighBelow 25 = .ok (.aload_n 0, 1) := by decide +kernel
theorem dX0_weighBelow_26 : decode cX0_weighBelow 26 = .ok (.getfield 15, 3) := by decide +kernel
theorem dX0_weighBelow_29 : decode cX0_weighBelow 29 = .ok (.iload 6, 2) := by decide +kernel
theorem dX0_weighBelow_31 : decode cX0_weighBelow 31 = .ok (.iaload, 1) := by decide +kernel
theorem dX0_weighBelow_32 : decode cX0_weighBelow 32 = .ok (.i2l, 1) := by decide +kernel
theorem dX0_weighBelow_33 : decode cX0_weighBelow 33 = .ok (.ladd, 1) := by decide +kernel
theorem dX0_weighBelow_34 : decode cX0_weighBelow 34 = .ok (.lstore 4, 2) := by decide +kernel
theorem dX0_weighBelow_36 : decode cX0_weighBelow 36 = .ok (.iinc 6 1, 3) := by decide +kernel
theorem dX0_weighBelow_39 : decode cX0_weighBelow 39 = .ok (.goto (-33), 3) := by decide +kernel
theorem dX0_weighBelow_42 : decode cX0_weighBelow 42 = .ok (.lload 4, 2) := by decide +kernel
theorem dX0_weighBelow_44 : decode cX0_weighBelow 44 = .ok (.lreturn, 1) := by decide +kernel
theorem dX0_leastFrom_0 : decode cX0_leastFrom 0 = .ok (.bipush (-6), 2) := by decide +kernel
theorem dX0_leastFrom_2 : decode cX0_leastFrom 2 = .ok (.istore 4, 2) := by decide +kernel
theorem dX0_leastFrom_4 : decode cX0_leastFrom 4 = .ok (.iload_n 1, 1) := by decide +kernel
theorem dX0_leastFrom_5 : decode cX0_leastFrom 5 = .ok (.istore 5, 2) := by decide +kernel
theorem dX0_leastFrom_7 : decode cX0_leastFrom 7 = .ok (.iload 5, 2) := by decide +kernel
theorem dX0_leastFrom_9 : decode cX0_leastFrom 9 = .ok (.iload_n 2, 1) := by decide +kernel
theorem dX0_leastFrom_10 : decode cX0_leastFrom 10 = .ok (.if_icmp .ge 48, 3) := by decide +kernel
theorem dX0_leastFrom_13 : decode cX0_leastFrom 13 = .ok (.aload_n 0, 1) := by decide +kernel
theorem dX0_leastFrom_14 : decode cX0_leastFrom 14 = .ok (.getfield 9, 3) := by decide +kernel
theorem dX0_leastFrom_17 : decode cX0_leastFrom 17 = .ok (.iload 5, 2) := by decide +kernel
theorem dX0_leastFrom_19 : decode cX0_leastFrom 19 = .ok (.iaload, 1) := by decide +kernel
theorem dX0_leastFrom_20 : decode cX0_leastFrom 20 = .ok (.iload_n 3, 1) := by decide +kernel
theorem dX0_leastFrom_21 : decode cX0_leastFrom 21 = .ok (.if_icmp .lt 31, 3) := by decide +kernel
theorem dX0_leastFrom_24 : decode cX0_leastFrom 24 = .ok (.iload 4, 2) := by decide +kernel
theorem dX0_leastFrom_26 : decode cX0_leastFrom 26 = .ok (.bipush (-6), 2) := by decide +kernel
theorem dX0_leastFrom_28 : decode cX0_leastFrom 28 = .ok (.if_icmp .eq 15, 3) := by decide +kernel
theorem dX0_leastFrom_31 : decode cX0_leastFrom 31 = .ok (.aload_n 0, 1) := by decide +kernel
theorem dX0_leastFrom_32 : decode cX0_leastFrom 32 = .ok (.getfield 9, 3) := by decide +kernel
theorem dX0_leastFrom_35 : decode cX0_leastFrom 35 = .ok (.iload 5, 2) := by decide +kernel
theorem dX0_leastFrom_37 : decode cX0_leastFrom 37 = .ok (.iaload, 1) := by decide +kernel
theorem dX0_leastFrom_38 : decode cX0_leastFrom 38 = .ok (.iload 4, 2) := by decide +kernel
theorem dX0_leastFrom_40 : decode cX0_leastFrom 40 = .ok (.if_icmp .ge 12, 3) := by decide +kernel
theorem dX0_leastFrom_43 : decode cX0_leastFrom 43 = .ok (.aload_n 0, 1) := by decide +kernel
theorem dX0_leastFrom_44 : decode cX0_leastFrom 44 = .ok (.getfield 9, 3) := by decide +kernel
theorem dX0_leastFrom_47 : decode cX0_leastFrom 47 = .ok (.iload 5, 2) := by decide +kernel
theorem dX0_leastFrom_49 : decode cX0_leastFrom 49 = .ok (.iaload, 1) := by decide +kernel
theorem dX0_leastFrom_50 : decode cX0_leastFrom 50 = .ok (.istore 4, 2) := by decide +kernel
theorem dX0_leastFrom_52 : decode cX0_leastFrom 52 = .ok (.iinc 5 1, 3) := by decide +kernel
theorem dX0_leastFrom_55 : decode cX0_leastFrom 55 = .ok (.goto (-48), 3) := by decide +kernel
theorem dX0_leastFrom_58 : decode cX0_leastFrom 58 = .ok (.iload 4, 2) := by decide +kernel
theorem dX0_leastFrom_60 : decode cX0_leastFrom 60 = .ok (.ireturn, 1) := by decide +kernel
theorem dX0_greatestTo_0 : decode cX0_greatestTo 0 = .ok (.bipush (-6), 2) := by decide +kernel
theorem dX0_greatestTo_2 : decode cX0_greatestTo 2 = .ok (.istore 4, 2) := by decide +kernel
theorem dX0_greatestTo_4 : decode cX0_greatestTo 4 = .ok (.iload_n 1, 1) := by decide +kernel
theorem dX0_greatestTo_5 : decode cX0_greatestTo 5 = .ok (.istore 5, 2) := by decide +kernel
theorem dX0_greatestTo_7 : decode cX0_greatestTo 7 = .ok (.iload 5, 2) := by decide +kernel
theorem dX0_greatestTo_9 : decode cX0_greatestTo 9 = .ok (.iload_n 2, 1) := by decide +kernel
theorem dX0_greatestTo_10 : decode cX0_greatestTo 10 = .ok (.if_icmp .ge 48, 3) := by decide +kernel
theorem dX0_greatestTo_13 : decode cX0_greatestTo 13 = .ok (.aload_n 0, 1) := by decide +kernel
theorem dX0_greatestTo_14 : decode cX0_greatestTo 14 = .ok (.getfield 9, 3) := by decide +kernel
theorem dX0_greatestTo_17 : decode cX0_greatestTo 17 = .ok (.iload 5, 2) := by decide +kernel
theorem dX0_greatestTo_19 : decode cX0_greatestTo 19 = .ok (.iaload, 1) := by decide +kernel
theorem dX0_greatestTo_20 : decode cX0_greatestTo 20 = .ok (.iload_n 3, 1) := by decide +kernel
theorem dX0_greatestTo_21 : decode cX0_greatestTo 21 = .ok (.if_icmp .gt 31, 3) := by decide +kernel
theorem dX0_greatestTo_24 : decode cX0_greatestTo 24 = .ok (.iload 4, 2) := by decide +kernel
theorem dX0_greatestTo_26 : decode cX0_greatestTo 26 = .ok (.bipush (-6), 2) := by decide +kernel
theorem dX0_greatestTo_28 : decode cX0_greatestTo 28 = .ok (.if_icmp .eq 15, 3) := by decide +kernel
theorem dX0_greatestTo_31 : decode cX0_greatestTo 31 = .ok (.aload_n 0, 1) := by decide +kernel
theorem dX0_greatestTo_32 : decode cX0_greatestTo 32 = .ok (.getfield 9, 3) := by decide +kernel
theorem dX0_greatestTo_35 : decode cX0_greatestTo 35 = .ok (.iload 5, 2) := by decide +kernel
theorem dX0_greatestTo_37 : decode cX0_greatestTo 37 = .ok (.iaload, 1) := by decide +kernel
theorem dX0_greatestTo_38 : decode cX0_greatestTo 38 = .ok (.iload 4, 2) := by decide +kernel
theorem dX0_greatestTo_40 : decode cX0_greatestTo 40 = .ok (.if_icmp .le 12, 3) := by decide +kernel
theorem dX0_greatestTo_43 : decode cX0_greatestTo 43 = .ok (.aload_n 0, 1) := by decide +kernel
theorem dX0_greatestTo_44 : decode cX0_greatestTo 44 = .ok (.getfield 9, 3) := by decide +kernel
theorem dX0_greatestTo_47 : decode cX0_greatestTo 47 = .ok (.iload 5, 2) := by decide +kernel
theorem dX0_greatestTo_49 : decode cX0_greatestTo 49 = .ok (.iaload, 1) := by decide +kernel
theorem dX0_greatestTo_50 : decode cX0_greatestTo 50 = .ok (.istore 4, 2) := by decide +kernel
theorem dX0_greatestTo_52 : decode cX0_greatestTo 52 = .ok (.iinc 5 1, 3) := by decide +kernel
theorem dX0_greatestTo_55 : decode cX0_greatestTo 55 = .ok (.goto (-48), 3) := by decide +kernel
theorem dX0_greatestTo_58 : decode cX0_greatestTo 58 = .ok (.iload 4, 2) := by decide +kernel
theorem dX0_greatestTo_60 : decode cX0_greatestTo 60 = .ok (.ireturn, 1) := by decide +kernel
theorem dX0_countOnes_0 : decode cX0_countOnes 0 = .ok (.iconst 0, 1) := by decide +kernel
theorem dX0_countOnes_1 : decode cX0_countOnes 1 = .ok (.istore_n 3, 1) := by decide +kernel
theorem dX0_countOnes_2 : decode cX0_countOnes 2 = .ok (.iconst 0, 1) := by decide +kernel
theorem dX0_countOnes_3 : decode cX0_countOnes 3 = .ok (.istore 4, 2) := by decide +kernel
theorem dX0_countOnes_5 : decode cX0_countOnes 5 = .ok (.iload 4, 2) := by decide +kernel
theorem dX0_countOnes_7 : decode cX0_countOnes 7 = .ok (.iload_n 2, 1) := by decide +kernel
theorem dX0_countOnes_8 : decode cX0_countOnes 8 = .ok (.if_icmp .ge 23, 3) := by decide +kernel
theorem dX0_countOnes_11 : decode cX0_countOnes 11 = .ok (.iload_n 3, 1) := by decide +kernel
theorem dX0_countOnes_12 : decode cX0_countOnes 12 = .ok (.aload_n 0, 1) := by decide +kernel
theorem dX0_countOnes_13 : decode cX0_countOnes 13 = .ok (.getfield 9, 3) := by decide +kernel
theorem dX0_countOnes_16 : decode cX0_countOnes 16 = .ok (.iload 4, 2) := by decide +kernel
theorem dX0_countOnes_18 : decode cX0_countOnes 18 = .ok (.iaload, 1) := by decide +kernel
theorem dX0_countOnes_19 : decode cX0_countOnes 19 = .ok (.iload_n 1, 1) := by decide +kernel
theorem dX0_countOnes_20 : decode cX0_countOnes 20 = .ok (.iushr, 1) := by decide +kernel
theorem dX0_countOnes_21 : decode cX0_countOnes 21 = .ok (.iconst 1, 1) := by decide +kernel
theorem dX0_countOnes_22 : decode cX0_countOnes 22 = .ok (.iand, 1) := by decide +kernel
theorem dX0_countOnes_23 : decode cX0_countOnes 23 = .ok (.iadd, 1) := by decide +kernel
theorem dX0_countOnes_24 : decode cX0_countOnes 24 = .ok (.istore_n 3, 1) := by decide +kernel
theorem dX0_countOnes_25 : decode cX0_countOnes 25 = .ok (.iinc 4 1, 3) := by decide +kernel
theorem dX0_countOnes_28 : decode cX0_countOnes 28 = .ok (.goto (-23), 3) := by decide +kernel
theorem dX0_countOnes_31 : decode cX0_countOnes 31 = .ok (.iload_n 3, 1) := by decide +kernel
theorem dX0_countOnes_32 : decode cX0_countOnes 32 = .ok (.ireturn, 1) := by decide +kernel
theorem dX0_splitBy_0 : decode cX0_splitBy 0 = .ok (.iconst 0, 1) := by decide +kernel
theorem dX0_splitBy_1 : decode cX0_splitBy 1 = .ok (.istore_n 2, 1) := by decide +kernel
theorem dX0_splitBy_2 : decode cX0_splitBy 2 = .ok (.iconst 0, 1) := by decide +kernel
theorem dX0_splitBy_3 : decode cX0_splitBy 3 = .ok (.istore_n 3, 1) := by decide +kernel
theorem dX0_splitBy_4 : decode cX0_splitBy 4 = .ok (.iconst 0, 1) := by decide +kernel
theorem dX0_splitBy_5 : decode cX0_splitBy 5 = .ok (.istore 4, 2) := by decide +kernel
theorem dX0_splitBy_7 : decode cX0_splitBy 7 = .ok (.iload 4, 2) := by decide +kernel
theorem dX0_splitBy_9 : decode cX0_splitBy 9 = .ok (.aload_n 0, 1) := by decide +kernel
theorem dX0_splitBy_10 : decode cX0_splitBy 10 = .ok (.getfield 27, 3) := by decide +kernel
theorem dX0_splitBy_13 : decode cX0_splitBy 13 = .ok (.if_icmp .ge 52, 3) := by decide +kernel
theorem dX0_splitBy_16 : decode cX0_splitBy 16 = .ok (.aload_n 0, 1) := by decide +kernel
theorem dX0_splitBy_17 : decode cX0_splitBy 17 = .ok (.getfield 9, 3) := by decide +kernel
theorem dX0_splitBy_20 : decode cX0_splitBy 20 = .ok (.iload 4, 2) := by decide +kernel
theorem dX0_splitBy_22 : decode cX0_splitBy 22 = .ok (.iaload, 1) := by decide +kernel
theorem dX0_splitBy_23 : decode cX0_splitBy 23 = .ok (.istore 5, 2) := by decide +kernel
theorem dX0_splitBy_25 : decode cX0_splitBy 25 = .ok (.iload 5, 2) := by decide +kernel
theorem dX0_splitBy_27 : decode cX0_splitBy 27 = .ok (.iload_n 1, 1) := by decide +kernel
theorem dX0_splitBy_28 : decode cX0_splitBy 28 = .ok (.iushr, 1) := by decide +kernel
theorem dX0_splitBy_29 : decode cX0_splitBy 29 = .ok (.iconst 1, 1) := by decide +kernel
theorem dX0_splitBy_30 : decode cX0_splitBy 30 = .ok (.iand, 1) := by decide +kernel
theorem dX0_splitBy_31 : decode cX0_splitBy 31 = .ok (.ifCond .ne 17, 3) := by decide +kernel
theorem dX0_splitBy_34 : decode cX0_splitBy 34 = .ok (.aload_n 0, 1) := by decide +kernel
theorem dX0_splitBy_35 : decode cX0_splitBy 35 = .ok (.getfield 9, 3) := by decide +kernel
theorem dX0_splitBy_38 : decode cX0_splitBy 38 = .ok (.iload_n 2, 1) := by decide +kernel
theorem dX0_splitBy_39 : decode cX0_splitBy 39 = .ok (.iload 5, 2) := by decide +kernel
theorem dX0_splitBy_41 : decode cX0_splitBy 41 = .ok (.iastore, 1) := by decide +kernel
theorem dX0_splitBy_42 : decode cX0_splitBy 42 = .ok (.iinc 2 1, 3) := by decide +kernel
theorem dX0_splitBy_45 : decode cX0_splitBy 45 = .ok (.goto 14, 3) := by decide +kernel
theorem dX0_splitBy_48 : decode cX0_splitBy 48 = .ok (.aload_n 0, 1) := by decide +kernel
theorem dX0_splitBy_49 : decode cX0_splitBy 49 = .ok (.getfield 18, 3) := by decide +kernel
theorem dX0_splitBy_52 : decode cX0_splitBy 52 = .ok (.iload_n 3, 1) := by decide +kernel
theorem dX0_splitBy_53 : decode cX0_splitBy 53 = .ok (.iload 5, 2) := by decide +kernel
theorem dX0_splitBy_55 : decode cX0_splitBy 55 = .ok (.iastore, 1) := by decide +kernel
theorem dX0_splitBy_56 : decode cX0_splitBy 56 = .ok (.iinc 3 1, 3) := by decide +kernel
theorem dX0_splitBy_59 : decode cX0_splitBy 59 = .ok (.iinc 4 1, 3) := by decide +kernel
theorem dX0_splitBy_62 : decode cX0_splitBy 62 = .ok (.goto (-55), 3) := by decide +kernel
theorem dX0_splitBy_65 : decode cX0_splitBy 65 = .ok (.iconst 0, 1) := by decide +kernel
theorem dX0_splitBy_66 : decode cX0_splitBy 66 = .ok (.istore 4, 2) := by decide +kernel
theorem dX0_splitBy_68 : decode cX0_splitBy 68 = .ok (.iload 4, 2) := by decide +kernel
theorem dX0_splitBy_70 : decode cX0_splitBy 70 = .ok (.iload_n 3, 1) := by decide +kernel
theorem dX0_splitBy_71 : decode cX0_splitBy 71 = .ok (.if_icmp .ge 25, 3) := by decide +kernel
theorem dX0_splitBy_74 : decode cX0_splitBy 74 = .ok (.aload_n 0, 1) := by decide +kernel
theorem dX0_splitBy_75 : decode cX0_splitBy 75 = .ok (.getfield 9, 3) := by decide +kernel
theorem dX0_splitBy_78 : decode cX0_splitBy 78 = .ok (.iload_n 2, 1) := by decide +kernel
theorem dX0_splitBy_79 : decode cX0_splitBy 79 = .ok (.iload 4, 2) := by decide +kernel
theorem dX0_splitBy_81 : decode cX0_splitBy 81 = .ok (.iadd, 1) := by decide +kernel
theorem dX0_splitBy_82 : decode cX0_splitBy 82 = .ok (.aload_n 0, 1) := by decide +kernel
theorem dX0_splitBy_83 : decode cX0_splitBy 83 = .ok (.getfield 18, 3) := by decide +kernel
theorem dX0_splitBy_86 : decode cX0_splitBy 86 = .ok (.iload 4, 2) := by decide +kernel
theorem dX0_splitBy_88 : decode cX0_splitBy 88 = .ok (.iaload, 1) := by decide +kernel
theorem dX0_splitBy_89 : decode cX0_splitBy 89 = .ok (.iastore, 1) := by decide +kernel
theorem dX0_splitBy_90 : decode cX0_splitBy 90 = .ok (.iinc 4 1, 3) := by decide +kernel
theorem dX0_splitBy_93 : decode cX0_splitBy 93 = .ok (.goto (-25), 3) := by decide +kernel
theorem dX0_splitBy_96 : decode cX0_splitBy 96 = .ok (.return_, 1) := by decide +kernel
theorem dX0_placeApartFrom_0 : decode cX0_placeApartFrom 0 = .ok (.aload_n 0, 1) := by decide +kernel
theorem dX0_placeApartFrom_1 : decode cX0_placeApartFrom 1 = .ok (.getfield 27, 3) := by decide +kernel
theorem dX0_placeApartFrom_4 : decode cX0_placeApartFrom 4 = .ok (.aload_n 1, 1) := by decide +kernel
theorem dX0_placeApartFrom_5 : decode cX0_placeApartFrom 5 = .ok (.getfield 27, 3) := by decide +kernel
theorem dX0_placeApartFrom_8 : decode cX0_placeApartFrom 8 = .ok (.invokestatic 37, 3) := by decide +kernel
theorem dX0_placeApartFrom_11 : decode cX0_placeApartFrom 11 = .ok (.istore_n 2, 1) := by decide +kernel
theorem dX0_placeApartFrom_12 : decode cX0_placeApartFrom 12 = .ok (.iconst 0, 1) := by decide +kernel
theorem dX0_placeApartFrom_13 : decode cX0_placeApartFrom 13 = .ok (.istore_n 3, 1) := by decide +kernel
theorem dX0_placeApartFrom_14 : decode cX0_placeApartFrom 14 = .ok (.iload_n 3, 1) := by decide +kernel
theorem dX0_placeApartFrom_15 : decode cX0_placeApartFrom 15 = .ok (.iload_n 2, 1) := by decide +kernel
theorem dX0_placeApartFrom_16 : decode cX0_placeApartFrom 16 = .ok (.if_icmp .ge 41, 3) := by decide +kernel
theorem dX0_placeApartFrom_19 : decode cX0_placeApartFrom 19 = .ok (.aload_n 0, 1) := by decide +kernel
theorem dX0_placeApartFrom_20 : decode cX0_placeApartFrom 20 = .ok (.getfield 9, 3) := by decide +kernel
theorem dX0_placeApartFrom_23 : decode cX0_placeApartFrom 23 = .ok (.iload_n 3, 1) := by decide +kernel
theorem dX0_placeApartFrom_24 : decode cX0_placeApartFrom 24 = .ok (.iaload, 1) := by decide +kernel
theorem dX0_placeApartFrom_25 : decode cX0_placeApartFrom 25 = .ok (.aload_n 1, 1) := by decide +kernel
theorem dX0_placeApartFrom_26 : decode cX0_placeApartFrom 26 = .ok (.getfield 9, 3) := by decide +kernel
theorem dX0_placeApartFrom_29 : decode cX0_placeApartFrom 29 = .ok (.iload_n 3, 1) := by decide +kernel
theorem dX0_placeApartFrom_30 : decode cX0_placeApartFrom 30 = .ok (.iaload, 1) := by decide +kernel
theorem dX0_placeApartFrom_31 : decode cX0_placeApartFrom 31 = .ok (.if_icmp .ne 18, 3) := by decide +kernel
theorem dX0_placeApartFrom_34 : decode cX0_placeApartFrom 34 = .ok (.aload_n 0, 1) := by decide +kernel
theorem dX0_placeApartFrom_35 : decode cX0_placeApartFrom 35 = .ok (.getfield 15, 3) := by decide +kernel
theorem dX0_placeApartFrom_38 : decode cX0_placeApartFrom 38 = .ok (.iload_n 3, 1) := by decide +kernel
theorem dX0_placeApartFrom_39 : decode cX0_placeApartFrom 39 = .ok (.iaload, 1) := by decide +kernel
theorem dX0_placeApartFrom_40 : decode cX0_placeApartFrom 40 = .ok (.aload_n 1, 1) := by decide +kernel
theorem dX0_placeApartFrom_41 : decode cX0_placeApartFrom 41 = .ok (.getfield 15, 3) := by decide +kernel
theorem dX0_placeApartFrom_44 : decode cX0_placeApartFrom 44 = .ok (.iload_n 3, 1) := by decide +kernel
theorem dX0_placeApartFrom_45 : decode cX0_placeApartFrom 45 = .ok (.iaload, 1) := by decide +kernel
theorem dX0_placeApartFrom_46 : decode cX0_placeApartFrom 46 = .ok (.if_icmp .eq 5, 3) := by decide +kernel
theorem dX0_placeApartFrom_49 : decode cX0_placeApartFrom 49 = .ok (.iload_n 3, 1) := by decide +kernel
theorem dX0_placeApartFrom_50 : decode cX0_placeApartFrom 50 = .ok (.ireturn, 1) := by decide +kernel
theorem dX0_placeApartFrom_51 : decode cX0_placeApartFrom 51 = .ok (.iinc 3 1, 3) := by decide +kernel
theorem dX0_placeApartFrom_54 : decode cX0_placeApartFrom 54 = .ok (.goto (-40), 3) := by decide +kernel
theorem dX0_placeApartFrom_57 : decode cX0_placeApartFrom 57 = .ok (.aload_n 0, 1) := by decide +kernel
theorem dX0_placeApartFrom_58 : decode cX0_placeApartFrom 58 = .ok (.getfield 27, 3) := by decide +kernel
theorem dX0_placeApartFrom_61 : decode cX0_placeApartFrom 61 = .ok (.aload_n 1, 1) := by decide +kernel
theorem dX0_placeApartFrom_62 : decode cX0_placeApartFrom 62 = .ok (.getfield 27, 3) := by decide +kernel
theorem dX0_placeApartFrom_65 : decode cX0_placeApartFrom 65 = .ok (.if_icmp .ne 8, 3) := by decide +kernel
theorem dX0_placeApartFrom_68 : decode cX0_placeApartFrom 68 = .ok (.bipush (-6), 2) := by decide +kernel
theorem dX0_placeApartFrom_70 : decode cX0_placeApartFrom 70 = .ok (.goto 4, 3) := by decide +kernel
theorem dX0_placeApartFrom_73 : decode cX0_placeApartFrom 73 = .ok (.iload_n 2, 1) := by decide +kernel
theorem dX0_placeApartFrom_74 : decode cX0_placeApartFrom 74 = .ok (.ireturn, 1) := by decide +kernel
theorem dX1_init_0 : decode cX1_init 0 = .ok (.aload_n 0, 1) := by decide +kernel
theorem dX1_init_1 : decode cX1_init 1 = .ok (.invokespecial 3, 3) := by decide +kernel
theorem dX1_init_4 : decode cX1_init 4 = .ok (.aload_n 0, 1) := by decide +kernel
theorem dX1_init_5 : decode cX1_init 5 = .ok (.sipush 1024, 3) := by decide +kernel
theorem dX1_init_8 : decode cX1_init 8 = .ok (.newarray .int, 2) := by decide +kernel
theorem dX1_init_10 : decode cX1_init 10 = .ok (.putfield 9, 3) := by decide +kernel
theorem dX1_init_13 : decode cX1_init 13 = .ok (.aload_n 0, 1) := by decide +kernel
theorem dX1_init_14 : decode cX1_init 14 = .ok (.sipush 401, 3) := by decide +kernel
theorem dX1_init_17 : decode cX1_init 17 = .ok (.newarray .int, 2) := by decide +kernel
theorem dX1_init_19 : decode cX1_init 19 = .ok (.putfield 15, 3) := by decide +kernel
theorem dX1_init_22 : decode cX1_init 22 = .ok (.return_, 1) := by decide +kernel
theorem dX1_clear_0 : decode cX1_clear 0 = .ok (.aload_n 0, 1) := by decide +kernel
theorem dX1_clear_1 : decode cX1_clear 1 = .ok (.getfield 9, 3) := by decide +kernel
theorem dX1_clear_4 : decode cX1_clear 4 = .ok (.iconst 0, 1) := by decide +kernel
theorem dX1_clear_5 : decode cX1_clear 5 = .ok (.invokestatic 18, 3) := by decide +kernel
theorem dX1_clear_8 : decode cX1_clear 8 = .ok (.return_, 1) := by decide +kernel
theorem dX1_count_0 : decode cX1_count 0 = .ok (.iload_n 2, 1) := by decide +kernel
theorem dX1_count_1 : decode cX1_count 1 = .ok (.istore 5, 2) := by decide +kernel
theorem dX1_count_3 : decode cX1_count 3 = .ok (.iload 5, 2) := by decide +kernel
theorem dX1_count_5 : decode cX1_count 5 = .ok (.iload_n 3, 1) := by decide +kernel
theorem dX1_count_6 : decode cX1_count 6 = .ok (.if_icmp .ge 26, 3) := by decide +kernel
theorem dX1_count_9 : decode cX1_count 9 = .ok (.aload_n 0, 1) := by decide +kernel
theorem dX1_count_10 : decode cX1_count 10 = .ok (.getfield 9, 3) := by decide +kernel
theorem dX1_count_13 : decode cX1_count 13 = .ok (.aload_n 1, 1) := by decide +kernel
theorem dX1_count_14 : decode cX1_count 14 = .ok (.getfield 24, 3) := by decide +kernel
theorem dX1_count_17 : decode cX1_count 17 = .ok (.iload 5, 2) := by decide +kernel
theorem dX1_count_19 : decode cX1_count 19 = .ok (.iaload, 1) := by decide +kernel
theorem dX1_count_20 : decode cX1_count 20 = .ok (.dup2, 1) := by decide +kernel
theorem dX1_count_21 : decode cX1_count 21 = .ok (.iaload, 1) := by decide +kernel
theorem dX1_count_22 : decode cX1_count 22 = .ok (.iload 4, 2) := by decide +kernel
theorem dX1_count_24 : decode cX1_count 24 = .ok (.iadd, 1) := by decide +kernel
theorem dX1_count_25 : decode cX1_count 25 = .ok (.iastore, 1) := by decide +kernel
theorem dX1_count_26 : decode cX1_count 26 = .ok (.iinc 5 1, 3) := by decide +kernel
theorem dX1_count_29 : decode cX1_count 29 = .ok (.goto (-26), 3) := by decide +kernel
theorem dX1_count_32 : decode cX1_count 32 = .ok (.return_, 1) := by decide +kernel
theorem dX1_countDifferent_0 : decode cX1_countDifferent 0 = .ok (.iconst 0, 1) := by decide +kernel
theorem dX1_countDifferent_1 : decode cX1_countDifferent 1 = .ok (.istore_n 1, 1) := by decide +kernel
theorem dX1_countDifferent_2 : decode cX1_countDifferent 2 = .ok (.iconst 0, 1) := by decide +kernel
theorem dX1_countDifferent_3 : decode cX1_countDifferent 3 = .ok (.istore_n 2, 1) := by decide +kernel
theorem dX1_countDifferent_4 : decode cX1_countDifferent 4 = .ok (.iload_n 2, 1) := by decide +kernel
theorem dX1_countDifferent_5 : decode cX1_countDifferent 5 = .ok (.sipush 1023, 3) := by decide +kernel
theorem dX1_countDifferent_8 : decode cX1_countDifferent 8 = .ok (.if_icmp .gt 21, 3) := by decide +kernel
theorem dX1_countDifferent_11 : decode cX1_countDifferent 11 = .ok (.aload_n 0, 1) := by decide +kernel
theorem dX1_countDifferent_12 : decode cX1_countDifferent 12 = .ok (.getfield 9, 3) := by decide +kernel
theorem dX1_countDifferent_15 : decode cX1_countDifferent 15 = .ok (.iload_n 2, 1) := by decide +kernel
theorem dX1_countDifferent_16 : decode cX1_countDifferent 16 = .ok (.iaload, 1) := by decide +kernel
theorem dX1_countDifferent_17 : decode cX1_countDifferent 17 = .ok (.ifCond .eq 6, 3) := by decide +kernel
theorem dX1_countDifferent_20 : decode cX1_countDifferent 20 = .ok (.iinc 1 1, 3) := by decide +kernel
theorem dX1_countDifferent_23 : decode cX1_countDifferent 23 = .ok (.iinc 2 1, 3) := by decide +kernel
theorem dX1_countDifferent_26 : decode cX1_countDifferent 26 = .ok (.goto (-22), 3) := by decide +kernel
theorem dX1_countDifferent_29 : decode cX1_countDifferent 29 = .ok (.iload_n 1, 1) := by decide +kernel
theorem dX1_countDifferent_30 : decode cX1_countDifferent 30 = .ok (.ireturn, 1) := by decide +kernel
theorem dX1_leastUneven_0 : decode cX1_leastUneven 0 = .ok (.iconst 0, 1) := by decide +kernel
theorem dX1_leastUneven_1 : decode cX1_leastUneven 1 = .ok (.istore_n 1, 1) := by decide +kernel
theorem dX1_leastUneven_2 : decode cX1_leastUneven 2 = .ok (.iload_n 1, 1) := by decide +kernel
theorem dX1_leastUneven_3 : decode cX1_leastUneven 3 = .ok (.sipush 1023, 3) := by decide +kernel
theorem dX1_leastUneven_6 : decode cX1_leastUneven 6 = .ok (.if_icmp .gt 20, 3) := by decide +kernel
theorem dX1_leastUneven_9 : decode cX1_leastUneven 9 = .ok (.aload_n 0, 1) := by decide +kernel
theorem dX1_leastUneven_10 : decode cX1_leastUneven 10 = .ok (.getfield 9, 3) := by decide +kernel
theorem dX1_leastUneven_13 : decode cX1_leastUneven 13 = .ok (.iload_n 1, 1) := by decide +kernel
theorem dX1_leastUneven_14 : decode cX1_leastUneven 14 = .ok (.iaload, 1) := by decide +kernel
theorem dX1_leastUneven_15 : decode cX1_leastUneven 15 = .ok (.ifCond .eq 5, 3) := by decide +kernel
theorem dX1_leastUneven_18 : decode cX1_leastUneven 18 = .ok (.iload_n 1, 1) := by decide +kernel
theorem dX1_leastUneven_19 : decode cX1_leastUneven 19 = .ok (.ireturn, 1) := by decide +kernel
theorem dX1_leastUneven_20 : decode cX1_leastUneven 20 = .ok (.iinc 1 1, 3) := by decide +kernel
theorem dX1_leastUneven_23 : decode cX1_leastUneven 23 = .ok (.goto (-21), 3) := by decide +kernel
theorem dX1_leastUneven_26 : decode cX1_leastUneven 26 = .ok (.bipush (-6), 2) := by decide +kernel
theorem dX1_leastUneven_28 : decode cX1_leastUneven 28 = .ok (.ireturn, 1) := by decide +kernel
theorem dX1_valueOfMoreThan_0 : decode cX1_valueOfMoreThan 0 = .ok (.iconst 0, 1) := by decide +kernel
theorem dX1_valueOfMoreThan_1 : decode cX1_valueOfMoreThan 1 = .ok (.istore_n 2, 1) := by decide +kernel
theorem dX1_valueOfMoreThan_2 : decode cX1_valueOfMoreThan 2 = .ok (.iload_n 2, 1) := by decide +kernel
theorem dX1_valueOfMoreThan_3 : decode cX1_valueOfMoreThan 3 = .ok (.sipush 1023, 3) := by decide +kernel
theorem dX1_valueOfMoreThan_6 : decode cX1_valueOfMoreThan 6 = .ok (.if_icmp .gt 21, 3) := by decide +kernel
theorem dX1_valueOfMoreThan_9 : decode cX1_valueOfMoreThan 9 = .ok (.aload_n 0, 1) := by decide +kernel
theorem dX1_valueOfMoreThan_10 : decode cX1_valueOfMoreThan 10 = .ok (.getfield 9, 3) := by decide +kernel
theorem dX1_valueOfMoreThan_13 : decode cX1_valueOfMoreThan 13 = .ok (.iload_n 2, 1) := by decide +kernel
theorem dX1_valueOfMoreThan_14 : decode cX1_valueOfMoreThan 14 = .ok (.iaload, 1) := by decide +kernel
theorem dX1_valueOfMoreThan_15 : decode cX1_valueOfMoreThan 15 = .ok (.iload_n 1, 1) := by decide +kernel
theorem dX1_valueOfMoreThan_16 : decode cX1_valueOfMoreThan 16 = .ok (.if_icmp .le 5, 3) := by decide +kernel
theorem dX1_valueOfMoreThan_19 : decode cX1_valueOfMoreThan 19 = .ok (.iload_n 2, 1) := by decide +kernel
theorem dX1_valueOfMoreThan_20 : decode cX1_valueOfMoreThan 20 = .ok (.ireturn, 1) := by decide +kernel
theorem dX1_valueOfMoreThan_21 : decode cX1_valueOfMoreThan 21 = .ok (.iinc 2 1, 3) := by decide +kernel
theorem dX1_valueOfMoreThan_24 : decode cX1_valueOfMoreThan 24 = .ok (.goto (-22), 3) := by decide +kernel
theorem dX1_valueOfMoreThan_27 : decode cX1_valueOfMoreThan 27 = .ok (.bipush (-6), 2) := by decide +kernel
theorem dX1_valueOfMoreThan_29 : decode cX1_valueOfMoreThan 29 = .ok (.ireturn, 1) := by decide +kernel
theorem dX1_oftenest_0 : decode cX1_oftenest 0 = .ok (.iload_n 1, 1) := by decide +kernel
theorem dX1_oftenest_1 : decode cX1_oftenest 1 = .ok (.ifCond .ge 6, 3) := by decide +kernel
theorem dX1_oftenest_4 : decode cX1_oftenest 4 = .ok (.bipush (-6), 2) := by decide +kernel
theorem dX1_oftenest_6 : decode cX1_oftenest 6 = .ok (.ireturn, 1) := by decide +kernel
theorem dX1_oftenest_7 : decode cX1_oftenest 7 = .ok (.aload_n 0, 1) := by decide +kernel
theorem dX1_oftenest_8 : decode cX1_oftenest 8 = .ok (.invokevirtual 29, 3) := by decide +kernel
theorem dX1_oftenest_11 : decode cX1_oftenest 11 = .ok (.iload_n 1, 1) := by decide +kernel
theorem dX1_oftenest_12 : decode cX1_oftenest 12 = .ok (.istore_n 2, 1) := by decide +kernel
theorem dX1_oftenest_13 : decode cX1_oftenest 13 = .ok (.sipush 400, 3) := by decide +kernel
theorem dX1_oftenest_16 : decode cX1_oftenest 16 = .ok (.istore_n 3, 1) := by decide +kernel
theorem dX1_oftenest_17 : decode cX1_oftenest 17 = .ok (.iload_n 3, 1) := by decide +kernel
theorem dX1_oftenest_18 : decode cX1_oftenest 18 = .ok (.ifCond .le 35, 3) := by decide +kernel
theorem dX1_oftenest_21 : decode cX1_oftenest 21 = .ok (.iload_n 2, 1) := by decide +kernel
theorem dX1_oftenest_22 : decode cX1_oftenest 22 = .ok (.aload_n 0, 1) := by decide +kernel
theorem dX1_oftenest_23 : decode cX1_oftenest 23 = .ok (.getfield 15, 3) := by decide +kernel
theorem dX1_oftenest_26 : decode cX1_oftenest 26 = .ok (.iload_n 3, 1) := by decide +kernel
theorem dX1_oftenest_27 : decode cX1_oftenest 27 = .ok (.iaload, 1) := by decide +kernel
theorem dX1_oftenest_28 : decode cX1_oftenest 28 = .ok (.if_icmp .ge 10, 3) := by decide +kernel
theorem dX1_oftenest_31 : decode cX1_oftenest 31 = .ok (.aload_n 0, 1) := by decide +kernel
theorem dX1_oftenest_32 : decode cX1_oftenest 32 = .ok (.iload_n 3, 1) := by decide +kernel
theorem dX1_oftenest_33 : decode cX1_oftenest 33 = .ok (.iload_n 2, 1) := by decide +kernel
theorem dX1_oftenest_34 : decode cX1_oftenest 34 = .ok (.invokevirtual 32, 3) := by decide +kernel
theorem dX1_oftenest_37 : decode cX1_oftenest 37 = .ok (.ireturn, 1) := by decide +kernel
theorem dX1_oftenest_38 : decode cX1_oftenest 38 = .ok (.iload_n 2, 1) := by decide +kernel
theorem dX1_oftenest_39 : decode cX1_oftenest 39 = .ok (.aload_n 0, 1) := by decide +kernel
theorem dX1_oftenest_40 : decode cX1_oftenest 40 = .ok (.getfield 15, 3) := by decide +kernel
theorem dX1_oftenest_43 : decode cX1_oftenest 43 = .ok (.iload_n 3, 1) := by decide +kernel
theorem dX1_oftenest_44 : decode cX1_oftenest 44 = .ok (.iaload, 1) := by decide +kernel
theorem dX1_oftenest_45 : decode cX1_oftenest 45 = .ok (.isub, 1) := by decide +kernel
theorem dX1_oftenest_46 : decode cX1_oftenest 46 = .ok (.istore_n 2, 1) := by decide +kernel
theorem dX1_oftenest_47 : decode cX1_oftenest 47 = .ok (.iinc 3 (-1), 3) := by decide +kernel
theorem dX1_oftenest_50 : decode cX1_oftenest 50 = .ok (.goto (-33), 3) := by decide +kernel
theorem dX1_oftenest_53 : decode cX1_oftenest 53 = .ok (.bipush (-6), 2) := by decide +kernel
theorem dX1_oftenest_55 : decode cX1_oftenest 55 = .ok (.ireturn, 1) := by decide +kernel
theorem dX1_groupByCount_0 : decode cX1_groupByCount 0 = .ok (.aload_n 0, 1) := by decide +kernel
theorem dX1_groupByCount_1 : decode cX1_groupByCount 1 = .ok (.getfield 15, 3) := by decide +kernel
theorem dX1_groupByCount_4 : decode cX1_groupByCount 4 = .ok (.iconst 0, 1) := by decide +kernel
theorem dX1_groupByCount_5 : decode cX1_groupByCount 5 = .ok (.invokestatic 18, 3) := by decide +kernel
theorem dX1_groupByCount_8 : decode cX1_groupByCount 8 = .ok (.iconst 0, 1) := by decide +kernel
theorem dX1_groupByCount_9 : decode cX1_groupByCount 9 = .ok (.istore_n 1, 1) := by decide +kernel
theorem dX1_groupByCount_10 : decode cX1_groupByCount 10 = .ok (.iload_n 1, 1) := by decide +kernel
theorem dX1_groupByCount_11 : decode cX1_groupByCount 11 = .ok (.sipush 1023, 3) := by decide +kernel
theorem dX1_groupByCount_14 : decode cX1_groupByCount 14 = .ok (.if_icmp .gt 24, 3) := by decide +kernel
theorem dX1_groupByCount_17 : decode cX1_groupByCount 17 = .ok (.aload_n 0, 1) := by decide +kernel
theorem dX1_groupByCount_18 : decode cX1_groupByCount 18 = .ok (.getfield 15, 3) := by decide +kernel
theorem dX1_groupByCount_21 : decode cX1_groupByCount 21 = .ok (.aload_n 0, 1) := by decide +kernel
theorem dX1_groupByCount_22 : decode cX1_groupByCount 22 = .ok (.getfield 9, 3) := by decide +kernel
theorem dX1_groupByCount_25 : decode cX1_groupByCount 25 = .ok (.iload_n 1, 1) := by decide +kernel
theorem dX1_groupByCount_26 : decode cX1_groupByCount 26 = .ok (.iaload, 1) := by decide +kernel
theorem dX1_groupByCount_27 : decode cX1_groupByCount 27 = .ok (.dup2, 1) := by decide +kernel
theorem dX1_groupByCount_28 : decode cX1_groupByCount 28 = .ok (.iaload, 1) := by decide +kernel
theorem dX1_groupByCount_29 : decode cX1_groupByCount 29 = .ok (.iconst 1, 1) := by decide +kernel
theorem dX1_groupByCount_30 : decode cX1_groupByCount 30 = .ok (.iadd, 1) := by decide +kernel
theorem dX1_groupByCount_31 : decode cX1_groupByCount 31 = .ok (.iastore, 1) := by decide +kernel
theorem dX1_groupByCount_32 : decode cX1_groupByCount 32 = .ok (.iinc 1 1, 3) := by decide +kernel
theorem dX1_groupByCount_35 : decode cX1_groupByCount 35 = .ok (.goto (-25), 3) := by decide +kernel
theorem dX1_groupByCount_38 : decode cX1_groupByCount 38 = .ok (.return_, 1) := by decide +kernel
theorem dX1_valueOfCount_0 : decode cX1_valueOfCount 0 = .ok (.iload_n 2, 1) := by decide +kernel
theorem dX1_valueOfCount_1 : decode cX1_valueOfCount 1 = .ok (.istore_n 3, 1) := by decide +kernel
theorem dX1_valueOfCount_2 : decode cX1_valueOfCount 2 = .ok (.iconst 0, 1) := by decide +kernel
theorem dX1_valueOfCount_3 : decode cX1_valueOfCount 3 = .ok (.istore 4, 2) := by decide +kernel
theorem dX1_valueOfCount_5 : decode cX1_valueOfCount 5 = .ok (.iload 4, 2) := by decide +kernel
theorem dX1_valueOfCount_7 : decode cX1_valueOfCount 7 = .ok (.sipush 1023, 3) := by decide +kernel
theorem dX1_valueOfCount_10 : decode cX1_valueOfCount 10 = .ok (.if_icmp .gt 30, 3) := by decide +kernel
theorem dX1_valueOfCount_13 : decode cX1_valueOfCount 13 = .ok (.aload_n 0, 1) := by decide +kernel
theorem dX1_valueOfCount_14 : decode cX1_valueOfCount 14 = .ok (.getfield 9, 3) := by decide +kernel
theorem dX1_valueOfCount_17 : decode cX1_valueOfCount 17 = .ok (.iload 4, 2) := by decide +kernel
theorem dX1_valueOfCount_19 : decode cX1_valueOfCount 19 = .ok (.iaload, 1) := by decide +kernel
theorem dX1_valueOfCount_20 : decode cX1_valueOfCount 20 = .ok (.iload_n 1, 1) := by decide +kernel
theorem dX1_valueOfCount_21 : decode cX1_valueOfCount 21 = .ok (.if_icmp .ne 13, 3) := by decide +kernel
theorem dX1_valueOfCount_24 : decode cX1_valueOfCount 24 = .ok (.iload_n 3, 1) := by decide +kernel
theorem dX1_valueOfCount_25 : decode cX1_valueOfCount 25 = .ok (.ifCond .ne 6, 3) := by decide +kernel
theorem dX1_valueOfCount_28 : decode cX1_valueOfCount 28 = .ok (.iload 4, 2) := by decide +kernel
theorem dX1_valueOfCount_30 : decode cX1_valueOfCount 30 = .ok (.ireturn, 1) := by decide +kernel
theorem dX1_valueOfCount_31 : decode cX1_valueOfCount 31 = .ok (.iinc 3 (-1), 3) := by decide +kernel
theorem dX1_valueOfCount_34 : decode cX1_valueOfCount 34 = .ok (.iinc 4 1, 3) := by decide +kernel
theorem dX1_valueOfCount_37 : decode cX1_valueOfCount 37 = .ok (.goto (-32), 3) := by decide +kernel
theorem dX1_valueOfCount_40 : decode cX1_valueOfCount 40 = .ok (.bipush (-6), 2) := by decide +kernel
theorem dX1_valueOfCount_42 : decode cX1_valueOfCount 42 = .ok (.ireturn, 1) := by decide +kernel
theorem dX2_init_0 : decode cX2_init 0 = .ok (.aload_n 0, 1) := by decide +kernel
theorem dX2_init_1 : decode cX2_init 1 = .ok (.invokespecial 1, 3) := by decide +kernel
theorem dX2_init_4 : decode cX2_init 4 = .ok (.iload 4, 2) := by decide +kernel
theorem dX2_init_6 : decode cX2_init 6 = .ok (.iconst 0, 1) := by decide +kernel
theorem dX2_init_7 : decode cX2_init 7 = .ok (.invokestatic 7, 3) := by decide +kernel
theorem dX2_init_10 : decode cX2_init 10 = .ok (.istore 5, 2) := by decide +kernel
theorem dX2_init_12 : decode cX2_init 12 = .ok (.aload_n 0, 1) := by decide +kernel
theorem dX2_init_13 : decode cX2_init 13 = .ok (.iload_n 1, 1) := by decide +kernel
theorem dX2_init_14 : decode cX2_init 14 = .ok (.putfield 13, 3) := by decide +kernel
theorem dX2_init_17 : decode cX2_init 17 = .ok (.aload_n 0, 1) := by decide +kernel
theorem dX2_init_18 : decode cX2_init 18 = .ok (.aload_n 2, 1) := by decide +kernel
theorem dX2_init_19 : decode cX2_init 19 = .ok (.putfield 19, 3) := by decide +kernel
theorem dX2_init_22 : decode cX2_init 22 = .ok (.aload_n 0, 1) := by decide +kernel
theorem dX2_init_23 : decode cX2_init 23 = .ok (.iload_n 3, 1) := by decide +kernel
theorem dX2_init_24 : decode cX2_init 24 = .ok (.putfield 23, 3) := by decide +kernel
theorem dX2_init_27 : decode cX2_init 27 = .ok (.aload_n 0, 1) := by decide +kernel
theorem dX2_init_28 : decode cX2_init 28 = .ok (.iload_n 3, 1) := by decide +kernel
theorem dX2_init_29 : decode cX2_init 29 = .ok (.iload 5, 2) := by decide +kernel
theorem dX2_init_31 : decode cX2_init 31 = .ok (.iadd, 1) := by decide +kernel
theorem dX2_init_32 : decode cX2_init 32 = .ok (.putfield 26, 3) := by decide +kernel
theorem dX2_init_35 : decode cX2_init 35 = .ok (.aload_n 0, 1) := by decide +kernel
theorem dX2_init_36 : decode cX2_init 36 = .ok (.iload 5, 2) := by decide +kernel
theorem dX2_init_38 : decode cX2_init 38 = .ok (.newarray .int, 2) := by decide +kernel
theorem dX2_init_40 : decode cX2_init 40 = .ok (.putfield 29, 3) := by decide +kernel
theorem dX2_init_43 : decode cX2_init 43 = .ok (.aload_n 0, 1) := by decide +kernel
theorem dX2_init_44 : decode cX2_init 44 = .ok (.iload 5, 2) := by decide +kernel
theorem dX2_init_46 : decode cX2_init 46 = .ok (.newarray .int, 2) := by decide +kernel
theorem dX2_init_48 : decode cX2_init 48 = .ok (.putfield 33, 3) := by decide +kernel
theorem dX2_init_51 : decode cX2_init 51 = .ok (.aload_n 0, 1) := by decide +kernel
theorem dX2_init_52 : decode cX2_init 52 = .ok (.aload_n 2, 1) := by decide +kernel
theorem dX2_init_53 : decode cX2_init 53 = .ok (.ifnull 14, 3) := by decide +kernel
theorem dX2_init_56 : decode cX2_init 56 = .ok (.aload_n 2, 1) := by decide +kernel
theorem dX2_init_57 : decode cX2_init 57 = .ok (.getfield 36, 3) := by decide +kernel
theorem dX2_init_60 : decode cX2_init 60 = .ok (.ifCond .le 7, 3) := by decide +kernel
theorem dX2_init_63 : decode cX2_init 63 = .ok (.iconst 1, 1) := by decide +kernel
theorem dX2_init_64 : decode cX2_init 64 = .ok (.goto 4, 3) := by decide +kernel
theorem dX2_init_67 : decode cX2_init 67 = .ok (.iconst 0, 1) := by decide +kernel
theorem dX2_init_68 : decode cX2_init 68 = .ok (.putfield 39, 3) := by decide +kernel
theorem dX2_init_71 : decode cX2_init 71 = .ok (.aload_n 0, 1) := by decide +kernel
theorem dX2_init_72 : decode cX2_init 72 = .ok (.aload_n 2, 1) := by decide +kernel
theorem dX2_init_73 : decode cX2_init 73 = .ok (.ifnonnull 7, 3) := by decide +kernel
theorem dX2_init_76 : decode cX2_init 76 = .ok (.iconst 1, 1) := by decide +kernel
theorem dX2_init_77 : decode cX2_init 77 = .ok (.goto 9, 3) := by decide +kernel
theorem dX2_init_80 : decode cX2_init 80 = .ok (.aload_n 2, 1) := by decide +kernel
theorem dX2_init_81 : decode cX2_init 81 = .ok (.getfield 43, 3) := by decide +kernel
theorem dX2_init_84 : decode cX2_init 84 = .ok (.iconst 1, 1) := by decide +kernel
theorem dX2_init_85 : decode cX2_init 85 = .ok (.iadd, 1) := by decide +kernel
theorem dX2_init_86 : decode cX2_init 86 = .ok (.putfield 43, 3) := by decide +kernel
theorem dX2_init_89 : decode cX2_init 89 = .ok (.return_, 1) := by decide +kernel
theorem dX2_writeOwn_0 : decode cX2_writeOwn 0 = .ok (.iload_n 1, 1) := by decide +kernel
theorem dX2_writeOwn_1 : decode cX2_writeOwn 1 = .ok (.ifCond .lt 35, 3) := by decide +kernel
theorem dX2_writeOwn_4 : decode cX2_writeOwn 4 = .ok (.iload_n 1, 1) := by decide +kernel
theorem dX2_writeOwn_5 : decode cX2_writeOwn 5 = .ok (.aload_n 0, 1) := by decide +kernel
theorem dX2_writeOwn_6 : decode cX2_writeOwn 6 = .ok (.getfield 29, 3) := by decide +kernel
theorem dX2_writeOwn_9 : decode cX2_writeOwn 9 = .ok (.arraylength, 1) := by decide +kernel
theorem dX2_writeOwn_10 : decode cX2_writeOwn 10 = .ok (.if_icmp .ge 26, 3) := by decide +kernel
theorem dX2_writeOwn_13 : decode cX2_writeOwn 13 = .ok (.iload_n 1, 1) := by decide +kernel
theorem dX2_writeOwn_14 : decode cX2_writeOwn 14 = .ok (.aload_n 0, 1) := by decide +kernel
theorem dX2_writeOwn_15 : decode cX2_writeOwn 15 = .ok (.getfield 33, 3) := by decide +kernel
theorem dX2_writeOwn_18 : decode cX2_writeOwn 18 = .ok (.arraylength, 1) := by decide +kernel
theorem dX2_writeOwn_19 : decode cX2_writeOwn 19 = .ok (.if_icmp .ge 17, 3) := by decide +kernel
theorem dX2_writeOwn_22 : decode cX2_writeOwn 22 = .ok (.aload_n 0, 1) := by decide +kernel
theorem dX2_writeOwn_23 : decode cX2_writeOwn 23 = .ok (.getfield 29, 3) := by decide +kernel
theorem dX2_writeOwn_26 : decode cX2_writeOwn 26 = .ok (.iload_n 1, 1) := by decide +kernel
theorem dX2_writeOwn_27 : decode cX2_writeOwn 27 = .ok (.iload_n 2, 1) := by decide +kernel
theorem dX2_writeOwn_28 : decode cX2_writeOwn 28 = .ok (.iastore, 1) := by decide +kernel
theorem dX2_writeOwn_29 : decode cX2_writeOwn 29 = .ok (.aload_n 0, 1) := by decide +kernel
theorem dX2_writeOwn_30 : decode cX2_writeOwn 30 = .ok (.getfield 33, 3) := by decide +kernel
theorem dX2_writeOwn_33 : decode cX2_writeOwn 33 = .ok (.iload_n 1, 1) := by decide +kernel
theorem dX2_writeOwn_34 : decode cX2_writeOwn 34 = .ok (.iload_n 3, 1) := by decide +kernel
theorem dX2_writeOwn_35 : decode cX2_writeOwn 35 = .ok (.iastore, 1) := by decide +kernel
theorem dX2_writeOwn_36 : decode cX2_writeOwn 36 = .ok (.return_, 1) := by decide +kernel
theorem dJ9_max_7cf53_0 : decode cJ9_max_7cf53 0 = .ok (.iload_n 0, 1) := by decide +kernel
theorem dJ9_max_7cf53_1 : decode cJ9_max_7cf53 1 = .ok (.iload_n 1, 1) := by decide +kernel
theorem dJ9_max_7cf53_2 : decode cJ9_max_7cf53 2 = .ok (.if_icmp .lt 7, 3) := by decide +kernel
theorem dJ9_max_7cf53_5 : decode cJ9_max_7cf53 5 = .ok (.iload_n 0, 1) := by decide +kernel
theorem dJ9_max_7cf53_6 : decode cJ9_max_7cf53 6 = .ok (.goto 4, 3) := by decide +kernel
theorem dJ9_max_7cf53_9 : decode cJ9_max_7cf53 9 = .ok (.iload_n 1, 1) := by decide +kernel
theorem dJ9_max_7cf53_10 : decode cJ9_max_7cf53 10 = .ok (.ireturn, 1) := by decide +kernel
theorem dJ9_min_7cf53_0 : decode cJ9_min_7cf53 0 = .ok (.iload_n 0, 1) := by decide +kernel
theorem dJ9_min_7cf53_1 : decode cJ9_min_7cf53 1 = .ok (.iload_n 1, 1) := by decide +kernel
theorem dJ9_min_7cf53_2 : decode cJ9_min_7cf53 2 = .ok (.if_icmp .gt 7, 3) := by decide +kernel
theorem dJ9_min_7cf53_5 : decode cJ9_min_7cf53 5 = .ok (.iload_n 0, 1) := by decide +kernel
theorem dJ9_min_7cf53_6 : decode cJ9_min_7cf53 6 = .ok (.goto 4, 3) := by decide +kernel
theorem dJ9_min_7cf53_9 : decode cJ9_min_7cf53 9 = .ok (.iload_n 1, 1) := by decide +kernel
theorem dJ9_min_7cf53_10 : decode cJ9_min_7cf53 10 = .ok (.ireturn, 1) := by decide +kernel
theorem dJ7_fill_53178_0 : decode cJ7_fill_53178 0 = .ok (.iconst 0, 1) := by decide +kernel
theorem dJ7_fill_53178_1 : decode cJ7_fill_53178 1 = .ok (.istore_n 2, 1) := by decide +kernel
theorem dJ7_fill_53178_2 : decode cJ7_fill_53178 2 = .ok (.aload_n 0, 1) := by decide +kernel
theorem dJ7_fill_53178_3 : decode cJ7_fill_53178 3 = .ok (.arraylength, 1) := by decide +kernel
theorem dJ7_fill_53178_4 : decode cJ7_fill_53178 4 = .ok (.istore_n 3, 1) := by decide +kernel
theorem dJ7_fill_53178_5 : decode cJ7_fill_53178 5 = .ok (.iload_n 2, 1) := by decide +kernel
theorem dJ7_fill_53178_6 : decode cJ7_fill_53178 6 = .ok (.iload_n 3, 1) := by decide +kernel
theorem dJ7_fill_53178_7 : decode cJ7_fill_53178 7 = .ok (.if_icmp .ge 13, 3) := by decide +kernel
theorem dJ7_fill_53178_10 : decode cJ7_fill_53178 10 = .ok (.aload_n 0, 1) := by decide +kernel
theorem dJ7_fill_53178_11 : decode cJ7_fill_53178 11 = .ok (.iload_n 2, 1) := by decide +kernel
theorem dJ7_fill_53178_12 : decode cJ7_fill_53178 12 = .ok (.iload_n 1, 1) := by decide +kernel
theorem dJ7_fill_53178_13 : decode cJ7_fill_53178 13 = .ok (.iastore, 1) := by decide +kernel
theorem dJ7_fill_53178_14 : decode cJ7_fill_53178 14 = .ok (.iinc 2 1, 3) := by decide +kernel
theorem dJ7_fill_53178_17 : decode cJ7_fill_53178 17 = .ok (.goto (-12), 3) := by decide +kernel
theorem dJ7_fill_53178_20 : decode cJ7_fill_53178 20 = .ok (.return_, 1) := by decide +kernel
end
section
theorem dX3_init_0 : decode cX3_init 0 = .ok (.aload_n 0, 1) := by decide +kernel
theorem dX3_init_1 : decode cX3_init 1 = .ok (.invokespecial 1, 3) := by decide +kernel
theorem dX3_init_4 : decode cX3_init 4 = .ok (.aload_n 0, 1) := by decide +kernel
theorem dX3_init_5 : decode cX3_init 5 = .ok (.sipush 500, 3) := by decide +kernel
theorem dX3_init_8 : decode cX3_init 8 = .ok (.anewarray 9, 3) := by decide +kernel
theorem dX3_init_11 : decode cX3_init 11 = .ok (.putfield 11, 3) := by decide +kernel
theorem dX3_init_14 : decode cX3_init 14 = .ok (.aload_n 0, 1) := by decide +kernel
theorem dX3_init_15 : decode cX3_init 15 = .ok (.bipush 12, 2) := by decide +kernel
theorem dX3_init_17 : decode cX3_init 17 = .ok (.anewarray 9, 3) := by decide +kernel
theorem dX3_init_20 : decode cX3_init 20 = .ok (.putfield 15, 3) := by decide +kernel
theorem dX3_init_23 : decode cX3_init 23 = .ok (.aload_n 0, 1) := by decide +kernel
theorem dX3_init_24 : decode cX3_init 24 = .ok (.bipush 12, 2) := by decide +kernel
theorem dX3_init_26 : decode cX3_init 26 = .ok (.newarray .int, 2) := by decide +kernel
theorem dX3_init_28 : decode cX3_init 28 = .ok (.putfield 18, 3) := by decide +kernel
theorem dX3_init_31 : decode cX3_init 31 = .ok (.aload_n 0, 1) := by decide +kernel
theorem dX3_init_32 : decode cX3_init 32 = .ok (.new 22, 3) := by decide +kernel
theorem dX3_init_35 : decode cX3_init 35 = .ok (.dup, 1) := by decide +kernel
theorem dX3_init_36 : decode cX3_init 36 = .ok (.invokespecial 24, 3) := by decide +kernel
theorem dX3_init_39 : decode cX3_init 39 = .ok (.putfield 25, 3) := by decide +kernel
theorem dX3_init_42 : decode cX3_init 42 = .ok (.aload_n 0, 1) := by decide +kernel
theorem dX3_init_43 : decode cX3_init 43 = .ok (.new 22, 3) := by decide +kernel
theorem dX3_init_46 : decode cX3_init 46 = .ok (.dup, 1) := by decide +kernel
theorem dX3_init_47 : decode cX3_init 47 = .ok (.invokespecial 24, 3) := by decide +kernel
theorem dX3_init_50 : decode cX3_init 50 = .ok (.putfield 29, 3) := by decide +kernel
theorem dX3_init_53 : decode cX3_init 53 = .ok (.aload_n 0, 1) := by decide +kernel
theorem dX3_init_54 : decode cX3_init 54 = .ok (.new 32, 3) := by decide +kernel
theorem dX3_init_57 : decode cX3_init 57 = .ok (.dup, 1) := by decide +kernel
theorem dX3_init_58 : decode cX3_init 58 = .ok (.invokespecial 34, 3) := by decide +kernel
theorem dX3_init_61 : decode cX3_init 61 = .ok (.putfield 35, 3) := by decide +kernel
theorem dX3_init_64 : decode cX3_init 64 = .ok (.aload_n 0, 1) := by decide +kernel
theorem dX3_init_65 : decode cX3_init 65 = .ok (.bipush 10, 2) := by decide +kernel
theorem dX3_init_67 : decode cX3_init 67 = .ok (.newarray .int, 2) := by decide +kernel
theorem dX3_init_69 : decode cX3_init 69 = .ok (.putfield 39, 3) := by decide +kernel
theorem dX3_init_72 : decode cX3_init 72 = .ok (.aload_n 0, 1) := by decide +kernel
theorem dX3_init_73 : decode cX3_init 73 = .ok (.bipush 7, 2) := by decide +kernel
theorem dX3_init_75 : decode cX3_init 75 = .ok (.newarray .int, 2) := by decide +kernel
theorem dX3_init_77 : decode cX3_init 77 = .ok (.putfield 42, 3) := by decide +kernel
theorem dX3_init_80 : decode cX3_init 80 = .ok (.new 9, 3) := by decide +kernel
theorem dX3_init_83 : decode cX3_init 83 = .ok (.dup, 1) := by decide +kernel
theorem dX3_init_84 : decode cX3_init 84 = .ok (.iconst 0, 1) := by decide +kernel
theorem dX3_init_85 : decode cX3_init 85 = .ok (.aconst_null, 1) := by decide +kernel
theorem dX3_init_86 : decode cX3_init 86 = .ok (.iconst 0, 1) := by decide +kernel
theorem dX3_init_87 : decode cX3_init 87 = .ok (.iconst 0, 1) := by decide +kernel
theorem dX3_init_88 : decode cX3_init 88 = .ok (.invokespecial 45, 3) := by decide +kernel
theorem dX3_init_91 : decode cX3_init 91 = .ok (.astore_n 1, 1) := by decide +kernel
theorem dX3_init_92 : decode cX3_init 92 = .ok (.aload_n 0, 1) := by decide +kernel
theorem dX3_init_93 : decode cX3_init 93 = .ok (.getfield 11, 3) := by decide +kernel
theorem dX3_init_96 : decode cX3_init 96 = .ok (.iconst 0, 1) := by decide +kernel
theorem dX3_init_97 : decode cX3_init 97 = .ok (.aload_n 1, 1) := by decide +kernel
theorem dX3_init_98 : decode cX3_init 98 = .ok (.aastore, 1) := by decide +kernel
theorem dX3_init_99 : decode cX3_init 99 = .ok (.aload_n 0, 1) := by decide +kernel
theorem dX3_init_100 : decode cX3_init 100 = .ok (.iconst 1, 1) := by decide +kernel
theorem dX3_init_101 : decode cX3_init 101 = .ok (.putfield 48, 3) := by decide +kernel
theorem dX3_init_104 : decode cX3_init 104 = .ok (.aload_n 0, 1) := by decide +kernel
theorem dX3_init_105 : decode cX3_init 105 = .ok (.getfield 15, 3) := by decide +kernel
theorem dX3_init_108 : decode cX3_init 108 = .ok (.iconst 0, 1) := by decide +kernel
theorem dX3_init_109 : decode cX3_init 109 = .ok (.aload_n 1, 1) := by decide +kernel
theorem dX3_init_110 : decode cX3_init 110 = .ok (.aastore, 1) := by decide +kernel
theorem dX3_init_111 : decode cX3_init 111 = .ok (.aload_n 0, 1) := by decide +kernel
theorem dX3_init_112 : decode cX3_init 112 = .ok (.getfield 18, 3) := by decide +kernel
theorem dX3_init_115 : decode cX3_init 115 = .ok (.iconst 0, 1) := by decide +kernel
theorem dX3_init_116 : decode cX3_init 116 = .ok (.iconst 0, 1) := by decide +kernel
theorem dX3_init_117 : decode cX3_init 117 = .ok (.iastore, 1) := by decide +kernel
theorem dX3_init_118 : decode cX3_init 118 = .ok (.return_, 1) := by decide +kernel
theorem dX3_push_0 : decode cX3_push 0 = .ok (.aload_n 0, 1) := by decide +kernel
theorem dX3_push_1 : decode cX3_push 1 = .ok (.iload_n 1, 1) := by decide +kernel
theorem dX3_push_2 : decode cX3_push 2 = .ok (.invokevirtual 52, 3) := by decide +kernel
theorem dX3_push_5 : decode cX3_push 5 = .ok (.istore 5, 2) := by decide +kernel
theorem dX3_push_7 : decode cX3_push 7 = .ok (.iload 5, 2) := by decide +kernel
theorem dX3_push_9 : decode cX3_push 9 = .ok (.ifCond .eq 10, 3) := by decide +kernel
theorem dX3_push_12 : decode cX3_push 12 = .ok (.aload_n 0, 1) := by decide +kernel
theorem dX3_push_13 : decode cX3_push 13 = .ok (.iload 5, 2) := by decide +kernel
theorem dX3_push_15 : decode cX3_push 15 = .ok (.invokevirtual 56, 3) := by decide +kernel
theorem dX3_push_18 : decode cX3_push 18 = .ok (.ireturn, 1) := by decide +kernel
theorem dX3_push_19 : decode cX3_push 19 = .ok (.iload_n 2, 1) := by decide +kernel
theorem dX3_push_20 : decode cX3_push 20 = .ok (.invokestatic 59, 3) := by decide +kernel
theorem dX3_push_23 : decode cX3_push 23 = .ok (.ifCond .eq 11, 3) := by decide +kernel
theorem dX3_push_26 : decode cX3_push 26 = .ok (.iload 4, 2) := by decide +kernel
theorem dX3_push_28 : decode cX3_push 28 = .ok (.invokestatic 63, 3) := by decide +kernel
theorem dX3_push_31 : decode cX3_push 31 = .ok (.ifCond .ne 9, 3) := by decide +kernel
theorem dX3_push_34 : decode cX3_push 34 = .ok (.aload_n 0, 1) := by decide +kernel
theorem dX3_push_35 : decode cX3_push 35 = .ok (.iconst (-1), 1) := by decide +kernel
theorem dX3_push_36 : decode cX3_push 36 = .ok (.invokevirtual 56, 3) := by decide +kernel
theorem dX3_push_39 : decode cX3_push 39 = .ok (.ireturn, 1) := by decide +kernel
theorem dX3_push_40 : decode cX3_push 40 = .ok (.aload_n 0, 1) := by decide +kernel
theorem dX3_push_41 : decode cX3_push 41 = .ok (.getfield 15, 3) := by decide +kernel
theorem dX3_push_44 : decode cX3_push 44 = .ok (.iload_n 1, 1) := by decide +kernel
theorem dX3_push_45 : decode cX3_push 45 = .ok (.aaload, 1) := by decide +kernel
theorem dX3_push_46 : decode cX3_push 46 = .ok (.astore 6, 2) := by decide +kernel
theorem dX3_push_48 : decode cX3_push 48 = .ok (.aload 6, 2) := by decide +kernel
theorem dX3_push_50 : decode cX3_push 50 = .ok (.getfield 66, 3) := by decide +kernel
theorem dX3_push_53 : decode cX3_push 53 = .ok (.sipush 400, 3) := by decide +kernel
theorem dX3_push_56 : decode cX3_push 56 = .ok (.if_icmp .ge 11, 3) := by decide +kernel
theorem dX3_push_59 : decode cX3_push 59 = .ok (.aload_n 0, 1) := by decide +kernel
theorem dX3_push_60 : decode cX3_push 60 = .ok (.iconst 1, 1) := by decide +kernel
theorem dX3_push_61 : decode cX3_push 61 = .ok (.invokevirtual 69, 3) := by decide +kernel
theorem dX3_push_64 : decode cX3_push 64 = .ok (.ifCond .ne 10, 3) := by decide +kernel
theorem dX3_push_67 : decode cX3_push 67 = .ok (.aload_n 0, 1) := by decide +kernel
theorem dX3_push_68 : decode cX3_push 68 = .ok (.bipush (-5), 2) := by decide +kernel
theorem dX3_push_70 : decode cX3_push 70 = .ok (.invokevirtual 56, 3) := by decide +kernel
theorem dX3_push_73 : decode cX3_push 73 = .ok (.ireturn, 1) := by decide +kernel
theorem dX3_push_74 : decode cX3_push 74 = .ok (.aload_n 0, 1) := by decide +kernel
theorem dX3_push_75 : decode cX3_push 75 = .ok (.aload 6, 2) := by decide +kernel
theorem dX3_push_77 : decode cX3_push 77 = .ok (.aload 6, 2) := by decide +kernel
theorem dX3_push_79 : decode cX3_push 79 = .ok (.getfield 66, 3) := by decide +kernel
theorem dX3_push_82 : decode cX3_push 82 = .ok (.iconst 1, 1) := by decide +kernel
theorem dX3_push_83 : decode cX3_push 83 = .ok (.invokevirtual 72, 3) := by decide +kernel
theorem dX3_push_86 : decode cX3_push 86 = .ok (.astore 7, 2) := by decide +kernel
theorem dX3_push_88 : decode cX3_push 88 = .ok (.aload 7, 2) := by decide +kernel
theorem dX3_push_90 : decode cX3_push 90 = .ok (.iconst 0, 1) := by decide +kernel
theorem dX3_push_91 : decode cX3_push 91 = .ok (.iload_n 2, 1) := by decide +kernel
theorem dX3_push_92 : decode cX3_push 92 = .ok (.iload_n 3, 1) := by decide +kernel
theorem dX3_push_93 : decode cX3_push 93 = .ok (.invokevirtual 76, 3) := by decide +kernel
theorem dX3_push_96 : decode cX3_push 96 = .ok (.aload_n 0, 1) := by decide +kernel
theorem dX3_push_97 : decode cX3_push 97 = .ok (.aload 7, 2) := by decide +kernel
theorem dX3_push_99 : decode cX3_push 99 = .ok (.iload 4, 2) := by decide +kernel
theorem dX3_push_101 : decode cX3_push 101 = .ok (.invokevirtual 80, 3) := by decide +kernel
theorem dX3_push_104 : decode cX3_push 104 = .ok (.ireturn, 1) := by decide +kernel
theorem dX3_cut_0 : decode cX3_cut 0 = .ok (.aload_n 0, 1) := by decide +kernel
theorem dX3_cut_1 : decode cX3_cut 1 = .ok (.iload_n 1, 1) := by decide +kernel
theorem dX3_cut_2 : decode cX3_cut 2 = .ok (.invokevirtual 52, 3) := by decide +kernel
theorem dX3_cut_5 : decode cX3_cut 5 = .ok (.istore 4, 2) := by decide +kernel
theorem dX3_cut_7 : decode cX3_cut 7 = .ok (.iload 4, 2) := by decide +kernel
theorem dX3_cut_9 : decode cX3_cut 9 = .ok (.ifCond .eq 10, 3) := by decide +kernel
theorem dX3_cut_12 : decode cX3_cut 12 = .ok (.aload_n 0, 1) := by decide +kernel
theorem dX3_cut_13 : decode cX3_cut 13 = .ok (.iload 4, 2) := by decide +kernel
theorem dX3_cut_15 : decode cX3_cut 15 = .ok (.invokevirtual 56, 3) := by decide +kernel
theorem dX3_cut_18 : decode cX3_cut 18 = .ok (.ireturn, 1) := by decide +kernel
theorem dX3_cut_19 : decode cX3_cut 19 = .ok (.iload_n 2, 1) := by decide +kernel
theorem dX3_cut_20 : decode cX3_cut 20 = .ok (.ifCond .ge 10, 3) := by decide +kernel
theorem dX3_cut_23 : decode cX3_cut 23 = .ok (.aload_n 0, 1) := by decide +kernel
theorem dX3_cut_24 : decode cX3_cut 24 = .ok (.bipush (-4), 2) := by decide +kernel
theorem dX3_cut_26 : decode cX3_cut 26 = .ok (.invokevirtual 56, 3) := by decide +kernel
theorem dX3_cut_29 : decode cX3_cut 29 = .ok (.ireturn, 1) := by decide +kernel
theorem dX3_cut_30 : decode cX3_cut 30 = .ok (.aload_n 0, 1) := by decide +kernel
theorem dX3_cut_31 : decode cX3_cut 31 = .ok (.getfield 15, 3) := by decide +kernel
theorem dX3_cut_34 : decode cX3_cut 34 = .ok (.iload_n 1, 1) := by decide +kernel
theorem dX3_cut_35 : decode cX3_cut 35 = .ok (.aaload, 1) := by decide +kernel
theorem dX3_cut_36 : decode cX3_cut 36 = .ok (.astore 5, 2) := by decide +kernel
theorem dX3_cut_38 : decode cX3_cut 38 = .ok (.iload_n 2, 1) := by decide +kernel
theorem dX3_cut_39 : decode cX3_cut 39 = .ok (.aload 5, 2) := by decide +kernel
theorem dX3_cut_41 : decode cX3_cut 41 = .ok (.getfield 66, 3) := by decide +kernel
theorem dX3_cut_44 : decode cX3_cut 44 = .ok (.if_icmp .gt 10, 3) := by decide +kernel
theorem dX3_cut_47 : decode cX3_cut 47 = .ok (.iload_n 3, 1) := by decide +kernel
theorem dX3_cut_48 : decode cX3_cut 48 = .ok (.invokestatic 63, 3) := by decide +kernel
theorem dX3_cut_51 : decode cX3_cut 51 = .ok (.ifCond .ne 9, 3) := by decide +kernel
theorem dX3_cut_54 : decode cX3_cut 54 = .ok (.aload_n 0, 1) := by decide +kernel
theorem dX3_cut_55 : decode cX3_cut 55 = .ok (.iconst (-1), 1) := by decide +kernel
theorem dX3_cut_56 : decode cX3_cut 56 = .ok (.invokevirtual 56, 3) := by decide +kernel
theorem dX3_cut_59 : decode cX3_cut 59 = .ok (.ireturn, 1) := by decide +kernel
theorem dX3_cut_60 : decode cX3_cut 60 = .ok (.aload_n 0, 1) := by decide +kernel
theorem dX3_cut_61 : decode cX3_cut 61 = .ok (.iconst 0, 1) := by decide +kernel
theorem dX3_cut_62 : decode cX3_cut 62 = .ok (.invokevirtual 69, 3) := by decide +kernel
theorem dX3_cut_65 : decode cX3_cut 65 = .ok (.ifCond .ne 10, 3) := by decide +kernel
theorem dX3_cut_68 : decode cX3_cut 68 = .ok (.aload_n 0, 1) := by decide +kernel
theorem dX3_cut_69 : decode cX3_cut 69 = .ok (.bipush (-5), 2) := by decide +kernel
theorem dX3_cut_71 : decode cX3_cut 71 = .ok (.invokevirtual 56, 3) := by decide +kernel
theorem dX3_cut_74 : decode cX3_cut 74 = .ok (.ireturn, 1) := by decide +kernel
theorem dX3_cut_75 : decode cX3_cut 75 = .ok (.aload_n 0, 1) := by decide +kernel
theorem dX3_cut_76 : decode cX3_cut 76 = .ok (.aload_n 0, 1) := by decide +kernel
theorem dX3_cut_77 : decode cX3_cut 77 = .ok (.aload 5, 2) := by decide +kernel
theorem dX3_cut_79 : decode cX3_cut 79 = .ok (.iload_n 2, 1) := by decide +kernel
theorem dX3_cut_80 : decode cX3_cut 80 = .ok (.iconst 0, 1) := by decide +kernel
theorem dX3_cut_81 : decode cX3_cut 81 = .ok (.invokevirtual 72, 3) := by decide +kernel
theorem dX3_cut_84 : decode cX3_cut 84 = .ok (.iload_n 3, 1) := by decide +kernel
theorem dX3_cut_85 : decode cX3_cut 85 = .ok (.invokevirtual 80, 3) := by decide +kernel
theorem dX3_cut_88 : decode cX3_cut 88 = .ok (.ireturn, 1) := by decide +kernel
theorem dX3_join_0 : decode cX3_join 0 = .ok (.aload_n 0, 1) := by decide +kernel
theorem dX3_join_1 : decode cX3_join 1 = .ok (.iload_n 1, 1) := by decide +kernel
theorem dX3_join_2 : decode cX3_join 2 = .ok (.invokevirtual 52, 3) := by decide +kernel
theorem dX3_join_5 : decode cX3_join 5 = .ok (.istore 6, 2) := by decide +kernel
theorem dX3_join_7 : decode cX3_join 7 = .ok (.iload 6, 2) := by decide +kernel
theorem dX3_join_9 : decode cX3_join 9 = .ok (.ifCond .ne 13, 3) := by decide +kernel
theorem dX3_join_12 : decode cX3_join 12 = .ok (.aload_n 0, 1) := by decide +kernel
theorem dX3_join_13 : decode cX3_join 13 = .ok (.iload_n 2, 1) := by decide +kernel
theorem dX3_join_14 : decode cX3_join 14 = .ok (.iload_n 3, 1) := by decide +kernel
theorem dX3_join_15 : decode cX3_join 15 = .ok (.iload 4, 2) := by decide +kernel
theorem dX3_join_17 : decode cX3_join 17 = .ok (.invokevirtual 84, 3) := by decide +kernel
theorem dX3_join_20 : decode cX3_join 20 = .ok (.istore 6, 2) := by decide +kernel
theorem dX3_join_22 : decode cX3_join 22 = .ok (.iload 6, 2) := by decide +kernel
theorem dX3_join_24 : decode cX3_join 24 = .ok (.ifCond .eq 10, 3) := by decide +kernel
theorem dX3_join_27 : decode cX3_join 27 = .ok (.aload_n 0, 1) := by decide +kernel
theorem dX3_join_28 : decode cX3_join 28 = .ok (.iload 6, 2) := by decide +kernel
theorem dX3_join_30 : decode cX3_join 30 = .ok (.invokevirtual 56, 3) := by decide +kernel
theorem dX3_join_33 : decode cX3_join 33 = .ok (.ireturn, 1) := by decide +kernel
theorem dX3_join_34 : decode cX3_join 34 = .ok (.iload 5, 2) := by decide +kernel
theorem dX3_join_36 : decode cX3_join 36 = .ok (.invokestatic 63, 3) := by decide +kernel
theorem dX3_join_39 : decode cX3_join 39 = .ok (.ifCond .ne 9, 3) := by decide +kernel
theorem dX3_join_42 : decode cX3_join 42 = .ok (.aload_n 0, 1) := by decide +kernel
theorem dX3_join_43 : decode cX3_join 43 = .ok (.iconst (-1), 1) := by decide +kernel
theorem dX3_join_44 : decode cX3_join 44 = .ok (.invokevirtual 56, 3) := by decide +kernel
theorem dX3_join_47 : decode cX3_join 47 = .ok (.ireturn, 1) := by decide +kernel
theorem dX3_join_48 : decode cX3_join 48 = .ok (.aload_n 0, 1) := by decide +kernel
theorem dX3_join_49 : decode cX3_join 49 = .ok (.getfield 15, 3) := by decide +kernel
theorem dX3_join_52 : decode cX3_join 52 = .ok (.iload_n 1, 1) := by decide +kernel
theorem dX3_join_53 : decode cX3_join 53 = .ok (.aaload, 1) := by decide +kernel
theorem dX3_join_54 : decode cX3_join 54 = .ok (.astore 7, 2) := by decide +kernel
theorem dX3_join_56 : decode cX3_join 56 = .ok (.iload 4, 2) := by decide +kernel
theorem dX3_join_58 : decode cX3_join 58 = .ok (.iload_n 3, 1) := by decide +kernel
theorem dX3_join_59 : decode cX3_join 59 = .ok (.isub, 1) := by decide +kernel
theorem dX3_join_60 : decode cX3_join 60 = .ok (.istore 8, 2) := by decide +kernel
theorem dX3_join_62 : decode cX3_join 62 = .ok (.iload 8, 2) := by decide +kernel
theorem dX3_join_64 : decode cX3_join 64 = .ok (.sipush 400, 3) := by decide +kernel
theorem dX3_join_67 : decode cX3_join 67 = .ok (.aload 7, 2) := by decide +kernel
theorem dX3_join_69 : decode cX3_join 69 = .ok (.getfield 66, 3) := by decide +kernel
theorem dX3_join_72 : decode cX3_join 72 = .ok (.isub, 1) := by decide +kernel
theorem dX3_join_73 : decode cX3_join 73 = .ok (.if_icmp .gt 12, 3) := by decide +kernel
theorem dX3_join_76 : decode cX3_join 76 = .ok (.aload_n 0, 1) := by decide +kernel
theorem dX3_join_77 : decode cX3_join 77 = .ok (.iload 8, 2) := by decide +kernel
theorem dX3_join_79 : decode cX3_join 79 = .ok (.invokevirtual 69, 3) := by decide +kernel
theorem dX3_join_82 : decode cX3_join 82 = .ok (.ifCond .ne 10, 3) := by decide +kernel
theorem dX3_join_85 : decode cX3_join 85 = .ok (.aload_n 0, 1) := by decide +kernel
theorem dX3_join_86 : decode cX3_join 86 = .ok (.bipush (-5), 2) := by decide +kernel
theorem dX3_join_88 : decode cX3_join 88 = .ok (.invokevirtual 56, 3) := by decide +kernel
theorem dX3_join_91 : decode cX3_join 91 = .ok (.ireturn, 1) := by decide +kernel
theorem dX3_join_92 : decode cX3_join 92 = .ok (.aload_n 0, 1) := by decide +kernel
theorem dX3_join_93 : decode cX3_join 93 = .ok (.getfield 25, 3) := by decide +kernel
theorem dX3_join_96 : decode cX3_join 96 = .ok (.aload_n 0, 1) := by decide +kernel
theorem dX3_join_97 : decode cX3_join 97 = .ok (.getfield 15, 3) := by decide +kernel
theorem dX3_join_100 : decode cX3_join 100 = .ok (.iload_n 2, 1) := by decide +kernel
theorem dX3_join_101 : decode cX3_join 101 = .ok (.aaload, 1) := by decide +kernel
theorem dX3_join_102 : decode cX3_join 102 = .ok (.invokevirtual 88, 3) := by decide +kernel
theorem dX3_join_105 : decode cX3_join 105 = .ok (.aload_n 0, 1) := by decide +kernel
theorem dX3_join_106 : decode cX3_join 106 = .ok (.aload 7, 2) := by decide +kernel
theorem dX3_join_108 : decode cX3_join 108 = .ok (.aload 7, 2) := by decide +kernel
theorem dX3_join_110 : decode cX3_join 110 = .ok (.getfield 66, 3) := by decide +kernel
theorem dX3_join_113 : decode cX3_join 113 = .ok (.iload 8, 2) := by decide +kernel
theorem dX3_join_115 : decode cX3_join 115 = .ok (.invokevirtual 72, 3) := by decide +kernel
theorem dX3_join_118 : decode cX3_join 118 = .ok (.astore 9, 2) := by decide +kernel
theorem dX3_join_120 : decode cX3_join 120 = .ok (.iconst 0, 1) := by decide +kernel
theorem dX3_join_121 : decode cX3_join 121 = .ok (.istore 10, 2) := by decide +kernel
theorem dX3_join_123 : decode cX3_join 123 = .ok (.iload 10, 2) := by decide +kernel
theorem dX3_join_125 : decode cX3_join 125 = .ok (.iload 8, 2) := by decide +kernel
theorem dX3_join_127 : decode cX3_join 127 = .ok (.if_icmp .ge 40, 3) := by decide +kernel
theorem dX3_join_130 : decode cX3_join 130 = .ok (.aload 9, 2) := by decide +kernel
theorem dX3_join_132 : decode cX3_join 132 = .ok (.iload 10, 2) := by decide +kernel
theorem dX3_join_134 : decode cX3_join 134 = .ok (.aload_n 0, 1) := by decide +kernel
theorem dX3_join_135 : decode cX3_join 135 = .ok (.getfield 25, 3) := by decide +kernel
theorem dX3_join_138 : decode cX3_join 138 = .ok (.getfield 92, 3) := by decide +kernel
theorem dX3_join_141 : decode cX3_join 141 = .ok (.iload_n 3, 1) := by decide +kernel
theorem dX3_join_142 : decode cX3_join 142 = .ok (.iload 10, 2) := by decide +kernel
theorem dX3_join_144 : decode cX3_join 144 = .ok (.iadd, 1) := by decide +kernel
theorem dX3_join_145 : decode cX3_join 145 = .ok (.iaload, 1) := by decide +kernel
theorem dX3_join_146 : decode cX3_join 146 = .ok (.aload_n 0, 1) := by decide +kernel
theorem dX3_join_147 : decode cX3_join 147 = .ok (.getfield 25, 3) := by decide +kernel
theorem dX3_join_150 : decode cX3_join 150 = .ok (.getfield 95, 3) := by decide +kernel
theorem dX3_join_153 : decode cX3_join 153 = .ok (.iload_n 3, 1) := by decide +kernel
theorem dX3_join_154 : decode cX3_join 154 = .ok (.iload 10, 2) := by decide +kernel
theorem dX3_join_156 : decode cX3_join 156 = .ok (.iadd, 1) := by decide +kernel
theorem dX3_join_157 : decode cX3_join 157 = .ok (.iaload, 1) := by decide +kernel
theorem dX3_join_158 : decode cX3_join 158 = .ok (.invokevirtual 76, 3) := by decide +kernel
theorem dX3_join_161 : decode cX3_join 161 = .ok (.iinc 10 1, 3) := by decide +kernel
theorem dX3_join_164 : decode cX3_join 164 = .ok (.goto (-41), 3) := by decide +kernel
theorem dX3_join_167 : decode cX3_join 167 = .ok (.aload_n 0, 1) := by decide +kernel
theorem dX3_join_168 : decode cX3_join 168 = .ok (.aload 9, 2) := by decide +kernel
theorem dX3_join_170 : decode cX3_join 170 = .ok (.iload 5, 2) := by decide +kernel
theorem dX3_join_172 : decode cX3_join 172 = .ok (.invokevirtual 80, 3) := by decide +kernel
theorem dX3_join_175 : decode cX3_join 175 = .ok (.ireturn, 1) := by decide +kernel
theorem dX3_turn_0 : decode cX3_turn 0 = .ok (.aload_n 0, 1) := by decide +kernel
theorem dX3_turn_1 : decode cX3_turn 1 = .ok (.iload_n 1, 1) := by decide +kernel
theorem dX3_turn_2 : decode cX3_turn 2 = .ok (.invokevirtual 52, 3) := by decide +kernel
theorem dX3_turn_5 : decode cX3_turn 5 = .ok (.istore 5, 2) := by decide +kernel
theorem dX3_turn_7 : decode cX3_turn 7 = .ok (.iload 5, 2) := by decide +kernel
theorem dX3_turn_9 : decode cX3_turn 9 = .ok (.ifCond .eq 10, 3) := by decide +kernel
theorem dX3_turn_12 : decode cX3_turn 12 = .ok (.aload_n 0, 1) := by decide +kernel
theorem dX3_turn_13 : decode cX3_turn 13 = .ok (.iload 5, 2) := by decide +kernel
theorem dX3_turn_15 : decode cX3_turn 15 = .ok (.invokevirtual 56, 3) := by decide +kernel
theorem dX3_turn_18 : decode cX3_turn 18 = .ok (.ireturn, 1) := by decide +kernel
theorem dX3_turn_19 : decode cX3_turn 19 = .ok (.aload_n 0, 1) := by decide +kernel
theorem dX3_turn_20 : decode cX3_turn 20 = .ok (.getfield 15, 3) := by decide +kernel
theorem dX3_turn_23 : decode cX3_turn 23 = .ok (.iload_n 1, 1) := by decide +kernel
theorem dX3_turn_24 : decode cX3_turn 24 = .ok (.aaload, 1) := by decide +kernel
theorem dX3_turn_25 : decode cX3_turn 25 = .ok (.astore 6, 2) := by decide +kernel
theorem dX3_turn_27 : decode cX3_turn 27 = .ok (.iload_n 2, 1) := by decide +kernel
theorem dX3_turn_28 : decode cX3_turn 28 = .ok (.ifCond .lt 19, 3) := by decide +kernel
theorem dX3_turn_31 : decode cX3_turn 31 = .ok (.iload_n 2, 1) := by decide +kernel
theorem dX3_turn_32 : decode cX3_turn 32 = .ok (.aload 6, 2) := by decide +kernel
theorem dX3_turn_34 : decode cX3_turn 34 = .ok (.getfield 66, 3) := by decide +kernel
theorem dX3_turn_37 : decode cX3_turn 37 = .ok (.if_icmp .ge 10, 3) := by decide +kernel
theorem dX3_turn_40 : decode cX3_turn 40 = .ok (.iload_n 3, 1) := by decide +kernel
theorem dX3_turn_41 : decode cX3_turn 41 = .ok (.invokestatic 59, 3) := by decide +kernel
theorem dX3_turn_44 : decode cX3_turn 44 = .ok (.ifCond .ne 9, 3) := by decide +kernel
theorem dX3_turn_47 : decode cX3_turn 47 = .ok (.aload_n 0, 1) := by decide +kernel
theorem dX3_turn_48 : decode cX3_turn 48 = .ok (.iconst (-1), 1) := by decide +kernel
theorem dX3_turn_49 : decode cX3_turn 49 = .ok (.invokevirtual 56, 3) := by decide +kernel
theorem dX3_turn_52 : decode cX3_turn 52 = .ok (.ireturn, 1) := by decide +kernel
theorem dX3_turn_53 : decode cX3_turn 53 = .ok (.aload 6, 2) := by decide +kernel
theorem dX3_turn_55 : decode cX3_turn 55 = .ok (.getfield 66, 3) := by decide +kernel
theorem dX3_turn_58 : decode cX3_turn 58 = .ok (.iload_n 2, 1) := by decide +kernel
theorem dX3_turn_59 : decode cX3_turn 59 = .ok (.isub, 1) := by decide +kernel
theorem dX3_turn_60 : decode cX3_turn 60 = .ok (.istore 7, 2) := by decide +kernel
theorem dX3_turn_62 : decode cX3_turn 62 = .ok (.aload_n 0, 1) := by decide +kernel
theorem dX3_turn_63 : decode cX3_turn 63 = .ok (.iload 7, 2) := by decide +kernel
theorem dX3_turn_65 : decode cX3_turn 65 = .ok (.invokevirtual 69, 3) := by decide +kernel
theorem dX3_turn_68 : decode cX3_turn 68 = .ok (.ifCond .ne 10, 3) := by decide +kernel
theorem dX3_turn_71 : decode cX3_turn 71 = .ok (.aload_n 0, 1) := by decide +kernel
theorem dX3_turn_72 : decode cX3_turn 72 = .ok (.bipush (-5), 2) := by decide +kernel
theorem dX3_turn_74 : decode cX3_turn 74 = .ok (.invokevirtual 56, 3) := by decide +kernel
theorem dX3_turn_77 : decode cX3_turn 77 = .ok (.ireturn, 1) := by decide +kernel
theorem dX3_turn_78 : decode cX3_turn 78 = .ok (.aload_n 0, 1) := by decide +kernel
theorem dX3_turn_79 : decode cX3_turn 79 = .ok (.getfield 25, 3) := by decide +kernel
theorem dX3_turn_82 : decode cX3_turn 82 = .ok (.aload 6, 2) := by decide +kernel
theorem dX3_turn_84 : decode cX3_turn 84 = .ok (.invokevirtual 88, 3) := by decide +kernel
theorem dX3_turn_87 : decode cX3_turn 87 = .ok (.aload_n 0, 1) := by decide +kernel
theorem dX3_turn_88 : decode cX3_turn 88 = .ok (.aload 6, 2) := by decide +kernel
theorem dX3_turn_90 : decode cX3_turn 90 = .ok (.iload_n 2, 1) := by decide +kernel
theorem dX3_turn_91 : decode cX3_turn 91 = .ok (.iload 7, 2) := by decide +kernel
theorem dX3_turn_93 : decode cX3_turn 93 = .ok (.invokevirtual 72, 3) := by decide +kernel
theorem dX3_turn_96 : decode cX3_turn 96 = .ok (.astore 8, 2) := by decide +kernel
theorem dX3_turn_98 : decode cX3_turn 98 = .ok (.aload 8, 2) := by decide +kernel
theorem dX3_turn_100 : decode cX3_turn 100 = .ok (.iconst 0, 1) := by decide +kernel
theorem dX3_turn_101 : decode cX3_turn 101 = .ok (.iload_n 3, 1) := by decide +kernel
theorem dX3_turn_102 : decode cX3_turn 102 = .ok (.iload 4, 2) := by decide +kernel
theorem dX3_turn_104 : decode cX3_turn 104 = .ok (.invokevirtual 76, 3) := by decide +kernel
theorem dX3_turn_107 : decode cX3_turn 107 = .ok (.iconst 1, 1) := by decide +kernel
theorem dX3_turn_108 : decode cX3_turn 108 = .ok (.istore 9, 2) := by decide +kernel
theorem dX3_turn_110 : decode cX3_turn 110 = .ok (.iload 9, 2) := by decide +kernel
theorem dX3_turn_112 : decode cX3_turn 112 = .ok (.iload 7, 2) := by decide +kernel
theorem dX3_turn_114 : decode cX3_turn 114 = .ok (.if_icmp .ge 40, 3) := by decide +kernel
theorem dX3_turn_117 : decode cX3_turn 117 = .ok (.aload 8, 2) := by decide +kernel
theorem dX3_turn_119 : decode cX3_turn 119 = .ok (.iload 9, 2) := by decide +kernel
theorem dX3_turn_121 : decode cX3_turn 121 = .ok (.aload_n 0, 1) := by decide +kernel
theorem dX3_turn_122 : decode cX3_turn 122 = .ok (.getfield 25, 3) := by decide +kernel
theorem dX3_turn_125 : decode cX3_turn 125 = .ok (.getfield 92, 3) := by decide +kernel
theorem dX3_turn_128 : decode cX3_turn 128 = .ok (.iload_n 2, 1) := by decide +kernel
theorem dX3_turn_129 : decode cX3_turn 129 = .ok (.iload 9, 2) := by decide +kernel
theorem dX3_turn_131 : decode cX3_turn 131 = .ok (.iadd, 1) := by decide +kernel
theorem dX3_turn_132 : decode cX3_turn 132 = .ok (.iaload, 1) := by decide +kernel
theorem dX3_turn_133 : decode cX3_turn 133 = .ok (.aload_n 0, 1) := by decide +kernel
theorem dX3_turn_134 : decode cX3_turn 134 = .ok (.getfield 25, 3) := by decide +kernel
theorem dX3_turn_137 : decode cX3_turn 137 = .ok (.getfield 95, 3) := by decide +kernel
theorem dX3_turn_140 : decode cX3_turn 140 = .ok (.iload_n 2, 1) := by decide +kernel
theorem dX3_turn_141 : decode cX3_turn 141 = .ok (.iload 9, 2) := by decide +kernel
theorem dX3_turn_143 : decode cX3_turn 143 = .ok (.iadd, 1) := by decide +kernel
theorem dX3_turn_144 : decode cX3_turn 144 = .ok (.iaload, 1) := by decide +kernel
theorem dX3_turn_145 : decode cX3_turn 145 = .ok (.invokevirtual 76, 3) := by decide +kernel
theorem dX3_turn_148 : decode cX3_turn 148 = .ok (.iinc 9 1, 3) := by decide +kernel
theorem dX3_turn_151 : decode cX3_turn 151 = .ok (.goto (-41), 3) := by decide +kernel
theorem dX3_turn_154 : decode cX3_turn 154 = .ok (.aload_n 0, 1) := by decide +kernel
theorem dX3_turn_155 : decode cX3_turn 155 = .ok (.aload 8, 2) := by decide +kernel
theorem dX3_turn_157 : decode cX3_turn 157 = .ok (.iload_n 1, 1) := by decide +kernel
theorem dX3_turn_158 : decode cX3_turn 158 = .ok (.invokevirtual 80, 3) := by decide +kernel
theorem dX3_turn_161 : decode cX3_turn 161 = .ok (.ireturn, 1) := by decide +kernel
theorem dX3_version_0 : decode cX3_version 0 = .ok (.aload_n 0, 1) := by decide +kernel
theorem dX3_version_1 : decode cX3_version 1 = .ok (.iload_n 1, 1) := by decide +kernel
theorem dX3_version_2 : decode cX3_version 2 = .ok (.invokevirtual 98, 3) := by decide +kernel
theorem dX3_version_5 : decode cX3_version 5 = .ok (.ifCond .eq 10, 3) := by decide +kernel
theorem dX3_version_8 : decode cX3_version 8 = .ok (.iload_n 2, 1) := by decide +kernel
theorem dX3_version_9 : decode cX3_version 9 = .ok (.invokestatic 63, 3) := by decide +kernel
theorem dX3_version_12 : decode cX3_version 12 = .ok (.ifCond .ne 9, 3) := by decide +kernel
theorem dX3_version_15 : decode cX3_version 15 = .ok (.aload_n 0, 1) := by decide +kernel
theorem dX3_version_16 : decode cX3_version 16 = .ok (.iconst (-1), 1) := by decide +kernel
theorem dX3_version_17 : decode cX3_version 17 = .ok (.invokevirtual 56, 3) := by decide +kernel
theorem dX3_version_20 : decode cX3_version 20 = .ok (.ireturn, 1) := by decide +kernel
theorem dX3_version_21 : decode cX3_version 21 = .ok (.aload_n 0, 1) := by decide +kernel
theorem dX3_version_22 : decode cX3_version 22 = .ok (.getfield 11, 3) := by decide +kernel
theorem dX3_version_25 : decode cX3_version 25 = .ok (.iload_n 1, 1) := by decide +kernel
theorem dX3_version_26 : decode cX3_version 26 = .ok (.aaload, 1) := by decide +kernel
theorem dX3_version_27 : decode cX3_version 27 = .ok (.astore_n 3, 1) := by decide +kernel
theorem dX3_version_28 : decode cX3_version 28 = .ok (.aload_n 0, 1) := by decide +kernel
theorem dX3_version_29 : decode cX3_version 29 = .ok (.aload_n 3, 1) := by decide +kernel
theorem dX3_version_30 : decode cX3_version 30 = .ok (.iload_n 2, 1) := by decide +kernel
theorem dX3_version_31 : decode cX3_version 31 = .ok (.invokevirtual 80, 3) := by decide +kernel
theorem dX3_version_34 : decode cX3_version 34 = .ok (.pop, 1) := by decide +kernel
theorem dX3_version_35 : decode cX3_version 35 = .ok (.aload_n 3, 1) := by decide +kernel
theorem dX3_version_36 : decode cX3_version 36 = .ok (.getfield 66, 3) := by decide +kernel
theorem dX3_version_39 : decode cX3_version 39 = .ok (.ireturn, 1) := by decide +kernel
theorem dX3_about_0 : decode cX3_about 0 = .ok (.aload_n 0, 1) := by decide +kernel
theorem dX3_about_1 : decode cX3_about 1 = .ok (.iload_n 1, 1) := by decide +kernel
theorem dX3_about_2 : decode cX3_about 2 = .ok (.invokevirtual 98, 3) := by decide +kernel
theorem dX3_about_5 : decode cX3_about 5 = .ok (.ifCond .ne 9, 3) := by decide +kernel
theorem dX3_about_8 : decode cX3_about 8 = .ok (.aload_n 0, 1) := by decide +kernel
theorem dX3_about_9 : decode cX3_about 9 = .ok (.iconst (-1), 1) := by decide +kernel
theorem dX3_about_10 : decode cX3_about 10 = .ok (.invokevirtual 56, 3) := by decide +kernel
theorem dX3_about_13 : decode cX3_about 13 = .ok (.ireturn, 1) := by decide +kernel
theorem dX3_about_14 : decode cX3_about 14 = .ok (.aload_n 0, 1) := by decide +kernel
theorem dX3_about_15 : decode cX3_about 15 = .ok (.getfield 11, 3) := by decide +kernel
theorem dX3_about_18 : decode cX3_about 18 = .ok (.iload_n 1, 1) := by decide +kernel
theorem dX3_about_19 : decode cX3_about 19 = .ok (.aaload, 1) := by decide +kernel
theorem dX3_about_20 : decode cX3_about 20 = .ok (.astore_n 3, 1) := by decide +kernel
theorem dX3_about_21 : decode cX3_about 21 = .ok (.iload_n 2, 1) := by decide +kernel
theorem dX3_about_22 : decode cX3_about 22 = .ok (.tableswitch 86 0 4 #[34, 39, 63, 68, 81], 34) := by decide +kernel
theorem dX3_about_56 : decode cX3_about 56 = .ok (.aload_n 3, 1) := by decide +kernel
theorem dX3_about_57 : decode cX3_about 57 = .ok (.getfield 66, 3) := by decide +kernel
theorem dX3_about_60 : decode cX3_about 60 = .ok (.ireturn, 1) := by decide +kernel
theorem dX3_about_61 : decode cX3_about 61 = .ok (.aload_n 3, 1) := by decide +kernel
theorem dX3_about_62 : decode cX3_about 62 = .ok (.getfield 101, 3) := by decide +kernel
theorem dX3_about_65 : decode cX3_about 65 = .ok (.ifnonnull 12, 3) := by decide +kernel
theorem dX3_about_68 : decode cX3_about 68 = .ok (.aload_n 0, 1) := by decide +kernel
theorem dX3_about_69 : decode cX3_about 69 = .ok (.bipush (-6), 2) := by decide +kernel
theorem dX3_about_71 : decode cX3_about 71 = .ok (.invokevirtual 56, 3) := by decide +kernel
theorem dX3_about_74 : decode cX3_about 74 = .ok (.goto 10, 3) := by decide +kernel
theorem dX3_about_77 : decode cX3_about 77 = .ok (.aload_n 3, 1) := by decide +kernel
theorem dX3_about_78 : decode cX3_about 78 = .ok (.getfield 101, 3) := by decide +kernel
theorem dX3_about_81 : decode cX3_about 81 = .ok (.getfield 105, 3) := by decide +kernel
theorem dX3_about_84 : decode cX3_about 84 = .ok (.ireturn, 1) := by decide +kernel
theorem dX3_about_85 : decode cX3_about 85 = .ok (.aload_n 3, 1) := by decide +kernel
theorem dX3_about_86 : decode cX3_about 86 = .ok (.getfield 108, 3) := by decide +kernel
theorem dX3_about_89 : decode cX3_about 89 = .ok (.ireturn, 1) := by decide +kernel
theorem dX3_about_90 : decode cX3_about 90 = .ok (.aload_n 3, 1) := by decide +kernel
theorem dX3_about_91 : decode cX3_about 91 = .ok (.getfield 111, 3) := by decide +kernel
theorem dX3_about_94 : decode cX3_about 94 = .ok (.ifCond .eq 7, 3) := by decide +kernel
theorem dX3_about_97 : decode cX3_about 97 = .ok (.iconst 1, 1) := by decide +kernel
theorem dX3_about_98 : decode cX3_about 98 = .ok (.goto 4, 3) := by decide +kernel
theorem dX3_about_101 : decode cX3_about 101 = .ok (.iconst 0, 1) := by decide +kernel
theorem dX3_about_102 : decode cX3_about 102 = .ok (.ireturn, 1) := by decide +kernel
theorem dX3_about_103 : decode cX3_about 103 = .ok (.aload_n 3, 1) := by decide +kernel
theorem dX3_about_104 : decode cX3_about 104 = .ok (.getfield 115, 3) := by decide +kernel
theorem dX3_about_107 : decode cX3_about 107 = .ok (.ireturn, 1) := by decide +kernel
theorem dX3_about_108 : decode cX3_about 108 = .ok (.aload_n 0, 1) := by decide +kernel
theorem dX3_about_109 : decode cX3_about 109 = .ok (.iconst (-1), 1) := by decide +kernel
theorem dX3_about_110 : decode cX3_about 110 = .ok (.invokevirtual 56, 3) := by decide +kernel
theorem dX3_about_113 : decode cX3_about 113 = .ok (.ireturn, 1) := by decide +kernel
theorem dX3_common_0 : decode cX3_common 0 = .ok (.aload_n 0, 1) := by decide +kernel
theorem dX3_common_1 : decode cX3_common 1 = .ok (.iload_n 1, 1) := by decide +kernel
theorem dX3_common_2 : decode cX3_common 2 = .ok (.invokevirtual 98, 3) := by decide +kernel
theorem dX3_common_5 : decode cX3_common 5 = .ok (.ifCond .eq 11, 3) := by decide +kernel
theorem dX3_common_8 : decode cX3_common 8 = .ok (.aload_n 0, 1) := by decide +kernel
theorem dX3_common_9 : decode cX3_common 9 = .ok (.iload_n 2, 1) := by decide +kernel
theorem dX3_common_10 : decode cX3_common 10 = .ok (.invokevirtual 98, 3) := by decide +kernel
theorem dX3_common_13 : decode cX3_common 13 = .ok (.ifCond .ne 9, 3) := by decide +kernel
theorem dX3_common_16 : decode cX3_common 16 = .ok (.aload_n 0, 1) := by decide +kernel
theorem dX3_common_17 : decode cX3_common 17 = .ok (.iconst (-1), 1) := by decide +kernel
theorem dX3_common_18 : decode cX3_common 18 = .ok (.invokevirtual 56, 3) := by decide +kernel
theorem dX3_common_21 : decode cX3_common 21 = .ok (.ireturn, 1) := by decide +kernel
theorem dX3_common_22 : decode cX3_common 22 = .ok (.aload_n 0, 1) := by decide +kernel
theorem dX3_common_23 : decode cX3_common 23 = .ok (.getfield 11, 3) := by decide +kernel
theorem dX3_common_26 : decode cX3_common 26 = .ok (.iload_n 1, 1) := by decide +kernel
theorem dX3_common_27 : decode cX3_common 27 = .ok (.aaload, 1) := by decide +kernel
theorem dX3_common_28 : decode cX3_common 28 = .ok (.astore_n 3, 1) := by decide +kernel
theorem dX3_common_29 : decode cX3_common 29 = .ok (.aload_n 0, 1) := by decide +kernel
theorem dX3_common_30 : decode cX3_common 30 = .ok (.getfield 11, 3) := by decide +kernel
theorem dX3_common_33 : decode cX3_common 33 = .ok (.iload_n 2, 1) := by decide +kernel
theorem dX3_common_34 : decode cX3_common 34 = .ok (.aaload, 1) := by decide +kernel
theorem dX3_common_35 : decode cX3_common 35 = .ok (.astore 4, 2) := by decide +kernel
theorem dX3_common_37 : decode cX3_common 37 = .ok (.aload_n 3, 1) := by decide +kernel
theorem dX3_common_38 : decode cX3_common 38 = .ok (.aload 4, 2) := by decide +kernel
theorem dX3_common_40 : decode cX3_common 40 = .ok (.if_acmp .eq 42, 3) := by decide +kernel
theorem dX3_common_43 : decode cX3_common 43 = .ok (.aload_n 3, 1) := by decide +kernel
theorem dX3_common_44 : decode cX3_common 44 = .ok (.ifnull 38, 3) := by decide +kernel
theorem dX3_common_47 : decode cX3_common 47 = .ok (.aload 4, 2) := by decide +kernel
theorem dX3_common_49 : decode cX3_common 49 = .ok (.ifnull 33, 3) := by decide +kernel
theorem dX3_common_52 : decode cX3_common 52 = .ok (.aload_n 3, 1) := by decide +kernel
theorem dX3_common_53 : decode cX3_common 53 = .ok (.getfield 105, 3) := by decide +kernel
theorem dX3_common_56 : decode cX3_common 56 = .ok (.aload 4, 2) := by decide +kernel
theorem dX3_common_58 : decode cX3_common 58 = .ok (.getfield 105, 3) := by decide +kernel
theorem dX3_common_61 : decode cX3_common 61 = .ok (.if_icmp .le 11, 3) := by decide +kernel
theorem dX3_common_64 : decode cX3_common 64 = .ok (.aload_n 3, 1) := by decide +kernel
theorem dX3_common_65 : decode cX3_common 65 = .ok (.getfield 101, 3) := by decide +kernel
theorem dX3_common_68 : decode cX3_common 68 = .ok (.astore_n 3, 1) := by decide +kernel
theorem dX3_common_69 : decode cX3_common 69 = .ok (.goto (-32), 3) := by decide +kernel
theorem dX3_common_72 : decode cX3_common 72 = .ok (.aload 4, 2) := by decide +kernel
theorem dX3_common_74 : decode cX3_common 74 = .ok (.getfield 101, 3) := by decide +kernel
theorem dX3_common_77 : decode cX3_common 77 = .ok (.astore 4, 2) := by decide +kernel
theorem dX3_common_79 : decode cX3_common 79 = .ok (.goto (-42), 3) := by decide +kernel
theorem dX3_common_82 : decode cX3_common 82 = .ok (.aload_n 3, 1) := by decide +kernel
theorem dX3_common_83 : decode cX3_common 83 = .ok (.ifnonnull 7, 3) := by decide +kernel
theorem dX3_common_86 : decode cX3_common 86 = .ok (.iconst 0, 1) := by decide +kernel
theorem dX3_common_87 : decode cX3_common 87 = .ok (.goto 7, 3) := by decide +kernel
theorem dX3_common_90 : decode cX3_common 90 = .ok (.aload_n 3, 1) := by decide +kernel
theorem dX3_common_91 : decode cX3_common 91 = .ok (.getfield 105, 3) := by decide +kernel
theorem dX3_common_94 : decode cX3_common 94 = .ok (.ireturn, 1) := by decide +kernel
theorem dX3_versions_0 : decode cX3_versions 0 = .ok (.iload_n 1, 1) := by decide +kernel
theorem dX3_versions_1 : decode cX3_versions 1 = .ok (.ifCond .eq 10, 3) := by decide +kernel
theorem dX3_versions_4 : decode cX3_versions 4 = .ok (.aload_n 0, 1) := by decide +kernel
theorem dX3_versions_5 : decode cX3_versions 5 = .ok (.getfield 118, 3) := by decide +kernel
theorem dX3_versions_8 : decode cX3_versions 8 = .ok (.goto 7, 3) := by decide +kernel
theorem dX3_versions_11 : decode cX3_versions 11 = .ok (.aload_n 0, 1) := by decide +kernel
theorem dX3_versions_12 : decode cX3_versions 12 = .ok (.getfield 48, 3) := by decide +kernel
theorem dX3_versions_15 : decode cX3_versions 15 = .ok (.ireturn, 1) := by decide +kernel
theorem dX3_seal_0 : decode cX3_seal 0 = .ok (.aload_n 0, 1) := by decide +kernel
theorem dX3_seal_1 : decode cX3_seal 1 = .ok (.iload_n 1, 1) := by decide +kernel
theorem dX3_seal_2 : decode cX3_seal 2 = .ok (.invokevirtual 121, 3) := by decide +kernel
theorem dX3_seal_5 : decode cX3_seal 5 = .ok (.istore 4, 2) := by decide +kernel
theorem dX3_seal_7 : decode cX3_seal 7 = .ok (.iload 4, 2) := by decide +kernel
theorem dX3_seal_9 : decode cX3_seal 9 = .ok (.ifCond .eq 10, 3) := by decide +kernel
theorem dX3_seal_12 : decode cX3_seal 12 = .ok (.aload_n 0, 1) := by decide +kernel
theorem dX3_seal_13 : decode cX3_seal 13 = .ok (.iload 4, 2) := by decide +kernel
theorem dX3_seal_15 : decode cX3_seal 15 = .ok (.invokevirtual 56, 3) := by decide +kernel
theorem dX3_seal_18 : decode cX3_seal 18 = .ok (.ireturn, 1) := by decide +kernel
theorem dX3_seal_19 : decode cX3_seal 19 = .ok (.iload_n 2, 1) := by decide +kernel
theorem dX3_seal_20 : decode cX3_seal 20 = .ok (.invokestatic 63, 3) := by decide +kernel
theorem dX3_seal_23 : decode cX3_seal 23 = .ok (.ifCond .ne 9, 3) := by decide +kernel
theorem dX3_seal_26 : decode cX3_seal 26 = .ok (.aload_n 0, 1) := by decide +kernel
theorem dX3_seal_27 : decode cX3_seal 27 = .ok (.iconst (-1), 1) := by decide +kernel
theorem dX3_seal_28 : decode cX3_seal 28 = .ok (.invokevirtual 56, 3) := by decide +kernel
theorem dX3_seal_31 : decode cX3_seal 31 = .ok (.ireturn, 1) := by decide +kernel
theorem dX3_seal_32 : decode cX3_seal 32 = .ok (.aload_n 0, 1) := by decide +kernel
theorem dX3_seal_33 : decode cX3_seal 33 = .ok (.getfield 15, 3) := by decide +kernel
theorem dX3_seal_36 : decode cX3_seal 36 = .ok (.iload_n 1, 1) := by decide +kernel
theorem dX3_seal_37 : decode cX3_seal 37 = .ok (.aaload, 1) := by decide +kernel
theorem dX3_seal_38 : decode cX3_seal 38 = .ok (.astore 5, 2) := by decide +kernel
theorem dX3_seal_40 : decode cX3_seal 40 = .ok (.iload_n 3, 1) := by decide +kernel
theorem dX3_seal_41 : decode cX3_seal 41 = .ok (.ifCond .eq 39, 3) := by decide +kernel
theorem dX3_seal_44 : decode cX3_seal 44 = .ok (.aload_n 0, 1) := by decide +kernel
theorem dX3_seal_45 : decode cX3_seal 45 = .ok (.getfield 25, 3) := by decide +kernel
theorem dX3_seal_48 : decode cX3_seal 48 = .ok (.aload 5, 2) := by decide +kernel
theorem dX3_seal_50 : decode cX3_seal 50 = .ok (.invokevirtual 88, 3) := by decide +kernel
theorem dX3_seal_53 : decode cX3_seal 53 = .ok (.aload_n 0, 1) := by decide +kernel
theorem dX3_seal_54 : decode cX3_seal 54 = .ok (.getfield 25, 3) := by decide +kernel
theorem dX3_seal_57 : decode cX3_seal 57 = .ok (.iconst 0, 1) := by decide +kernel
theorem dX3_seal_58 : decode cX3_seal 58 = .ok (.aload 5, 2) := by decide +kernel
theorem dX3_seal_60 : decode cX3_seal 60 = .ok (.getfield 66, 3) := by decide +kernel
theorem dX3_seal_63 : decode cX3_seal 63 = .ok (.sipush 256, 3) := by decide +kernel
theorem dX3_seal_66 : decode cX3_seal 66 = .ok (.invokevirtual 124, 3) := by decide +kernel
theorem dX3_seal_69 : decode cX3_seal 69 = .ok (.bipush (-6), 2) := by decide +kernel
theorem dX3_seal_71 : decode cX3_seal 71 = .ok (.if_icmp .eq 9, 3) := by decide +kernel
theorem dX3_seal_74 : decode cX3_seal 74 = .ok (.aload_n 0, 1) := by decide +kernel
theorem dX3_seal_75 : decode cX3_seal 75 = .ok (.iconst (-1), 1) := by decide +kernel
theorem dX3_seal_76 : decode cX3_seal 76 = .ok (.invokevirtual 56, 3) := by decide +kernel
theorem dX3_seal_79 : decode cX3_seal 79 = .ok (.ireturn, 1) := by decide +kernel
theorem dX3_seal_80 : decode cX3_seal 80 = .ok (.aload_n 0, 1) := by decide +kernel
theorem dX3_seal_81 : decode cX3_seal 81 = .ok (.getfield 15, 3) := by decide +kernel
theorem dX3_seal_84 : decode cX3_seal 84 = .ok (.iload_n 2, 1) := by decide +kernel
theorem dX3_seal_85 : decode cX3_seal 85 = .ok (.aload 5, 2) := by decide +kernel
theorem dX3_seal_87 : decode cX3_seal 87 = .ok (.aastore, 1) := by decide +kernel
theorem dX3_seal_88 : decode cX3_seal 88 = .ok (.aload_n 0, 1) := by decide +kernel
theorem dX3_seal_89 : decode cX3_seal 89 = .ok (.getfield 18, 3) := by decide +kernel
theorem dX3_seal_92 : decode cX3_seal 92 = .ok (.iload_n 2, 1) := by decide +kernel
theorem dX3_seal_93 : decode cX3_seal 93 = .ok (.iload_n 3, 1) := by decide +kernel
theorem dX3_seal_94 : decode cX3_seal 94 = .ok (.ifCond .eq 7, 3) := by decide +kernel
theorem dX3_seal_97 : decode cX3_seal 97 = .ok (.iconst 2, 1) := by decide +kernel
theorem dX3_seal_98 : decode cX3_seal 98 = .ok (.goto 4, 3) := by decide +kernel
theorem dX3_seal_101 : decode cX3_seal 101 = .ok (.iconst 1, 1) := by decide +kernel
theorem dX3_seal_102 : decode cX3_seal 102 = .ok (.iastore, 1) := by decide +kernel
theorem dX3_seal_103 : decode cX3_seal 103 = .ok (.aload 5, 2) := by decide +kernel
theorem dX3_seal_105 : decode cX3_seal 105 = .ok (.getfield 66, 3) := by decide +kernel
theorem dX3_seal_108 : decode cX3_seal 108 = .ok (.ireturn, 1) := by decide +kernel
theorem dX3_put_0 : decode cX3_put 0 = .ok (.aload_n 0, 1) := by decide +kernel
theorem dX3_put_1 : decode cX3_put 1 = .ok (.iload_n 1, 1) := by decide +kernel
theorem dX3_put_2 : decode cX3_put 2 = .ok (.invokevirtual 121, 3) := by decide +kernel
theorem dX3_put_5 : decode cX3_put 5 = .ok (.istore_n 3, 1) := by decide +kernel
theorem dX3_put_6 : decode cX3_put 6 = .ok (.iload_n 3, 1) := by decide +kernel
theorem dX3_put_7 : decode cX3_put 7 = .ok (.ifCond .eq 9, 3) := by decide +kernel
theorem dX3_put_10 : decode cX3_put 10 = .ok (.aload_n 0, 1) := by decide +kernel
theorem dX3_put_11 : decode cX3_put 11 = .ok (.iload_n 3, 1) := by decide +kernel
theorem dX3_put_12 : decode cX3_put 12 = .ok (.invokevirtual 56, 3) := by decide +kernel
theorem dX3_put_15 : decode cX3_put 15 = .ok (.ireturn, 1) := by decide +kernel
theorem dX3_put_16 : decode cX3_put 16 = .ok (.iload_n 2, 1) := by decide +kernel
theorem dX3_put_17 : decode cX3_put 17 = .ok (.invokestatic 63, 3) := by decide +kernel
theorem dX3_put_20 : decode cX3_put 20 = .ok (.ifCond .ne 9, 3) := by decide +kernel
theorem dX3_put_23 : decode cX3_put 23 = .ok (.aload_n 0, 1) := by decide +kernel
theorem dX3_put_24 : decode cX3_put 24 = .ok (.iconst (-1), 1) := by decide +kernel
theorem dX3_put_25 : decode cX3_put 25 = .ok (.invokevirtual 56, 3) := by decide +kernel
theorem dX3_put_28 : decode cX3_put 28 = .ok (.ireturn, 1) := by decide +kernel
theorem dX3_put_29 : decode cX3_put 29 = .ok (.aload_n 0, 1) := by decide +kernel
theorem dX3_put_30 : decode cX3_put 30 = .ok (.getfield 15, 3) := by decide +kernel
theorem dX3_put_33 : decode cX3_put 33 = .ok (.iload_n 2, 1) := by decide +kernel
theorem dX3_put_34 : decode cX3_put 34 = .ok (.aload_n 0, 1) := by decide +kernel
theorem dX3_put_35 : decode cX3_put 35 = .ok (.getfield 15, 3) := by decide +kernel
theorem dX3_put_38 : decode cX3_put 38 = .ok (.iload_n 1, 1) := by decide +kernel
theorem dX3_put_39 : decode cX3_put 39 = .ok (.aaload, 1) := by decide +kernel
theorem dX3_put_40 : decode cX3_put 40 = .ok (.aastore, 1) := by decide +kernel
theorem dX3_put_41 : decode cX3_put 41 = .ok (.aload_n 0, 1) := by decide +kernel
theorem dX3_put_42 : decode cX3_put 42 = .ok (.getfield 18, 3) := by decide +kernel
theorem dX3_put_45 : decode cX3_put 45 = .ok (.iload_n 2, 1) := by decide +kernel
theorem dX3_put_46 : decode cX3_put 46 = .ok (.aload_n 0, 1) := by decide +kernel
theorem dX3_put_47 : decode cX3_put 47 = .ok (.getfield 18, 3) := by decide +kernel
theorem dX3_put_50 : decode cX3_put 50 = .ok (.iload_n 1, 1) := by decide +kernel
theorem dX3_put_51 : decode cX3_put 51 = .ok (.iaload, 1) := by decide +kernel
theorem dX3_put_52 : decode cX3_put 52 = .ok (.iastore, 1) := by decide +kernel
theorem dX3_put_53 : decode cX3_put 53 = .ok (.aload_n 0, 1) := by decide +kernel
theorem dX3_put_54 : decode cX3_put 54 = .ok (.getfield 18, 3) := by decide +kernel
theorem dX3_put_57 : decode cX3_put 57 = .ok (.iload_n 2, 1) := by decide +kernel
theorem dX3_put_58 : decode cX3_put 58 = .ok (.iaload, 1) := by decide +kernel
theorem dX3_put_59 : decode cX3_put 59 = .ok (.ireturn, 1) := by decide +kernel
theorem dX3_take_0 : decode cX3_take 0 = .ok (.iload_n 1, 1) := by decide +kernel
theorem dX3_take_1 : decode cX3_take 1 = .ok (.invokestatic 63, 3) := by decide +kernel
theorem dX3_take_4 : decode cX3_take 4 = .ok (.ifCond .ne 9, 3) := by decide +kernel
theorem dX3_take_7 : decode cX3_take 7 = .ok (.aload_n 0, 1) := by decide +kernel
theorem dX3_take_8 : decode cX3_take 8 = .ok (.iconst (-1), 1) := by decide +kernel
theorem dX3_take_9 : decode cX3_take 9 = .ok (.invokevirtual 56, 3) := by decide +kernel
theorem dX3_take_12 : decode cX3_take 12 = .ok (.ireturn, 1) := by decide +kernel
theorem dX3_take_13 : decode cX3_take 13 = .ok (.aload_n 0, 1) := by decide +kernel
theorem dX3_take_14 : decode cX3_take 14 = .ok (.getfield 15, 3) := by decide +kernel
theorem dX3_take_17 : decode cX3_take 17 = .ok (.iload_n 1, 1) := by decide +kernel
theorem dX3_take_18 : decode cX3_take 18 = .ok (.aconst_null, 1) := by decide +kernel
theorem dX3_take_19 : decode cX3_take 19 = .ok (.aastore, 1) := by decide +kernel
theorem dX3_take_20 : decode cX3_take 20 = .ok (.iconst 0, 1) := by decide +kernel
theorem dX3_take_21 : decode cX3_take 21 = .ok (.ireturn, 1) := by decide +kernel
theorem dX3_row_0 : decode cX3_row 0 = .ok (.aload_n 0, 1) := by decide +kernel
theorem dX3_row_1 : decode cX3_row 1 = .ok (.iload_n 1, 1) := by decide +kernel
theorem dX3_row_2 : decode cX3_row 2 = .ok (.invokevirtual 121, 3) := by decide +kernel
theorem dX3_row_5 : decode cX3_row 5 = .ok (.istore_n 3, 1) := by decide +kernel
theorem dX3_row_6 : decode cX3_row 6 = .ok (.iload_n 3, 1) := by decide +kernel
theorem dX3_row_7 : decode cX3_row 7 = .ok (.ifCond .eq 9, 3) := by decide +kernel
theorem dX3_row_10 : decode cX3_row 10 = .ok (.aload_n 0, 1) := by decide +kernel
theorem dX3_row_11 : decode cX3_row 11 = .ok (.iload_n 3, 1) := by decide +kernel
theorem dX3_row_12 : decode cX3_row 12 = .ok (.invokevirtual 56, 3) := by decide +kernel
theorem dX3_row_15 : decode cX3_row 15 = .ok (.ireturn, 1) := by decide +kernel
theorem dX3_row_16 : decode cX3_row 16 = .ok (.iload_n 2, 1) := by decide +kernel
theorem dX3_row_17 : decode cX3_row 17 = .ok (.tableswitch 72 0 2 #[27, 34, 44], 27) := by decide +kernel
theorem dX3_row_44 : decode cX3_row 44 = .ok (.aload_n 0, 1) := by decide +kernel
theorem dX3_row_45 : decode cX3_row 45 = .ok (.getfield 18, 3) := by decide +kernel
theorem dX3_row_48 : decode cX3_row 48 = .ok (.iload_n 1, 1) := by decide +kernel
theorem dX3_row_49 : decode cX3_row 49 = .ok (.iaload, 1) := by decide +kernel
theorem dX3_row_50 : decode cX3_row 50 = .ok (.ireturn, 1) := by decide +kernel
theorem dX3_row_51 : decode cX3_row 51 = .ok (.aload_n 0, 1) := by decide +kernel
theorem dX3_row_52 : decode cX3_row 52 = .ok (.getfield 15, 3) := by decide +kernel
theorem dX3_row_55 : decode cX3_row 55 = .ok (.iload_n 1, 1) := by decide +kernel
theorem dX3_row_56 : decode cX3_row 56 = .ok (.aaload, 1) := by decide +kernel
theorem dX3_row_57 : decode cX3_row 57 = .ok (.getfield 66, 3) := by decide +kernel
theorem dX3_row_60 : decode cX3_row 60 = .ok (.ireturn, 1) := by decide +kernel
theorem dX3_row_61 : decode cX3_row 61 = .ok (.aload_n 0, 1) := by decide +kernel
theorem dX3_row_62 : decode cX3_row 62 = .ok (.getfield 18, 3) := by decide +kernel
theorem dX3_row_65 : decode cX3_row 65 = .ok (.iload_n 1, 1) := by decide +kernel
theorem dX3_row_66 : decode cX3_row 66 = .ok (.iaload, 1) := by decide +kernel
theorem dX3_row_67 : decode cX3_row 67 = .ok (.ifCond .ne 15, 3) := by decide +kernel
theorem dX3_row_70 : decode cX3_row 70 = .ok (.aload_n 0, 1) := by decide +kernel
theorem dX3_row_71 : decode cX3_row 71 = .ok (.getfield 15, 3) := by decide +kernel
theorem dX3_row_74 : decode cX3_row 74 = .ok (.iload_n 1, 1) := by decide +kernel
theorem dX3_row_75 : decode cX3_row 75 = .ok (.aaload, 1) := by decide +kernel
theorem dX3_row_76 : decode cX3_row 76 = .ok (.getfield 105, 3) := by decide +kernel
theorem dX3_row_79 : decode cX3_row 79 = .ok (.goto 9, 3) := by decide +kernel
theorem dX3_row_82 : decode cX3_row 82 = .ok (.aload_n 0, 1) := by decide +kernel
theorem dX3_row_83 : decode cX3_row 83 = .ok (.bipush (-3), 2) := by decide +kernel
theorem dX3_row_85 : decode cX3_row 85 = .ok (.invokevirtual 56, 3) := by decide +kernel
theorem dX3_row_88 : decode cX3_row 88 = .ok (.ireturn, 1) := by decide +kernel
theorem dX3_row_89 : decode cX3_row 89 = .ok (.aload_n 0, 1) := by decide +kernel
theorem dX3_row_90 : decode cX3_row 90 = .ok (.iconst (-1), 1) := by decide +kernel
theorem dX3_row_91 : decode cX3_row 91 = .ok (.invokevirtual 56, 3) := by decide +kernel
theorem dX3_row_94 : decode cX3_row 94 = .ok (.ireturn, 1) := by decide +kernel
theorem dX3_at_0 : decode cX3_at 0 = .ok (.aload_n 0, 1) := by decide +kernel
theorem dX3_at_1 : decode cX3_at 1 = .ok (.iload_n 1, 1) := by decide +kernel
theorem dX3_at_2 : decode cX3_at 2 = .ok (.iload_n 2, 1) := by decide +kernel
theorem dX3_at_3 : decode cX3_at 3 = .ok (.invokevirtual 127, 3) := by decide +kernel
theorem dX3_at_6 : decode cX3_at 6 = .ok (.istore_n 3, 1) := by decide +kernel
theorem dX3_at_7 : decode cX3_at 7 = .ok (.iload_n 3, 1) := by decide +kernel
theorem dX3_at_8 : decode cX3_at 8 = .ok (.ifCond .eq 9, 3) := by decide +kernel
theorem dX3_at_11 : decode cX3_at 11 = .ok (.aload_n 0, 1) := by decide +kernel
theorem dX3_at_12 : decode cX3_at 12 = .ok (.iload_n 3, 1) := by decide +kernel
theorem dX3_at_13 : decode cX3_at 13 = .ok (.invokevirtual 56, 3) := by decide +kernel
theorem dX3_at_16 : decode cX3_at 16 = .ok (.ireturn, 1) := by decide +kernel
theorem dX3_at_17 : decode cX3_at 17 = .ok (.aload_n 0, 1) := by decide +kernel
theorem dX3_at_18 : decode cX3_at 18 = .ok (.getfield 25, 3) := by decide +kernel
theorem dX3_at_21 : decode cX3_at 21 = .ok (.aload_n 0, 1) := by decide +kernel
theorem dX3_at_22 : decode cX3_at 22 = .ok (.getfield 15, 3) := by decide +kernel
theorem dX3_at_25 : decode cX3_at 25 = .ok (.iload_n 1, 1) := by decide +kernel
theorem dX3_at_26 : decode cX3_at 26 = .ok (.aaload, 1) := by decide +kernel
theorem dX3_at_27 : decode cX3_at 27 = .ok (.invokevirtual 88, 3) := by decide +kernel
theorem dX3_at_30 : decode cX3_at 30 = .ok (.aload_n 0, 1) := by decide +kernel
theorem dX3_at_31 : decode cX3_at 31 = .ok (.getfield 25, 3) := by decide +kernel
theorem dX3_at_34 : decode cX3_at 34 = .ok (.getfield 92, 3) := by decide +kernel
theorem dX3_at_37 : decode cX3_at 37 = .ok (.iload_n 2, 1) := by decide +kernel
theorem dX3_at_38 : decode cX3_at 38 = .ok (.iaload, 1) := by decide +kernel
theorem dX3_at_39 : decode cX3_at 39 = .ok (.ireturn, 1) := by decide +kernel
theorem dX3_weight_0 : decode cX3_weight 0 = .ok (.aload_n 0, 1) := by decide +kernel
theorem dX3_weight_1 : decode cX3_weight 1 = .ok (.iload_n 1, 1) := by decide +kernel
theorem dX3_weight_2 : decode cX3_weight 2 = .ok (.iload_n 2, 1) := by decide +kernel
theorem dX3_weight_3 : decode cX3_weight 3 = .ok (.invokevirtual 127, 3) := by decide +kernel
theorem dX3_weight_6 : decode cX3_weight 6 = .ok (.istore_n 3, 1) := by decide +kernel
theorem dX3_weight_7 : decode cX3_weight 7 = .ok (.iload_n 3, 1) := by decide +kernel
theorem dX3_weight_8 : decode cX3_weight 8 = .ok (.ifCond .eq 11, 3) := by decide +kernel
theorem dX3_weight_11 : decode cX3_weight 11 = .ok (.aload_n 0, 1) := by decide +kernel
theorem dX3_weight_12 : decode cX3_weight 12 = .ok (.iload_n 3, 1) := by decide +kernel
theorem dX3_weight_13 : decode cX3_weight 13 = .ok (.invokevirtual 56, 3) := by decide +kernel
theorem dX3_weight_16 : decode cX3_weight 16 = .ok (.pop, 1) := by decide +kernel
theorem dX3_weight_17 : decode cX3_weight 17 = .ok (.lconst 0, 1) := by decide +kernel
theorem dX3_weight_18 : decode cX3_weight 18 = .ok (.lreturn, 1) := by decide +kernel
theorem dX3_weight_19 : decode cX3_weight 19 = .ok (.aload_n 0, 1) := by decide +kernel
theorem dX3_weight_20 : decode cX3_weight 20 = .ok (.getfield 25, 3) := by decide +kernel
theorem dX3_weight_23 : decode cX3_weight 23 = .ok (.aload_n 0, 1) := by decide +kernel
theorem dX3_weight_24 : decode cX3_weight 24 = .ok (.getfield 15, 3) := by decide +kernel
theorem dX3_weight_27 : decode cX3_weight 27 = .ok (.iload_n 1, 1) := by decide +kernel
theorem dX3_weight_28 : decode cX3_weight 28 = .ok (.aaload, 1) := by decide +kernel
theorem dX3_weight_29 : decode cX3_weight 29 = .ok (.invokevirtual 88, 3) := by decide +kernel
theorem dX3_weight_32 : decode cX3_weight 32 = .ok (.aload_n 0, 1) := by decide +kernel
theorem dX3_weight_33 : decode cX3_weight 33 = .ok (.getfield 25, 3) := by decide +kernel
theorem dX3_weight_36 : decode cX3_weight 36 = .ok (.getfield 95, 3) := by decide +kernel
theorem dX3_weight_39 : decode cX3_weight 39 = .ok (.iload_n 2, 1) := by decide +kernel
theorem dX3_weight_40 : decode cX3_weight 40 = .ok (.iaload, 1) := by decide +kernel
theorem dX3_weight_41 : decode cX3_weight 41 = .ok (.i2l, 1) := by decide +kernel
theorem dX3_weight_42 : decode cX3_weight 42 = .ok (.lreturn, 1) := by decide +kernel
theorem dX3_bit_0 : decode cX3_bit 0 = .ok (.aload_n 0, 1) := by decide +kernel
theorem dX3_bit_1 : decode cX3_bit 1 = .ok (.iload_n 1, 1) := by decide +kernel
theorem dX3_bit_2 : decode cX3_bit 2 = .ok (.iload_n 2, 1) := by decide +kernel
theorem dX3_bit_3 : decode cX3_bit 3 = .ok (.invokevirtual 131, 3) := by decide +kernel
theorem dX3_bit_6 : decode cX3_bit 6 = .ok (.istore 4, 2) := by decide +kernel
theorem dX3_bit_8 : decode cX3_bit 8 = .ok (.iload 4, 2) := by decide +kernel
theorem dX3_bit_10 : decode cX3_bit 10 = .ok (.ifCond .ne 23, 3) := by decide +kernel
theorem dX3_bit_13 : decode cX3_bit 13 = .ok (.iload_n 3, 1) := by decide +kernel
theorem dX3_bit_14 : decode cX3_bit 14 = .ok (.ifCond .lt 16, 3) := by decide +kernel
theorem dX3_bit_17 : decode cX3_bit 17 = .ok (.iload_n 3, 1) := by decide +kernel
theorem dX3_bit_18 : decode cX3_bit 18 = .ok (.aload_n 0, 1) := by decide +kernel
theorem dX3_bit_19 : decode cX3_bit 19 = .ok (.getfield 15, 3) := by decide +kernel
theorem dX3_bit_22 : decode cX3_bit 22 = .ok (.iload_n 1, 1) := by decide +kernel
theorem dX3_bit_23 : decode cX3_bit 23 = .ok (.aaload, 1) := by decide +kernel
theorem dX3_bit_24 : decode cX3_bit 24 = .ok (.getfield 66, 3) := by decide +kernel
theorem dX3_bit_27 : decode cX3_bit 27 = .ok (.if_icmp .lt 6, 3) := by decide +kernel
theorem dX3_bit_30 : decode cX3_bit 30 = .ok (.iconst (-1), 1) := by decide +kernel
theorem dX3_bit_31 : decode cX3_bit 31 = .ok (.istore 4, 2) := by decide +kernel
theorem dX3_bit_33 : decode cX3_bit 33 = .ok (.iload 4, 2) := by decide +kernel
theorem dX3_bit_35 : decode cX3_bit 35 = .ok (.ifCond .eq 10, 3) := by decide +kernel
theorem dX3_bit_38 : decode cX3_bit 38 = .ok (.aload_n 0, 1) := by decide +kernel
theorem dX3_bit_39 : decode cX3_bit 39 = .ok (.iload 4, 2) := by decide +kernel
theorem dX3_bit_41 : decode cX3_bit 41 = .ok (.invokevirtual 56, 3) := by decide +kernel
theorem dX3_bit_44 : decode cX3_bit 44 = .ok (.ireturn, 1) := by decide +kernel
theorem dX3_bit_45 : decode cX3_bit 45 = .ok (.aload_n 0, 1) := by decide +kernel
theorem dX3_bit_46 : decode cX3_bit 46 = .ok (.iload_n 1, 1) := by decide +kernel
theorem dX3_bit_47 : decode cX3_bit 47 = .ok (.iload_n 2, 1) := by decide +kernel
theorem dX3_bit_48 : decode cX3_bit 48 = .ok (.invokevirtual 134, 3) := by decide +kernel
theorem dX3_bit_51 : decode cX3_bit 51 = .ok (.istore 5, 2) := by decide +kernel
theorem dX3_bit_53 : decode cX3_bit 53 = .ok (.aload_n 0, 1) := by decide +kernel
theorem dX3_bit_54 : decode cX3_bit 54 = .ok (.getfield 25, 3) := by decide +kernel
theorem dX3_bit_57 : decode cX3_bit 57 = .ok (.getfield 92, 3) := by decide +kernel
theorem dX3_bit_60 : decode cX3_bit 60 = .ok (.iload_n 3, 1) := by decide +kernel
theorem dX3_bit_61 : decode cX3_bit 61 = .ok (.iaload, 1) := by decide +kernel
theorem dX3_bit_62 : decode cX3_bit 62 = .ok (.iload 5, 2) := by decide +kernel
theorem dX3_bit_64 : decode cX3_bit 64 = .ok (.iushr, 1) := by decide +kernel
theorem dX3_bit_65 : decode cX3_bit 65 = .ok (.iconst 1, 1) := by decide +kernel
theorem dX3_bit_66 : decode cX3_bit 66 = .ok (.iand, 1) := by decide +kernel
theorem dX3_bit_67 : decode cX3_bit 67 = .ok (.ireturn, 1) := by decide +kernel
theorem dX3_ones_0 : decode cX3_ones 0 = .ok (.aload_n 0, 1) := by decide +kernel
theorem dX3_ones_1 : decode cX3_ones 1 = .ok (.iload_n 1, 1) := by decide +kernel
theorem dX3_ones_2 : decode cX3_ones 2 = .ok (.iload_n 2, 1) := by decide +kernel
theorem dX3_ones_3 : decode cX3_ones 3 = .ok (.invokevirtual 131, 3) := by decide +kernel
theorem dX3_ones_6 : decode cX3_ones 6 = .ok (.istore 4, 2) := by decide +kernel
theorem dX3_ones_8 : decode cX3_ones 8 = .ok (.iload 4, 2) := by decide +kernel
theorem dX3_ones_10 : decode cX3_ones 10 = .ok (.ifCond .ne 23, 3) := by decide +kernel
theorem dX3_ones_13 : decode cX3_ones 13 = .ok (.iload_n 3, 1) := by decide +kernel
theorem dX3_ones_14 : decode cX3_ones 14 = .ok (.ifCond .lt 16, 3) := by decide +kernel
theorem dX3_ones_17 : decode cX3_ones 17 = .ok (.iload_n 3, 1) := by decide +kernel
theorem dX3_ones_18 : decode cX3_ones 18 = .ok (.aload_n 0, 1) := by decide +kernel
theorem dX3_ones_19 : decode cX3_ones 19 = .ok (.getfield 15, 3) := by decide +kernel
theorem dX3_ones_22 : decode cX3_ones 22 = .ok (.iload_n 1, 1) := by decide +kernel
theorem dX3_ones_23 : decode cX3_ones 23 = .ok (.aaload, 1) := by decide +kernel
theorem dX3_ones_24 : decode cX3_ones 24 = .ok (.getfield 66, 3) := by decide +kernel
theorem dX3_ones_27 : decode cX3_ones 27 = .ok (.if_icmp .le 6, 3) := by decide +kernel
theorem dX3_ones_30 : decode cX3_ones 30 = .ok (.iconst (-1), 1) := by decide +kernel
theorem dX3_ones_31 : decode cX3_ones 31 = .ok (.istore 4, 2) := by decide +kernel
theorem dX3_ones_33 : decode cX3_ones 33 = .ok (.iload 4, 2) := by decide +kernel
theorem dX3_ones_35 : decode cX3_ones 35 = .ok (.ifCond .eq 10, 3) := by decide +kernel
theorem dX3_ones_38 : decode cX3_ones 38 = .ok (.aload_n 0, 1) := by decide +kernel
theorem dX3_ones_39 : decode cX3_ones 39 = .ok (.iload 4, 2) := by decide +kernel
theorem dX3_ones_41 : decode cX3_ones 41 = .ok (.invokevirtual 56, 3) := by decide +kernel
theorem dX3_ones_44 : decode cX3_ones 44 = .ok (.ireturn, 1) := by decide +kernel
theorem dX3_ones_45 : decode cX3_ones 45 = .ok (.aload_n 0, 1) := by decide +kernel
theorem dX3_ones_46 : decode cX3_ones 46 = .ok (.iload_n 1, 1) := by decide +kernel
theorem dX3_ones_47 : decode cX3_ones 47 = .ok (.iload_n 2, 1) := by decide +kernel
theorem dX3_ones_48 : decode cX3_ones 48 = .ok (.invokevirtual 134, 3) := by decide +kernel
theorem dX3_ones_51 : decode cX3_ones 51 = .ok (.istore 5, 2) := by decide +kernel
theorem dX3_ones_53 : decode cX3_ones 53 = .ok (.aload_n 0, 1) := by decide +kernel
theorem dX3_ones_54 : decode cX3_ones 54 = .ok (.getfield 25, 3) := by decide +kernel
theorem dX3_ones_57 : decode cX3_ones 57 = .ok (.iload 5, 2) := by decide +kernel
theorem dX3_ones_59 : decode cX3_ones 59 = .ok (.iload_n 3, 1) := by decide +kernel
theorem dX3_ones_60 : decode cX3_ones 60 = .ok (.invokevirtual 137, 3) := by decide +kernel
theorem dX3_ones_63 : decode cX3_ones 63 = .ok (.ireturn, 1) := by decide +kernel
theorem dX3_kth_0 : decode cX3_kth 0 = .ok (.aload_n 0, 1) := by decide +kernel
theorem dX3_kth_1 : decode cX3_kth 1 = .ok (.iload_n 1, 1) := by decide +kernel
theorem dX3_kth_2 : decode cX3_kth 2 = .ok (.iload_n 2, 1) := by decide +kernel
theorem dX3_kth_3 : decode cX3_kth 3 = .ok (.iload_n 3, 1) := by decide +kernel
theorem dX3_kth_4 : decode cX3_kth 4 = .ok (.invokevirtual 140, 3) := by decide +kernel
theorem dX3_kth_7 : decode cX3_kth 7 = .ok (.istore 5, 2) := by decide +kernel
theorem dX3_kth_9 : decode cX3_kth 9 = .ok (.iload 5, 2) := by decide +kernel
theorem dX3_kth_11 : decode cX3_kth 11 = .ok (.ifCond .ne 20, 3) := by decide +kernel
theorem dX3_kth_14 : decode cX3_kth 14 = .ok (.iload 4, 2) := by decide +kernel
theorem dX3_kth_16 : decode cX3_kth 16 = .ok (.ifCond .lt 11, 3) := by decide +kernel
theorem dX3_kth_19 : decode cX3_kth 19 = .ok (.iload 4, 2) := by decide +kernel
theorem dX3_kth_21 : decode cX3_kth 21 = .ok (.iload_n 3, 1) := by decide +kernel
theorem dX3_kth_22 : decode cX3_kth 22 = .ok (.iload_n 2, 1) := by decide +kernel
theorem dX3_kth_23 : decode cX3_kth 23 = .ok (.isub, 1) := by decide +kernel
theorem dX3_kth_24 : decode cX3_kth 24 = .ok (.if_icmp .lt 7, 3) := by decide +kernel
theorem dX3_kth_27 : decode cX3_kth 27 = .ok (.bipush (-6), 2) := by decide +kernel
theorem dX3_kth_29 : decode cX3_kth 29 = .ok (.istore 5, 2) := by decide +kernel
theorem dX3_kth_31 : decode cX3_kth 31 = .ok (.iload 5, 2) := by decide +kernel
theorem dX3_kth_33 : decode cX3_kth 33 = .ok (.ifCond .eq 12, 3) := by decide +kernel
theorem dX3_kth_36 : decode cX3_kth 36 = .ok (.aload_n 0, 1) := by decide +kernel
theorem dX3_kth_37 : decode cX3_kth 37 = .ok (.iload 5, 2) := by decide +kernel
theorem dX3_kth_39 : decode cX3_kth 39 = .ok (.invokevirtual 56, 3) := by decide +kernel
theorem dX3_kth_42 : decode cX3_kth 42 = .ok (.goto 16, 3) := by decide +kernel
theorem dX3_kth_45 : decode cX3_kth 45 = .ok (.aload_n 0, 1) := by decide +kernel
theorem dX3_kth_46 : decode cX3_kth 46 = .ok (.iload_n 2, 1) := by decide +kernel
theorem dX3_kth_47 : decode cX3_kth 47 = .ok (.iload_n 3, 1) := by decide +kernel
theorem dX3_kth_48 : decode cX3_kth 48 = .ok (.iload 4, 2) := by decide +kernel
theorem dX3_kth_50 : decode cX3_kth 50 = .ok (.aload_n 0, 1) := by decide +kernel
theorem dX3_kth_51 : decode cX3_kth 51 = .ok (.iload_n 1, 1) := by decide +kernel
theorem dX3_kth_52 : decode cX3_kth 52 = .ok (.invokevirtual 143, 3) := by decide +kernel
theorem dX3_kth_55 : decode cX3_kth 55 = .ok (.invokevirtual 146, 3) := by decide +kernel
theorem dX3_kth_58 : decode cX3_kth 58 = .ok (.ireturn, 1) := by decide +kernel
theorem dX3_rank_0 : decode cX3_rank 0 = .ok (.aload_n 0, 1) := by decide +kernel
theorem dX3_rank_1 : decode cX3_rank 1 = .ok (.iload_n 1, 1) := by decide +kernel
theorem dX3_rank_2 : decode cX3_rank 2 = .ok (.iload_n 2, 1) := by decide +kernel
theorem dX3_rank_3 : decode cX3_rank 3 = .ok (.iload_n 3, 1) := by decide +kernel
theorem dX3_rank_4 : decode cX3_rank 4 = .ok (.invokevirtual 140, 3) := by decide +kernel
theorem dX3_rank_7 : decode cX3_rank 7 = .ok (.istore 5, 2) := by decide +kernel
theorem dX3_rank_9 : decode cX3_rank 9 = .ok (.iload 5, 2) := by decide +kernel
theorem dX3_rank_11 : decode cX3_rank 11 = .ok (.ifCond .eq 12, 3) := by decide +kernel
theorem dX3_rank_14 : decode cX3_rank 14 = .ok (.aload_n 0, 1) := by decide +kernel
theorem dX3_rank_15 : decode cX3_rank 15 = .ok (.iload 5, 2) := by decide +kernel
theorem dX3_rank_17 : decode cX3_rank 17 = .ok (.invokevirtual 56, 3) := by decide +kernel
theorem dX3_rank_20 : decode cX3_rank 20 = .ok (.goto 14, 3) := by decide +kernel
theorem dX3_rank_23 : decode cX3_rank 23 = .ok (.aload_n 0, 1) := by decide +kernel
theorem dX3_rank_24 : decode cX3_rank 24 = .ok (.getfield 25, 3) := by decide +kernel
theorem dX3_rank_27 : decode cX3_rank 27 = .ok (.iload_n 2, 1) := by decide +kernel
theorem dX3_rank_28 : decode cX3_rank 28 = .ok (.iload_n 3, 1) := by decide +kernel
theorem dX3_rank_29 : decode cX3_rank 29 = .ok (.iload 4, 2) := by decide +kernel
theorem dX3_rank_31 : decode cX3_rank 31 = .ok (.invokevirtual 150, 3) := by decide +kernel
theorem dX3_rank_34 : decode cX3_rank 34 = .ok (.ireturn, 1) := by decide +kernel
theorem dX3_between_0 : decode cX3_between 0 = .ok (.aload_n 0, 1) := by decide +kernel
theorem dX3_between_1 : decode cX3_between 1 = .ok (.iload_n 1, 1) := by decide +kernel
theorem dX3_between_2 : decode cX3_between 2 = .ok (.iload_n 2, 1) := by decide +kernel
theorem dX3_between_3 : decode cX3_between 3 = .ok (.iload_n 3, 1) := by decide +kernel
theorem dX3_between_4 : decode cX3_between 4 = .ok (.invokevirtual 140, 3) := by decide +kernel
theorem dX3_between_7 : decode cX3_between 7 = .ok (.istore 6, 2) := by decide +kernel
theorem dX3_between_9 : decode cX3_between 9 = .ok (.iload 6, 2) := by decide +kernel
theorem dX3_between_11 : decode cX3_between 11 = .ok (.ifCond .eq 12, 3) := by decide +kernel
theorem dX3_between_14 : decode cX3_between 14 = .ok (.aload_n 0, 1) := by decide +kernel
theorem dX3_between_15 : decode cX3_between 15 = .ok (.iload 6, 2) := by decide +kernel
theorem dX3_between_17 : decode cX3_between 17 = .ok (.invokevirtual 56, 3) := by decide +kernel
theorem dX3_between_20 : decode cX3_between 20 = .ok (.goto 16, 3) := by decide +kernel
theorem dX3_between_23 : decode cX3_between 23 = .ok (.aload_n 0, 1) := by decide +kernel
theorem dX3_between_24 : decode cX3_between 24 = .ok (.getfield 25, 3) := by decide +kernel
theorem dX3_between_27 : decode cX3_between 27 = .ok (.iload_n 2, 1) := by decide +kernel
theorem dX3_between_28 : decode cX3_between 28 = .ok (.iload_n 3, 1) := by decide +kernel
theorem dX3_between_29 : decode cX3_between 29 = .ok (.iload 4, 2) := by decide +kernel
theorem dX3_between_31 : decode cX3_between 31 = .ok (.iload 5, 2) := by decide +kernel
theorem dX3_between_33 : decode cX3_between 33 = .ok (.invokevirtual 153, 3) := by decide +kernel
theorem dX3_between_36 : decode cX3_between 36 = .ok (.ireturn, 1) := by decide +kernel
theorem dX3_next_0 : decode cX3_next 0 = .ok (.aload_n 0, 1) := by decide +kernel
theorem dX3_next_1 : decode cX3_next 1 = .ok (.iload_n 1, 1) := by decide +kernel
theorem dX3_next_2 : decode cX3_next 2 = .ok (.iload_n 2, 1) := by decide +kernel
theorem dX3_next_3 : decode cX3_next 3 = .ok (.iload_n 3, 1) := by decide +kernel
theorem dX3_next_4 : decode cX3_next 4 = .ok (.invokevirtual 140, 3) := by decide +kernel
theorem dX3_next_7 : decode cX3_next 7 = .ok (.istore 5, 2) := by decide +kernel
theorem dX3_next_9 : decode cX3_next 9 = .ok (.iload 5, 2) := by decide +kernel
theorem dX3_next_11 : decode cX3_next 11 = .ok (.ifCond .eq 12, 3) := by decide +kernel
theorem dX3_next_14 : decode cX3_next 14 = .ok (.aload_n 0, 1) := by decide +kernel
theorem dX3_next_15 : decode cX3_next 15 = .ok (.iload 5, 2) := by decide +kernel
theorem dX3_next_17 : decode cX3_next 17 = .ok (.invokevirtual 56, 3) := by decide +kernel
theorem dX3_next_20 : decode cX3_next 20 = .ok (.goto 18, 3) := by decide +kernel
theorem dX3_next_23 : decode cX3_next 23 = .ok (.aload_n 0, 1) := by decide +kernel
theorem dX3_next_24 : decode cX3_next 24 = .ok (.aload_n 0, 1) := by decide +kernel
theorem dX3_next_25 : decode cX3_next 25 = .ok (.getfield 25, 3) := by decide +kernel
theorem dX3_next_28 : decode cX3_next 28 = .ok (.iload_n 2, 1) := by decide +kernel
theorem dX3_next_29 : decode cX3_next 29 = .ok (.iload_n 3, 1) := by decide +kernel
theorem dX3_next_30 : decode cX3_next 30 = .ok (.iload 4, 2) := by decide +kernel
theorem dX3_next_32 : decode cX3_next 32 = .ok (.invokevirtual 124, 3) := by decide +kernel
theorem dX3_next_35 : decode cX3_next 35 = .ok (.invokevirtual 156, 3) := by decide +kernel
theorem dX3_next_38 : decode cX3_next 38 = .ok (.ireturn, 1) := by decide +kernel
theorem dX3_prior_0 : decode cX3_prior 0 = .ok (.aload_n 0, 1) := by decide +kernel
theorem dX3_prior_1 : decode cX3_prior 1 = .ok (.iload_n 1, 1) := by decide +kernel
theorem dX3_prior_2 : decode cX3_prior 2 = .ok (.iload_n 2, 1) := by decide +kernel
theorem dX3_prior_3 : decode cX3_prior 3 = .ok (.iload_n 3, 1) := by decide +kernel
theorem dX3_prior_4 : decode cX3_prior 4 = .ok (.invokevirtual 140, 3) := by decide +kernel
theorem dX3_prior_7 : decode cX3_prior 7 = .ok (.istore 5, 2) := by decide +kernel
theorem dX3_prior_9 : decode cX3_prior 9 = .ok (.iload 5, 2) := by decide +kernel
theorem dX3_prior_11 : decode cX3_prior 11 = .ok (.ifCond .eq 12, 3) := by decide +kernel
theorem dX3_prior_14 : decode cX3_prior 14 = .ok (.aload_n 0, 1) := by decide +kernel
theorem dX3_prior_15 : decode cX3_prior 15 = .ok (.iload 5, 2) := by decide +kernel
theorem dX3_prior_17 : decode cX3_prior 17 = .ok (.invokevirtual 56, 3) := by decide +kernel
theorem dX3_prior_20 : decode cX3_prior 20 = .ok (.goto 18, 3) := by decide +kernel
theorem dX3_prior_23 : decode cX3_prior 23 = .ok (.aload_n 0, 1) := by decide +kernel
theorem dX3_prior_24 : decode cX3_prior 24 = .ok (.aload_n 0, 1) := by decide +kernel
theorem dX3_prior_25 : decode cX3_prior 25 = .ok (.getfield 25, 3) := by decide +kernel
theorem dX3_prior_28 : decode cX3_prior 28 = .ok (.iload_n 2, 1) := by decide +kernel
theorem dX3_prior_29 : decode cX3_prior 29 = .ok (.iload_n 3, 1) := by decide +kernel
theorem dX3_prior_30 : decode cX3_prior 30 = .ok (.iload 4, 2) := by decide +kernel
theorem dX3_prior_32 : decode cX3_prior 32 = .ok (.invokevirtual 159, 3) := by decide +kernel
theorem dX3_prior_35 : decode cX3_prior 35 = .ok (.invokevirtual 156, 3) := by decide +kernel
theorem dX3_prior_38 : decode cX3_prior 38 = .ok (.ireturn, 1) := by decide +kernel
theorem dX3_median_0 : decode cX3_median 0 = .ok (.aload_n 0, 1) := by decide +kernel
theorem dX3_median_1 : decode cX3_median 1 = .ok (.iload_n 1, 1) := by decide +kernel
theorem dX3_median_2 : decode cX3_median 2 = .ok (.iload_n 2, 1) := by decide +kernel
theorem dX3_median_3 : decode cX3_median 3 = .ok (.iload_n 3, 1) := by decide +kernel
theorem dX3_median_4 : decode cX3_median 4 = .ok (.invokevirtual 140, 3) := by decide +kernel
theorem dX3_median_7 : decode cX3_median 7 = .ok (.istore 4, 2) := by decide +kernel
theorem dX3_median_9 : decode cX3_median 9 = .ok (.iload 4, 2) := by decide +kernel
theorem dX3_median_11 : decode cX3_median 11 = .ok (.ifCond .ne 12, 3) := by decide +kernel
theorem dX3_median_14 : decode cX3_median 14 = .ok (.iload_n 2, 1) := by decide +kernel
theorem dX3_median_15 : decode cX3_median 15 = .ok (.iload_n 3, 1) := by decide +kernel
theorem dX3_median_16 : decode cX3_median 16 = .ok (.if_icmp .ne 7, 3) := by decide +kernel
theorem dX3_median_19 : decode cX3_median 19 = .ok (.bipush (-6), 2) := by decide +kernel
theorem dX3_median_21 : decode cX3_median 21 = .ok (.istore 4, 2) := by decide +kernel
theorem dX3_median_23 : decode cX3_median 23 = .ok (.iload 4, 2) := by decide +kernel
theorem dX3_median_25 : decode cX3_median 25 = .ok (.ifCond .eq 12, 3) := by decide +kernel
theorem dX3_median_28 : decode cX3_median 28 = .ok (.aload_n 0, 1) := by decide +kernel
theorem dX3_median_29 : decode cX3_median 29 = .ok (.iload 4, 2) := by decide +kernel
theorem dX3_median_31 : decode cX3_median 31 = .ok (.invokevirtual 56, 3) := by decide +kernel
theorem dX3_median_34 : decode cX3_median 34 = .ok (.goto 21, 3) := by decide +kernel
theorem dX3_median_37 : decode cX3_median 37 = .ok (.aload_n 0, 1) := by decide +kernel
theorem dX3_median_38 : decode cX3_median 38 = .ok (.iload_n 2, 1) := by decide +kernel
theorem dX3_median_39 : decode cX3_median 39 = .ok (.iload_n 3, 1) := by decide +kernel
theorem dX3_median_40 : decode cX3_median 40 = .ok (.iload_n 3, 1) := by decide +kernel
theorem dX3_median_41 : decode cX3_median 41 = .ok (.iload_n 2, 1) := by decide +kernel
theorem dX3_median_42 : decode cX3_median 42 = .ok (.isub, 1) := by decide +kernel
theorem dX3_median_43 : decode cX3_median 43 = .ok (.iconst 1, 1) := by decide +kernel
theorem dX3_median_44 : decode cX3_median 44 = .ok (.isub, 1) := by decide +kernel
theorem dX3_median_45 : decode cX3_median 45 = .ok (.iconst 2, 1) := by decide +kernel
theorem dX3_median_46 : decode cX3_median 46 = .ok (.idiv, 1) := by decide +kernel
theorem dX3_median_47 : decode cX3_median 47 = .ok (.aload_n 0, 1) := by decide +kernel
theorem dX3_median_48 : decode cX3_median 48 = .ok (.iload_n 1, 1) := by decide +kernel
theorem dX3_median_49 : decode cX3_median 49 = .ok (.invokevirtual 143, 3) := by decide +kernel
theorem dX3_median_52 : decode cX3_median 52 = .ok (.invokevirtual 146, 3) := by decide +kernel
theorem dX3_median_55 : decode cX3_median 55 = .ok (.ireturn, 1) := by decide +kernel
theorem dX3_half_0 : decode cX3_half 0 = .ok (.aload_n 0, 1) := by decide +kernel
theorem dX3_half_1 : decode cX3_half 1 = .ok (.iload_n 1, 1) := by decide +kernel
theorem dX3_half_2 : decode cX3_half 2 = .ok (.iload_n 2, 1) := by decide +kernel
theorem dX3_half_3 : decode cX3_half 3 = .ok (.iload_n 3, 1) := by decide +kernel
theorem dX3_half_4 : decode cX3_half 4 = .ok (.invokevirtual 162, 3) := by decide +kernel
theorem dX3_half_7 : decode cX3_half 7 = .ok (.istore 4, 2) := by decide +kernel
theorem dX3_half_9 : decode cX3_half 9 = .ok (.iload 4, 2) := by decide +kernel
theorem dX3_half_11 : decode cX3_half 11 = .ok (.ifCond .eq 12, 3) := by decide +kernel
theorem dX3_half_14 : decode cX3_half 14 = .ok (.aload_n 0, 1) := by decide +kernel
theorem dX3_half_15 : decode cX3_half 15 = .ok (.iload 4, 2) := by decide +kernel
theorem dX3_half_17 : decode cX3_half 17 = .ok (.invokevirtual 56, 3) := by decide +kernel
theorem dX3_half_20 : decode cX3_half 20 = .ok (.goto 19, 3) := by decide +kernel
theorem dX3_half_23 : decode cX3_half 23 = .ok (.aload_n 0, 1) := by decide +kernel
theorem dX3_half_24 : decode cX3_half 24 = .ok (.aload_n 0, 1) := by decide +kernel
theorem dX3_half_25 : decode cX3_half 25 = .ok (.getfield 35, 3) := by decide +kernel
theorem dX3_half_28 : decode cX3_half 28 = .ok (.iload_n 3, 1) := by decide +kernel
theorem dX3_half_29 : decode cX3_half 29 = .ok (.iload_n 2, 1) := by decide +kernel
theorem dX3_half_30 : decode cX3_half 30 = .ok (.isub, 1) := by decide +kernel
theorem dX3_half_31 : decode cX3_half 31 = .ok (.iconst 2, 1) := by decide +kernel
theorem dX3_half_32 : decode cX3_half 32 = .ok (.idiv, 1) := by decide +kernel
theorem dX3_half_33 : decode cX3_half 33 = .ok (.invokevirtual 165, 3) := by decide +kernel
theorem dX3_half_36 : decode cX3_half 36 = .ok (.invokevirtual 156, 3) := by decide +kernel
theorem dX3_half_39 : decode cX3_half 39 = .ok (.ireturn, 1) := by decide +kernel
theorem dX3_often_0 : decode cX3_often 0 = .ok (.aload_n 0, 1) := by decide +kernel
theorem dX3_often_1 : decode cX3_often 1 = .ok (.iload_n 1, 1) := by decide +kernel
theorem dX3_often_2 : decode cX3_often 2 = .ok (.iload_n 2, 1) := by decide +kernel
theorem dX3_often_3 : decode cX3_often 3 = .ok (.iload_n 3, 1) := by decide +kernel
theorem dX3_often_4 : decode cX3_often 4 = .ok (.invokevirtual 162, 3) := by decide +kernel
theorem dX3_often_7 : decode cX3_often 7 = .ok (.istore 5, 2) := by decide +kernel
theorem dX3_often_9 : decode cX3_often 9 = .ok (.iload 5, 2) := by decide +kernel
theorem dX3_often_11 : decode cX3_often 11 = .ok (.ifCond .eq 12, 3) := by decide +kernel
theorem dX3_often_14 : decode cX3_often 14 = .ok (.aload_n 0, 1) := by decide +kernel
theorem dX3_often_15 : decode cX3_often 15 = .ok (.iload 5, 2) := by decide +kernel
theorem dX3_often_17 : decode cX3_often 17 = .ok (.invokevirtual 56, 3) := by decide +kernel
theorem dX3_often_20 : decode cX3_often 20 = .ok (.goto 16, 3) := by decide +kernel
theorem dX3_often_23 : decode cX3_often 23 = .ok (.aload_n 0, 1) := by decide +kernel
theorem dX3_often_24 : decode cX3_often 24 = .ok (.aload_n 0, 1) := by decide +kernel
theorem dX3_often_25 : decode cX3_often 25 = .ok (.getfield 35, 3) := by decide +kernel
theorem dX3_often_28 : decode cX3_often 28 = .ok (.iload 4, 2) := by decide +kernel
theorem dX3_often_30 : decode cX3_often 30 = .ok (.invokevirtual 168, 3) := by decide +kernel
theorem dX3_often_33 : decode cX3_often 33 = .ok (.invokevirtual 156, 3) := by decide +kernel
theorem dX3_often_36 : decode cX3_often 36 = .ok (.ireturn, 1) := by decide +kernel
theorem dX3_distinct_0 : decode cX3_distinct 0 = .ok (.aload_n 0, 1) := by decide +kernel
theorem dX3_distinct_1 : decode cX3_distinct 1 = .ok (.iload_n 1, 1) := by decide +kernel
theorem dX3_distinct_2 : decode cX3_distinct 2 = .ok (.iload_n 2, 1) := by decide +kernel
theorem dX3_distinct_3 : decode cX3_distinct 3 = .ok (.iload_n 3, 1) := by decide +kernel
theorem dX3_distinct_4 : decode cX3_distinct 4 = .ok (.invokevirtual 162, 3) := by decide +kernel
theorem dX3_distinct_7 : decode cX3_distinct 7 = .ok (.istore 4, 2) := by decide +kernel
theorem dX3_distinct_9 : decode cX3_distinct 9 = .ok (.iload 4, 2) := by decide +kernel
theorem dX3_distinct_11 : decode cX3_distinct 11 = .ok (.ifCond .eq 12, 3) := by decide +kernel
theorem dX3_distinct_14 : decode cX3_distinct 14 = .ok (.aload_n 0, 1) := by decide +kernel
theorem dX3_distinct_15 : decode cX3_distinct 15 = .ok (.iload 4, 2) := by decide +kernel
theorem dX3_distinct_17 : decode cX3_distinct 17 = .ok (.invokevirtual 56, 3) := by decide +kernel
theorem dX3_distinct_20 : decode cX3_distinct 20 = .ok (.goto 10, 3) := by decide +kernel
theorem dX3_distinct_23 : decode cX3_distinct 23 = .ok (.aload_n 0, 1) := by decide +kernel
theorem dX3_distinct_24 : decode cX3_distinct 24 = .ok (.getfield 35, 3) := by decide +kernel
theorem dX3_distinct_27 : decode cX3_distinct 27 = .ok (.invokevirtual 171, 3) := by decide +kernel
theorem dX3_distinct_30 : decode cX3_distinct 30 = .ok (.ireturn, 1) := by decide +kernel
theorem dX3_sum_0 : decode cX3_sum 0 = .ok (.aload_n 0, 1) := by decide +kernel
theorem dX3_sum_1 : decode cX3_sum 1 = .ok (.iload_n 1, 1) := by decide +kernel
theorem dX3_sum_2 : decode cX3_sum 2 = .ok (.iload_n 2, 1) := by decide +kernel
theorem dX3_sum_3 : decode cX3_sum 3 = .ok (.iload_n 3, 1) := by decide +kernel
theorem dX3_sum_4 : decode cX3_sum 4 = .ok (.invokevirtual 140, 3) := by decide +kernel
theorem dX3_sum_7 : decode cX3_sum 7 = .ok (.istore 5, 2) := by decide +kernel
theorem dX3_sum_9 : decode cX3_sum 9 = .ok (.iload 5, 2) := by decide +kernel
theorem dX3_sum_11 : decode cX3_sum 11 = .ok (.ifCond .eq 12, 3) := by decide +kernel
theorem dX3_sum_14 : decode cX3_sum 14 = .ok (.aload_n 0, 1) := by decide +kernel
theorem dX3_sum_15 : decode cX3_sum 15 = .ok (.iload 5, 2) := by decide +kernel
theorem dX3_sum_17 : decode cX3_sum 17 = .ok (.invokevirtual 56, 3) := by decide +kernel
theorem dX3_sum_20 : decode cX3_sum 20 = .ok (.pop, 1) := by decide +kernel
theorem dX3_sum_21 : decode cX3_sum 21 = .ok (.lconst 0, 1) := by decide +kernel
theorem dX3_sum_22 : decode cX3_sum 22 = .ok (.lreturn, 1) := by decide +kernel
theorem dX3_sum_23 : decode cX3_sum 23 = .ok (.aload_n 0, 1) := by decide +kernel
theorem dX3_sum_24 : decode cX3_sum 24 = .ok (.getfield 25, 3) := by decide +kernel
theorem dX3_sum_27 : decode cX3_sum 27 = .ok (.iload_n 2, 1) := by decide +kernel
theorem dX3_sum_28 : decode cX3_sum 28 = .ok (.iload_n 3, 1) := by decide +kernel
theorem dX3_sum_29 : decode cX3_sum 29 = .ok (.iload 4, 2) := by decide +kernel
theorem dX3_sum_31 : decode cX3_sum 31 = .ok (.invokevirtual 175, 3) := by decide +kernel
theorem dX3_sum_34 : decode cX3_sum 34 = .ok (.lreturn, 1) := by decide +kernel
theorem dX3_differ_0 : decode cX3_differ 0 = .ok (.aload_n 0, 1) := by decide +kernel
theorem dX3_differ_1 : decode cX3_differ 1 = .ok (.iload_n 1, 1) := by decide +kernel
theorem dX3_differ_2 : decode cX3_differ 2 = .ok (.invokevirtual 121, 3) := by decide +kernel
theorem dX3_differ_5 : decode cX3_differ 5 = .ok (.istore 6, 2) := by decide +kernel
theorem dX3_differ_7 : decode cX3_differ 7 = .ok (.iload 6, 2) := by decide +kernel
theorem dX3_differ_9 : decode cX3_differ 9 = .ok (.ifCond .ne 11, 3) := by decide +kernel
theorem dX3_differ_12 : decode cX3_differ 12 = .ok (.aload_n 0, 1) := by decide +kernel
theorem dX3_differ_13 : decode cX3_differ 13 = .ok (.iload 4, 2) := by decide +kernel
theorem dX3_differ_15 : decode cX3_differ 15 = .ok (.invokevirtual 121, 3) := by decide +kernel
theorem dX3_differ_18 : decode cX3_differ 18 = .ok (.istore 6, 2) := by decide +kernel
theorem dX3_differ_20 : decode cX3_differ 20 = .ok (.iload 6, 2) := by decide +kernel
theorem dX3_differ_22 : decode cX3_differ 22 = .ok (.ifCond .ne 12, 3) := by decide +kernel
theorem dX3_differ_25 : decode cX3_differ 25 = .ok (.aload_n 0, 1) := by decide +kernel
theorem dX3_differ_26 : decode cX3_differ 26 = .ok (.iload_n 1, 1) := by decide +kernel
theorem dX3_differ_27 : decode cX3_differ 27 = .ok (.iload_n 2, 1) := by decide +kernel
theorem dX3_differ_28 : decode cX3_differ 28 = .ok (.iload_n 3, 1) := by decide +kernel
theorem dX3_differ_29 : decode cX3_differ 29 = .ok (.invokevirtual 84, 3) := by decide +kernel
theorem dX3_differ_32 : decode cX3_differ 32 = .ok (.istore 6, 2) := by decide +kernel
theorem dX3_differ_34 : decode cX3_differ 34 = .ok (.iload 6, 2) := by decide +kernel
theorem dX3_differ_36 : decode cX3_differ 36 = .ok (.ifCond .ne 30, 3) := by decide +kernel
theorem dX3_differ_39 : decode cX3_differ 39 = .ok (.iload 5, 2) := by decide +kernel
theorem dX3_differ_41 : decode cX3_differ 41 = .ok (.ifCond .lt 22, 3) := by decide +kernel
theorem dX3_differ_44 : decode cX3_differ 44 = .ok (.iload 5, 2) := by decide +kernel
theorem dX3_differ_46 : decode cX3_differ 46 = .ok (.aload_n 0, 1) := by decide +kernel
theorem dX3_differ_47 : decode cX3_differ 47 = .ok (.getfield 15, 3) := by decide +kernel
theorem dX3_differ_50 : decode cX3_differ 50 = .ok (.iload 4, 2) := by decide +kernel
theorem dX3_differ_52 : decode cX3_differ 52 = .ok (.aaload, 1) := by decide +kernel
theorem dX3_differ_53 : decode cX3_differ 53 = .ok (.getfield 66, 3) := by decide +kernel
theorem dX3_differ_56 : decode cX3_differ 56 = .ok (.iload_n 3, 1) := by decide +kernel
theorem dX3_differ_57 : decode cX3_differ 57 = .ok (.iload_n 2, 1) := by decide +kernel
theorem dX3_differ_58 : decode cX3_differ 58 = .ok (.isub, 1) := by decide +kernel
theorem dX3_differ_59 : decode cX3_differ 59 = .ok (.isub, 1) := by decide +kernel
theorem dX3_differ_60 : decode cX3_differ 60 = .ok (.if_icmp .le 6, 3) := by decide +kernel
theorem dX3_differ_63 : decode cX3_differ 63 = .ok (.iconst (-1), 1) := by decide +kernel
theorem dX3_differ_64 : decode cX3_differ 64 = .ok (.istore 6, 2) := by decide +kernel
theorem dX3_differ_66 : decode cX3_differ 66 = .ok (.iload 6, 2) := by decide +kernel
theorem dX3_differ_68 : decode cX3_differ 68 = .ok (.ifCond .eq 10, 3) := by decide +kernel
theorem dX3_differ_71 : decode cX3_differ 71 = .ok (.aload_n 0, 1) := by decide +kernel
theorem dX3_differ_72 : decode cX3_differ 72 = .ok (.iload 6, 2) := by decide +kernel
theorem dX3_differ_74 : decode cX3_differ 74 = .ok (.invokevirtual 56, 3) := by decide +kernel
theorem dX3_differ_77 : decode cX3_differ 77 = .ok (.ireturn, 1) := by decide +kernel
theorem dX3_differ_78 : decode cX3_differ 78 = .ok (.aload_n 0, 1) := by decide +kernel
theorem dX3_differ_79 : decode cX3_differ 79 = .ok (.getfield 25, 3) := by decide +kernel
theorem dX3_differ_82 : decode cX3_differ 82 = .ok (.aload_n 0, 1) := by decide +kernel
theorem dX3_differ_83 : decode cX3_differ 83 = .ok (.getfield 15, 3) := by decide +kernel
theorem dX3_differ_86 : decode cX3_differ 86 = .ok (.iload_n 1, 1) := by decide +kernel
theorem dX3_differ_87 : decode cX3_differ 87 = .ok (.aaload, 1) := by decide +kernel
theorem dX3_differ_88 : decode cX3_differ 88 = .ok (.invokevirtual 88, 3) := by decide +kernel
theorem dX3_differ_91 : decode cX3_differ 91 = .ok (.aload_n 0, 1) := by decide +kernel
theorem dX3_differ_92 : decode cX3_differ 92 = .ok (.getfield 29, 3) := by decide +kernel
theorem dX3_differ_95 : decode cX3_differ 95 = .ok (.aload_n 0, 1) := by decide +kernel
theorem dX3_differ_96 : decode cX3_differ 96 = .ok (.getfield 15, 3) := by decide +kernel
theorem dX3_differ_99 : decode cX3_differ 99 = .ok (.iload 4, 2) := by decide +kernel
theorem dX3_differ_101 : decode cX3_differ 101 = .ok (.aaload, 1) := by decide +kernel
theorem dX3_differ_102 : decode cX3_differ 102 = .ok (.invokevirtual 88, 3) := by decide +kernel
theorem dX3_differ_105 : decode cX3_differ 105 = .ok (.aload_n 0, 1) := by decide +kernel
theorem dX3_differ_106 : decode cX3_differ 106 = .ok (.getfield 35, 3) := by decide +kernel
theorem dX3_differ_109 : decode cX3_differ 109 = .ok (.invokevirtual 179, 3) := by decide +kernel
theorem dX3_differ_112 : decode cX3_differ 112 = .ok (.aload_n 0, 1) := by decide +kernel
theorem dX3_differ_113 : decode cX3_differ 113 = .ok (.getfield 35, 3) := by decide +kernel
theorem dX3_differ_116 : decode cX3_differ 116 = .ok (.aload_n 0, 1) := by decide +kernel
theorem dX3_differ_117 : decode cX3_differ 117 = .ok (.getfield 25, 3) := by decide +kernel
theorem dX3_differ_120 : decode cX3_differ 120 = .ok (.iload_n 2, 1) := by decide +kernel
theorem dX3_differ_121 : decode cX3_differ 121 = .ok (.iload_n 3, 1) := by decide +kernel
theorem dX3_differ_122 : decode cX3_differ 122 = .ok (.iconst 1, 1) := by decide +kernel
theorem dX3_differ_123 : decode cX3_differ 123 = .ok (.invokevirtual 182, 3) := by decide +kernel
theorem dX3_differ_126 : decode cX3_differ 126 = .ok (.aload_n 0, 1) := by decide +kernel
theorem dX3_differ_127 : decode cX3_differ 127 = .ok (.getfield 35, 3) := by decide +kernel
theorem dX3_differ_130 : decode cX3_differ 130 = .ok (.aload_n 0, 1) := by decide +kernel
theorem dX3_differ_131 : decode cX3_differ 131 = .ok (.getfield 29, 3) := by decide +kernel
theorem dX3_differ_134 : decode cX3_differ 134 = .ok (.iload 5, 2) := by decide +kernel
theorem dX3_differ_136 : decode cX3_differ 136 = .ok (.iload 5, 2) := by decide +kernel
theorem dX3_differ_138 : decode cX3_differ 138 = .ok (.iload_n 3, 1) := by decide +kernel
theorem dX3_differ_139 : decode cX3_differ 139 = .ok (.iload_n 2, 1) := by decide +kernel
theorem dX3_differ_140 : decode cX3_differ 140 = .ok (.isub, 1) := by decide +kernel
theorem dX3_differ_141 : decode cX3_differ 141 = .ok (.iadd, 1) := by decide +kernel
theorem dX3_differ_142 : decode cX3_differ 142 = .ok (.iconst (-1), 1) := by decide +kernel
theorem dX3_differ_143 : decode cX3_differ 143 = .ok (.invokevirtual 182, 3) := by decide +kernel
theorem dX3_differ_146 : decode cX3_differ 146 = .ok (.aload_n 0, 1) := by decide +kernel
theorem dX3_differ_147 : decode cX3_differ 147 = .ok (.aload_n 0, 1) := by decide +kernel
theorem dX3_differ_148 : decode cX3_differ 148 = .ok (.getfield 35, 3) := by decide +kernel
theorem dX3_differ_151 : decode cX3_differ 151 = .ok (.invokevirtual 186, 3) := by decide +kernel
theorem dX3_differ_154 : decode cX3_differ 154 = .ok (.invokevirtual 156, 3) := by decide +kernel
theorem dX3_differ_157 : decode cX3_differ 157 = .ok (.ireturn, 1) := by decide +kernel
theorem dX3_first_0 : decode cX3_first 0 = .ok (.aload_n 0, 1) := by decide +kernel
theorem dX3_first_1 : decode cX3_first 1 = .ok (.iload_n 1, 1) := by decide +kernel
theorem dX3_first_2 : decode cX3_first 2 = .ok (.invokevirtual 121, 3) := by decide +kernel
theorem dX3_first_5 : decode cX3_first 5 = .ok (.istore_n 3, 1) := by decide +kernel
theorem dX3_first_6 : decode cX3_first 6 = .ok (.iload_n 3, 1) := by decide +kernel
theorem dX3_first_7 : decode cX3_first 7 = .ok (.ifCond .ne 9, 3) := by decide +kernel
theorem dX3_first_10 : decode cX3_first 10 = .ok (.aload_n 0, 1) := by decide +kernel
theorem dX3_first_11 : decode cX3_first 11 = .ok (.iload_n 2, 1) := by decide +kernel
theorem dX3_first_12 : decode cX3_first 12 = .ok (.invokevirtual 121, 3) := by decide +kernel
theorem dX3_first_15 : decode cX3_first 15 = .ok (.istore_n 3, 1) := by decide +kernel
theorem dX3_first_16 : decode cX3_first 16 = .ok (.iload_n 3, 1) := by decide +kernel
theorem dX3_first_17 : decode cX3_first 17 = .ok (.ifCond .eq 9, 3) := by decide +kernel
theorem dX3_first_20 : decode cX3_first 20 = .ok (.aload_n 0, 1) := by decide +kernel
theorem dX3_first_21 : decode cX3_first 21 = .ok (.iload_n 3, 1) := by decide +kernel
theorem dX3_first_22 : decode cX3_first 22 = .ok (.invokevirtual 56, 3) := by decide +kernel
theorem dX3_first_25 : decode cX3_first 25 = .ok (.ireturn, 1) := by decide +kernel
theorem dX3_first_26 : decode cX3_first 26 = .ok (.aload_n 0, 1) := by decide +kernel
theorem dX3_first_27 : decode cX3_first 27 = .ok (.getfield 25, 3) := by decide +kernel
theorem dX3_first_30 : decode cX3_first 30 = .ok (.aload_n 0, 1) := by decide +kernel
theorem dX3_first_31 : decode cX3_first 31 = .ok (.getfield 15, 3) := by decide +kernel
theorem dX3_first_34 : decode cX3_first 34 = .ok (.iload_n 1, 1) := by decide +kernel
theorem dX3_first_35 : decode cX3_first 35 = .ok (.aaload, 1) := by decide +kernel
theorem dX3_first_36 : decode cX3_first 36 = .ok (.invokevirtual 88, 3) := by decide +kernel
theorem dX3_first_39 : decode cX3_first 39 = .ok (.aload_n 0, 1) := by decide +kernel
theorem dX3_first_40 : decode cX3_first 40 = .ok (.getfield 29, 3) := by decide +kernel
theorem dX3_first_43 : decode cX3_first 43 = .ok (.aload_n 0, 1) := by decide +kernel
theorem dX3_first_44 : decode cX3_first 44 = .ok (.getfield 15, 3) := by decide +kernel
theorem dX3_first_47 : decode cX3_first 47 = .ok (.iload_n 2, 1) := by decide +kernel
theorem dX3_first_48 : decode cX3_first 48 = .ok (.aaload, 1) := by decide +kernel
theorem dX3_first_49 : decode cX3_first 49 = .ok (.invokevirtual 88, 3) := by decide +kernel
theorem dX3_first_52 : decode cX3_first 52 = .ok (.aload_n 0, 1) := by decide +kernel
theorem dX3_first_53 : decode cX3_first 53 = .ok (.aload_n 0, 1) := by decide +kernel
theorem dX3_first_54 : decode cX3_first 54 = .ok (.getfield 25, 3) := by decide +kernel
theorem dX3_first_57 : decode cX3_first 57 = .ok (.aload_n 0, 1) := by decide +kernel
theorem dX3_first_58 : decode cX3_first 58 = .ok (.getfield 29, 3) := by decide +kernel
theorem dX3_first_61 : decode cX3_first 61 = .ok (.invokevirtual 189, 3) := by decide +kernel
theorem dX3_first_64 : decode cX3_first 64 = .ok (.invokevirtual 156, 3) := by decide +kernel
theorem dX3_first_67 : decode cX3_first 67 = .ok (.ireturn, 1) := by decide +kernel
theorem dX3_step_0 : decode cX3_step 0 = .ok (.iload_n 1, 1) := by decide +kernel
theorem dX3_step_1 : decode cX3_step 1 = .ok (.ifCond .lt 11, 3) := by decide +kernel
theorem dX3_step_4 : decode cX3_step 4 = .ok (.iload_n 1, 1) := by decide +kernel
theorem dX3_step_5 : decode cX3_step 5 = .ok (.aload_n 0, 1) := by decide +kernel
theorem dX3_step_6 : decode cX3_step 6 = .ok (.getfield 193, 3) := by decide +kernel
theorem dX3_step_9 : decode cX3_step 9 = .ok (.if_icmp .lt 10, 3) := by decide +kernel
theorem dX3_step_12 : decode cX3_step 12 = .ok (.aload_n 0, 1) := by decide +kernel
theorem dX3_step_13 : decode cX3_step 13 = .ok (.bipush (-6), 2) := by decide +kernel
theorem dX3_step_15 : decode cX3_step 15 = .ok (.invokevirtual 56, 3) := by decide +kernel
theorem dX3_step_18 : decode cX3_step 18 = .ok (.ireturn, 1) := by decide +kernel
theorem dX3_step_19 : decode cX3_step 19 = .ok (.aload_n 0, 1) := by decide +kernel
theorem dX3_step_20 : decode cX3_step 20 = .ok (.getfield 39, 3) := by decide +kernel
theorem dX3_step_23 : decode cX3_step 23 = .ok (.iload_n 1, 1) := by decide +kernel
theorem dX3_step_24 : decode cX3_step 24 = .ok (.iaload, 1) := by decide +kernel
theorem dX3_step_25 : decode cX3_step 25 = .ok (.ireturn, 1) := by decide +kernel
theorem dX3_found_0 : decode cX3_found 0 = .ok (.iload_n 1, 1) := by decide +kernel
theorem dX3_found_1 : decode cX3_found 1 = .ok (.iconst (-1), 1) := by decide +kernel
theorem dX3_found_2 : decode cX3_found 2 = .ok (.if_icmp .gt 9, 3) := by decide +kernel
theorem dX3_found_5 : decode cX3_found 5 = .ok (.iload_n 1, 1) := by decide +kernel
theorem dX3_found_6 : decode cX3_found 6 = .ok (.bipush (-6), 2) := by decide +kernel
theorem dX3_found_8 : decode cX3_found 8 = .ok (.if_icmp .ge 9, 3) := by decide +kernel
theorem dX3_found_11 : decode cX3_found 11 = .ok (.aload_n 0, 1) := by decide +kernel
theorem dX3_found_12 : decode cX3_found 12 = .ok (.iconst (-1), 1) := by decide +kernel
theorem dX3_found_13 : decode cX3_found 13 = .ok (.invokevirtual 56, 3) := by decide +kernel
theorem dX3_found_16 : decode cX3_found 16 = .ok (.ireturn, 1) := by decide +kernel
theorem dX3_found_17 : decode cX3_found 17 = .ok (.aload_n 0, 1) := by decide +kernel
theorem dX3_found_18 : decode cX3_found 18 = .ok (.getfield 42, 3) := by decide +kernel
theorem dX3_found_21 : decode cX3_found 21 = .ok (.iload_n 1, 1) := by decide +kernel
theorem dX3_found_22 : decode cX3_found 22 = .ok (.ineg, 1) := by decide +kernel
theorem dX3_found_23 : decode cX3_found 23 = .ok (.iaload, 1) := by decide +kernel
theorem dX3_found_24 : decode cX3_found 24 = .ok (.ireturn, 1) := by decide +kernel
theorem dX3_told_0 : decode cX3_told 0 = .ok (.iload_n 1, 1) := by decide +kernel
theorem dX3_told_1 : decode cX3_told 1 = .ok (.iconst (-1), 1) := by decide +kernel
theorem dX3_told_2 : decode cX3_told 2 = .ok (.if_icmp .gt 20, 3) := by decide +kernel
theorem dX3_told_5 : decode cX3_told 5 = .ok (.iload_n 1, 1) := by decide +kernel
theorem dX3_told_6 : decode cX3_told 6 = .ok (.bipush (-6), 2) := by decide +kernel
theorem dX3_told_8 : decode cX3_told 8 = .ok (.if_icmp .lt 14, 3) := by decide +kernel
theorem dX3_told_11 : decode cX3_told 11 = .ok (.aload_n 0, 1) := by decide +kernel
theorem dX3_told_12 : decode cX3_told 12 = .ok (.getfield 42, 3) := by decide +kernel
theorem dX3_told_15 : decode cX3_told 15 = .ok (.iload_n 1, 1) := by decide +kernel
theorem dX3_told_16 : decode cX3_told 16 = .ok (.ineg, 1) := by decide +kernel
theorem dX3_told_17 : decode cX3_told 17 = .ok (.dup2, 1) := by decide +kernel
theorem dX3_told_18 : decode cX3_told 18 = .ok (.iaload, 1) := by decide +kernel
theorem dX3_told_19 : decode cX3_told 19 = .ok (.iconst 1, 1) := by decide +kernel
theorem dX3_told_20 : decode cX3_told 20 = .ok (.iadd, 1) := by decide +kernel
theorem dX3_told_21 : decode cX3_told 21 = .ok (.iastore, 1) := by decide +kernel
theorem dX3_told_22 : decode cX3_told 22 = .ok (.iload_n 1, 1) := by decide +kernel
theorem dX3_told_23 : decode cX3_told 23 = .ok (.ireturn, 1) := by decide +kernel
theorem dX3_foundOrNone_0 : decode cX3_foundOrNone 0 = .ok (.iload_n 1, 1) := by decide +kernel
theorem dX3_foundOrNone_1 : decode cX3_foundOrNone 1 = .ok (.bipush (-6), 2) := by decide +kernel
theorem dX3_foundOrNone_3 : decode cX3_foundOrNone 3 = .ok (.if_icmp .ne 12, 3) := by decide +kernel
theorem dX3_foundOrNone_6 : decode cX3_foundOrNone 6 = .ok (.aload_n 0, 1) := by decide +kernel
theorem dX3_foundOrNone_7 : decode cX3_foundOrNone 7 = .ok (.bipush (-6), 2) := by decide +kernel
theorem dX3_foundOrNone_9 : decode cX3_foundOrNone 9 = .ok (.invokevirtual 56, 3) := by decide +kernel
theorem dX3_foundOrNone_12 : decode cX3_foundOrNone 12 = .ok (.goto 4, 3) := by decide +kernel
theorem dX3_foundOrNone_15 : decode cX3_foundOrNone 15 = .ok (.iload_n 1, 1) := by decide +kernel
theorem dX3_foundOrNone_16 : decode cX3_foundOrNone 16 = .ok (.ireturn, 1) := by decide +kernel
theorem dX3_isShelfPlace_0 : decode cX3_isShelfPlace 0 = .ok (.iload_n 0, 1) := by decide +kernel
theorem dX3_isShelfPlace_1 : decode cX3_isShelfPlace 1 = .ok (.ifCond .lt 13, 3) := by decide +kernel
theorem dX3_isShelfPlace_4 : decode cX3_isShelfPlace 4 = .ok (.iload_n 0, 1) := by decide +kernel
theorem dX3_isShelfPlace_5 : decode cX3_isShelfPlace 5 = .ok (.bipush 12, 2) := by decide +kernel
theorem dX3_isShelfPlace_7 : decode cX3_isShelfPlace 7 = .ok (.if_icmp .ge 7, 3) := by decide +kernel
theorem dX3_isShelfPlace_10 : decode cX3_isShelfPlace 10 = .ok (.iconst 1, 1) := by decide +kernel
theorem dX3_isShelfPlace_11 : decode cX3_isShelfPlace 11 = .ok (.goto 4, 3) := by decide +kernel
theorem dX3_isShelfPlace_14 : decode cX3_isShelfPlace 14 = .ok (.iconst 0, 1) := by decide +kernel
theorem dX3_isShelfPlace_15 : decode cX3_isShelfPlace 15 = .ok (.ireturn, 1) := by decide +kernel
theorem dX3_isValue_0 : decode cX3_isValue 0 = .ok (.iload_n 0, 1) := by decide +kernel
theorem dX3_isValue_1 : decode cX3_isValue 1 = .ok (.ifCond .lt 14, 3) := by decide +kernel
theorem dX3_isValue_4 : decode cX3_isValue 4 = .ok (.iload_n 0, 1) := by decide +kernel
theorem dX3_isValue_5 : decode cX3_isValue 5 = .ok (.sipush 1023, 3) := by decide +kernel
theorem dX3_isValue_8 : decode cX3_isValue 8 = .ok (.if_icmp .gt 7, 3) := by decide +kernel
theorem dX3_isValue_11 : decode cX3_isValue 11 = .ok (.iconst 1, 1) := by decide +kernel
theorem dX3_isValue_12 : decode cX3_isValue 12 = .ok (.goto 4, 3) := by decide +kernel
theorem dX3_isValue_15 : decode cX3_isValue 15 = .ok (.iconst 0, 1) := by decide +kernel
theorem dX3_isValue_16 : decode cX3_isValue 16 = .ok (.ireturn, 1) := by decide +kernel
theorem dX3_isVersion_0 : decode cX3_isVersion 0 = .ok (.iload_n 1, 1) := by decide +kernel
theorem dX3_isVersion_1 : decode cX3_isVersion 1 = .ok (.ifCond .lt 15, 3) := by decide +kernel
theorem dX3_isVersion_4 : decode cX3_isVersion 4 = .ok (.iload_n 1, 1) := by decide +kernel
theorem dX3_isVersion_5 : decode cX3_isVersion 5 = .ok (.aload_n 0, 1) := by decide +kernel
theorem dX3_isVersion_6 : decode cX3_isVersion 6 = .ok (.getfield 48, 3) := by decide +kernel
theorem dX3_isVersion_9 : decode cX3_isVersion 9 = .ok (.if_icmp .ge 7, 3) := by decide +kernel
theorem dX3_isVersion_12 : decode cX3_isVersion 12 = .ok (.iconst 1, 1) := by decide +kernel
theorem dX3_isVersion_13 : decode cX3_isVersion 13 = .ok (.goto 4, 3) := by decide +kernel
theorem dX3_isVersion_16 : decode cX3_isVersion 16 = .ok (.iconst 0, 1) := by decide +kernel
theorem dX3_isVersion_17 : decode cX3_isVersion 17 = .ok (.ireturn, 1) := by decide +kernel
theorem dX3_findingOfPlace_0 : decode cX3_findingOfPlace 0 = .ok (.iload_n 1, 1) := by decide +kernel
theorem dX3_findingOfPlace_1 : decode cX3_findingOfPlace 1 = .ok (.invokestatic 63, 3) := by decide +kernel
theorem dX3_findingOfPlace_4 : decode cX3_findingOfPlace 4 = .ok (.ifCond .ne 5, 3) := by decide +kernel
theorem dX3_findingOfPlace_7 : decode cX3_findingOfPlace 7 = .ok (.iconst (-1), 1) := by decide +kernel
theorem dX3_findingOfPlace_8 : decode cX3_findingOfPlace 8 = .ok (.ireturn, 1) := by decide +kernel
theorem dX3_findingOfPlace_9 : decode cX3_findingOfPlace 9 = .ok (.aload_n 0, 1) := by decide +kernel
theorem dX3_findingOfPlace_10 : decode cX3_findingOfPlace 10 = .ok (.getfield 15, 3) := by decide +kernel
theorem dX3_findingOfPlace_13 : decode cX3_findingOfPlace 13 = .ok (.iload_n 1, 1) := by decide +kernel
theorem dX3_findingOfPlace_14 : decode cX3_findingOfPlace 14 = .ok (.aaload, 1) := by decide +kernel
theorem dX3_findingOfPlace_15 : decode cX3_findingOfPlace 15 = .ok (.ifnonnull 8, 3) := by decide +kernel
theorem dX3_findingOfPlace_18 : decode cX3_findingOfPlace 18 = .ok (.bipush (-2), 2) := by decide +kernel
theorem dX3_findingOfPlace_20 : decode cX3_findingOfPlace 20 = .ok (.goto 4, 3) := by decide +kernel
theorem dX3_findingOfPlace_23 : decode cX3_findingOfPlace 23 = .ok (.iconst 0, 1) := by decide +kernel
theorem dX3_findingOfPlace_24 : decode cX3_findingOfPlace 24 = .ok (.ireturn, 1) := by decide +kernel
theorem dX3_findingOfGrown_0 : decode cX3_findingOfGrown 0 = .ok (.aload_n 0, 1) := by decide +kernel
theorem dX3_findingOfGrown_1 : decode cX3_findingOfGrown 1 = .ok (.iload_n 1, 1) := by decide +kernel
theorem dX3_findingOfGrown_2 : decode cX3_findingOfGrown 2 = .ok (.invokevirtual 121, 3) := by decide +kernel
theorem dX3_findingOfGrown_5 : decode cX3_findingOfGrown 5 = .ok (.istore_n 2, 1) := by decide +kernel
theorem dX3_findingOfGrown_6 : decode cX3_findingOfGrown 6 = .ok (.iload_n 2, 1) := by decide +kernel
theorem dX3_findingOfGrown_7 : decode cX3_findingOfGrown 7 = .ok (.ifCond .eq 5, 3) := by decide +kernel
theorem dX3_findingOfGrown_10 : decode cX3_findingOfGrown 10 = .ok (.iload_n 2, 1) := by decide +kernel
theorem dX3_findingOfGrown_11 : decode cX3_findingOfGrown 11 = .ok (.ireturn, 1) := by decide +kernel
theorem dX3_findingOfGrown_12 : decode cX3_findingOfGrown 12 = .ok (.aload_n 0, 1) := by decide +kernel
theorem dX3_findingOfGrown_13 : decode cX3_findingOfGrown 13 = .ok (.getfield 18, 3) := by decide +kernel
theorem dX3_findingOfGrown_16 : decode cX3_findingOfGrown 16 = .ok (.iload_n 1, 1) := by decide +kernel
theorem dX3_findingOfGrown_17 : decode cX3_findingOfGrown 17 = .ok (.iaload, 1) := by decide +kernel
theorem dX3_findingOfGrown_18 : decode cX3_findingOfGrown 18 = .ok (.ifCond .ne 7, 3) := by decide +kernel
theorem dX3_findingOfGrown_21 : decode cX3_findingOfGrown 21 = .ok (.iconst 0, 1) := by decide +kernel
theorem dX3_findingOfGrown_22 : decode cX3_findingOfGrown 22 = .ok (.goto 5, 3) := by decide +kernel
theorem dX3_findingOfGrown_25 : decode cX3_findingOfGrown 25 = .ok (.bipush (-3), 2) := by decide +kernel
theorem dX3_findingOfGrown_27 : decode cX3_findingOfGrown 27 = .ok (.ireturn, 1) := by decide +kernel
theorem dX3_findingOfIndex_0 : decode cX3_findingOfIndex 0 = .ok (.aload_n 0, 1) := by decide +kernel
theorem dX3_findingOfIndex_1 : decode cX3_findingOfIndex 1 = .ok (.iload_n 1, 1) := by decide +kernel
theorem dX3_findingOfIndex_2 : decode cX3_findingOfIndex 2 = .ok (.invokevirtual 121, 3) := by decide +kernel
theorem dX3_findingOfIndex_5 : decode cX3_findingOfIndex 5 = .ok (.istore_n 3, 1) := by decide +kernel
theorem dX3_findingOfIndex_6 : decode cX3_findingOfIndex 6 = .ok (.iload_n 3, 1) := by decide +kernel
theorem dX3_findingOfIndex_7 : decode cX3_findingOfIndex 7 = .ok (.ifCond .eq 5, 3) := by decide +kernel
theorem dX3_findingOfIndex_10 : decode cX3_findingOfIndex 10 = .ok (.iload_n 3, 1) := by decide +kernel
theorem dX3_findingOfIndex_11 : decode cX3_findingOfIndex 11 = .ok (.ireturn, 1) := by decide +kernel
theorem dX3_findingOfIndex_12 : decode cX3_findingOfIndex 12 = .ok (.iload_n 2, 1) := by decide +kernel
theorem dX3_findingOfIndex_13 : decode cX3_findingOfIndex 13 = .ok (.ifCond .lt 16, 3) := by decide +kernel
theorem dX3_findingOfIndex_16 : decode cX3_findingOfIndex 16 = .ok (.iload_n 2, 1) := by decide +kernel
theorem dX3_findingOfIndex_17 : decode cX3_findingOfIndex 17 = .ok (.aload_n 0, 1) := by decide +kernel
theorem dX3_findingOfIndex_18 : decode cX3_findingOfIndex 18 = .ok (.getfield 15, 3) := by decide +kernel
theorem dX3_findingOfIndex_21 : decode cX3_findingOfIndex 21 = .ok (.iload_n 1, 1) := by decide +kernel
theorem dX3_findingOfIndex_22 : decode cX3_findingOfIndex 22 = .ok (.aaload, 1) := by decide +kernel
theorem dX3_findingOfIndex_23 : decode cX3_findingOfIndex 23 = .ok (.getfield 66, 3) := by decide +kernel
theorem dX3_findingOfIndex_26 : decode cX3_findingOfIndex 26 = .ok (.if_icmp .lt 7, 3) := by decide +kernel
theorem dX3_findingOfIndex_29 : decode cX3_findingOfIndex 29 = .ok (.iconst (-1), 1) := by decide +kernel
theorem dX3_findingOfIndex_30 : decode cX3_findingOfIndex 30 = .ok (.goto 4, 3) := by decide +kernel
theorem dX3_findingOfIndex_33 : decode cX3_findingOfIndex 33 = .ok (.iconst 0, 1) := by decide +kernel
theorem dX3_findingOfIndex_34 : decode cX3_findingOfIndex 34 = .ok (.ireturn, 1) := by decide +kernel
theorem dX3_findingOfPlane_0 : decode cX3_findingOfPlane 0 = .ok (.aload_n 0, 1) := by decide +kernel
theorem dX3_findingOfPlane_1 : decode cX3_findingOfPlane 1 = .ok (.iload_n 1, 1) := by decide +kernel
theorem dX3_findingOfPlane_2 : decode cX3_findingOfPlane 2 = .ok (.invokevirtual 121, 3) := by decide +kernel
theorem dX3_findingOfPlane_5 : decode cX3_findingOfPlane 5 = .ok (.istore_n 3, 1) := by decide +kernel
theorem dX3_findingOfPlane_6 : decode cX3_findingOfPlane 6 = .ok (.iload_n 3, 1) := by decide +kernel
theorem dX3_findingOfPlane_7 : decode cX3_findingOfPlane 7 = .ok (.ifCond .eq 5, 3) := by decide +kernel
theorem dX3_findingOfPlane_10 : decode cX3_findingOfPlane 10 = .ok (.iload_n 3, 1) := by decide +kernel
theorem dX3_findingOfPlane_11 : decode cX3_findingOfPlane 11 = .ok (.ireturn, 1) := by decide +kernel
theorem dX3_findingOfPlane_12 : decode cX3_findingOfPlane 12 = .ok (.aload_n 0, 1) := by decide +kernel
theorem dX3_findingOfPlane_13 : decode cX3_findingOfPlane 13 = .ok (.getfield 18, 3) := by decide +kernel
theorem dX3_findingOfPlane_16 : decode cX3_findingOfPlane 16 = .ok (.iload_n 1, 1) := by decide +kernel
theorem dX3_findingOfPlane_17 : decode cX3_findingOfPlane 17 = .ok (.iaload, 1) := by decide +kernel
theorem dX3_findingOfPlane_18 : decode cX3_findingOfPlane 18 = .ok (.ifCond .ne 6, 3) := by decide +kernel
theorem dX3_findingOfPlane_21 : decode cX3_findingOfPlane 21 = .ok (.bipush (-3), 2) := by decide +kernel
theorem dX3_findingOfPlane_23 : decode cX3_findingOfPlane 23 = .ok (.ireturn, 1) := by decide +kernel
theorem dX3_findingOfPlane_24 : decode cX3_findingOfPlane 24 = .ok (.iload_n 2, 1) := by decide +kernel
theorem dX3_findingOfPlane_25 : decode cX3_findingOfPlane 25 = .ok (.ifCond .lt 12, 3) := by decide +kernel
theorem dX3_findingOfPlane_28 : decode cX3_findingOfPlane 28 = .ok (.iload_n 2, 1) := by decide +kernel
theorem dX3_findingOfPlane_29 : decode cX3_findingOfPlane 29 = .ok (.aload_n 0, 1) := by decide +kernel
theorem dX3_findingOfPlane_30 : decode cX3_findingOfPlane 30 = .ok (.iload_n 1, 1) := by decide +kernel
theorem dX3_findingOfPlane_31 : decode cX3_findingOfPlane 31 = .ok (.invokevirtual 143, 3) := by decide +kernel
theorem dX3_findingOfPlane_34 : decode cX3_findingOfPlane 34 = .ok (.if_icmp .le 7, 3) := by decide +kernel
theorem dX3_findingOfPlane_37 : decode cX3_findingOfPlane 37 = .ok (.iconst (-1), 1) := by decide +kernel
theorem dX3_findingOfPlane_38 : decode cX3_findingOfPlane 38 = .ok (.goto 4, 3) := by decide +kernel
theorem dX3_findingOfPlane_41 : decode cX3_findingOfPlane 41 = .ok (.iconst 0, 1) := by decide +kernel
theorem dX3_findingOfPlane_42 : decode cX3_findingOfPlane 42 = .ok (.ireturn, 1) := by decide +kernel
theorem dX3_findingOfSpan_0 : decode cX3_findingOfSpan 0 = .ok (.aload_n 0, 1) := by decide +kernel
theorem dX3_findingOfSpan_1 : decode cX3_findingOfSpan 1 = .ok (.iload_n 1, 1) := by decide +kernel
theorem dX3_findingOfSpan_2 : decode cX3_findingOfSpan 2 = .ok (.invokevirtual 121, 3) := by decide +kernel
theorem dX3_findingOfSpan_5 : decode cX3_findingOfSpan 5 = .ok (.istore 4, 2) := by decide +kernel
theorem dX3_findingOfSpan_7 : decode cX3_findingOfSpan 7 = .ok (.iload 4, 2) := by decide +kernel
theorem dX3_findingOfSpan_9 : decode cX3_findingOfSpan 9 = .ok (.ifCond .eq 6, 3) := by decide +kernel
theorem dX3_findingOfSpan_12 : decode cX3_findingOfSpan 12 = .ok (.iload 4, 2) := by decide +kernel
theorem dX3_findingOfSpan_14 : decode cX3_findingOfSpan 14 = .ok (.ireturn, 1) := by decide +kernel
theorem dX3_findingOfSpan_15 : decode cX3_findingOfSpan 15 = .ok (.iload_n 3, 1) := by decide +kernel
theorem dX3_findingOfSpan_16 : decode cX3_findingOfSpan 16 = .ok (.iload_n 2, 1) := by decide +kernel
theorem dX3_findingOfSpan_17 : decode cX3_findingOfSpan 17 = .ok (.if_icmp .ge 6, 3) := by decide +kernel
theorem dX3_findingOfSpan_20 : decode cX3_findingOfSpan 20 = .ok (.bipush (-4), 2) := by decide +kernel
theorem dX3_findingOfSpan_22 : decode cX3_findingOfSpan 22 = .ok (.ireturn, 1) := by decide +kernel
theorem dX3_findingOfSpan_23 : decode cX3_findingOfSpan 23 = .ok (.iload_n 2, 1) := by decide +kernel
theorem dX3_findingOfSpan_24 : decode cX3_findingOfSpan 24 = .ok (.ifCond .lt 16, 3) := by decide +kernel
theorem dX3_findingOfSpan_27 : decode cX3_findingOfSpan 27 = .ok (.iload_n 3, 1) := by decide +kernel
theorem dX3_findingOfSpan_28 : decode cX3_findingOfSpan 28 = .ok (.aload_n 0, 1) := by decide +kernel
theorem dX3_findingOfSpan_29 : decode cX3_findingOfSpan 29 = .ok (.getfield 15, 3) := by decide +kernel
theorem dX3_findingOfSpan_32 : decode cX3_findingOfSpan 32 = .ok (.iload_n 1, 1) := by decide +kernel
theorem dX3_findingOfSpan_33 : decode cX3_findingOfSpan 33 = .ok (.aaload, 1) := by decide +kernel
theorem dX3_findingOfSpan_34 : decode cX3_findingOfSpan 34 = .ok (.getfield 66, 3) := by decide +kernel
theorem dX3_findingOfSpan_37 : decode cX3_findingOfSpan 37 = .ok (.if_icmp .le 7, 3) := by decide +kernel
theorem dX3_findingOfSpan_40 : decode cX3_findingOfSpan 40 = .ok (.iconst (-1), 1) := by decide +kernel
theorem dX3_findingOfSpan_41 : decode cX3_findingOfSpan 41 = .ok (.goto 4, 3) := by decide +kernel
theorem dX3_findingOfSpan_44 : decode cX3_findingOfSpan 44 = .ok (.iconst 0, 1) := by decide +kernel
theorem dX3_findingOfSpan_45 : decode cX3_findingOfSpan 45 = .ok (.ireturn, 1) := by decide +kernel
theorem dX3_hasRoomFor_0 : decode cX3_hasRoomFor 0 = .ok (.aload_n 0, 1) := by decide +kernel
theorem dX3_hasRoomFor_1 : decode cX3_hasRoomFor 1 = .ok (.getfield 48, 3) := by decide +kernel
theorem dX3_hasRoomFor_4 : decode cX3_hasRoomFor 4 = .ok (.sipush 500, 3) := by decide +kernel
theorem dX3_hasRoomFor_7 : decode cX3_hasRoomFor 7 = .ok (.if_icmp .ge 19, 3) := by decide +kernel
theorem dX3_hasRoomFor_10 : decode cX3_hasRoomFor 10 = .ok (.iload_n 1, 1) := by decide +kernel
theorem dX3_hasRoomFor_11 : decode cX3_hasRoomFor 11 = .ok (.sipush 20000, 3) := by decide +kernel
theorem dX3_hasRoomFor_14 : decode cX3_hasRoomFor 14 = .ok (.aload_n 0, 1) := by decide +kernel
theorem dX3_hasRoomFor_15 : decode cX3_hasRoomFor 15 = .ok (.getfield 118, 3) := by decide +kernel
theorem dX3_hasRoomFor_18 : decode cX3_hasRoomFor 18 = .ok (.isub, 1) := by decide +kernel
theorem dX3_hasRoomFor_19 : decode cX3_hasRoomFor 19 = .ok (.if_icmp .gt 7, 3) := by decide +kernel
theorem dX3_hasRoomFor_22 : decode cX3_hasRoomFor 22 = .ok (.iconst 1, 1) := by decide +kernel
theorem dX3_hasRoomFor_23 : decode cX3_hasRoomFor 23 = .ok (.goto 4, 3) := by decide +kernel
theorem dX3_hasRoomFor_26 : decode cX3_hasRoomFor 26 = .ok (.iconst 0, 1) := by decide +kernel
theorem dX3_hasRoomFor_27 : decode cX3_hasRoomFor 27 = .ok (.ireturn, 1) := by decide +kernel
theorem dX3_grow_0 : decode cX3_grow 0 = .ok (.new 9, 3) := by decide +kernel
theorem dX3_grow_3 : decode cX3_grow 3 = .ok (.dup, 1) := by decide +kernel
theorem dX3_grow_4 : decode cX3_grow 4 = .ok (.aload_n 0, 1) := by decide +kernel
theorem dX3_grow_5 : decode cX3_grow 5 = .ok (.getfield 48, 3) := by decide +kernel
theorem dX3_grow_8 : decode cX3_grow 8 = .ok (.aload_n 1, 1) := by decide +kernel
theorem dX3_grow_9 : decode cX3_grow 9 = .ok (.iload_n 2, 1) := by decide +kernel
theorem dX3_grow_10 : decode cX3_grow 10 = .ok (.iload_n 3, 1) := by decide +kernel
theorem dX3_grow_11 : decode cX3_grow 11 = .ok (.invokespecial 45, 3) := by decide +kernel
theorem dX3_grow_14 : decode cX3_grow 14 = .ok (.astore 4, 2) := by decide +kernel
theorem dX3_grow_16 : decode cX3_grow 16 = .ok (.aload_n 1, 1) := by decide +kernel
theorem dX3_grow_17 : decode cX3_grow 17 = .ok (.dup, 1) := by decide +kernel
theorem dX3_grow_18 : decode cX3_grow 18 = .ok (.getfield 108, 3) := by decide +kernel
theorem dX3_grow_21 : decode cX3_grow 21 = .ok (.iconst 1, 1) := by decide +kernel
theorem dX3_grow_22 : decode cX3_grow 22 = .ok (.iadd, 1) := by decide +kernel
theorem dX3_grow_23 : decode cX3_grow 23 = .ok (.putfield 108, 3) := by decide +kernel
theorem dX3_grow_26 : decode cX3_grow 26 = .ok (.aload_n 0, 1) := by decide +kernel
theorem dX3_grow_27 : decode cX3_grow 27 = .ok (.getfield 11, 3) := by decide +kernel
theorem dX3_grow_30 : decode cX3_grow 30 = .ok (.aload_n 0, 1) := by decide +kernel
theorem dX3_grow_31 : decode cX3_grow 31 = .ok (.getfield 48, 3) := by decide +kernel
theorem dX3_grow_34 : decode cX3_grow 34 = .ok (.aload 4, 2) := by decide +kernel
theorem dX3_grow_36 : decode cX3_grow 36 = .ok (.aastore, 1) := by decide +kernel
theorem dX3_grow_37 : decode cX3_grow 37 = .ok (.aload_n 0, 1) := by decide +kernel
theorem dX3_grow_38 : decode cX3_grow 38 = .ok (.dup, 1) := by decide +kernel
theorem dX3_grow_39 : decode cX3_grow 39 = .ok (.getfield 48, 3) := by decide +kernel
theorem dX3_grow_42 : decode cX3_grow 42 = .ok (.iconst 1, 1) := by decide +kernel
theorem dX3_grow_43 : decode cX3_grow 43 = .ok (.iadd, 1) := by decide +kernel
theorem dX3_grow_44 : decode cX3_grow 44 = .ok (.putfield 48, 3) := by decide +kernel
theorem dX3_grow_47 : decode cX3_grow 47 = .ok (.aload_n 0, 1) := by decide +kernel
theorem dX3_grow_48 : decode cX3_grow 48 = .ok (.dup, 1) := by decide +kernel
theorem dX3_grow_49 : decode cX3_grow 49 = .ok (.getfield 118, 3) := by decide +kernel
theorem dX3_grow_52 : decode cX3_grow 52 = .ok (.iload_n 3, 1) := by decide +kernel
theorem dX3_grow_53 : decode cX3_grow 53 = .ok (.iadd, 1) := by decide +kernel
theorem dX3_grow_54 : decode cX3_grow 54 = .ok (.putfield 118, 3) := by decide +kernel
theorem dX3_grow_57 : decode cX3_grow 57 = .ok (.aload 4, 2) := by decide +kernel
theorem dX3_grow_59 : decode cX3_grow 59 = .ok (.areturn, 1) := by decide +kernel
theorem dX3_showGrown_0 : decode cX3_showGrown 0 = .ok (.aload_n 0, 1) := by decide +kernel
theorem dX3_showGrown_1 : decode cX3_showGrown 1 = .ok (.getfield 15, 3) := by decide +kernel
theorem dX3_showGrown_4 : decode cX3_showGrown 4 = .ok (.iload_n 2, 1) := by decide +kernel
theorem dX3_showGrown_5 : decode cX3_showGrown 5 = .ok (.aload_n 1, 1) := by decide +kernel
theorem dX3_showGrown_6 : decode cX3_showGrown 6 = .ok (.aastore, 1) := by decide +kernel
theorem dX3_showGrown_7 : decode cX3_showGrown 7 = .ok (.aload_n 0, 1) := by decide +kernel
theorem dX3_showGrown_8 : decode cX3_showGrown 8 = .ok (.getfield 18, 3) := by decide +kernel
theorem dX3_showGrown_11 : decode cX3_showGrown 11 = .ok (.iload_n 2, 1) := by decide +kernel
theorem dX3_showGrown_12 : decode cX3_showGrown 12 = .ok (.iconst 0, 1) := by decide +kernel
theorem dX3_showGrown_13 : decode cX3_showGrown 13 = .ok (.iastore, 1) := by decide +kernel
theorem dX3_showGrown_14 : decode cX3_showGrown 14 = .ok (.aload_n 1, 1) := by decide +kernel
theorem dX3_showGrown_15 : decode cX3_showGrown 15 = .ok (.getfield 105, 3) := by decide +kernel
theorem dX3_showGrown_18 : decode cX3_showGrown 18 = .ok (.ireturn, 1) := by decide +kernel
theorem dX3_topBitOf_0 : decode cX3_topBitOf 0 = .ok (.aload_n 0, 1) := by decide +kernel
theorem dX3_topBitOf_1 : decode cX3_topBitOf 1 = .ok (.getfield 18, 3) := by decide +kernel
theorem dX3_topBitOf_4 : decode cX3_topBitOf 4 = .ok (.iload_n 1, 1) := by decide +kernel
theorem dX3_topBitOf_5 : decode cX3_topBitOf 5 = .ok (.iaload, 1) := by decide +kernel
theorem dX3_topBitOf_6 : decode cX3_topBitOf 6 = .ok (.iconst 2, 1) := by decide +kernel
theorem dX3_topBitOf_7 : decode cX3_topBitOf 7 = .ok (.if_icmp .ne 8, 3) := by decide +kernel
theorem dX3_topBitOf_10 : decode cX3_topBitOf 10 = .ok (.bipush 7, 2) := by decide +kernel
theorem dX3_topBitOf_12 : decode cX3_topBitOf 12 = .ok (.goto 5, 3) := by decide +kernel
theorem dX3_topBitOf_15 : decode cX3_topBitOf 15 = .ok (.bipush 9, 2) := by decide +kernel
theorem dX3_topBitOf_17 : decode cX3_topBitOf 17 = .ok (.ireturn, 1) := by decide +kernel
theorem dX3_layOutSpan_0 : decode cX3_layOutSpan 0 = .ok (.aload_n 0, 1) := by decide +kernel
theorem dX3_layOutSpan_1 : decode cX3_layOutSpan 1 = .ok (.iload_n 1, 1) := by decide +kernel
theorem dX3_layOutSpan_2 : decode cX3_layOutSpan 2 = .ok (.iload_n 2, 1) := by decide +kernel
theorem dX3_layOutSpan_3 : decode cX3_layOutSpan 3 = .ok (.iload_n 3, 1) := by decide +kernel
theorem dX3_layOutSpan_4 : decode cX3_layOutSpan 4 = .ok (.invokevirtual 84, 3) := by decide +kernel
theorem dX3_layOutSpan_7 : decode cX3_layOutSpan 7 = .ok (.istore 4, 2) := by decide +kernel
theorem dX3_layOutSpan_9 : decode cX3_layOutSpan 9 = .ok (.iload 4, 2) := by decide +kernel
theorem dX3_layOutSpan_11 : decode cX3_layOutSpan 11 = .ok (.ifCond .ne 16, 3) := by decide +kernel
theorem dX3_layOutSpan_14 : decode cX3_layOutSpan 14 = .ok (.aload_n 0, 1) := by decide +kernel
theorem dX3_layOutSpan_15 : decode cX3_layOutSpan 15 = .ok (.getfield 25, 3) := by decide +kernel
theorem dX3_layOutSpan_18 : decode cX3_layOutSpan 18 = .ok (.aload_n 0, 1) := by decide +kernel
theorem dX3_layOutSpan_19 : decode cX3_layOutSpan 19 = .ok (.getfield 15, 3) := by decide +kernel
theorem dX3_layOutSpan_22 : decode cX3_layOutSpan 22 = .ok (.iload_n 1, 1) := by decide +kernel
theorem dX3_layOutSpan_23 : decode cX3_layOutSpan 23 = .ok (.aaload, 1) := by decide +kernel
theorem dX3_layOutSpan_24 : decode cX3_layOutSpan 24 = .ok (.invokevirtual 88, 3) := by decide +kernel
theorem dX3_layOutSpan_27 : decode cX3_layOutSpan 27 = .ok (.iload 4, 2) := by decide +kernel
theorem dX3_layOutSpan_29 : decode cX3_layOutSpan 29 = .ok (.ireturn, 1) := by decide +kernel
theorem dX3_countSpan_0 : decode cX3_countSpan 0 = .ok (.aload_n 0, 1) := by decide +kernel
theorem dX3_countSpan_1 : decode cX3_countSpan 1 = .ok (.iload_n 1, 1) := by decide +kernel
theorem dX3_countSpan_2 : decode cX3_countSpan 2 = .ok (.iload_n 2, 1) := by decide +kernel
theorem dX3_countSpan_3 : decode cX3_countSpan 3 = .ok (.iload_n 3, 1) := by decide +kernel
theorem dX3_countSpan_4 : decode cX3_countSpan 4 = .ok (.invokevirtual 140, 3) := by decide +kernel
theorem dX3_countSpan_7 : decode cX3_countSpan 7 = .ok (.istore 4, 2) := by decide +kernel
theorem dX3_countSpan_9 : decode cX3_countSpan 9 = .ok (.iload 4, 2) := by decide +kernel
theorem dX3_countSpan_11 : decode cX3_countSpan 11 = .ok (.ifCond .ne 24, 3) := by decide +kernel
theorem dX3_countSpan_14 : decode cX3_countSpan 14 = .ok (.aload_n 0, 1) := by decide +kernel
theorem dX3_countSpan_15 : decode cX3_countSpan 15 = .ok (.getfield 35, 3) := by decide +kernel
theorem dX3_countSpan_18 : decode cX3_countSpan 18 = .ok (.invokevirtual 179, 3) := by decide +kernel
theorem dX3_countSpan_21 : decode cX3_countSpan 21 = .ok (.aload_n 0, 1) := by decide +kernel
theorem dX3_countSpan_22 : decode cX3_countSpan 22 = .ok (.getfield 35, 3) := by decide +kernel
theorem dX3_countSpan_25 : decode cX3_countSpan 25 = .ok (.aload_n 0, 1) := by decide +kernel
theorem dX3_countSpan_26 : decode cX3_countSpan 26 = .ok (.getfield 25, 3) := by decide +kernel
theorem dX3_countSpan_29 : decode cX3_countSpan 29 = .ok (.iload_n 2, 1) := by decide +kernel
theorem dX3_countSpan_30 : decode cX3_countSpan 30 = .ok (.iload_n 3, 1) := by decide +kernel
theorem dX3_countSpan_31 : decode cX3_countSpan 31 = .ok (.iconst 1, 1) := by decide +kernel
theorem dX3_countSpan_32 : decode cX3_countSpan 32 = .ok (.invokevirtual 182, 3) := by decide +kernel
theorem dX3_countSpan_35 : decode cX3_countSpan 35 = .ok (.iload 4, 2) := by decide +kernel
theorem dX3_countSpan_37 : decode cX3_countSpan 37 = .ok (.ireturn, 1) := by decide +kernel
theorem dX3_layOutPlane_0 : decode cX3_layOutPlane 0 = .ok (.aload_n 0, 1) := by decide +kernel
theorem dX3_layOutPlane_1 : decode cX3_layOutPlane 1 = .ok (.iload_n 1, 1) := by decide +kernel
theorem dX3_layOutPlane_2 : decode cX3_layOutPlane 2 = .ok (.invokevirtual 143, 3) := by decide +kernel
theorem dX3_layOutPlane_5 : decode cX3_layOutPlane 5 = .ok (.istore_n 3, 1) := by decide +kernel
theorem dX3_layOutPlane_6 : decode cX3_layOutPlane 6 = .ok (.aload_n 0, 1) := by decide +kernel
theorem dX3_layOutPlane_7 : decode cX3_layOutPlane 7 = .ok (.getfield 25, 3) := by decide +kernel
theorem dX3_layOutPlane_10 : decode cX3_layOutPlane 10 = .ok (.aload_n 0, 1) := by decide +kernel
theorem dX3_layOutPlane_11 : decode cX3_layOutPlane 11 = .ok (.getfield 15, 3) := by decide +kernel
theorem dX3_layOutPlane_14 : decode cX3_layOutPlane 14 = .ok (.iload_n 1, 1) := by decide +kernel
theorem dX3_layOutPlane_15 : decode cX3_layOutPlane 15 = .ok (.aaload, 1) := by decide +kernel
theorem dX3_layOutPlane_16 : decode cX3_layOutPlane 16 = .ok (.invokevirtual 88, 3) := by decide +kernel
theorem dX3_layOutPlane_19 : decode cX3_layOutPlane 19 = .ok (.iconst 0, 1) := by decide +kernel
theorem dX3_layOutPlane_20 : decode cX3_layOutPlane 20 = .ok (.istore 4, 2) := by decide +kernel
theorem dX3_layOutPlane_22 : decode cX3_layOutPlane 22 = .ok (.iload 4, 2) := by decide +kernel
theorem dX3_layOutPlane_24 : decode cX3_layOutPlane 24 = .ok (.iload_n 2, 1) := by decide +kernel
theorem dX3_layOutPlane_25 : decode cX3_layOutPlane 25 = .ok (.if_icmp .ge 20, 3) := by decide +kernel
theorem dX3_layOutPlane_28 : decode cX3_layOutPlane 28 = .ok (.aload_n 0, 1) := by decide +kernel
theorem dX3_layOutPlane_29 : decode cX3_layOutPlane 29 = .ok (.getfield 25, 3) := by decide +kernel
theorem dX3_layOutPlane_32 : decode cX3_layOutPlane 32 = .ok (.iload_n 3, 1) := by decide +kernel
theorem dX3_layOutPlane_33 : decode cX3_layOutPlane 33 = .ok (.iload 4, 2) := by decide +kernel
theorem dX3_layOutPlane_35 : decode cX3_layOutPlane 35 = .ok (.isub, 1) := by decide +kernel
theorem dX3_layOutPlane_36 : decode cX3_layOutPlane 36 = .ok (.invokevirtual 196, 3) := by decide +kernel
theorem dX3_layOutPlane_39 : decode cX3_layOutPlane 39 = .ok (.iinc 4 1, 3) := by decide +kernel
theorem dX3_layOutPlane_42 : decode cX3_layOutPlane 42 = .ok (.goto (-20), 3) := by decide +kernel
theorem dX3_layOutPlane_45 : decode cX3_layOutPlane 45 = .ok (.iload_n 3, 1) := by decide +kernel
theorem dX3_layOutPlane_46 : decode cX3_layOutPlane 46 = .ok (.iload_n 2, 1) := by decide +kernel
theorem dX3_layOutPlane_47 : decode cX3_layOutPlane 47 = .ok (.isub, 1) := by decide +kernel
theorem dX3_layOutPlane_48 : decode cX3_layOutPlane 48 = .ok (.ireturn, 1) := by decide +kernel
theorem dX3_goDown_0 : decode cX3_goDown 0 = .ok (.iconst 0, 1) := by decide +kernel
theorem dX3_goDown_1 : decode cX3_goDown 1 = .ok (.istore 5, 2) := by decide +kernel
theorem dX3_goDown_3 : decode cX3_goDown 3 = .ok (.iload_n 3, 1) := by decide +kernel
theorem dX3_goDown_4 : decode cX3_goDown 4 = .ok (.istore 6, 2) := by decide +kernel
theorem dX3_goDown_6 : decode cX3_goDown 6 = .ok (.iconst 0, 1) := by decide +kernel
theorem dX3_goDown_7 : decode cX3_goDown 7 = .ok (.istore 7, 2) := by decide +kernel
theorem dX3_goDown_9 : decode cX3_goDown 9 = .ok (.iload 7, 2) := by decide +kernel
theorem dX3_goDown_11 : decode cX3_goDown 11 = .ok (.iload 4, 2) := by decide +kernel
theorem dX3_goDown_13 : decode cX3_goDown 13 = .ok (.if_icmp .gt 68, 3) := by decide +kernel
theorem dX3_goDown_16 : decode cX3_goDown 16 = .ok (.iconst 1, 1) := by decide +kernel
theorem dX3_goDown_17 : decode cX3_goDown 17 = .ok (.iload 4, 2) := by decide +kernel
theorem dX3_goDown_19 : decode cX3_goDown 19 = .ok (.iload 7, 2) := by decide +kernel
theorem dX3_goDown_21 : decode cX3_goDown 21 = .ok (.isub, 1) := by decide +kernel
theorem dX3_goDown_22 : decode cX3_goDown 22 = .ok (.ishl, 1) := by decide +kernel
theorem dX3_goDown_23 : decode cX3_goDown 23 = .ok (.istore 8, 2) := by decide +kernel
theorem dX3_goDown_25 : decode cX3_goDown 25 = .ok (.aload_n 0, 1) := by decide +kernel
theorem dX3_goDown_26 : decode cX3_goDown 26 = .ok (.getfield 25, 3) := by decide +kernel
theorem dX3_goDown_29 : decode cX3_goDown 29 = .ok (.iload_n 1, 1) := by decide +kernel
theorem dX3_goDown_30 : decode cX3_goDown 30 = .ok (.iload_n 2, 1) := by decide +kernel
theorem dX3_goDown_31 : decode cX3_goDown 31 = .ok (.iload 5, 2) := by decide +kernel
theorem dX3_goDown_33 : decode cX3_goDown 33 = .ok (.iload 5, 2) := by decide +kernel
theorem dX3_goDown_35 : decode cX3_goDown 35 = .ok (.iload 8, 2) := by decide +kernel
theorem dX3_goDown_37 : decode cX3_goDown 37 = .ok (.iadd, 1) := by decide +kernel
theorem dX3_goDown_38 : decode cX3_goDown 38 = .ok (.iconst 1, 1) := by decide +kernel
theorem dX3_goDown_39 : decode cX3_goDown 39 = .ok (.isub, 1) := by decide +kernel
theorem dX3_goDown_40 : decode cX3_goDown 40 = .ok (.invokevirtual 153, 3) := by decide +kernel
theorem dX3_goDown_43 : decode cX3_goDown 43 = .ok (.istore 9, 2) := by decide +kernel
theorem dX3_goDown_45 : decode cX3_goDown 45 = .ok (.aload_n 0, 1) := by decide +kernel
theorem dX3_goDown_46 : decode cX3_goDown 46 = .ok (.getfield 39, 3) := by decide +kernel
theorem dX3_goDown_49 : decode cX3_goDown 49 = .ok (.iload 7, 2) := by decide +kernel
theorem dX3_goDown_51 : decode cX3_goDown 51 = .ok (.iload 9, 2) := by decide +kernel
theorem dX3_goDown_53 : decode cX3_goDown 53 = .ok (.iastore, 1) := by decide +kernel
theorem dX3_goDown_54 : decode cX3_goDown 54 = .ok (.iload 6, 2) := by decide +kernel
theorem dX3_goDown_56 : decode cX3_goDown 56 = .ok (.iload 9, 2) := by decide +kernel
theorem dX3_goDown_58 : decode cX3_goDown 58 = .ok (.if_icmp .lt 17, 3) := by decide +kernel
theorem dX3_goDown_61 : decode cX3_goDown 61 = .ok (.iload 6, 2) := by decide +kernel
theorem dX3_goDown_63 : decode cX3_goDown 63 = .ok (.iload 9, 2) := by decide +kernel
theorem dX3_goDown_65 : decode cX3_goDown 65 = .ok (.isub, 1) := by decide +kernel
theorem dX3_goDown_66 : decode cX3_goDown 66 = .ok (.istore 6, 2) := by decide +kernel
theorem dX3_goDown_68 : decode cX3_goDown 68 = .ok (.iload 5, 2) := by decide +kernel
theorem dX3_goDown_70 : decode cX3_goDown 70 = .ok (.iload 8, 2) := by decide +kernel
theorem dX3_goDown_72 : decode cX3_goDown 72 = .ok (.iadd, 1) := by decide +kernel
theorem dX3_goDown_73 : decode cX3_goDown 73 = .ok (.istore 5, 2) := by decide +kernel
theorem dX3_goDown_75 : decode cX3_goDown 75 = .ok (.iinc 7 1, 3) := by decide +kernel
theorem dX3_goDown_78 : decode cX3_goDown 78 = .ok (.goto (-69), 3) := by decide +kernel
theorem dX3_goDown_81 : decode cX3_goDown 81 = .ok (.aload_n 0, 1) := by decide +kernel
theorem dX3_goDown_82 : decode cX3_goDown 82 = .ok (.iload 4, 2) := by decide +kernel
theorem dX3_goDown_84 : decode cX3_goDown 84 = .ok (.iconst 1, 1) := by decide +kernel
theorem dX3_goDown_85 : decode cX3_goDown 85 = .ok (.iadd, 1) := by decide +kernel
theorem dX3_goDown_86 : decode cX3_goDown 86 = .ok (.putfield 193, 3) := by decide +kernel
theorem dX3_goDown_89 : decode cX3_goDown 89 = .ok (.iload 5, 2) := by decide +kernel
theorem dX3_goDown_91 : decode cX3_goDown 91 = .ok (.ireturn, 1) := by decide +kernel
end
section
theorem dX4_init_0 : decode cX4_init 0 = .ok (.aload_n 0, 1) := by decide +kernel
theorem dX4_init_1 : decode cX4_init 1 = .ok (.invokespecial 1, 3) := by decide +kernel
theorem dX4_init_4 : decode cX4_init 4 = .ok (.aload_n 0, 1) := by decide +kernel
theorem dX4_init_5 : decode cX4_init 5 = .ok (.iconst 1, 1) := by decide +kernel
theorem dX4_init_6 : decode cX4_init 6 = .ok (.putfield 7, 3) := by decide +kernel
theorem dX4_init_9 : decode cX4_init 9 = .ok (.aload_n 0, 1) := by decide +kernel
theorem dX4_init_10 : decode cX4_init 10 = .ok (.sipush 500, 3) := by decide +kernel
theorem dX4_init_13 : decode cX4_init 13 = .ok (.newarray .int, 2) := by decide +kernel
theorem dX4_init_15 : decode cX4_init 15 = .ok (.putfield 13, 3) := by decide +kernel
theorem dX4_init_18 : decode cX4_init 18 = .ok (.aload_n 0, 1) := by decide +kernel
theorem dX4_init_19 : decode cX4_init 19 = .ok (.sipush 500, 3) := by decide +kernel
theorem dX4_init_22 : decode cX4_init 22 = .ok (.newarray .int, 2) := by decide +kernel
theorem dX4_init_24 : decode cX4_init 24 = .ok (.putfield 17, 3) := by decide +kernel
theorem dX4_init_27 : decode cX4_init 27 = .ok (.aload_n 0, 1) := by decide +kernel
theorem dX4_init_28 : decode cX4_init 28 = .ok (.sipush 500, 3) := by decide +kernel
theorem dX4_init_31 : decode cX4_init 31 = .ok (.newarray .int, 2) := by decide +kernel
theorem dX4_init_33 : decode cX4_init 33 = .ok (.putfield 20, 3) := by decide +kernel
theorem dX4_init_36 : decode cX4_init 36 = .ok (.aload_n 0, 1) := by decide +kernel
theorem dX4_init_37 : decode cX4_init 37 = .ok (.ldc 23, 2) := by decide +kernel
theorem dX4_init_39 : decode cX4_init 39 = .ok (.newarray .short, 2) := by decide +kernel
theorem dX4_init_41 : decode cX4_init 41 = .ok (.putfield 24, 3) := by decide +kernel
theorem dX4_init_44 : decode cX4_init 44 = .ok (.aload_n 0, 1) := by decide +kernel
theorem dX4_init_45 : decode cX4_init 45 = .ok (.ldc 23, 2) := by decide +kernel
theorem dX4_init_47 : decode cX4_init 47 = .ok (.newarray .int, 2) := by decide +kernel
theorem dX4_init_49 : decode cX4_init 49 = .ok (.putfield 28, 3) := by decide +kernel
theorem dX4_init_52 : decode cX4_init 52 = .ok (.aload_n 0, 1) := by decide +kernel
theorem dX4_init_53 : decode cX4_init 53 = .ok (.bipush 12, 2) := by decide +kernel
theorem dX4_init_55 : decode cX4_init 55 = .ok (.newarray .int, 2) := by decide +kernel
theorem dX4_init_57 : decode cX4_init 57 = .ok (.putfield 31, 3) := by decide +kernel
theorem dX4_init_60 : decode cX4_init 60 = .ok (.aload_n 0, 1) := by decide +kernel
theorem dX4_init_61 : decode cX4_init 61 = .ok (.bipush 12, 2) := by decide +kernel
theorem dX4_init_63 : decode cX4_init 63 = .ok (.newarray .int, 2) := by decide +kernel
theorem dX4_init_65 : decode cX4_init 65 = .ok (.putfield 34, 3) := by decide +kernel
theorem dX4_init_68 : decode cX4_init 68 = .ok (.aload_n 0, 1) := by decide +kernel
theorem dX4_init_69 : decode cX4_init 69 = .ok (.bipush 12, 2) := by decide +kernel
theorem dX4_init_71 : decode cX4_init 71 = .ok (.newarray .int, 2) := by decide +kernel
theorem dX4_init_73 : decode cX4_init 73 = .ok (.putfield 37, 3) := by decide +kernel
theorem dX4_init_76 : decode cX4_init 76 = .ok (.aload_n 0, 1) := by decide +kernel
theorem dX4_init_77 : decode cX4_init 77 = .ok (.sipush 4800, 3) := by decide +kernel
theorem dX4_init_80 : decode cX4_init 80 = .ok (.newarray .int, 2) := by decide +kernel
theorem dX4_init_82 : decode cX4_init 82 = .ok (.putfield 40, 3) := by decide +kernel
theorem dX4_init_85 : decode cX4_init 85 = .ok (.aload_n 0, 1) := by decide +kernel
theorem dX4_init_86 : decode cX4_init 86 = .ok (.sipush 4800, 3) := by decide +kernel
theorem dX4_init_89 : decode cX4_init 89 = .ok (.newarray .int, 2) := by decide +kernel
theorem dX4_init_91 : decode cX4_init 91 = .ok (.putfield 43, 3) := by decide +kernel
theorem dX4_init_94 : decode cX4_init 94 = .ok (.aload_n 0, 1) := by decide +kernel
theorem dX4_init_95 : decode cX4_init 95 = .ok (.bipush 10, 2) := by decide +kernel
theorem dX4_init_97 : decode cX4_init 97 = .ok (.newarray .int, 2) := by decide +kernel
theorem dX4_init_99 : decode cX4_init 99 = .ok (.putfield 46, 3) := by decide +kernel
theorem dX4_init_102 : decode cX4_init 102 = .ok (.aload_n 0, 1) := by decide +kernel
theorem dX4_init_103 : decode cX4_init 103 = .ok (.bipush 7, 2) := by decide +kernel
theorem dX4_init_105 : decode cX4_init 105 = .ok (.newarray .int, 2) := by decide +kernel
theorem dX4_init_107 : decode cX4_init 107 = .ok (.putfield 49, 3) := by decide +kernel
theorem dX4_init_110 : decode cX4_init 110 = .ok (.aload_n 0, 1) := by decide +kernel
theorem dX4_init_111 : decode cX4_init 111 = .ok (.sipush 400, 3) := by decide +kernel
theorem dX4_init_114 : decode cX4_init 114 = .ok (.newarray .int, 2) := by decide +kernel
theorem dX4_init_116 : decode cX4_init 116 = .ok (.putfield 52, 3) := by decide +kernel
theorem dX4_init_119 : decode cX4_init 119 = .ok (.aload_n 0, 1) := by decide +kernel
theorem dX4_init_120 : decode cX4_init 120 = .ok (.sipush 400, 3) := by decide +kernel
theorem dX4_init_123 : decode cX4_init 123 = .ok (.newarray .int, 2) := by decide +kernel
theorem dX4_init_125 : decode cX4_init 125 = .ok (.putfield 55, 3) := by decide +kernel
theorem dX4_init_128 : decode cX4_init 128 = .ok (.aload_n 0, 1) := by decide +kernel
theorem dX4_init_129 : decode cX4_init 129 = .ok (.sipush 1024, 3) := by decide +kernel
theorem dX4_init_132 : decode cX4_init 132 = .ok (.newarray .int, 2) := by decide +kernel
theorem dX4_init_134 : decode cX4_init 134 = .ok (.putfield 58, 3) := by decide +kernel
theorem dX4_init_137 : decode cX4_init 137 = .ok (.aload_n 0, 1) := by decide +kernel
theorem dX4_init_138 : decode cX4_init 138 = .ok (.sipush 1024, 3) := by decide +kernel
theorem dX4_init_141 : decode cX4_init 141 = .ok (.newarray .int, 2) := by decide +kernel
theorem dX4_init_143 : decode cX4_init 143 = .ok (.putfield 61, 3) := by decide +kernel
theorem dX4_init_146 : decode cX4_init 146 = .ok (.aload_n 0, 1) := by decide +kernel
theorem dX4_init_147 : decode cX4_init 147 = .ok (.getfield 20, 3) := by decide +kernel
theorem dX4_init_150 : decode cX4_init 150 = .ok (.iconst 0, 1) := by decide +kernel
theorem dX4_init_151 : decode cX4_init 151 = .ok (.iconst (-1), 1) := by decide +kernel
theorem dX4_init_152 : decode cX4_init 152 = .ok (.iastore, 1) := by decide +kernel
theorem dX4_init_153 : decode cX4_init 153 = .ok (.aload_n 0, 1) := by decide +kernel
theorem dX4_init_154 : decode cX4_init 154 = .ok (.getfield 31, 3) := by decide +kernel
theorem dX4_init_157 : decode cX4_init 157 = .ok (.iconst 0, 1) := by decide +kernel
theorem dX4_init_158 : decode cX4_init 158 = .ok (.iconst 1, 1) := by decide +kernel
theorem dX4_init_159 : decode cX4_init 159 = .ok (.iastore, 1) := by decide +kernel
theorem dX4_init_160 : decode cX4_init 160 = .ok (.return_, 1) := by decide +kernel
theorem dX4_answer_0 : decode cX4_answer 0 = .ok (.iload_n 1, 1) := by decide +kernel
theorem dX4_answer_1 : decode cX4_answer 1 = .ok (.ifCond .ge 14, 3) := by decide +kernel
theorem dX4_answer_4 : decode cX4_answer 4 = .ok (.aload_n 0, 1) := by decide +kernel
theorem dX4_answer_5 : decode cX4_answer 5 = .ok (.getfield 49, 3) := by decide +kernel
theorem dX4_answer_8 : decode cX4_answer 8 = .ok (.iload_n 1, 1) := by decide +kernel
theorem dX4_answer_9 : decode cX4_answer 9 = .ok (.ineg, 1) := by decide +kernel
theorem dX4_answer_10 : decode cX4_answer 10 = .ok (.dup2, 1) := by decide +kernel
theorem dX4_answer_11 : decode cX4_answer 11 = .ok (.iaload, 1) := by decide +kernel
theorem dX4_answer_12 : decode cX4_answer 12 = .ok (.iconst 1, 1) := by decide +kernel
theorem dX4_answer_13 : decode cX4_answer 13 = .ok (.iadd, 1) := by decide +kernel
theorem dX4_answer_14 : decode cX4_answer 14 = .ok (.iastore, 1) := by decide +kernel
theorem dX4_answer_15 : decode cX4_answer 15 = .ok (.iload_n 1, 1) := by decide +kernel
theorem dX4_answer_16 : decode cX4_answer 16 = .ok (.ireturn, 1) := by decide +kernel
theorem dX4_isPlace_0 : decode cX4_isPlace 0 = .ok (.iload_n 0, 1) := by decide +kernel
theorem dX4_isPlace_1 : decode cX4_isPlace 1 = .ok (.ifCond .lt 13, 3) := by decide +kernel
theorem dX4_isPlace_4 : decode cX4_isPlace 4 = .ok (.iload_n 0, 1) := by decide +kernel
theorem dX4_isPlace_5 : decode cX4_isPlace 5 = .ok (.bipush 12, 2) := by decide +kernel
theorem dX4_isPlace_7 : decode cX4_isPlace 7 = .ok (.if_icmp .ge 7, 3) := by decide +kernel
theorem dX4_isPlace_10 : decode cX4_isPlace 10 = .ok (.iconst 1, 1) := by decide +kernel
theorem dX4_isPlace_11 : decode cX4_isPlace 11 = .ok (.goto 4, 3) := by decide +kernel
theorem dX4_isPlace_14 : decode cX4_isPlace 14 = .ok (.iconst 0, 1) := by decide +kernel
theorem dX4_isPlace_15 : decode cX4_isPlace 15 = .ok (.ireturn, 1) := by decide +kernel
theorem dX4_look_0 : decode cX4_look 0 = .ok (.iload_n 1, 1) := by decide +kernel
theorem dX4_look_1 : decode cX4_look 1 = .ok (.invokestatic 64, 3) := by decide +kernel
theorem dX4_look_4 : decode cX4_look 4 = .ok (.ifCond .ne 7, 3) := by decide +kernel
theorem dX4_look_7 : decode cX4_look 7 = .ok (.iconst (-1), 1) := by decide +kernel
theorem dX4_look_8 : decode cX4_look 8 = .ok (.goto 18, 3) := by decide +kernel
theorem dX4_look_11 : decode cX4_look 11 = .ok (.aload_n 0, 1) := by decide +kernel
theorem dX4_look_12 : decode cX4_look 12 = .ok (.getfield 31, 3) := by decide +kernel
theorem dX4_look_15 : decode cX4_look 15 = .ok (.iload_n 1, 1) := by decide +kernel
theorem dX4_look_16 : decode cX4_look 16 = .ok (.iaload, 1) := by decide +kernel
theorem dX4_look_17 : decode cX4_look 17 = .ok (.ifCond .ne 8, 3) := by decide +kernel
theorem dX4_look_20 : decode cX4_look 20 = .ok (.bipush (-2), 2) := by decide +kernel
theorem dX4_look_22 : decode cX4_look 22 = .ok (.goto 4, 3) := by decide +kernel
theorem dX4_look_25 : decode cX4_look 25 = .ok (.iconst 0, 1) := by decide +kernel
theorem dX4_look_26 : decode cX4_look 26 = .ok (.ireturn, 1) := by decide +kernel
theorem dX4_size_0 : decode cX4_size 0 = .ok (.aload_n 0, 1) := by decide +kernel
theorem dX4_size_1 : decode cX4_size 1 = .ok (.getfield 31, 3) := by decide +kernel
theorem dX4_size_4 : decode cX4_size 4 = .ok (.iload_n 1, 1) := by decide +kernel
theorem dX4_size_5 : decode cX4_size 5 = .ok (.iaload, 1) := by decide +kernel
theorem dX4_size_6 : decode cX4_size 6 = .ok (.iconst 1, 1) := by decide +kernel
theorem dX4_size_7 : decode cX4_size 7 = .ok (.if_icmp .ne 17, 3) := by decide +kernel
theorem dX4_size_10 : decode cX4_size 10 = .ok (.aload_n 0, 1) := by decide +kernel
theorem dX4_size_11 : decode cX4_size 11 = .ok (.getfield 17, 3) := by decide +kernel
theorem dX4_size_14 : decode cX4_size 14 = .ok (.aload_n 0, 1) := by decide +kernel
theorem dX4_size_15 : decode cX4_size 15 = .ok (.getfield 34, 3) := by decide +kernel
theorem dX4_size_18 : decode cX4_size 18 = .ok (.iload_n 1, 1) := by decide +kernel
theorem dX4_size_19 : decode cX4_size 19 = .ok (.iaload, 1) := by decide +kernel
theorem dX4_size_20 : decode cX4_size 20 = .ok (.iaload, 1) := by decide +kernel
theorem dX4_size_21 : decode cX4_size 21 = .ok (.goto 9, 3) := by decide +kernel
theorem dX4_size_24 : decode cX4_size 24 = .ok (.aload_n 0, 1) := by decide +kernel
theorem dX4_size_25 : decode cX4_size 25 = .ok (.getfield 37, 3) := by decide +kernel
theorem dX4_size_28 : decode cX4_size 28 = .ok (.iload_n 1, 1) := by decide +kernel
theorem dX4_size_29 : decode cX4_size 29 = .ok (.iaload, 1) := by decide +kernel
theorem dX4_size_30 : decode cX4_size 30 = .ok (.ireturn, 1) := by decide +kernel
theorem dX4_valueAt_0 : decode cX4_valueAt 0 = .ok (.aload_n 0, 1) := by decide +kernel
theorem dX4_valueAt_1 : decode cX4_valueAt 1 = .ok (.getfield 31, 3) := by decide +kernel
theorem dX4_valueAt_4 : decode cX4_valueAt 4 = .ok (.iload_n 1, 1) := by decide +kernel
theorem dX4_valueAt_5 : decode cX4_valueAt 5 = .ok (.iaload, 1) := by decide +kernel
theorem dX4_valueAt_6 : decode cX4_valueAt 6 = .ok (.iconst 1, 1) := by decide +kernel
theorem dX4_valueAt_7 : decode cX4_valueAt 7 = .ok (.if_icmp .ne 24, 3) := by decide +kernel
theorem dX4_valueAt_10 : decode cX4_valueAt 10 = .ok (.aload_n 0, 1) := by decide +kernel
theorem dX4_valueAt_11 : decode cX4_valueAt 11 = .ok (.getfield 24, 3) := by decide +kernel
theorem dX4_valueAt_14 : decode cX4_valueAt 14 = .ok (.aload_n 0, 1) := by decide +kernel
theorem dX4_valueAt_15 : decode cX4_valueAt 15 = .ok (.getfield 13, 3) := by decide +kernel
theorem dX4_valueAt_18 : decode cX4_valueAt 18 = .ok (.aload_n 0, 1) := by decide +kernel
theorem dX4_valueAt_19 : decode cX4_valueAt 19 = .ok (.getfield 34, 3) := by decide +kernel
theorem dX4_valueAt_22 : decode cX4_valueAt 22 = .ok (.iload_n 1, 1) := by decide +kernel
theorem dX4_valueAt_23 : decode cX4_valueAt 23 = .ok (.iaload, 1) := by decide +kernel
theorem dX4_valueAt_24 : decode cX4_valueAt 24 = .ok (.iaload, 1) := by decide +kernel
theorem dX4_valueAt_25 : decode cX4_valueAt 25 = .ok (.iload_n 2, 1) := by decide +kernel
theorem dX4_valueAt_26 : decode cX4_valueAt 26 = .ok (.iadd, 1) := by decide +kernel
theorem dX4_valueAt_27 : decode cX4_valueAt 27 = .ok (.saload, 1) := by decide +kernel
theorem dX4_valueAt_28 : decode cX4_valueAt 28 = .ok (.goto 15, 3) := by decide +kernel
theorem dX4_valueAt_31 : decode cX4_valueAt 31 = .ok (.aload_n 0, 1) := by decide +kernel
theorem dX4_valueAt_32 : decode cX4_valueAt 32 = .ok (.getfield 40, 3) := by decide +kernel
theorem dX4_valueAt_35 : decode cX4_valueAt 35 = .ok (.sipush 400, 3) := by decide +kernel
theorem dX4_valueAt_38 : decode cX4_valueAt 38 = .ok (.iload_n 1, 1) := by decide +kernel
theorem dX4_valueAt_39 : decode cX4_valueAt 39 = .ok (.imul, 1) := by decide +kernel
theorem dX4_valueAt_40 : decode cX4_valueAt 40 = .ok (.iload_n 2, 1) := by decide +kernel
theorem dX4_valueAt_41 : decode cX4_valueAt 41 = .ok (.iadd, 1) := by decide +kernel
theorem dX4_valueAt_42 : decode cX4_valueAt 42 = .ok (.iaload, 1) := by decide +kernel
theorem dX4_valueAt_43 : decode cX4_valueAt 43 = .ok (.ireturn, 1) := by decide +kernel
theorem dX4_weightAt_0 : decode cX4_weightAt 0 = .ok (.aload_n 0, 1) := by decide +kernel
theorem dX4_weightAt_1 : decode cX4_weightAt 1 = .ok (.getfield 31, 3) := by decide +kernel
theorem dX4_weightAt_4 : decode cX4_weightAt 4 = .ok (.iload_n 1, 1) := by decide +kernel
theorem dX4_weightAt_5 : decode cX4_weightAt 5 = .ok (.iaload, 1) := by decide +kernel
theorem dX4_weightAt_6 : decode cX4_weightAt 6 = .ok (.iconst 1, 1) := by decide +kernel
theorem dX4_weightAt_7 : decode cX4_weightAt 7 = .ok (.if_icmp .ne 24, 3) := by decide +kernel
theorem dX4_weightAt_10 : decode cX4_weightAt 10 = .ok (.aload_n 0, 1) := by decide +kernel
theorem dX4_weightAt_11 : decode cX4_weightAt 11 = .ok (.getfield 28, 3) := by decide +kernel
theorem dX4_weightAt_14 : decode cX4_weightAt 14 = .ok (.aload_n 0, 1) := by decide +kernel
theorem dX4_weightAt_15 : decode cX4_weightAt 15 = .ok (.getfield 13, 3) := by decide +kernel
theorem dX4_weightAt_18 : decode cX4_weightAt 18 = .ok (.aload_n 0, 1) := by decide +kernel
theorem dX4_weightAt_19 : decode cX4_weightAt 19 = .ok (.getfield 34, 3) := by decide +kernel
theorem dX4_weightAt_22 : decode cX4_weightAt 22 = .ok (.iload_n 1, 1) := by decide +kernel
theorem dX4_weightAt_23 : decode cX4_weightAt 23 = .ok (.iaload, 1) := by decide +kernel
theorem dX4_weightAt_24 : decode cX4_weightAt 24 = .ok (.iaload, 1) := by decide +kernel
theorem dX4_weightAt_25 : decode cX4_weightAt 25 = .ok (.iload_n 2, 1) := by decide +kernel
theorem dX4_weightAt_26 : decode cX4_weightAt 26 = .ok (.iadd, 1) := by decide +kernel
theorem dX4_weightAt_27 : decode cX4_weightAt 27 = .ok (.iaload, 1) := by decide +kernel
theorem dX4_weightAt_28 : decode cX4_weightAt 28 = .ok (.goto 15, 3) := by decide +kernel
theorem dX4_weightAt_31 : decode cX4_weightAt 31 = .ok (.aload_n 0, 1) := by decide +kernel
theorem dX4_weightAt_32 : decode cX4_weightAt 32 = .ok (.getfield 43, 3) := by decide +kernel
theorem dX4_weightAt_35 : decode cX4_weightAt 35 = .ok (.sipush 400, 3) := by decide +kernel
theorem dX4_weightAt_38 : decode cX4_weightAt 38 = .ok (.iload_n 1, 1) := by decide +kernel
theorem dX4_weightAt_39 : decode cX4_weightAt 39 = .ok (.imul, 1) := by decide +kernel
theorem dX4_weightAt_40 : decode cX4_weightAt 40 = .ok (.iload_n 2, 1) := by decide +kernel
theorem dX4_weightAt_41 : decode cX4_weightAt 41 = .ok (.iadd, 1) := by decide +kernel
theorem dX4_weightAt_42 : decode cX4_weightAt 42 = .ok (.iaload, 1) := by decide +kernel
theorem dX4_weightAt_43 : decode cX4_weightAt 43 = .ok (.ireturn, 1) := by decide +kernel
theorem dX4_span_0 : decode cX4_span 0 = .ok (.lload 4, 2) := by decide +kernel
theorem dX4_span_2 : decode cX4_span 2 = .ok (.lload_n 2, 1) := by decide +kernel
theorem dX4_span_3 : decode cX4_span 3 = .ok (.lcmp, 1) := by decide +kernel
theorem dX4_span_4 : decode cX4_span 4 = .ok (.ifCond .ge 8, 3) := by decide +kernel
theorem dX4_span_7 : decode cX4_span 7 = .ok (.bipush (-4), 2) := by decide +kernel
theorem dX4_span_9 : decode cX4_span 9 = .ok (.goto 26, 3) := by decide +kernel
theorem dX4_span_12 : decode cX4_span 12 = .ok (.lload_n 2, 1) := by decide +kernel
theorem dX4_span_13 : decode cX4_span 13 = .ok (.lconst 0, 1) := by decide +kernel
theorem dX4_span_14 : decode cX4_span 14 = .ok (.lcmp, 1) := by decide +kernel
theorem dX4_span_15 : decode cX4_span 15 = .ok (.ifCond .lt 15, 3) := by decide +kernel
theorem dX4_span_18 : decode cX4_span 18 = .ok (.lload 4, 2) := by decide +kernel
theorem dX4_span_20 : decode cX4_span 20 = .ok (.aload_n 0, 1) := by decide +kernel
theorem dX4_span_21 : decode cX4_span 21 = .ok (.iload_n 1, 1) := by decide +kernel
theorem dX4_span_22 : decode cX4_span 22 = .ok (.invokevirtual 68, 3) := by decide +kernel
theorem dX4_span_25 : decode cX4_span 25 = .ok (.i2l, 1) := by decide +kernel
theorem dX4_span_26 : decode cX4_span 26 = .ok (.lcmp, 1) := by decide +kernel
theorem dX4_span_27 : decode cX4_span 27 = .ok (.ifCond .le 7, 3) := by decide +kernel
theorem dX4_span_30 : decode cX4_span 30 = .ok (.iconst (-1), 1) := by decide +kernel
theorem dX4_span_31 : decode cX4_span 31 = .ok (.goto 4, 3) := by decide +kernel
theorem dX4_span_34 : decode cX4_span 34 = .ok (.iconst 0, 1) := by decide +kernel
theorem dX4_span_35 : decode cX4_span 35 = .ok (.ireturn, 1) := by decide +kernel
theorem dX4_lookSpan_0 : decode cX4_lookSpan 0 = .ok (.aload_n 0, 1) := by decide +kernel
theorem dX4_lookSpan_1 : decode cX4_lookSpan 1 = .ok (.iload_n 1, 1) := by decide +kernel
theorem dX4_lookSpan_2 : decode cX4_lookSpan 2 = .ok (.invokevirtual 72, 3) := by decide +kernel
theorem dX4_lookSpan_5 : decode cX4_lookSpan 5 = .ok (.istore 4, 2) := by decide +kernel
theorem dX4_lookSpan_7 : decode cX4_lookSpan 7 = .ok (.iload 4, 2) := by decide +kernel
theorem dX4_lookSpan_9 : decode cX4_lookSpan 9 = .ok (.ifCond .ge 8, 3) := by decide +kernel
theorem dX4_lookSpan_12 : decode cX4_lookSpan 12 = .ok (.iload 4, 2) := by decide +kernel
theorem dX4_lookSpan_14 : decode cX4_lookSpan 14 = .ok (.goto 12, 3) := by decide +kernel
theorem dX4_lookSpan_17 : decode cX4_lookSpan 17 = .ok (.aload_n 0, 1) := by decide +kernel
theorem dX4_lookSpan_18 : decode cX4_lookSpan 18 = .ok (.iload_n 1, 1) := by decide +kernel
theorem dX4_lookSpan_19 : decode cX4_lookSpan 19 = .ok (.iload_n 2, 1) := by decide +kernel
theorem dX4_lookSpan_20 : decode cX4_lookSpan 20 = .ok (.i2l, 1) := by decide +kernel
theorem dX4_lookSpan_21 : decode cX4_lookSpan 21 = .ok (.iload_n 3, 1) := by decide +kernel
theorem dX4_lookSpan_22 : decode cX4_lookSpan 22 = .ok (.i2l, 1) := by decide +kernel
theorem dX4_lookSpan_23 : decode cX4_lookSpan 23 = .ok (.invokevirtual 75, 3) := by decide +kernel
theorem dX4_lookSpan_26 : decode cX4_lookSpan 26 = .ok (.ireturn, 1) := by decide +kernel
theorem dX4_add_0 : decode cX4_add 0 = .ok (.aload_n 0, 1) := by decide +kernel
theorem dX4_add_1 : decode cX4_add 1 = .ok (.getfield 24, 3) := by decide +kernel
theorem dX4_add_4 : decode cX4_add 4 = .ok (.aload_n 0, 1) := by decide +kernel
theorem dX4_add_5 : decode cX4_add 5 = .ok (.getfield 79, 3) := by decide +kernel
theorem dX4_add_8 : decode cX4_add 8 = .ok (.iload_n 1, 1) := by decide +kernel
theorem dX4_add_9 : decode cX4_add 9 = .ok (.i2s, 1) := by decide +kernel
theorem dX4_add_10 : decode cX4_add 10 = .ok (.sastore, 1) := by decide +kernel
theorem dX4_add_11 : decode cX4_add 11 = .ok (.aload_n 0, 1) := by decide +kernel
theorem dX4_add_12 : decode cX4_add 12 = .ok (.getfield 28, 3) := by decide +kernel
theorem dX4_add_15 : decode cX4_add 15 = .ok (.aload_n 0, 1) := by decide +kernel
theorem dX4_add_16 : decode cX4_add 16 = .ok (.getfield 79, 3) := by decide +kernel
theorem dX4_add_19 : decode cX4_add 19 = .ok (.iload_n 2, 1) := by decide +kernel
theorem dX4_add_20 : decode cX4_add 20 = .ok (.iastore, 1) := by decide +kernel
theorem dX4_add_21 : decode cX4_add 21 = .ok (.aload_n 0, 1) := by decide +kernel
theorem dX4_add_22 : decode cX4_add 22 = .ok (.dup, 1) := by decide +kernel
theorem dX4_add_23 : decode cX4_add 23 = .ok (.getfield 79, 3) := by decide +kernel
theorem dX4_add_26 : decode cX4_add 26 = .ok (.iconst 1, 1) := by decide +kernel
theorem dX4_add_27 : decode cX4_add 27 = .ok (.iadd, 1) := by decide +kernel
theorem dX4_add_28 : decode cX4_add 28 = .ok (.putfield 79, 3) := by decide +kernel
theorem dX4_add_31 : decode cX4_add 31 = .ok (.return_, 1) := by decide +kernel
theorem dX4_begin_0 : decode cX4_begin 0 = .ok (.aload_n 0, 1) := by decide +kernel
theorem dX4_begin_1 : decode cX4_begin 1 = .ok (.getfield 7, 3) := by decide +kernel
theorem dX4_begin_4 : decode cX4_begin 4 = .ok (.istore_n 3, 1) := by decide +kernel
theorem dX4_begin_5 : decode cX4_begin 5 = .ok (.aload_n 0, 1) := by decide +kernel
theorem dX4_begin_6 : decode cX4_begin 6 = .ok (.dup, 1) := by decide +kernel
theorem dX4_begin_7 : decode cX4_begin 7 = .ok (.getfield 7, 3) := by decide +kernel
theorem dX4_begin_10 : decode cX4_begin 10 = .ok (.iconst 1, 1) := by decide +kernel
theorem dX4_begin_11 : decode cX4_begin 11 = .ok (.iadd, 1) := by decide +kernel
theorem dX4_begin_12 : decode cX4_begin 12 = .ok (.putfield 7, 3) := by decide +kernel
theorem dX4_begin_15 : decode cX4_begin 15 = .ok (.aload_n 0, 1) := by decide +kernel
theorem dX4_begin_16 : decode cX4_begin 16 = .ok (.getfield 20, 3) := by decide +kernel
theorem dX4_begin_19 : decode cX4_begin 19 = .ok (.iload_n 3, 1) := by decide +kernel
theorem dX4_begin_20 : decode cX4_begin 20 = .ok (.iload_n 1, 1) := by decide +kernel
theorem dX4_begin_21 : decode cX4_begin 21 = .ok (.iastore, 1) := by decide +kernel
theorem dX4_begin_22 : decode cX4_begin 22 = .ok (.aload_n 0, 1) := by decide +kernel
theorem dX4_begin_23 : decode cX4_begin 23 = .ok (.getfield 13, 3) := by decide +kernel
theorem dX4_begin_26 : decode cX4_begin 26 = .ok (.iload_n 3, 1) := by decide +kernel
theorem dX4_begin_27 : decode cX4_begin 27 = .ok (.aload_n 0, 1) := by decide +kernel
theorem dX4_begin_28 : decode cX4_begin 28 = .ok (.getfield 79, 3) := by decide +kernel
theorem dX4_begin_31 : decode cX4_begin 31 = .ok (.iastore, 1) := by decide +kernel
theorem dX4_begin_32 : decode cX4_begin 32 = .ok (.iconst 0, 1) := by decide +kernel
theorem dX4_begin_33 : decode cX4_begin 33 = .ok (.istore 4, 2) := by decide +kernel
theorem dX4_begin_35 : decode cX4_begin 35 = .ok (.iload 4, 2) := by decide +kernel
theorem dX4_begin_37 : decode cX4_begin 37 = .ok (.iload_n 2, 1) := by decide +kernel
theorem dX4_begin_38 : decode cX4_begin 38 = .ok (.if_icmp .ge 41, 3) := by decide +kernel
theorem dX4_begin_41 : decode cX4_begin 41 = .ok (.aload_n 0, 1) := by decide +kernel
theorem dX4_begin_42 : decode cX4_begin 42 = .ok (.aload_n 0, 1) := by decide +kernel
theorem dX4_begin_43 : decode cX4_begin 43 = .ok (.getfield 24, 3) := by decide +kernel
theorem dX4_begin_46 : decode cX4_begin 46 = .ok (.aload_n 0, 1) := by decide +kernel
theorem dX4_begin_47 : decode cX4_begin 47 = .ok (.getfield 13, 3) := by decide +kernel
theorem dX4_begin_50 : decode cX4_begin 50 = .ok (.iload_n 1, 1) := by decide +kernel
theorem dX4_begin_51 : decode cX4_begin 51 = .ok (.iaload, 1) := by decide +kernel
theorem dX4_begin_52 : decode cX4_begin 52 = .ok (.iload 4, 2) := by decide +kernel
theorem dX4_begin_54 : decode cX4_begin 54 = .ok (.iadd, 1) := by decide +kernel
theorem dX4_begin_55 : decode cX4_begin 55 = .ok (.saload, 1) := by decide +kernel
theorem dX4_begin_56 : decode cX4_begin 56 = .ok (.aload_n 0, 1) := by decide +kernel
theorem dX4_begin_57 : decode cX4_begin 57 = .ok (.getfield 28, 3) := by decide +kernel
theorem dX4_begin_60 : decode cX4_begin 60 = .ok (.aload_n 0, 1) := by decide +kernel
theorem dX4_begin_61 : decode cX4_begin 61 = .ok (.getfield 13, 3) := by decide +kernel
theorem dX4_begin_64 : decode cX4_begin 64 = .ok (.iload_n 1, 1) := by decide +kernel
theorem dX4_begin_65 : decode cX4_begin 65 = .ok (.iaload, 1) := by decide +kernel
theorem dX4_begin_66 : decode cX4_begin 66 = .ok (.iload 4, 2) := by decide +kernel
theorem dX4_begin_68 : decode cX4_begin 68 = .ok (.iadd, 1) := by decide +kernel
theorem dX4_begin_69 : decode cX4_begin 69 = .ok (.iaload, 1) := by decide +kernel
theorem dX4_begin_70 : decode cX4_begin 70 = .ok (.invokevirtual 82, 3) := by decide +kernel
theorem dX4_begin_73 : decode cX4_begin 73 = .ok (.iinc 4 1, 3) := by decide +kernel
theorem dX4_begin_76 : decode cX4_begin 76 = .ok (.goto (-41), 3) := by decide +kernel
theorem dX4_begin_79 : decode cX4_begin 79 = .ok (.iload_n 3, 1) := by decide +kernel
theorem dX4_begin_80 : decode cX4_begin 80 = .ok (.ireturn, 1) := by decide +kernel
theorem dX4_finish_0 : decode cX4_finish 0 = .ok (.aload_n 0, 1) := by decide +kernel
theorem dX4_finish_1 : decode cX4_finish 1 = .ok (.getfield 17, 3) := by decide +kernel
theorem dX4_finish_4 : decode cX4_finish 4 = .ok (.iload_n 1, 1) := by decide +kernel
theorem dX4_finish_5 : decode cX4_finish 5 = .ok (.aload_n 0, 1) := by decide +kernel
theorem dX4_finish_6 : decode cX4_finish 6 = .ok (.getfield 79, 3) := by decide +kernel
theorem dX4_finish_9 : decode cX4_finish 9 = .ok (.aload_n 0, 1) := by decide +kernel
theorem dX4_finish_10 : decode cX4_finish 10 = .ok (.getfield 13, 3) := by decide +kernel
theorem dX4_finish_13 : decode cX4_finish 13 = .ok (.iload_n 1, 1) := by decide +kernel
theorem dX4_finish_14 : decode cX4_finish 14 = .ok (.iaload, 1) := by decide +kernel
theorem dX4_finish_15 : decode cX4_finish 15 = .ok (.isub, 1) := by decide +kernel
theorem dX4_finish_16 : decode cX4_finish 16 = .ok (.iastore, 1) := by decide +kernel
theorem dX4_finish_17 : decode cX4_finish 17 = .ok (.aload_n 0, 1) := by decide +kernel
theorem dX4_finish_18 : decode cX4_finish 18 = .ok (.getfield 31, 3) := by decide +kernel
theorem dX4_finish_21 : decode cX4_finish 21 = .ok (.iload_n 2, 1) := by decide +kernel
theorem dX4_finish_22 : decode cX4_finish 22 = .ok (.iconst 1, 1) := by decide +kernel
theorem dX4_finish_23 : decode cX4_finish 23 = .ok (.iastore, 1) := by decide +kernel
theorem dX4_finish_24 : decode cX4_finish 24 = .ok (.aload_n 0, 1) := by decide +kernel
theorem dX4_finish_25 : decode cX4_finish 25 = .ok (.getfield 34, 3) := by decide +kernel
theorem dX4_finish_28 : decode cX4_finish 28 = .ok (.iload_n 2, 1) := by decide +kernel
theorem dX4_finish_29 : decode cX4_finish 29 = .ok (.iload_n 1, 1) := by decide +kernel
theorem dX4_finish_30 : decode cX4_finish 30 = .ok (.iastore, 1) := by decide +kernel
theorem dX4_finish_31 : decode cX4_finish 31 = .ok (.iload_n 1, 1) := by decide +kernel
theorem dX4_finish_32 : decode cX4_finish 32 = .ok (.ireturn, 1) := by decide +kernel
theorem dX4_push_0 : decode cX4_push 0 = .ok (.aload_n 0, 1) := by decide +kernel
theorem dX4_push_1 : decode cX4_push 1 = .ok (.iload_n 1, 1) := by decide +kernel
theorem dX4_push_2 : decode cX4_push 2 = .ok (.invokevirtual 72, 3) := by decide +kernel
theorem dX4_push_5 : decode cX4_push 5 = .ok (.istore 5, 2) := by decide +kernel
theorem dX4_push_7 : decode cX4_push 7 = .ok (.iload 5, 2) := by decide +kernel
theorem dX4_push_9 : decode cX4_push 9 = .ok (.ifCond .lt 13, 3) := by decide +kernel
theorem dX4_push_12 : decode cX4_push 12 = .ok (.aload_n 0, 1) := by decide +kernel
theorem dX4_push_13 : decode cX4_push 13 = .ok (.getfield 31, 3) := by decide +kernel
theorem dX4_push_16 : decode cX4_push 16 = .ok (.iload_n 1, 1) := by decide +kernel
theorem dX4_push_17 : decode cX4_push 17 = .ok (.iaload, 1) := by decide +kernel
theorem dX4_push_18 : decode cX4_push 18 = .ok (.iconst 1, 1) := by decide +kernel
theorem dX4_push_19 : decode cX4_push 19 = .ok (.if_icmp .eq 20, 3) := by decide +kernel
theorem dX4_push_22 : decode cX4_push 22 = .ok (.aload_n 0, 1) := by decide +kernel
theorem dX4_push_23 : decode cX4_push 23 = .ok (.iload 5, 2) := by decide +kernel
theorem dX4_push_25 : decode cX4_push 25 = .ok (.ifCond .ge 8, 3) := by decide +kernel
theorem dX4_push_28 : decode cX4_push 28 = .ok (.iload 5, 2) := by decide +kernel
theorem dX4_push_30 : decode cX4_push 30 = .ok (.goto 5, 3) := by decide +kernel
theorem dX4_push_33 : decode cX4_push 33 = .ok (.bipush (-3), 2) := by decide +kernel
theorem dX4_push_35 : decode cX4_push 35 = .ok (.invokevirtual 86, 3) := by decide +kernel
theorem dX4_push_38 : decode cX4_push 38 = .ok (.ireturn, 1) := by decide +kernel
theorem dX4_push_39 : decode cX4_push 39 = .ok (.iload_n 2, 1) := by decide +kernel
theorem dX4_push_40 : decode cX4_push 40 = .ok (.ifCond .lt 18, 3) := by decide +kernel
theorem dX4_push_43 : decode cX4_push 43 = .ok (.iload_n 2, 1) := by decide +kernel
theorem dX4_push_44 : decode cX4_push 44 = .ok (.sipush 1024, 3) := by decide +kernel
theorem dX4_push_47 : decode cX4_push 47 = .ok (.if_icmp .ge 11, 3) := by decide +kernel
theorem dX4_push_50 : decode cX4_push 50 = .ok (.iload 4, 2) := by decide +kernel
theorem dX4_push_52 : decode cX4_push 52 = .ok (.invokestatic 64, 3) := by decide +kernel
theorem dX4_push_55 : decode cX4_push 55 = .ok (.ifCond .ne 9, 3) := by decide +kernel
theorem dX4_push_58 : decode cX4_push 58 = .ok (.aload_n 0, 1) := by decide +kernel
theorem dX4_push_59 : decode cX4_push 59 = .ok (.iconst (-1), 1) := by decide +kernel
theorem dX4_push_60 : decode cX4_push 60 = .ok (.invokevirtual 86, 3) := by decide +kernel
theorem dX4_push_63 : decode cX4_push 63 = .ok (.ireturn, 1) := by decide +kernel
theorem dX4_push_64 : decode cX4_push 64 = .ok (.aload_n 0, 1) := by decide +kernel
theorem dX4_push_65 : decode cX4_push 65 = .ok (.iload_n 1, 1) := by decide +kernel
theorem dX4_push_66 : decode cX4_push 66 = .ok (.invokevirtual 68, 3) := by decide +kernel
theorem dX4_push_69 : decode cX4_push 69 = .ok (.sipush 400, 3) := by decide +kernel
theorem dX4_push_72 : decode cX4_push 72 = .ok (.if_icmp .eq 25, 3) := by decide +kernel
theorem dX4_push_75 : decode cX4_push 75 = .ok (.aload_n 0, 1) := by decide +kernel
theorem dX4_push_76 : decode cX4_push 76 = .ok (.getfield 7, 3) := by decide +kernel
theorem dX4_push_79 : decode cX4_push 79 = .ok (.sipush 500, 3) := by decide +kernel
theorem dX4_push_82 : decode cX4_push 82 = .ok (.if_icmp .eq 15, 3) := by decide +kernel
theorem dX4_push_85 : decode cX4_push 85 = .ok (.aload_n 0, 1) := by decide +kernel
theorem dX4_push_86 : decode cX4_push 86 = .ok (.getfield 89, 3) := by decide +kernel
theorem dX4_push_89 : decode cX4_push 89 = .ok (.iconst 1, 1) := by decide +kernel
theorem dX4_push_90 : decode cX4_push 90 = .ok (.iadd, 1) := by decide +kernel
theorem dX4_push_91 : decode cX4_push 91 = .ok (.sipush 20000, 3) := by decide +kernel
theorem dX4_push_94 : decode cX4_push 94 = .ok (.if_icmp .le 10, 3) := by decide +kernel
theorem dX4_push_97 : decode cX4_push 97 = .ok (.aload_n 0, 1) := by decide +kernel
theorem dX4_push_98 : decode cX4_push 98 = .ok (.bipush (-5), 2) := by decide +kernel
theorem dX4_push_100 : decode cX4_push 100 = .ok (.invokevirtual 86, 3) := by decide +kernel
theorem dX4_push_103 : decode cX4_push 103 = .ok (.ireturn, 1) := by decide +kernel
theorem dX4_push_104 : decode cX4_push 104 = .ok (.aload_n 0, 1) := by decide +kernel
theorem dX4_push_105 : decode cX4_push 105 = .ok (.aload_n 0, 1) := by decide +kernel
theorem dX4_push_106 : decode cX4_push 106 = .ok (.getfield 34, 3) := by decide +kernel
theorem dX4_push_109 : decode cX4_push 109 = .ok (.iload_n 1, 1) := by decide +kernel
theorem dX4_push_110 : decode cX4_push 110 = .ok (.iaload, 1) := by decide +kernel
theorem dX4_push_111 : decode cX4_push 111 = .ok (.aload_n 0, 1) := by decide +kernel
theorem dX4_push_112 : decode cX4_push 112 = .ok (.iload_n 1, 1) := by decide +kernel
theorem dX4_push_113 : decode cX4_push 113 = .ok (.invokevirtual 68, 3) := by decide +kernel
theorem dX4_push_116 : decode cX4_push 116 = .ok (.invokevirtual 92, 3) := by decide +kernel
theorem dX4_push_119 : decode cX4_push 119 = .ok (.istore 6, 2) := by decide +kernel
theorem dX4_push_121 : decode cX4_push 121 = .ok (.aload_n 0, 1) := by decide +kernel
theorem dX4_push_122 : decode cX4_push 122 = .ok (.iload_n 2, 1) := by decide +kernel
theorem dX4_push_123 : decode cX4_push 123 = .ok (.iload_n 3, 1) := by decide +kernel
theorem dX4_push_124 : decode cX4_push 124 = .ok (.invokevirtual 82, 3) := by decide +kernel
theorem dX4_push_127 : decode cX4_push 127 = .ok (.aload_n 0, 1) := by decide +kernel
theorem dX4_push_128 : decode cX4_push 128 = .ok (.dup, 1) := by decide +kernel
theorem dX4_push_129 : decode cX4_push 129 = .ok (.getfield 89, 3) := by decide +kernel
theorem dX4_push_132 : decode cX4_push 132 = .ok (.iconst 1, 1) := by decide +kernel
theorem dX4_push_133 : decode cX4_push 133 = .ok (.iadd, 1) := by decide +kernel
theorem dX4_push_134 : decode cX4_push 134 = .ok (.putfield 89, 3) := by decide +kernel
theorem dX4_push_137 : decode cX4_push 137 = .ok (.aload_n 0, 1) := by decide +kernel
theorem dX4_push_138 : decode cX4_push 138 = .ok (.iload 6, 2) := by decide +kernel
theorem dX4_push_140 : decode cX4_push 140 = .ok (.iload 4, 2) := by decide +kernel
theorem dX4_push_142 : decode cX4_push 142 = .ok (.invokevirtual 96, 3) := by decide +kernel
theorem dX4_push_145 : decode cX4_push 145 = .ok (.ireturn, 1) := by decide +kernel
theorem dX4_cut_0 : decode cX4_cut 0 = .ok (.aload_n 0, 1) := by decide +kernel
theorem dX4_cut_1 : decode cX4_cut 1 = .ok (.iload_n 1, 1) := by decide +kernel
theorem dX4_cut_2 : decode cX4_cut 2 = .ok (.invokevirtual 72, 3) := by decide +kernel
theorem dX4_cut_5 : decode cX4_cut 5 = .ok (.istore 4, 2) := by decide +kernel
theorem dX4_cut_7 : decode cX4_cut 7 = .ok (.iload 4, 2) := by decide +kernel
theorem dX4_cut_9 : decode cX4_cut 9 = .ok (.ifCond .lt 13, 3) := by decide +kernel
theorem dX4_cut_12 : decode cX4_cut 12 = .ok (.aload_n 0, 1) := by decide +kernel
theorem dX4_cut_13 : decode cX4_cut 13 = .ok (.getfield 31, 3) := by decide +kernel
theorem dX4_cut_16 : decode cX4_cut 16 = .ok (.iload_n 1, 1) := by decide +kernel
theorem dX4_cut_17 : decode cX4_cut 17 = .ok (.iaload, 1) := by decide +kernel
theorem dX4_cut_18 : decode cX4_cut 18 = .ok (.iconst 1, 1) := by decide +kernel
theorem dX4_cut_19 : decode cX4_cut 19 = .ok (.if_icmp .eq 20, 3) := by decide +kernel
theorem dX4_cut_22 : decode cX4_cut 22 = .ok (.aload_n 0, 1) := by decide +kernel
theorem dX4_cut_23 : decode cX4_cut 23 = .ok (.iload 4, 2) := by decide +kernel
theorem dX4_cut_25 : decode cX4_cut 25 = .ok (.ifCond .ge 8, 3) := by decide +kernel
theorem dX4_cut_28 : decode cX4_cut 28 = .ok (.iload 4, 2) := by decide +kernel
theorem dX4_cut_30 : decode cX4_cut 30 = .ok (.goto 5, 3) := by decide +kernel
theorem dX4_cut_33 : decode cX4_cut 33 = .ok (.bipush (-3), 2) := by decide +kernel
theorem dX4_cut_35 : decode cX4_cut 35 = .ok (.invokevirtual 86, 3) := by decide +kernel
theorem dX4_cut_38 : decode cX4_cut 38 = .ok (.ireturn, 1) := by decide +kernel
theorem dX4_cut_39 : decode cX4_cut 39 = .ok (.iload_n 2, 1) := by decide +kernel
theorem dX4_cut_40 : decode cX4_cut 40 = .ok (.ifCond .ge 10, 3) := by decide +kernel
theorem dX4_cut_43 : decode cX4_cut 43 = .ok (.aload_n 0, 1) := by decide +kernel
theorem dX4_cut_44 : decode cX4_cut 44 = .ok (.bipush (-4), 2) := by decide +kernel
theorem dX4_cut_46 : decode cX4_cut 46 = .ok (.invokevirtual 86, 3) := by decide +kernel
theorem dX4_cut_49 : decode cX4_cut 49 = .ok (.ireturn, 1) := by decide +kernel
theorem dX4_cut_50 : decode cX4_cut 50 = .ok (.iload_n 2, 1) := by decide +kernel
theorem dX4_cut_51 : decode cX4_cut 51 = .ok (.aload_n 0, 1) := by decide +kernel
theorem dX4_cut_52 : decode cX4_cut 52 = .ok (.iload_n 1, 1) := by decide +kernel
theorem dX4_cut_53 : decode cX4_cut 53 = .ok (.invokevirtual 68, 3) := by decide +kernel
theorem dX4_cut_56 : decode cX4_cut 56 = .ok (.if_icmp .gt 10, 3) := by decide +kernel
theorem dX4_cut_59 : decode cX4_cut 59 = .ok (.iload_n 3, 1) := by decide +kernel
theorem dX4_cut_60 : decode cX4_cut 60 = .ok (.invokestatic 64, 3) := by decide +kernel
theorem dX4_cut_63 : decode cX4_cut 63 = .ok (.ifCond .ne 9, 3) := by decide +kernel
theorem dX4_cut_66 : decode cX4_cut 66 = .ok (.aload_n 0, 1) := by decide +kernel
theorem dX4_cut_67 : decode cX4_cut 67 = .ok (.iconst (-1), 1) := by decide +kernel
theorem dX4_cut_68 : decode cX4_cut 68 = .ok (.invokevirtual 86, 3) := by decide +kernel
theorem dX4_cut_71 : decode cX4_cut 71 = .ok (.ireturn, 1) := by decide +kernel
theorem dX4_cut_72 : decode cX4_cut 72 = .ok (.aload_n 0, 1) := by decide +kernel
theorem dX4_cut_73 : decode cX4_cut 73 = .ok (.getfield 7, 3) := by decide +kernel
theorem dX4_cut_76 : decode cX4_cut 76 = .ok (.sipush 500, 3) := by decide +kernel
theorem dX4_cut_79 : decode cX4_cut 79 = .ok (.if_icmp .ne 10, 3) := by decide +kernel
theorem dX4_cut_82 : decode cX4_cut 82 = .ok (.aload_n 0, 1) := by decide +kernel
theorem dX4_cut_83 : decode cX4_cut 83 = .ok (.bipush (-5), 2) := by decide +kernel
theorem dX4_cut_85 : decode cX4_cut 85 = .ok (.invokevirtual 86, 3) := by decide +kernel
theorem dX4_cut_88 : decode cX4_cut 88 = .ok (.ireturn, 1) := by decide +kernel
theorem dX4_cut_89 : decode cX4_cut 89 = .ok (.aload_n 0, 1) := by decide +kernel
theorem dX4_cut_90 : decode cX4_cut 90 = .ok (.aload_n 0, 1) := by decide +kernel
theorem dX4_cut_91 : decode cX4_cut 91 = .ok (.aload_n 0, 1) := by decide +kernel
theorem dX4_cut_92 : decode cX4_cut 92 = .ok (.getfield 34, 3) := by decide +kernel
theorem dX4_cut_95 : decode cX4_cut 95 = .ok (.iload_n 1, 1) := by decide +kernel
theorem dX4_cut_96 : decode cX4_cut 96 = .ok (.iaload, 1) := by decide +kernel
theorem dX4_cut_97 : decode cX4_cut 97 = .ok (.iload_n 2, 1) := by decide +kernel
theorem dX4_cut_98 : decode cX4_cut 98 = .ok (.invokevirtual 92, 3) := by decide +kernel
theorem dX4_cut_101 : decode cX4_cut 101 = .ok (.iload_n 3, 1) := by decide +kernel
theorem dX4_cut_102 : decode cX4_cut 102 = .ok (.invokevirtual 96, 3) := by decide +kernel
theorem dX4_cut_105 : decode cX4_cut 105 = .ok (.ireturn, 1) := by decide +kernel
theorem dX4_join_0 : decode cX4_join 0 = .ok (.aload_n 0, 1) := by decide +kernel
theorem dX4_join_1 : decode cX4_join 1 = .ok (.iload_n 1, 1) := by decide +kernel
theorem dX4_join_2 : decode cX4_join 2 = .ok (.invokevirtual 72, 3) := by decide +kernel
theorem dX4_join_5 : decode cX4_join 5 = .ok (.istore 6, 2) := by decide +kernel
theorem dX4_join_7 : decode cX4_join 7 = .ok (.iload 6, 2) := by decide +kernel
theorem dX4_join_9 : decode cX4_join 9 = .ok (.ifCond .lt 13, 3) := by decide +kernel
theorem dX4_join_12 : decode cX4_join 12 = .ok (.aload_n 0, 1) := by decide +kernel
theorem dX4_join_13 : decode cX4_join 13 = .ok (.getfield 31, 3) := by decide +kernel
theorem dX4_join_16 : decode cX4_join 16 = .ok (.iload_n 1, 1) := by decide +kernel
theorem dX4_join_17 : decode cX4_join 17 = .ok (.iaload, 1) := by decide +kernel
theorem dX4_join_18 : decode cX4_join 18 = .ok (.iconst 1, 1) := by decide +kernel
theorem dX4_join_19 : decode cX4_join 19 = .ok (.if_icmp .eq 20, 3) := by decide +kernel
theorem dX4_join_22 : decode cX4_join 22 = .ok (.aload_n 0, 1) := by decide +kernel
theorem dX4_join_23 : decode cX4_join 23 = .ok (.iload 6, 2) := by decide +kernel
theorem dX4_join_25 : decode cX4_join 25 = .ok (.ifCond .ge 8, 3) := by decide +kernel
theorem dX4_join_28 : decode cX4_join 28 = .ok (.iload 6, 2) := by decide +kernel
theorem dX4_join_30 : decode cX4_join 30 = .ok (.goto 5, 3) := by decide +kernel
theorem dX4_join_33 : decode cX4_join 33 = .ok (.bipush (-3), 2) := by decide +kernel
theorem dX4_join_35 : decode cX4_join 35 = .ok (.invokevirtual 86, 3) := by decide +kernel
theorem dX4_join_38 : decode cX4_join 38 = .ok (.ireturn, 1) := by decide +kernel
theorem dX4_join_39 : decode cX4_join 39 = .ok (.aload_n 0, 1) := by decide +kernel
theorem dX4_join_40 : decode cX4_join 40 = .ok (.iload_n 2, 1) := by decide +kernel
theorem dX4_join_41 : decode cX4_join 41 = .ok (.iload_n 3, 1) := by decide +kernel
theorem dX4_join_42 : decode cX4_join 42 = .ok (.iload 4, 2) := by decide +kernel
theorem dX4_join_44 : decode cX4_join 44 = .ok (.invokevirtual 99, 3) := by decide +kernel
theorem dX4_join_47 : decode cX4_join 47 = .ok (.istore 6, 2) := by decide +kernel
theorem dX4_join_49 : decode cX4_join 49 = .ok (.iload 6, 2) := by decide +kernel
theorem dX4_join_51 : decode cX4_join 51 = .ok (.ifCond .lt 11, 3) := by decide +kernel
theorem dX4_join_54 : decode cX4_join 54 = .ok (.iload 5, 2) := by decide +kernel
theorem dX4_join_56 : decode cX4_join 56 = .ok (.invokestatic 64, 3) := by decide +kernel
theorem dX4_join_59 : decode cX4_join 59 = .ok (.ifCond .ne 19, 3) := by decide +kernel
theorem dX4_join_62 : decode cX4_join 62 = .ok (.aload_n 0, 1) := by decide +kernel
theorem dX4_join_63 : decode cX4_join 63 = .ok (.iload 6, 2) := by decide +kernel
theorem dX4_join_65 : decode cX4_join 65 = .ok (.ifCond .ge 8, 3) := by decide +kernel
theorem dX4_join_68 : decode cX4_join 68 = .ok (.iload 6, 2) := by decide +kernel
theorem dX4_join_70 : decode cX4_join 70 = .ok (.goto 4, 3) := by decide +kernel
theorem dX4_join_73 : decode cX4_join 73 = .ok (.iconst (-1), 1) := by decide +kernel
theorem dX4_join_74 : decode cX4_join 74 = .ok (.invokevirtual 86, 3) := by decide +kernel
theorem dX4_join_77 : decode cX4_join 77 = .ok (.ireturn, 1) := by decide +kernel
theorem dX4_join_78 : decode cX4_join 78 = .ok (.iload 4, 2) := by decide +kernel
theorem dX4_join_80 : decode cX4_join 80 = .ok (.iload_n 3, 1) := by decide +kernel
theorem dX4_join_81 : decode cX4_join 81 = .ok (.isub, 1) := by decide +kernel
theorem dX4_join_82 : decode cX4_join 82 = .ok (.istore 7, 2) := by decide +kernel
theorem dX4_join_84 : decode cX4_join 84 = .ok (.aload_n 0, 1) := by decide +kernel
theorem dX4_join_85 : decode cX4_join 85 = .ok (.iload_n 1, 1) := by decide +kernel
theorem dX4_join_86 : decode cX4_join 86 = .ok (.invokevirtual 68, 3) := by decide +kernel
theorem dX4_join_89 : decode cX4_join 89 = .ok (.iload 7, 2) := by decide +kernel
theorem dX4_join_91 : decode cX4_join 91 = .ok (.iadd, 1) := by decide +kernel
theorem dX4_join_92 : decode cX4_join 92 = .ok (.sipush 400, 3) := by decide +kernel
theorem dX4_join_95 : decode cX4_join 95 = .ok (.if_icmp .gt 26, 3) := by decide +kernel
theorem dX4_join_98 : decode cX4_join 98 = .ok (.aload_n 0, 1) := by decide +kernel
theorem dX4_join_99 : decode cX4_join 99 = .ok (.getfield 7, 3) := by decide +kernel
theorem dX4_join_102 : decode cX4_join 102 = .ok (.sipush 500, 3) := by decide +kernel
theorem dX4_join_105 : decode cX4_join 105 = .ok (.if_icmp .eq 16, 3) := by decide +kernel
theorem dX4_join_108 : decode cX4_join 108 = .ok (.aload_n 0, 1) := by decide +kernel
theorem dX4_join_109 : decode cX4_join 109 = .ok (.getfield 89, 3) := by decide +kernel
theorem dX4_join_112 : decode cX4_join 112 = .ok (.iload 7, 2) := by decide +kernel
theorem dX4_join_114 : decode cX4_join 114 = .ok (.iadd, 1) := by decide +kernel
theorem dX4_join_115 : decode cX4_join 115 = .ok (.sipush 20000, 3) := by decide +kernel
theorem dX4_join_118 : decode cX4_join 118 = .ok (.if_icmp .le 10, 3) := by decide +kernel
theorem dX4_join_121 : decode cX4_join 121 = .ok (.aload_n 0, 1) := by decide +kernel
theorem dX4_join_122 : decode cX4_join 122 = .ok (.bipush (-5), 2) := by decide +kernel
theorem dX4_join_124 : decode cX4_join 124 = .ok (.invokevirtual 86, 3) := by decide +kernel
theorem dX4_join_127 : decode cX4_join 127 = .ok (.ireturn, 1) := by decide +kernel
theorem dX4_join_128 : decode cX4_join 128 = .ok (.aload_n 0, 1) := by decide +kernel
theorem dX4_join_129 : decode cX4_join 129 = .ok (.aload_n 0, 1) := by decide +kernel
theorem dX4_join_130 : decode cX4_join 130 = .ok (.getfield 34, 3) := by decide +kernel
theorem dX4_join_133 : decode cX4_join 133 = .ok (.iload_n 1, 1) := by decide +kernel
theorem dX4_join_134 : decode cX4_join 134 = .ok (.iaload, 1) := by decide +kernel
theorem dX4_join_135 : decode cX4_join 135 = .ok (.aload_n 0, 1) := by decide +kernel
theorem dX4_join_136 : decode cX4_join 136 = .ok (.iload_n 1, 1) := by decide +kernel
theorem dX4_join_137 : decode cX4_join 137 = .ok (.invokevirtual 68, 3) := by decide +kernel
theorem dX4_join_140 : decode cX4_join 140 = .ok (.invokevirtual 92, 3) := by decide +kernel
theorem dX4_join_143 : decode cX4_join 143 = .ok (.istore 8, 2) := by decide +kernel
theorem dX4_join_145 : decode cX4_join 145 = .ok (.iload_n 3, 1) := by decide +kernel
theorem dX4_join_146 : decode cX4_join 146 = .ok (.istore 9, 2) := by decide +kernel
theorem dX4_join_148 : decode cX4_join 148 = .ok (.iload 9, 2) := by decide +kernel
theorem dX4_join_150 : decode cX4_join 150 = .ok (.iload 4, 2) := by decide +kernel
theorem dX4_join_152 : decode cX4_join 152 = .ok (.if_icmp .ge 27, 3) := by decide +kernel
theorem dX4_join_155 : decode cX4_join 155 = .ok (.aload_n 0, 1) := by decide +kernel
theorem dX4_join_156 : decode cX4_join 156 = .ok (.aload_n 0, 1) := by decide +kernel
theorem dX4_join_157 : decode cX4_join 157 = .ok (.iload_n 2, 1) := by decide +kernel
theorem dX4_join_158 : decode cX4_join 158 = .ok (.iload 9, 2) := by decide +kernel
theorem dX4_join_160 : decode cX4_join 160 = .ok (.invokevirtual 103, 3) := by decide +kernel
theorem dX4_join_163 : decode cX4_join 163 = .ok (.aload_n 0, 1) := by decide +kernel
theorem dX4_join_164 : decode cX4_join 164 = .ok (.iload_n 2, 1) := by decide +kernel
theorem dX4_join_165 : decode cX4_join 165 = .ok (.iload 9, 2) := by decide +kernel
theorem dX4_join_167 : decode cX4_join 167 = .ok (.invokevirtual 106, 3) := by decide +kernel
theorem dX4_join_170 : decode cX4_join 170 = .ok (.invokevirtual 82, 3) := by decide +kernel
theorem dX4_join_173 : decode cX4_join 173 = .ok (.iinc 9 1, 3) := by decide +kernel
theorem dX4_join_176 : decode cX4_join 176 = .ok (.goto (-28), 3) := by decide +kernel
theorem dX4_join_179 : decode cX4_join 179 = .ok (.aload_n 0, 1) := by decide +kernel
theorem dX4_join_180 : decode cX4_join 180 = .ok (.dup, 1) := by decide +kernel
theorem dX4_join_181 : decode cX4_join 181 = .ok (.getfield 89, 3) := by decide +kernel
theorem dX4_join_184 : decode cX4_join 184 = .ok (.iload 7, 2) := by decide +kernel
theorem dX4_join_186 : decode cX4_join 186 = .ok (.iadd, 1) := by decide +kernel
theorem dX4_join_187 : decode cX4_join 187 = .ok (.putfield 89, 3) := by decide +kernel
theorem dX4_join_190 : decode cX4_join 190 = .ok (.aload_n 0, 1) := by decide +kernel
theorem dX4_join_191 : decode cX4_join 191 = .ok (.iload 8, 2) := by decide +kernel
theorem dX4_join_193 : decode cX4_join 193 = .ok (.iload 5, 2) := by decide +kernel
theorem dX4_join_195 : decode cX4_join 195 = .ok (.invokevirtual 96, 3) := by decide +kernel
theorem dX4_join_198 : decode cX4_join 198 = .ok (.ireturn, 1) := by decide +kernel
theorem dX4_turn_0 : decode cX4_turn 0 = .ok (.aload_n 0, 1) := by decide +kernel
theorem dX4_turn_1 : decode cX4_turn 1 = .ok (.iload_n 1, 1) := by decide +kernel
theorem dX4_turn_2 : decode cX4_turn 2 = .ok (.invokevirtual 72, 3) := by decide +kernel
theorem dX4_turn_5 : decode cX4_turn 5 = .ok (.istore 5, 2) := by decide +kernel
theorem dX4_turn_7 : decode cX4_turn 7 = .ok (.iload 5, 2) := by decide +kernel
theorem dX4_turn_9 : decode cX4_turn 9 = .ok (.ifCond .lt 13, 3) := by decide +kernel
theorem dX4_turn_12 : decode cX4_turn 12 = .ok (.aload_n 0, 1) := by decide +kernel
theorem dX4_turn_13 : decode cX4_turn 13 = .ok (.getfield 31, 3) := by decide +kernel
theorem dX4_turn_16 : decode cX4_turn 16 = .ok (.iload_n 1, 1) := by decide +kernel
theorem dX4_turn_17 : decode cX4_turn 17 = .ok (.iaload, 1) := by decide +kernel
theorem dX4_turn_18 : decode cX4_turn 18 = .ok (.iconst 1, 1) := by decide +kernel
theorem dX4_turn_19 : decode cX4_turn 19 = .ok (.if_icmp .eq 20, 3) := by decide +kernel
theorem dX4_turn_22 : decode cX4_turn 22 = .ok (.aload_n 0, 1) := by decide +kernel
theorem dX4_turn_23 : decode cX4_turn 23 = .ok (.iload 5, 2) := by decide +kernel
theorem dX4_turn_25 : decode cX4_turn 25 = .ok (.ifCond .ge 8, 3) := by decide +kernel
theorem dX4_turn_28 : decode cX4_turn 28 = .ok (.iload 5, 2) := by decide +kernel
theorem dX4_turn_30 : decode cX4_turn 30 = .ok (.goto 5, 3) := by decide +kernel
theorem dX4_turn_33 : decode cX4_turn 33 = .ok (.bipush (-3), 2) := by decide +kernel
theorem dX4_turn_35 : decode cX4_turn 35 = .ok (.invokevirtual 86, 3) := by decide +kernel
theorem dX4_turn_38 : decode cX4_turn 38 = .ok (.ireturn, 1) := by decide +kernel
theorem dX4_turn_39 : decode cX4_turn 39 = .ok (.aload_n 0, 1) := by decide +kernel
theorem dX4_turn_40 : decode cX4_turn 40 = .ok (.iload_n 1, 1) := by decide +kernel
theorem dX4_turn_41 : decode cX4_turn 41 = .ok (.invokevirtual 68, 3) := by decide +kernel
theorem dX4_turn_44 : decode cX4_turn 44 = .ok (.istore 6, 2) := by decide +kernel
theorem dX4_turn_46 : decode cX4_turn 46 = .ok (.iload_n 2, 1) := by decide +kernel
theorem dX4_turn_47 : decode cX4_turn 47 = .ok (.ifCond .lt 20, 3) := by decide +kernel
theorem dX4_turn_50 : decode cX4_turn 50 = .ok (.iload_n 2, 1) := by decide +kernel
theorem dX4_turn_51 : decode cX4_turn 51 = .ok (.iload 6, 2) := by decide +kernel
theorem dX4_turn_53 : decode cX4_turn 53 = .ok (.if_icmp .ge 14, 3) := by decide +kernel
theorem dX4_turn_56 : decode cX4_turn 56 = .ok (.iload_n 3, 1) := by decide +kernel
theorem dX4_turn_57 : decode cX4_turn 57 = .ok (.ifCond .lt 10, 3) := by decide +kernel
theorem dX4_turn_60 : decode cX4_turn 60 = .ok (.iload_n 3, 1) := by decide +kernel
theorem dX4_turn_61 : decode cX4_turn 61 = .ok (.sipush 1024, 3) := by decide +kernel
theorem dX4_turn_64 : decode cX4_turn 64 = .ok (.if_icmp .lt 9, 3) := by decide +kernel
theorem dX4_turn_67 : decode cX4_turn 67 = .ok (.aload_n 0, 1) := by decide +kernel
theorem dX4_turn_68 : decode cX4_turn 68 = .ok (.iconst (-1), 1) := by decide +kernel
theorem dX4_turn_69 : decode cX4_turn 69 = .ok (.invokevirtual 86, 3) := by decide +kernel
theorem dX4_turn_72 : decode cX4_turn 72 = .ok (.ireturn, 1) := by decide +kernel
theorem dX4_turn_73 : decode cX4_turn 73 = .ok (.aload_n 0, 1) := by decide +kernel
theorem dX4_turn_74 : decode cX4_turn 74 = .ok (.getfield 7, 3) := by decide +kernel
theorem dX4_turn_77 : decode cX4_turn 77 = .ok (.sipush 500, 3) := by decide +kernel
theorem dX4_turn_80 : decode cX4_turn 80 = .ok (.if_icmp .eq 18, 3) := by decide +kernel
theorem dX4_turn_83 : decode cX4_turn 83 = .ok (.aload_n 0, 1) := by decide +kernel
theorem dX4_turn_84 : decode cX4_turn 84 = .ok (.getfield 89, 3) := by decide +kernel
theorem dX4_turn_87 : decode cX4_turn 87 = .ok (.iload 6, 2) := by decide +kernel
theorem dX4_turn_89 : decode cX4_turn 89 = .ok (.iadd, 1) := by decide +kernel
theorem dX4_turn_90 : decode cX4_turn 90 = .ok (.iload_n 2, 1) := by decide +kernel
theorem dX4_turn_91 : decode cX4_turn 91 = .ok (.isub, 1) := by decide +kernel
theorem dX4_turn_92 : decode cX4_turn 92 = .ok (.sipush 20000, 3) := by decide +kernel
theorem dX4_turn_95 : decode cX4_turn 95 = .ok (.if_icmp .le 10, 3) := by decide +kernel
theorem dX4_turn_98 : decode cX4_turn 98 = .ok (.aload_n 0, 1) := by decide +kernel
theorem dX4_turn_99 : decode cX4_turn 99 = .ok (.bipush (-5), 2) := by decide +kernel
theorem dX4_turn_101 : decode cX4_turn 101 = .ok (.invokevirtual 86, 3) := by decide +kernel
theorem dX4_turn_104 : decode cX4_turn 104 = .ok (.ireturn, 1) := by decide +kernel
theorem dX4_turn_105 : decode cX4_turn 105 = .ok (.aload_n 0, 1) := by decide +kernel
theorem dX4_turn_106 : decode cX4_turn 106 = .ok (.aload_n 0, 1) := by decide +kernel
theorem dX4_turn_107 : decode cX4_turn 107 = .ok (.getfield 34, 3) := by decide +kernel
theorem dX4_turn_110 : decode cX4_turn 110 = .ok (.iload_n 1, 1) := by decide +kernel
theorem dX4_turn_111 : decode cX4_turn 111 = .ok (.iaload, 1) := by decide +kernel
theorem dX4_turn_112 : decode cX4_turn 112 = .ok (.iload 6, 2) := by decide +kernel
theorem dX4_turn_114 : decode cX4_turn 114 = .ok (.invokevirtual 92, 3) := by decide +kernel
theorem dX4_turn_117 : decode cX4_turn 117 = .ok (.istore 7, 2) := by decide +kernel
theorem dX4_turn_119 : decode cX4_turn 119 = .ok (.aload_n 0, 1) := by decide +kernel
theorem dX4_turn_120 : decode cX4_turn 120 = .ok (.getfield 24, 3) := by decide +kernel
theorem dX4_turn_123 : decode cX4_turn 123 = .ok (.aload_n 0, 1) := by decide +kernel
theorem dX4_turn_124 : decode cX4_turn 124 = .ok (.getfield 13, 3) := by decide +kernel
theorem dX4_turn_127 : decode cX4_turn 127 = .ok (.iload 7, 2) := by decide +kernel
theorem dX4_turn_129 : decode cX4_turn 129 = .ok (.iaload, 1) := by decide +kernel
theorem dX4_turn_130 : decode cX4_turn 130 = .ok (.iload_n 2, 1) := by decide +kernel
theorem dX4_turn_131 : decode cX4_turn 131 = .ok (.iadd, 1) := by decide +kernel
theorem dX4_turn_132 : decode cX4_turn 132 = .ok (.iload_n 3, 1) := by decide +kernel
theorem dX4_turn_133 : decode cX4_turn 133 = .ok (.i2s, 1) := by decide +kernel
theorem dX4_turn_134 : decode cX4_turn 134 = .ok (.sastore, 1) := by decide +kernel
theorem dX4_turn_135 : decode cX4_turn 135 = .ok (.aload_n 0, 1) := by decide +kernel
theorem dX4_turn_136 : decode cX4_turn 136 = .ok (.getfield 28, 3) := by decide +kernel
theorem dX4_turn_139 : decode cX4_turn 139 = .ok (.aload_n 0, 1) := by decide +kernel
theorem dX4_turn_140 : decode cX4_turn 140 = .ok (.getfield 13, 3) := by decide +kernel
theorem dX4_turn_143 : decode cX4_turn 143 = .ok (.iload 7, 2) := by decide +kernel
theorem dX4_turn_145 : decode cX4_turn 145 = .ok (.iaload, 1) := by decide +kernel
theorem dX4_turn_146 : decode cX4_turn 146 = .ok (.iload_n 2, 1) := by decide +kernel
theorem dX4_turn_147 : decode cX4_turn 147 = .ok (.iadd, 1) := by decide +kernel
theorem dX4_turn_148 : decode cX4_turn 148 = .ok (.iload 4, 2) := by decide +kernel
theorem dX4_turn_150 : decode cX4_turn 150 = .ok (.iastore, 1) := by decide +kernel
theorem dX4_turn_151 : decode cX4_turn 151 = .ok (.aload_n 0, 1) := by decide +kernel
theorem dX4_turn_152 : decode cX4_turn 152 = .ok (.dup, 1) := by decide +kernel
theorem dX4_turn_153 : decode cX4_turn 153 = .ok (.getfield 89, 3) := by decide +kernel
theorem dX4_turn_156 : decode cX4_turn 156 = .ok (.iload 6, 2) := by decide +kernel
theorem dX4_turn_158 : decode cX4_turn 158 = .ok (.iload_n 2, 1) := by decide +kernel
theorem dX4_turn_159 : decode cX4_turn 159 = .ok (.isub, 1) := by decide +kernel
theorem dX4_turn_160 : decode cX4_turn 160 = .ok (.iadd, 1) := by decide +kernel
theorem dX4_turn_161 : decode cX4_turn 161 = .ok (.putfield 89, 3) := by decide +kernel
theorem dX4_turn_164 : decode cX4_turn 164 = .ok (.aload_n 0, 1) := by decide +kernel
theorem dX4_turn_165 : decode cX4_turn 165 = .ok (.iload 7, 2) := by decide +kernel
theorem dX4_turn_167 : decode cX4_turn 167 = .ok (.iload_n 1, 1) := by decide +kernel
theorem dX4_turn_168 : decode cX4_turn 168 = .ok (.invokevirtual 96, 3) := by decide +kernel
theorem dX4_turn_171 : decode cX4_turn 171 = .ok (.ireturn, 1) := by decide +kernel
theorem dX4_isVersion_0 : decode cX4_isVersion 0 = .ok (.iload_n 1, 1) := by decide +kernel
theorem dX4_isVersion_1 : decode cX4_isVersion 1 = .ok (.ifCond .lt 15, 3) := by decide +kernel
theorem dX4_isVersion_4 : decode cX4_isVersion 4 = .ok (.iload_n 1, 1) := by decide +kernel
theorem dX4_isVersion_5 : decode cX4_isVersion 5 = .ok (.aload_n 0, 1) := by decide +kernel
theorem dX4_isVersion_6 : decode cX4_isVersion 6 = .ok (.getfield 7, 3) := by decide +kernel
theorem dX4_isVersion_9 : decode cX4_isVersion 9 = .ok (.if_icmp .ge 7, 3) := by decide +kernel
theorem dX4_isVersion_12 : decode cX4_isVersion 12 = .ok (.iconst 1, 1) := by decide +kernel
theorem dX4_isVersion_13 : decode cX4_isVersion 13 = .ok (.goto 4, 3) := by decide +kernel
theorem dX4_isVersion_16 : decode cX4_isVersion 16 = .ok (.iconst 0, 1) := by decide +kernel
theorem dX4_isVersion_17 : decode cX4_isVersion 17 = .ok (.ireturn, 1) := by decide +kernel
theorem dX4_version_0 : decode cX4_version 0 = .ok (.aload_n 0, 1) := by decide +kernel
theorem dX4_version_1 : decode cX4_version 1 = .ok (.iload_n 1, 1) := by decide +kernel
theorem dX4_version_2 : decode cX4_version 2 = .ok (.invokevirtual 109, 3) := by decide +kernel
theorem dX4_version_5 : decode cX4_version 5 = .ok (.ifCond .eq 10, 3) := by decide +kernel
theorem dX4_version_8 : decode cX4_version 8 = .ok (.iload_n 2, 1) := by decide +kernel
theorem dX4_version_9 : decode cX4_version 9 = .ok (.invokestatic 64, 3) := by decide +kernel
theorem dX4_version_12 : decode cX4_version 12 = .ok (.ifCond .ne 9, 3) := by decide +kernel
theorem dX4_version_15 : decode cX4_version 15 = .ok (.aload_n 0, 1) := by decide +kernel
theorem dX4_version_16 : decode cX4_version 16 = .ok (.iconst (-1), 1) := by decide +kernel
theorem dX4_version_17 : decode cX4_version 17 = .ok (.invokevirtual 86, 3) := by decide +kernel
theorem dX4_version_20 : decode cX4_version 20 = .ok (.ireturn, 1) := by decide +kernel
theorem dX4_version_21 : decode cX4_version 21 = .ok (.aload_n 0, 1) := by decide +kernel
theorem dX4_version_22 : decode cX4_version 22 = .ok (.getfield 31, 3) := by decide +kernel
theorem dX4_version_25 : decode cX4_version 25 = .ok (.iload_n 2, 1) := by decide +kernel
theorem dX4_version_26 : decode cX4_version 26 = .ok (.iconst 1, 1) := by decide +kernel
theorem dX4_version_27 : decode cX4_version 27 = .ok (.iastore, 1) := by decide +kernel
theorem dX4_version_28 : decode cX4_version 28 = .ok (.aload_n 0, 1) := by decide +kernel
theorem dX4_version_29 : decode cX4_version 29 = .ok (.getfield 34, 3) := by decide +kernel
theorem dX4_version_32 : decode cX4_version 32 = .ok (.iload_n 2, 1) := by decide +kernel
theorem dX4_version_33 : decode cX4_version 33 = .ok (.iload_n 1, 1) := by decide +kernel
theorem dX4_version_34 : decode cX4_version 34 = .ok (.iastore, 1) := by decide +kernel
theorem dX4_version_35 : decode cX4_version 35 = .ok (.aload_n 0, 1) := by decide +kernel
theorem dX4_version_36 : decode cX4_version 36 = .ok (.getfield 17, 3) := by decide +kernel
theorem dX4_version_39 : decode cX4_version 39 = .ok (.iload_n 1, 1) := by decide +kernel
theorem dX4_version_40 : decode cX4_version 40 = .ok (.iaload, 1) := by decide +kernel
theorem dX4_version_41 : decode cX4_version 41 = .ok (.ireturn, 1) := by decide +kernel
theorem dX4_about_0 : decode cX4_about 0 = .ok (.aload_n 0, 1) := by decide +kernel
theorem dX4_about_1 : decode cX4_about 1 = .ok (.iload_n 1, 1) := by decide +kernel
theorem dX4_about_2 : decode cX4_about 2 = .ok (.invokevirtual 109, 3) := by decide +kernel
theorem dX4_about_5 : decode cX4_about 5 = .ok (.ifCond .eq 12, 3) := by decide +kernel
theorem dX4_about_8 : decode cX4_about 8 = .ok (.iload_n 2, 1) := by decide +kernel
theorem dX4_about_9 : decode cX4_about 9 = .ok (.ifCond .lt 8, 3) := by decide +kernel
theorem dX4_about_12 : decode cX4_about 12 = .ok (.iload_n 2, 1) := by decide +kernel
theorem dX4_about_13 : decode cX4_about 13 = .ok (.iconst 4, 1) := by decide +kernel
theorem dX4_about_14 : decode cX4_about 14 = .ok (.if_icmp .le 9, 3) := by decide +kernel
theorem dX4_about_17 : decode cX4_about 17 = .ok (.aload_n 0, 1) := by decide +kernel
theorem dX4_about_18 : decode cX4_about 18 = .ok (.iconst (-1), 1) := by decide +kernel
theorem dX4_about_19 : decode cX4_about 19 = .ok (.invokevirtual 86, 3) := by decide +kernel
theorem dX4_about_22 : decode cX4_about 22 = .ok (.ireturn, 1) := by decide +kernel
theorem dX4_about_23 : decode cX4_about 23 = .ok (.iconst 0, 1) := by decide +kernel
theorem dX4_about_24 : decode cX4_about 24 = .ok (.istore_n 3, 1) := by decide +kernel
theorem dX4_about_25 : decode cX4_about 25 = .ok (.iload_n 2, 1) := by decide +kernel
theorem dX4_about_26 : decode cX4_about 26 = .ok (.tableswitch 135 0 3 #[30, 37, 57, 96], 30) := by decide +kernel
theorem dX4_about_56 : decode cX4_about 56 = .ok (.aload_n 0, 1) := by decide +kernel
theorem dX4_about_57 : decode cX4_about 57 = .ok (.getfield 17, 3) := by decide +kernel
theorem dX4_about_60 : decode cX4_about 60 = .ok (.iload_n 1, 1) := by decide +kernel
theorem dX4_about_61 : decode cX4_about 61 = .ok (.iaload, 1) := by decide +kernel
theorem dX4_about_62 : decode cX4_about 62 = .ok (.ireturn, 1) := by decide +kernel
theorem dX4_about_63 : decode cX4_about 63 = .ok (.iload_n 1, 1) := by decide +kernel
theorem dX4_about_64 : decode cX4_about 64 = .ok (.ifCond .ne 12, 3) := by decide +kernel
theorem dX4_about_67 : decode cX4_about 67 = .ok (.aload_n 0, 1) := by decide +kernel
theorem dX4_about_68 : decode cX4_about 68 = .ok (.bipush (-6), 2) := by decide +kernel
theorem dX4_about_70 : decode cX4_about 70 = .ok (.invokevirtual 86, 3) := by decide +kernel
theorem dX4_about_73 : decode cX4_about 73 = .ok (.goto 9, 3) := by decide +kernel
theorem dX4_about_76 : decode cX4_about 76 = .ok (.aload_n 0, 1) := by decide +kernel
theorem dX4_about_77 : decode cX4_about 77 = .ok (.getfield 20, 3) := by decide +kernel
theorem dX4_about_80 : decode cX4_about 80 = .ok (.iload_n 1, 1) := by decide +kernel
theorem dX4_about_81 : decode cX4_about 81 = .ok (.iaload, 1) := by decide +kernel
theorem dX4_about_82 : decode cX4_about 82 = .ok (.ireturn, 1) := by decide +kernel
theorem dX4_about_83 : decode cX4_about 83 = .ok (.iconst 1, 1) := by decide +kernel
theorem dX4_about_84 : decode cX4_about 84 = .ok (.istore 4, 2) := by decide +kernel
theorem dX4_about_86 : decode cX4_about 86 = .ok (.iload 4, 2) := by decide +kernel
theorem dX4_about_88 : decode cX4_about 88 = .ok (.aload_n 0, 1) := by decide +kernel
theorem dX4_about_89 : decode cX4_about 89 = .ok (.getfield 7, 3) := by decide +kernel
theorem dX4_about_92 : decode cX4_about 92 = .ok (.if_icmp .ge 28, 3) := by decide +kernel
theorem dX4_about_95 : decode cX4_about 95 = .ok (.iload_n 3, 1) := by decide +kernel
theorem dX4_about_96 : decode cX4_about 96 = .ok (.aload_n 0, 1) := by decide +kernel
theorem dX4_about_97 : decode cX4_about 97 = .ok (.getfield 20, 3) := by decide +kernel
theorem dX4_about_100 : decode cX4_about 100 = .ok (.iload 4, 2) := by decide +kernel
theorem dX4_about_102 : decode cX4_about 102 = .ok (.iaload, 1) := by decide +kernel
theorem dX4_about_103 : decode cX4_about 103 = .ok (.iload_n 1, 1) := by decide +kernel
theorem dX4_about_104 : decode cX4_about 104 = .ok (.if_icmp .ne 7, 3) := by decide +kernel
theorem dX4_about_107 : decode cX4_about 107 = .ok (.iconst 1, 1) := by decide +kernel
theorem dX4_about_108 : decode cX4_about 108 = .ok (.goto 4, 3) := by decide +kernel
theorem dX4_about_111 : decode cX4_about 111 = .ok (.iconst 0, 1) := by decide +kernel
theorem dX4_about_112 : decode cX4_about 112 = .ok (.iadd, 1) := by decide +kernel
theorem dX4_about_113 : decode cX4_about 113 = .ok (.istore_n 3, 1) := by decide +kernel
theorem dX4_about_114 : decode cX4_about 114 = .ok (.iinc 4 1, 3) := by decide +kernel
theorem dX4_about_117 : decode cX4_about 117 = .ok (.goto (-31), 3) := by decide +kernel
theorem dX4_about_120 : decode cX4_about 120 = .ok (.iload_n 3, 1) := by decide +kernel
theorem dX4_about_121 : decode cX4_about 121 = .ok (.ireturn, 1) := by decide +kernel
theorem dX4_about_122 : decode cX4_about 122 = .ok (.iconst 1, 1) := by decide +kernel
theorem dX4_about_123 : decode cX4_about 123 = .ok (.istore 4, 2) := by decide +kernel
theorem dX4_about_125 : decode cX4_about 125 = .ok (.iload 4, 2) := by decide +kernel
theorem dX4_about_127 : decode cX4_about 127 = .ok (.iload_n 1, 1) := by decide +kernel
theorem dX4_about_128 : decode cX4_about 128 = .ok (.if_icmp .ge 31, 3) := by decide +kernel
theorem dX4_about_131 : decode cX4_about 131 = .ok (.aload_n 0, 1) := by decide +kernel
theorem dX4_about_132 : decode cX4_about 132 = .ok (.getfield 20, 3) := by decide +kernel
theorem dX4_about_135 : decode cX4_about 135 = .ok (.iload 4, 2) := by decide +kernel
theorem dX4_about_137 : decode cX4_about 137 = .ok (.iaload, 1) := by decide +kernel
theorem dX4_about_138 : decode cX4_about 138 = .ok (.aload_n 0, 1) := by decide +kernel
theorem dX4_about_139 : decode cX4_about 139 = .ok (.getfield 20, 3) := by decide +kernel
theorem dX4_about_142 : decode cX4_about 142 = .ok (.iload_n 1, 1) := by decide +kernel
theorem dX4_about_143 : decode cX4_about 143 = .ok (.iaload, 1) := by decide +kernel
theorem dX4_about_144 : decode cX4_about 144 = .ok (.if_icmp .ne 7, 3) := by decide +kernel
theorem dX4_about_147 : decode cX4_about 147 = .ok (.iconst 1, 1) := by decide +kernel
theorem dX4_about_148 : decode cX4_about 148 = .ok (.goto 4, 3) := by decide +kernel
theorem dX4_about_151 : decode cX4_about 151 = .ok (.iload_n 3, 1) := by decide +kernel
theorem dX4_about_152 : decode cX4_about 152 = .ok (.istore_n 3, 1) := by decide +kernel
theorem dX4_about_153 : decode cX4_about 153 = .ok (.iinc 4 1, 3) := by decide +kernel
theorem dX4_about_156 : decode cX4_about 156 = .ok (.goto (-31), 3) := by decide +kernel
theorem dX4_about_159 : decode cX4_about 159 = .ok (.iload_n 3, 1) := by decide +kernel
theorem dX4_about_160 : decode cX4_about 160 = .ok (.ireturn, 1) := by decide +kernel
theorem dX4_about_161 : decode cX4_about 161 = .ok (.iload_n 1, 1) := by decide +kernel
theorem dX4_about_162 : decode cX4_about 162 = .ok (.istore 4, 2) := by decide +kernel
theorem dX4_about_164 : decode cX4_about 164 = .ok (.iload 4, 2) := by decide +kernel
theorem dX4_about_166 : decode cX4_about 166 = .ok (.ifCond .lt 18, 3) := by decide +kernel
theorem dX4_about_169 : decode cX4_about 169 = .ok (.iinc 3 1, 3) := by decide +kernel
theorem dX4_about_172 : decode cX4_about 172 = .ok (.aload_n 0, 1) := by decide +kernel
theorem dX4_about_173 : decode cX4_about 173 = .ok (.getfield 20, 3) := by decide +kernel
theorem dX4_about_176 : decode cX4_about 176 = .ok (.iload 4, 2) := by decide +kernel
theorem dX4_about_178 : decode cX4_about 178 = .ok (.iaload, 1) := by decide +kernel
theorem dX4_about_179 : decode cX4_about 179 = .ok (.istore 4, 2) := by decide +kernel
theorem dX4_about_181 : decode cX4_about 181 = .ok (.goto (-17), 3) := by decide +kernel
theorem dX4_about_184 : decode cX4_about 184 = .ok (.iload_n 3, 1) := by decide +kernel
theorem dX4_about_185 : decode cX4_about 185 = .ok (.ireturn, 1) := by decide +kernel
theorem dX4_isAncestor_0 : decode cX4_isAncestor 0 = .ok (.iload_n 2, 1) := by decide +kernel
theorem dX4_isAncestor_1 : decode cX4_isAncestor 1 = .ok (.istore_n 3, 1) := by decide +kernel
theorem dX4_isAncestor_2 : decode cX4_isAncestor 2 = .ok (.iload_n 3, 1) := by decide +kernel
theorem dX4_isAncestor_3 : decode cX4_isAncestor 3 = .ok (.ifCond .lt 18, 3) := by decide +kernel
theorem dX4_isAncestor_6 : decode cX4_isAncestor 6 = .ok (.iload_n 3, 1) := by decide +kernel
theorem dX4_isAncestor_7 : decode cX4_isAncestor 7 = .ok (.iload_n 1, 1) := by decide +kernel
theorem dX4_isAncestor_8 : decode cX4_isAncestor 8 = .ok (.if_icmp .eq 13, 3) := by decide +kernel
theorem dX4_isAncestor_11 : decode cX4_isAncestor 11 = .ok (.aload_n 0, 1) := by decide +kernel
theorem dX4_isAncestor_12 : decode cX4_isAncestor 12 = .ok (.getfield 20, 3) := by decide +kernel
theorem dX4_isAncestor_15 : decode cX4_isAncestor 15 = .ok (.iload_n 3, 1) := by decide +kernel
theorem dX4_isAncestor_16 : decode cX4_isAncestor 16 = .ok (.iaload, 1) := by decide +kernel
theorem dX4_isAncestor_17 : decode cX4_isAncestor 17 = .ok (.istore_n 3, 1) := by decide +kernel
theorem dX4_isAncestor_18 : decode cX4_isAncestor 18 = .ok (.goto (-16), 3) := by decide +kernel
theorem dX4_isAncestor_21 : decode cX4_isAncestor 21 = .ok (.iload_n 3, 1) := by decide +kernel
theorem dX4_isAncestor_22 : decode cX4_isAncestor 22 = .ok (.iload_n 1, 1) := by decide +kernel
theorem dX4_isAncestor_23 : decode cX4_isAncestor 23 = .ok (.if_icmp .ne 7, 3) := by decide +kernel
theorem dX4_isAncestor_26 : decode cX4_isAncestor 26 = .ok (.iconst 1, 1) := by decide +kernel
theorem dX4_isAncestor_27 : decode cX4_isAncestor 27 = .ok (.goto 4, 3) := by decide +kernel
theorem dX4_isAncestor_30 : decode cX4_isAncestor 30 = .ok (.iconst 0, 1) := by decide +kernel
theorem dX4_isAncestor_31 : decode cX4_isAncestor 31 = .ok (.ireturn, 1) := by decide +kernel
theorem dX4_common_0 : decode cX4_common 0 = .ok (.aload_n 0, 1) := by decide +kernel
theorem dX4_common_1 : decode cX4_common 1 = .ok (.iload_n 1, 1) := by decide +kernel
theorem dX4_common_2 : decode cX4_common 2 = .ok (.invokevirtual 109, 3) := by decide +kernel
theorem dX4_common_5 : decode cX4_common 5 = .ok (.ifCond .eq 11, 3) := by decide +kernel
theorem dX4_common_8 : decode cX4_common 8 = .ok (.aload_n 0, 1) := by decide +kernel
theorem dX4_common_9 : decode cX4_common 9 = .ok (.iload_n 2, 1) := by decide +kernel
theorem dX4_common_10 : decode cX4_common 10 = .ok (.invokevirtual 109, 3) := by decide +kernel
theorem dX4_common_13 : decode cX4_common 13 = .ok (.ifCond .ne 9, 3) := by decide +kernel
theorem dX4_common_16 : decode cX4_common 16 = .ok (.aload_n 0, 1) := by decide +kernel
theorem dX4_common_17 : decode cX4_common 17 = .ok (.iconst (-1), 1) := by decide +kernel
theorem dX4_common_18 : decode cX4_common 18 = .ok (.invokevirtual 86, 3) := by decide +kernel
theorem dX4_common_21 : decode cX4_common 21 = .ok (.ireturn, 1) := by decide +kernel
theorem dX4_common_22 : decode cX4_common 22 = .ok (.iconst 0, 1) := by decide +kernel
theorem dX4_common_23 : decode cX4_common 23 = .ok (.istore_n 3, 1) := by decide +kernel
theorem dX4_common_24 : decode cX4_common 24 = .ok (.iconst 0, 1) := by decide +kernel
theorem dX4_common_25 : decode cX4_common 25 = .ok (.istore 4, 2) := by decide +kernel
theorem dX4_common_27 : decode cX4_common 27 = .ok (.iload 4, 2) := by decide +kernel
theorem dX4_common_29 : decode cX4_common 29 = .ok (.aload_n 0, 1) := by decide +kernel
theorem dX4_common_30 : decode cX4_common 30 = .ok (.getfield 7, 3) := by decide +kernel
theorem dX4_common_33 : decode cX4_common 33 = .ok (.if_icmp .ge 36, 3) := by decide +kernel
theorem dX4_common_36 : decode cX4_common 36 = .ok (.aload_n 0, 1) := by decide +kernel
theorem dX4_common_37 : decode cX4_common 37 = .ok (.iload 4, 2) := by decide +kernel
theorem dX4_common_39 : decode cX4_common 39 = .ok (.iload_n 1, 1) := by decide +kernel
theorem dX4_common_40 : decode cX4_common 40 = .ok (.invokevirtual 112, 3) := by decide +kernel
theorem dX4_common_43 : decode cX4_common 43 = .ok (.ifCond .eq 18, 3) := by decide +kernel
theorem dX4_common_46 : decode cX4_common 46 = .ok (.aload_n 0, 1) := by decide +kernel
theorem dX4_common_47 : decode cX4_common 47 = .ok (.iload 4, 2) := by decide +kernel
theorem dX4_common_49 : decode cX4_common 49 = .ok (.iload_n 2, 1) := by decide +kernel
theorem dX4_common_50 : decode cX4_common 50 = .ok (.invokevirtual 112, 3) := by decide +kernel
theorem dX4_common_53 : decode cX4_common 53 = .ok (.ifCond .eq 8, 3) := by decide +kernel
theorem dX4_common_56 : decode cX4_common 56 = .ok (.iload 4, 2) := by decide +kernel
theorem dX4_common_58 : decode cX4_common 58 = .ok (.goto 4, 3) := by decide +kernel
theorem dX4_common_61 : decode cX4_common 61 = .ok (.iload_n 3, 1) := by decide +kernel
theorem dX4_common_62 : decode cX4_common 62 = .ok (.istore_n 3, 1) := by decide +kernel
theorem dX4_common_63 : decode cX4_common 63 = .ok (.iinc 4 1, 3) := by decide +kernel
theorem dX4_common_66 : decode cX4_common 66 = .ok (.goto (-39), 3) := by decide +kernel
theorem dX4_common_69 : decode cX4_common 69 = .ok (.iload_n 3, 1) := by decide +kernel
theorem dX4_common_70 : decode cX4_common 70 = .ok (.ireturn, 1) := by decide +kernel
theorem dX4_versions_0 : decode cX4_versions 0 = .ok (.iload_n 1, 1) := by decide +kernel
theorem dX4_versions_1 : decode cX4_versions 1 = .ok (.ifCond .eq 10, 3) := by decide +kernel
theorem dX4_versions_4 : decode cX4_versions 4 = .ok (.aload_n 0, 1) := by decide +kernel
theorem dX4_versions_5 : decode cX4_versions 5 = .ok (.getfield 89, 3) := by decide +kernel
theorem dX4_versions_8 : decode cX4_versions 8 = .ok (.goto 7, 3) := by decide +kernel
theorem dX4_versions_11 : decode cX4_versions 11 = .ok (.aload_n 0, 1) := by decide +kernel
theorem dX4_versions_12 : decode cX4_versions 12 = .ok (.getfield 7, 3) := by decide +kernel
theorem dX4_versions_15 : decode cX4_versions 15 = .ok (.ireturn, 1) := by decide +kernel
theorem dX4_seal_0 : decode cX4_seal 0 = .ok (.aload_n 0, 1) := by decide +kernel
theorem dX4_seal_1 : decode cX4_seal 1 = .ok (.iload_n 1, 1) := by decide +kernel
theorem dX4_seal_2 : decode cX4_seal 2 = .ok (.invokevirtual 72, 3) := by decide +kernel
theorem dX4_seal_5 : decode cX4_seal 5 = .ok (.istore 4, 2) := by decide +kernel
theorem dX4_seal_7 : decode cX4_seal 7 = .ok (.iload 4, 2) := by decide +kernel
theorem dX4_seal_9 : decode cX4_seal 9 = .ok (.ifCond .ge 10, 3) := by decide +kernel
theorem dX4_seal_12 : decode cX4_seal 12 = .ok (.aload_n 0, 1) := by decide +kernel
theorem dX4_seal_13 : decode cX4_seal 13 = .ok (.iload 4, 2) := by decide +kernel
theorem dX4_seal_15 : decode cX4_seal 15 = .ok (.invokevirtual 86, 3) := by decide +kernel
theorem dX4_seal_18 : decode cX4_seal 18 = .ok (.ireturn, 1) := by decide +kernel
theorem dX4_seal_19 : decode cX4_seal 19 = .ok (.iload_n 2, 1) := by decide +kernel
theorem dX4_seal_20 : decode cX4_seal 20 = .ok (.invokestatic 64, 3) := by decide +kernel
theorem dX4_seal_23 : decode cX4_seal 23 = .ok (.istore 5, 2) := by decide +kernel
theorem dX4_seal_25 : decode cX4_seal 25 = .ok (.iconst 0, 1) := by decide +kernel
theorem dX4_seal_26 : decode cX4_seal 26 = .ok (.istore 6, 2) := by decide +kernel
theorem dX4_seal_28 : decode cX4_seal 28 = .ok (.iload 6, 2) := by decide +kernel
theorem dX4_seal_30 : decode cX4_seal 30 = .ok (.aload_n 0, 1) := by decide +kernel
theorem dX4_seal_31 : decode cX4_seal 31 = .ok (.iload_n 1, 1) := by decide +kernel
theorem dX4_seal_32 : decode cX4_seal 32 = .ok (.invokevirtual 68, 3) := by decide +kernel
theorem dX4_seal_35 : decode cX4_seal 35 = .ok (.if_icmp .ge 38, 3) := by decide +kernel
theorem dX4_seal_38 : decode cX4_seal 38 = .ok (.iload_n 3, 1) := by decide +kernel
theorem dX4_seal_39 : decode cX4_seal 39 = .ok (.ifCond .eq 34, 3) := by decide +kernel
theorem dX4_seal_42 : decode cX4_seal 42 = .ok (.iload 5, 2) := by decide +kernel
theorem dX4_seal_44 : decode cX4_seal 44 = .ok (.ifCond .eq 20, 3) := by decide +kernel
theorem dX4_seal_47 : decode cX4_seal 47 = .ok (.aload_n 0, 1) := by decide +kernel
theorem dX4_seal_48 : decode cX4_seal 48 = .ok (.iload_n 1, 1) := by decide +kernel
theorem dX4_seal_49 : decode cX4_seal 49 = .ok (.iload 6, 2) := by decide +kernel
theorem dX4_seal_51 : decode cX4_seal 51 = .ok (.invokevirtual 103, 3) := by decide +kernel
theorem dX4_seal_54 : decode cX4_seal 54 = .ok (.sipush 256, 3) := by decide +kernel
theorem dX4_seal_57 : decode cX4_seal 57 = .ok (.if_icmp .ge 7, 3) := by decide +kernel
theorem dX4_seal_60 : decode cX4_seal 60 = .ok (.iconst 1, 1) := by decide +kernel
theorem dX4_seal_61 : decode cX4_seal 61 = .ok (.goto 4, 3) := by decide +kernel
theorem dX4_seal_64 : decode cX4_seal 64 = .ok (.iconst 0, 1) := by decide +kernel
theorem dX4_seal_65 : decode cX4_seal 65 = .ok (.istore 5, 2) := by decide +kernel
theorem dX4_seal_67 : decode cX4_seal 67 = .ok (.iinc 6 1, 3) := by decide +kernel
theorem dX4_seal_70 : decode cX4_seal 70 = .ok (.goto (-42), 3) := by decide +kernel
theorem dX4_seal_73 : decode cX4_seal 73 = .ok (.iload 5, 2) := by decide +kernel
theorem dX4_seal_75 : decode cX4_seal 75 = .ok (.ifCond .ne 9, 3) := by decide +kernel
theorem dX4_seal_78 : decode cX4_seal 78 = .ok (.aload_n 0, 1) := by decide +kernel
theorem dX4_seal_79 : decode cX4_seal 79 = .ok (.iconst (-1), 1) := by decide +kernel
theorem dX4_seal_80 : decode cX4_seal 80 = .ok (.invokevirtual 86, 3) := by decide +kernel
theorem dX4_seal_83 : decode cX4_seal 83 = .ok (.ireturn, 1) := by decide +kernel
theorem dX4_seal_84 : decode cX4_seal 84 = .ok (.aload_n 0, 1) := by decide +kernel
theorem dX4_seal_85 : decode cX4_seal 85 = .ok (.iload_n 1, 1) := by decide +kernel
theorem dX4_seal_86 : decode cX4_seal 86 = .ok (.iload_n 2, 1) := by decide +kernel
theorem dX4_seal_87 : decode cX4_seal 87 = .ok (.iload_n 3, 1) := by decide +kernel
theorem dX4_seal_88 : decode cX4_seal 88 = .ok (.ifCond .eq 7, 3) := by decide +kernel
theorem dX4_seal_91 : decode cX4_seal 91 = .ok (.iconst 3, 1) := by decide +kernel
theorem dX4_seal_92 : decode cX4_seal 92 = .ok (.goto 4, 3) := by decide +kernel
theorem dX4_seal_95 : decode cX4_seal 95 = .ok (.iconst 2, 1) := by decide +kernel
theorem dX4_seal_96 : decode cX4_seal 96 = .ok (.invokevirtual 116, 3) := by decide +kernel
theorem dX4_seal_99 : decode cX4_seal 99 = .ok (.ireturn, 1) := by decide +kernel
theorem dX4_store_0 : decode cX4_store 0 = .ok (.aload_n 0, 1) := by decide +kernel
theorem dX4_store_1 : decode cX4_store 1 = .ok (.iload_n 1, 1) := by decide +kernel
theorem dX4_store_2 : decode cX4_store 2 = .ok (.invokevirtual 68, 3) := by decide +kernel
theorem dX4_store_5 : decode cX4_store 5 = .ok (.istore 4, 2) := by decide +kernel
theorem dX4_store_7 : decode cX4_store 7 = .ok (.iconst 0, 1) := by decide +kernel
theorem dX4_store_8 : decode cX4_store 8 = .ok (.istore 5, 2) := by decide +kernel
theorem dX4_store_10 : decode cX4_store 10 = .ok (.iload 5, 2) := by decide +kernel
theorem dX4_store_12 : decode cX4_store 12 = .ok (.iload 4, 2) := by decide +kernel
theorem dX4_store_14 : decode cX4_store 14 = .ok (.if_icmp .ge 57, 3) := by decide +kernel
theorem dX4_store_17 : decode cX4_store 17 = .ok (.aload_n 0, 1) := by decide +kernel
theorem dX4_store_18 : decode cX4_store 18 = .ok (.iload_n 1, 1) := by decide +kernel
theorem dX4_store_19 : decode cX4_store 19 = .ok (.iload 5, 2) := by decide +kernel
theorem dX4_store_21 : decode cX4_store 21 = .ok (.invokevirtual 103, 3) := by decide +kernel
theorem dX4_store_24 : decode cX4_store 24 = .ok (.istore 6, 2) := by decide +kernel
theorem dX4_store_26 : decode cX4_store 26 = .ok (.aload_n 0, 1) := by decide +kernel
theorem dX4_store_27 : decode cX4_store 27 = .ok (.iload_n 1, 1) := by decide +kernel
theorem dX4_store_28 : decode cX4_store 28 = .ok (.iload 5, 2) := by decide +kernel
theorem dX4_store_30 : decode cX4_store 30 = .ok (.invokevirtual 106, 3) := by decide +kernel
theorem dX4_store_33 : decode cX4_store 33 = .ok (.istore 7, 2) := by decide +kernel
theorem dX4_store_35 : decode cX4_store 35 = .ok (.aload_n 0, 1) := by decide +kernel
theorem dX4_store_36 : decode cX4_store 36 = .ok (.getfield 40, 3) := by decide +kernel
theorem dX4_store_39 : decode cX4_store 39 = .ok (.sipush 400, 3) := by decide +kernel
theorem dX4_store_42 : decode cX4_store 42 = .ok (.iload_n 2, 1) := by decide +kernel
theorem dX4_store_43 : decode cX4_store 43 = .ok (.imul, 1) := by decide +kernel
theorem dX4_store_44 : decode cX4_store 44 = .ok (.iload 5, 2) := by decide +kernel
theorem dX4_store_46 : decode cX4_store 46 = .ok (.iadd, 1) := by decide +kernel
theorem dX4_store_47 : decode cX4_store 47 = .ok (.iload 6, 2) := by decide +kernel
theorem dX4_store_49 : decode cX4_store 49 = .ok (.iastore, 1) := by decide +kernel
theorem dX4_store_50 : decode cX4_store 50 = .ok (.aload_n 0, 1) := by decide +kernel
theorem dX4_store_51 : decode cX4_store 51 = .ok (.getfield 43, 3) := by decide +kernel
theorem dX4_store_54 : decode cX4_store 54 = .ok (.sipush 400, 3) := by decide +kernel
theorem dX4_store_57 : decode cX4_store 57 = .ok (.iload_n 2, 1) := by decide +kernel
theorem dX4_store_58 : decode cX4_store 58 = .ok (.imul, 1) := by decide +kernel
theorem dX4_store_59 : decode cX4_store 59 = .ok (.iload 5, 2) := by decide +kernel
theorem dX4_store_61 : decode cX4_store 61 = .ok (.iadd, 1) := by decide +kernel
theorem dX4_store_62 : decode cX4_store 62 = .ok (.iload 7, 2) := by decide +kernel
theorem dX4_store_64 : decode cX4_store 64 = .ok (.iastore, 1) := by decide +kernel
theorem dX4_store_65 : decode cX4_store 65 = .ok (.iinc 5 1, 3) := by decide +kernel
theorem dX4_store_68 : decode cX4_store 68 = .ok (.goto (-58), 3) := by decide +kernel
theorem dX4_store_71 : decode cX4_store 71 = .ok (.aload_n 0, 1) := by decide +kernel
theorem dX4_store_72 : decode cX4_store 72 = .ok (.getfield 37, 3) := by decide +kernel
theorem dX4_store_75 : decode cX4_store 75 = .ok (.iload_n 2, 1) := by decide +kernel
theorem dX4_store_76 : decode cX4_store 76 = .ok (.iload 4, 2) := by decide +kernel
theorem dX4_store_78 : decode cX4_store 78 = .ok (.iastore, 1) := by decide +kernel
theorem dX4_store_79 : decode cX4_store 79 = .ok (.aload_n 0, 1) := by decide +kernel
theorem dX4_store_80 : decode cX4_store 80 = .ok (.getfield 31, 3) := by decide +kernel
theorem dX4_store_83 : decode cX4_store 83 = .ok (.iload_n 2, 1) := by decide +kernel
theorem dX4_store_84 : decode cX4_store 84 = .ok (.iload_n 3, 1) := by decide +kernel
theorem dX4_store_85 : decode cX4_store 85 = .ok (.iastore, 1) := by decide +kernel
theorem dX4_store_86 : decode cX4_store 86 = .ok (.iload 4, 2) := by decide +kernel
theorem dX4_store_88 : decode cX4_store 88 = .ok (.ireturn, 1) := by decide +kernel
theorem dX4_put_0 : decode cX4_put 0 = .ok (.aload_n 0, 1) := by decide +kernel
theorem dX4_put_1 : decode cX4_put 1 = .ok (.iload_n 1, 1) := by decide +kernel
theorem dX4_put_2 : decode cX4_put 2 = .ok (.invokevirtual 72, 3) := by decide +kernel
theorem dX4_put_5 : decode cX4_put 5 = .ok (.istore_n 3, 1) := by decide +kernel
theorem dX4_put_6 : decode cX4_put 6 = .ok (.iload_n 3, 1) := by decide +kernel
theorem dX4_put_7 : decode cX4_put 7 = .ok (.ifCond .lt 10, 3) := by decide +kernel
theorem dX4_put_10 : decode cX4_put 10 = .ok (.iload_n 2, 1) := by decide +kernel
theorem dX4_put_11 : decode cX4_put 11 = .ok (.invokestatic 64, 3) := by decide +kernel
theorem dX4_put_14 : decode cX4_put 14 = .ok (.ifCond .ne 17, 3) := by decide +kernel
theorem dX4_put_17 : decode cX4_put 17 = .ok (.aload_n 0, 1) := by decide +kernel
theorem dX4_put_18 : decode cX4_put 18 = .ok (.iload_n 3, 1) := by decide +kernel
theorem dX4_put_19 : decode cX4_put 19 = .ok (.ifCond .ge 7, 3) := by decide +kernel
theorem dX4_put_22 : decode cX4_put 22 = .ok (.iload_n 3, 1) := by decide +kernel
theorem dX4_put_23 : decode cX4_put 23 = .ok (.goto 4, 3) := by decide +kernel
theorem dX4_put_26 : decode cX4_put 26 = .ok (.iconst (-1), 1) := by decide +kernel
theorem dX4_put_27 : decode cX4_put 27 = .ok (.invokevirtual 86, 3) := by decide +kernel
theorem dX4_put_30 : decode cX4_put 30 = .ok (.ireturn, 1) := by decide +kernel
theorem dX4_put_31 : decode cX4_put 31 = .ok (.aload_n 0, 1) := by decide +kernel
theorem dX4_put_32 : decode cX4_put 32 = .ok (.getfield 31, 3) := by decide +kernel
theorem dX4_put_35 : decode cX4_put 35 = .ok (.iload_n 1, 1) := by decide +kernel
theorem dX4_put_36 : decode cX4_put 36 = .ok (.iaload, 1) := by decide +kernel
theorem dX4_put_37 : decode cX4_put 37 = .ok (.iconst 1, 1) := by decide +kernel
theorem dX4_put_38 : decode cX4_put 38 = .ok (.if_icmp .ne 25, 3) := by decide +kernel
theorem dX4_put_41 : decode cX4_put 41 = .ok (.aload_n 0, 1) := by decide +kernel
theorem dX4_put_42 : decode cX4_put 42 = .ok (.getfield 31, 3) := by decide +kernel
theorem dX4_put_45 : decode cX4_put 45 = .ok (.iload_n 2, 1) := by decide +kernel
theorem dX4_put_46 : decode cX4_put 46 = .ok (.iconst 1, 1) := by decide +kernel
theorem dX4_put_47 : decode cX4_put 47 = .ok (.iastore, 1) := by decide +kernel
theorem dX4_put_48 : decode cX4_put 48 = .ok (.aload_n 0, 1) := by decide +kernel
theorem dX4_put_49 : decode cX4_put 49 = .ok (.getfield 34, 3) := by decide +kernel
theorem dX4_put_52 : decode cX4_put 52 = .ok (.iload_n 2, 1) := by decide +kernel
theorem dX4_put_53 : decode cX4_put 53 = .ok (.aload_n 0, 1) := by decide +kernel
theorem dX4_put_54 : decode cX4_put 54 = .ok (.getfield 34, 3) := by decide +kernel
theorem dX4_put_57 : decode cX4_put 57 = .ok (.iload_n 1, 1) := by decide +kernel
theorem dX4_put_58 : decode cX4_put 58 = .ok (.iaload, 1) := by decide +kernel
theorem dX4_put_59 : decode cX4_put 59 = .ok (.iastore, 1) := by decide +kernel
theorem dX4_put_60 : decode cX4_put 60 = .ok (.goto 16, 3) := by decide +kernel
theorem dX4_put_63 : decode cX4_put 63 = .ok (.aload_n 0, 1) := by decide +kernel
theorem dX4_put_64 : decode cX4_put 64 = .ok (.iload_n 1, 1) := by decide +kernel
theorem dX4_put_65 : decode cX4_put 65 = .ok (.iload_n 2, 1) := by decide +kernel
theorem dX4_put_66 : decode cX4_put 66 = .ok (.aload_n 0, 1) := by decide +kernel
theorem dX4_put_67 : decode cX4_put 67 = .ok (.getfield 31, 3) := by decide +kernel
theorem dX4_put_70 : decode cX4_put 70 = .ok (.iload_n 1, 1) := by decide +kernel
theorem dX4_put_71 : decode cX4_put 71 = .ok (.iaload, 1) := by decide +kernel
theorem dX4_put_72 : decode cX4_put 72 = .ok (.invokevirtual 116, 3) := by decide +kernel
theorem dX4_put_75 : decode cX4_put 75 = .ok (.pop, 1) := by decide +kernel
theorem dX4_put_76 : decode cX4_put 76 = .ok (.aload_n 0, 1) := by decide +kernel
theorem dX4_put_77 : decode cX4_put 77 = .ok (.getfield 31, 3) := by decide +kernel
theorem dX4_put_80 : decode cX4_put 80 = .ok (.iload_n 2, 1) := by decide +kernel
theorem dX4_put_81 : decode cX4_put 81 = .ok (.iaload, 1) := by decide +kernel
theorem dX4_put_82 : decode cX4_put 82 = .ok (.iconst 1, 1) := by decide +kernel
theorem dX4_put_83 : decode cX4_put 83 = .ok (.isub, 1) := by decide +kernel
theorem dX4_put_84 : decode cX4_put 84 = .ok (.ireturn, 1) := by decide +kernel
theorem dX4_take_0 : decode cX4_take 0 = .ok (.iload_n 1, 1) := by decide +kernel
theorem dX4_take_1 : decode cX4_take 1 = .ok (.invokestatic 64, 3) := by decide +kernel
theorem dX4_take_4 : decode cX4_take 4 = .ok (.ifCond .ne 9, 3) := by decide +kernel
theorem dX4_take_7 : decode cX4_take 7 = .ok (.aload_n 0, 1) := by decide +kernel
theorem dX4_take_8 : decode cX4_take 8 = .ok (.iconst (-1), 1) := by decide +kernel
theorem dX4_take_9 : decode cX4_take 9 = .ok (.invokevirtual 86, 3) := by decide +kernel
theorem dX4_take_12 : decode cX4_take 12 = .ok (.ireturn, 1) := by decide +kernel
theorem dX4_take_13 : decode cX4_take 13 = .ok (.aload_n 0, 1) := by decide +kernel
theorem dX4_take_14 : decode cX4_take 14 = .ok (.getfield 31, 3) := by decide +kernel
theorem dX4_take_17 : decode cX4_take 17 = .ok (.iload_n 1, 1) := by decide +kernel
theorem dX4_take_18 : decode cX4_take 18 = .ok (.iconst 0, 1) := by decide +kernel
theorem dX4_take_19 : decode cX4_take 19 = .ok (.iastore, 1) := by decide +kernel
theorem dX4_take_20 : decode cX4_take 20 = .ok (.iconst 0, 1) := by decide +kernel
theorem dX4_take_21 : decode cX4_take 21 = .ok (.ireturn, 1) := by decide +kernel
theorem dX4_row_0 : decode cX4_row 0 = .ok (.aload_n 0, 1) := by decide +kernel
theorem dX4_row_1 : decode cX4_row 1 = .ok (.iload_n 1, 1) := by decide +kernel
theorem dX4_row_2 : decode cX4_row 2 = .ok (.invokevirtual 72, 3) := by decide +kernel
theorem dX4_row_5 : decode cX4_row 5 = .ok (.istore_n 3, 1) := by decide +kernel
theorem dX4_row_6 : decode cX4_row 6 = .ok (.iload_n 3, 1) := by decide +kernel
theorem dX4_row_7 : decode cX4_row 7 = .ok (.ifCond .lt 12, 3) := by decide +kernel
theorem dX4_row_10 : decode cX4_row 10 = .ok (.iload_n 2, 1) := by decide +kernel
theorem dX4_row_11 : decode cX4_row 11 = .ok (.ifCond .lt 8, 3) := by decide +kernel
theorem dX4_row_14 : decode cX4_row 14 = .ok (.iload_n 2, 1) := by decide +kernel
theorem dX4_row_15 : decode cX4_row 15 = .ok (.iconst 2, 1) := by decide +kernel
theorem dX4_row_16 : decode cX4_row 16 = .ok (.if_icmp .le 17, 3) := by decide +kernel
theorem dX4_row_19 : decode cX4_row 19 = .ok (.aload_n 0, 1) := by decide +kernel
theorem dX4_row_20 : decode cX4_row 20 = .ok (.iload_n 3, 1) := by decide +kernel
theorem dX4_row_21 : decode cX4_row 21 = .ok (.ifCond .ge 7, 3) := by decide +kernel
theorem dX4_row_24 : decode cX4_row 24 = .ok (.iload_n 3, 1) := by decide +kernel
theorem dX4_row_25 : decode cX4_row 25 = .ok (.goto 4, 3) := by decide +kernel
theorem dX4_row_28 : decode cX4_row 28 = .ok (.iconst (-1), 1) := by decide +kernel
theorem dX4_row_29 : decode cX4_row 29 = .ok (.invokevirtual 86, 3) := by decide +kernel
theorem dX4_row_32 : decode cX4_row 32 = .ok (.ireturn, 1) := by decide +kernel
theorem dX4_row_33 : decode cX4_row 33 = .ok (.iload_n 2, 1) := by decide +kernel
theorem dX4_row_34 : decode cX4_row 34 = .ok (.iconst 2, 1) := by decide +kernel
theorem dX4_row_35 : decode cX4_row 35 = .ok (.if_icmp .ne 20, 3) := by decide +kernel
theorem dX4_row_38 : decode cX4_row 38 = .ok (.aload_n 0, 1) := by decide +kernel
theorem dX4_row_39 : decode cX4_row 39 = .ok (.getfield 31, 3) := by decide +kernel
theorem dX4_row_42 : decode cX4_row 42 = .ok (.iload_n 1, 1) := by decide +kernel
theorem dX4_row_43 : decode cX4_row 43 = .ok (.iaload, 1) := by decide +kernel
theorem dX4_row_44 : decode cX4_row 44 = .ok (.iconst 1, 1) := by decide +kernel
theorem dX4_row_45 : decode cX4_row 45 = .ok (.if_icmp .eq 10, 3) := by decide +kernel
theorem dX4_row_48 : decode cX4_row 48 = .ok (.aload_n 0, 1) := by decide +kernel
theorem dX4_row_49 : decode cX4_row 49 = .ok (.bipush (-3), 2) := by decide +kernel
theorem dX4_row_51 : decode cX4_row 51 = .ok (.invokevirtual 86, 3) := by decide +kernel
theorem dX4_row_54 : decode cX4_row 54 = .ok (.ireturn, 1) := by decide +kernel
theorem dX4_row_55 : decode cX4_row 55 = .ok (.iload_n 2, 1) := by decide +kernel
theorem dX4_row_56 : decode cX4_row 56 = .ok (.ifCond .ne 14, 3) := by decide +kernel
theorem dX4_row_59 : decode cX4_row 59 = .ok (.aload_n 0, 1) := by decide +kernel
theorem dX4_row_60 : decode cX4_row 60 = .ok (.getfield 31, 3) := by decide +kernel
theorem dX4_row_63 : decode cX4_row 63 = .ok (.iload_n 1, 1) := by decide +kernel
theorem dX4_row_64 : decode cX4_row 64 = .ok (.iaload, 1) := by decide +kernel
theorem dX4_row_65 : decode cX4_row 65 = .ok (.iconst 1, 1) := by decide +kernel
theorem dX4_row_66 : decode cX4_row 66 = .ok (.isub, 1) := by decide +kernel
theorem dX4_row_67 : decode cX4_row 67 = .ok (.goto 22, 3) := by decide +kernel
theorem dX4_row_70 : decode cX4_row 70 = .ok (.iload_n 2, 1) := by decide +kernel
theorem dX4_row_71 : decode cX4_row 71 = .ok (.iconst 1, 1) := by decide +kernel
theorem dX4_row_72 : decode cX4_row 72 = .ok (.if_icmp .ne 11, 3) := by decide +kernel
theorem dX4_row_75 : decode cX4_row 75 = .ok (.aload_n 0, 1) := by decide +kernel
theorem dX4_row_76 : decode cX4_row 76 = .ok (.iload_n 1, 1) := by decide +kernel
theorem dX4_row_77 : decode cX4_row 77 = .ok (.invokevirtual 68, 3) := by decide +kernel
theorem dX4_row_80 : decode cX4_row 80 = .ok (.goto 9, 3) := by decide +kernel
theorem dX4_row_83 : decode cX4_row 83 = .ok (.aload_n 0, 1) := by decide +kernel
theorem dX4_row_84 : decode cX4_row 84 = .ok (.getfield 34, 3) := by decide +kernel
theorem dX4_row_87 : decode cX4_row 87 = .ok (.iload_n 1, 1) := by decide +kernel
theorem dX4_row_88 : decode cX4_row 88 = .ok (.iaload, 1) := by decide +kernel
theorem dX4_row_89 : decode cX4_row 89 = .ok (.ireturn, 1) := by decide +kernel
theorem dX4_lookAt_0 : decode cX4_lookAt 0 = .ok (.aload_n 0, 1) := by decide +kernel
theorem dX4_lookAt_1 : decode cX4_lookAt 1 = .ok (.iload_n 1, 1) := by decide +kernel
theorem dX4_lookAt_2 : decode cX4_lookAt 2 = .ok (.invokevirtual 72, 3) := by decide +kernel
theorem dX4_lookAt_5 : decode cX4_lookAt 5 = .ok (.istore_n 3, 1) := by decide +kernel
theorem dX4_lookAt_6 : decode cX4_lookAt 6 = .ok (.iload_n 3, 1) := by decide +kernel
theorem dX4_lookAt_7 : decode cX4_lookAt 7 = .ok (.ifCond .ge 7, 3) := by decide +kernel
theorem dX4_lookAt_10 : decode cX4_lookAt 10 = .ok (.iload_n 3, 1) := by decide +kernel
theorem dX4_lookAt_11 : decode cX4_lookAt 11 = .ok (.goto 21, 3) := by decide +kernel
theorem dX4_lookAt_14 : decode cX4_lookAt 14 = .ok (.iload_n 2, 1) := by decide +kernel
theorem dX4_lookAt_15 : decode cX4_lookAt 15 = .ok (.ifCond .lt 12, 3) := by decide +kernel
theorem dX4_lookAt_18 : decode cX4_lookAt 18 = .ok (.iload_n 2, 1) := by decide +kernel
theorem dX4_lookAt_19 : decode cX4_lookAt 19 = .ok (.aload_n 0, 1) := by decide +kernel
theorem dX4_lookAt_20 : decode cX4_lookAt 20 = .ok (.iload_n 1, 1) := by decide +kernel
theorem dX4_lookAt_21 : decode cX4_lookAt 21 = .ok (.invokevirtual 68, 3) := by decide +kernel
theorem dX4_lookAt_24 : decode cX4_lookAt 24 = .ok (.if_icmp .lt 7, 3) := by decide +kernel
theorem dX4_lookAt_27 : decode cX4_lookAt 27 = .ok (.iconst (-1), 1) := by decide +kernel
theorem dX4_lookAt_28 : decode cX4_lookAt 28 = .ok (.goto 4, 3) := by decide +kernel
theorem dX4_lookAt_31 : decode cX4_lookAt 31 = .ok (.iconst 0, 1) := by decide +kernel
theorem dX4_lookAt_32 : decode cX4_lookAt 32 = .ok (.ireturn, 1) := by decide +kernel
theorem dX4_at_0 : decode cX4_at 0 = .ok (.aload_n 0, 1) := by decide +kernel
theorem dX4_at_1 : decode cX4_at 1 = .ok (.iload_n 1, 1) := by decide +kernel
theorem dX4_at_2 : decode cX4_at 2 = .ok (.iload_n 2, 1) := by decide +kernel
theorem dX4_at_3 : decode cX4_at 3 = .ok (.invokevirtual 119, 3) := by decide +kernel
theorem dX4_at_6 : decode cX4_at 6 = .ok (.istore_n 3, 1) := by decide +kernel
theorem dX4_at_7 : decode cX4_at 7 = .ok (.iload_n 3, 1) := by decide +kernel
theorem dX4_at_8 : decode cX4_at 8 = .ok (.ifCond .ge 11, 3) := by decide +kernel
theorem dX4_at_11 : decode cX4_at 11 = .ok (.aload_n 0, 1) := by decide +kernel
theorem dX4_at_12 : decode cX4_at 12 = .ok (.iload_n 3, 1) := by decide +kernel
theorem dX4_at_13 : decode cX4_at 13 = .ok (.invokevirtual 86, 3) := by decide +kernel
theorem dX4_at_16 : decode cX4_at 16 = .ok (.goto 9, 3) := by decide +kernel
theorem dX4_at_19 : decode cX4_at 19 = .ok (.aload_n 0, 1) := by decide +kernel
theorem dX4_at_20 : decode cX4_at 20 = .ok (.iload_n 1, 1) := by decide +kernel
theorem dX4_at_21 : decode cX4_at 21 = .ok (.iload_n 2, 1) := by decide +kernel
theorem dX4_at_22 : decode cX4_at 22 = .ok (.invokevirtual 103, 3) := by decide +kernel
theorem dX4_at_25 : decode cX4_at 25 = .ok (.ireturn, 1) := by decide +kernel
theorem dX4_weight_0 : decode cX4_weight 0 = .ok (.aload_n 0, 1) := by decide +kernel
theorem dX4_weight_1 : decode cX4_weight 1 = .ok (.iload_n 1, 1) := by decide +kernel
theorem dX4_weight_2 : decode cX4_weight 2 = .ok (.iload_n 2, 1) := by decide +kernel
theorem dX4_weight_3 : decode cX4_weight 3 = .ok (.invokevirtual 119, 3) := by decide +kernel
theorem dX4_weight_6 : decode cX4_weight 6 = .ok (.istore_n 3, 1) := by decide +kernel
theorem dX4_weight_7 : decode cX4_weight 7 = .ok (.iload_n 3, 1) := by decide +kernel
theorem dX4_weight_8 : decode cX4_weight 8 = .ok (.ifCond .ge 11, 3) := by decide +kernel
theorem dX4_weight_11 : decode cX4_weight 11 = .ok (.aload_n 0, 1) := by decide +kernel
theorem dX4_weight_12 : decode cX4_weight 12 = .ok (.iload_n 3, 1) := by decide +kernel
theorem dX4_weight_13 : decode cX4_weight 13 = .ok (.invokevirtual 86, 3) := by decide +kernel
theorem dX4_weight_16 : decode cX4_weight 16 = .ok (.pop, 1) := by decide +kernel
theorem dX4_weight_17 : decode cX4_weight 17 = .ok (.lconst 0, 1) := by decide +kernel
theorem dX4_weight_18 : decode cX4_weight 18 = .ok (.lreturn, 1) := by decide +kernel
theorem dX4_weight_19 : decode cX4_weight 19 = .ok (.aload_n 0, 1) := by decide +kernel
theorem dX4_weight_20 : decode cX4_weight 20 = .ok (.iload_n 1, 1) := by decide +kernel
theorem dX4_weight_21 : decode cX4_weight 21 = .ok (.iload_n 2, 1) := by decide +kernel
theorem dX4_weight_22 : decode cX4_weight 22 = .ok (.invokevirtual 106, 3) := by decide +kernel
theorem dX4_weight_25 : decode cX4_weight 25 = .ok (.i2l, 1) := by decide +kernel
theorem dX4_weight_26 : decode cX4_weight 26 = .ok (.lreturn, 1) := by decide +kernel
theorem dX4_bits_0 : decode cX4_bits 0 = .ok (.aload_n 0, 1) := by decide +kernel
theorem dX4_bits_1 : decode cX4_bits 1 = .ok (.getfield 31, 3) := by decide +kernel
theorem dX4_bits_4 : decode cX4_bits 4 = .ok (.iload_n 1, 1) := by decide +kernel
theorem dX4_bits_5 : decode cX4_bits 5 = .ok (.iaload, 1) := by decide +kernel
theorem dX4_bits_6 : decode cX4_bits 6 = .ok (.iconst 3, 1) := by decide +kernel
theorem dX4_bits_7 : decode cX4_bits 7 = .ok (.if_icmp .ne 8, 3) := by decide +kernel
theorem dX4_bits_10 : decode cX4_bits 10 = .ok (.bipush 8, 2) := by decide +kernel
theorem dX4_bits_12 : decode cX4_bits 12 = .ok (.goto 5, 3) := by decide +kernel
theorem dX4_bits_15 : decode cX4_bits 15 = .ok (.bipush 10, 2) := by decide +kernel
theorem dX4_bits_17 : decode cX4_bits 17 = .ok (.ireturn, 1) := by decide +kernel
theorem dX4_arrange_0 : decode cX4_arrange 0 = .ok (.aload_n 0, 1) := by decide +kernel
theorem dX4_arrange_1 : decode cX4_arrange 1 = .ok (.iload_n 1, 1) := by decide +kernel
theorem dX4_arrange_2 : decode cX4_arrange 2 = .ok (.invokevirtual 68, 3) := by decide +kernel
theorem dX4_arrange_5 : decode cX4_arrange 5 = .ok (.istore_n 3, 1) := by decide +kernel
theorem dX4_arrange_6 : decode cX4_arrange 6 = .ok (.iconst 0, 1) := by decide +kernel
theorem dX4_arrange_7 : decode cX4_arrange 7 = .ok (.istore 4, 2) := by decide +kernel
theorem dX4_arrange_9 : decode cX4_arrange 9 = .ok (.iload 4, 2) := by decide +kernel
theorem dX4_arrange_11 : decode cX4_arrange 11 = .ok (.iload_n 3, 1) := by decide +kernel
theorem dX4_arrange_12 : decode cX4_arrange 12 = .ok (.if_icmp .ge 18, 3) := by decide +kernel
theorem dX4_arrange_15 : decode cX4_arrange 15 = .ok (.aload_n 0, 1) := by decide +kernel
theorem dX4_arrange_16 : decode cX4_arrange 16 = .ok (.getfield 52, 3) := by decide +kernel
theorem dX4_arrange_19 : decode cX4_arrange 19 = .ok (.iload 4, 2) := by decide +kernel
theorem dX4_arrange_21 : decode cX4_arrange 21 = .ok (.iload 4, 2) := by decide +kernel
theorem dX4_arrange_23 : decode cX4_arrange 23 = .ok (.iastore, 1) := by decide +kernel
theorem dX4_arrange_24 : decode cX4_arrange 24 = .ok (.iinc 4 1, 3) := by decide +kernel
theorem dX4_arrange_27 : decode cX4_arrange 27 = .ok (.goto (-18), 3) := by decide +kernel
theorem dX4_arrange_30 : decode cX4_arrange 30 = .ok (.iconst 0, 1) := by decide +kernel
theorem dX4_arrange_31 : decode cX4_arrange 31 = .ok (.istore 4, 2) := by decide +kernel
theorem dX4_arrange_33 : decode cX4_arrange 33 = .ok (.iload 4, 2) := by decide +kernel
theorem dX4_arrange_35 : decode cX4_arrange 35 = .ok (.iload_n 2, 1) := by decide +kernel
theorem dX4_arrange_36 : decode cX4_arrange 36 = .ok (.if_icmp .ge 118, 3) := by decide +kernel
theorem dX4_arrange_39 : decode cX4_arrange 39 = .ok (.iconst 0, 1) := by decide +kernel
theorem dX4_arrange_40 : decode cX4_arrange 40 = .ok (.istore 5, 2) := by decide +kernel
theorem dX4_arrange_42 : decode cX4_arrange 42 = .ok (.iconst 0, 1) := by decide +kernel
theorem dX4_arrange_43 : decode cX4_arrange 43 = .ok (.istore 6, 2) := by decide +kernel
theorem dX4_arrange_45 : decode cX4_arrange 45 = .ok (.iload 6, 2) := by decide +kernel
theorem dX4_arrange_47 : decode cX4_arrange 47 = .ok (.iconst 2, 1) := by decide +kernel
theorem dX4_arrange_48 : decode cX4_arrange 48 = .ok (.if_icmp .ge 71, 3) := by decide +kernel
theorem dX4_arrange_51 : decode cX4_arrange 51 = .ok (.iconst 0, 1) := by decide +kernel
theorem dX4_arrange_52 : decode cX4_arrange 52 = .ok (.istore 7, 2) := by decide +kernel
theorem dX4_arrange_54 : decode cX4_arrange 54 = .ok (.iload 7, 2) := by decide +kernel
theorem dX4_arrange_56 : decode cX4_arrange 56 = .ok (.iload_n 3, 1) := by decide +kernel
theorem dX4_arrange_57 : decode cX4_arrange 57 = .ok (.if_icmp .ge 56, 3) := by decide +kernel
theorem dX4_arrange_60 : decode cX4_arrange 60 = .ok (.aload_n 0, 1) := by decide +kernel
theorem dX4_arrange_61 : decode cX4_arrange 61 = .ok (.iload_n 1, 1) := by decide +kernel
theorem dX4_arrange_62 : decode cX4_arrange 62 = .ok (.aload_n 0, 1) := by decide +kernel
theorem dX4_arrange_63 : decode cX4_arrange 63 = .ok (.getfield 52, 3) := by decide +kernel
theorem dX4_arrange_66 : decode cX4_arrange 66 = .ok (.iload 7, 2) := by decide +kernel
theorem dX4_arrange_68 : decode cX4_arrange 68 = .ok (.iaload, 1) := by decide +kernel
theorem dX4_arrange_69 : decode cX4_arrange 69 = .ok (.invokevirtual 103, 3) := by decide +kernel
theorem dX4_arrange_72 : decode cX4_arrange 72 = .ok (.aload_n 0, 1) := by decide +kernel
theorem dX4_arrange_73 : decode cX4_arrange 73 = .ok (.iload_n 1, 1) := by decide +kernel
theorem dX4_arrange_74 : decode cX4_arrange 74 = .ok (.invokevirtual 122, 3) := by decide +kernel
theorem dX4_arrange_77 : decode cX4_arrange 77 = .ok (.iconst 1, 1) := by decide +kernel
theorem dX4_arrange_78 : decode cX4_arrange 78 = .ok (.isub, 1) := by decide +kernel
theorem dX4_arrange_79 : decode cX4_arrange 79 = .ok (.iload 4, 2) := by decide +kernel
theorem dX4_arrange_81 : decode cX4_arrange 81 = .ok (.isub, 1) := by decide +kernel
theorem dX4_arrange_82 : decode cX4_arrange 82 = .ok (.ishr, 1) := by decide +kernel
theorem dX4_arrange_83 : decode cX4_arrange 83 = .ok (.iconst 1, 1) := by decide +kernel
theorem dX4_arrange_84 : decode cX4_arrange 84 = .ok (.iand, 1) := by decide +kernel
theorem dX4_arrange_85 : decode cX4_arrange 85 = .ok (.iload 6, 2) := by decide +kernel
theorem dX4_arrange_87 : decode cX4_arrange 87 = .ok (.if_icmp .ne 20, 3) := by decide +kernel
theorem dX4_arrange_90 : decode cX4_arrange 90 = .ok (.aload_n 0, 1) := by decide +kernel
theorem dX4_arrange_91 : decode cX4_arrange 91 = .ok (.getfield 55, 3) := by decide +kernel
theorem dX4_arrange_94 : decode cX4_arrange 94 = .ok (.iload 5, 2) := by decide +kernel
theorem dX4_arrange_96 : decode cX4_arrange 96 = .ok (.aload_n 0, 1) := by decide +kernel
theorem dX4_arrange_97 : decode cX4_arrange 97 = .ok (.getfield 52, 3) := by decide +kernel
theorem dX4_arrange_100 : decode cX4_arrange 100 = .ok (.iload 7, 2) := by decide +kernel
theorem dX4_arrange_102 : decode cX4_arrange 102 = .ok (.iaload, 1) := by decide +kernel
theorem dX4_arrange_103 : decode cX4_arrange 103 = .ok (.iastore, 1) := by decide +kernel
theorem dX4_arrange_104 : decode cX4_arrange 104 = .ok (.iinc 5 1, 3) := by decide +kernel
theorem dX4_arrange_107 : decode cX4_arrange 107 = .ok (.iinc 7 1, 3) := by decide +kernel
theorem dX4_arrange_110 : decode cX4_arrange 110 = .ok (.goto (-56), 3) := by decide +kernel
theorem dX4_arrange_113 : decode cX4_arrange 113 = .ok (.iinc 6 1, 3) := by decide +kernel
theorem dX4_arrange_116 : decode cX4_arrange 116 = .ok (.goto (-71), 3) := by decide +kernel
theorem dX4_arrange_119 : decode cX4_arrange 119 = .ok (.iconst 0, 1) := by decide +kernel
theorem dX4_arrange_120 : decode cX4_arrange 120 = .ok (.istore 6, 2) := by decide +kernel
theorem dX4_arrange_122 : decode cX4_arrange 122 = .ok (.iload 6, 2) := by decide +kernel
theorem dX4_arrange_124 : decode cX4_arrange 124 = .ok (.iload_n 3, 1) := by decide +kernel
theorem dX4_arrange_125 : decode cX4_arrange 125 = .ok (.if_icmp .ge 23, 3) := by decide +kernel
theorem dX4_arrange_128 : decode cX4_arrange 128 = .ok (.aload_n 0, 1) := by decide +kernel
theorem dX4_arrange_129 : decode cX4_arrange 129 = .ok (.getfield 52, 3) := by decide +kernel
theorem dX4_arrange_132 : decode cX4_arrange 132 = .ok (.iload 6, 2) := by decide +kernel
theorem dX4_arrange_134 : decode cX4_arrange 134 = .ok (.aload_n 0, 1) := by decide +kernel
theorem dX4_arrange_135 : decode cX4_arrange 135 = .ok (.getfield 55, 3) := by decide +kernel
theorem dX4_arrange_138 : decode cX4_arrange 138 = .ok (.iload 6, 2) := by decide +kernel
theorem dX4_arrange_140 : decode cX4_arrange 140 = .ok (.iaload, 1) := by decide +kernel
theorem dX4_arrange_141 : decode cX4_arrange 141 = .ok (.iastore, 1) := by decide +kernel
theorem dX4_arrange_142 : decode cX4_arrange 142 = .ok (.iinc 6 1, 3) := by decide +kernel
theorem dX4_arrange_145 : decode cX4_arrange 145 = .ok (.goto (-23), 3) := by decide +kernel
theorem dX4_arrange_148 : decode cX4_arrange 148 = .ok (.iinc 4 1, 3) := by decide +kernel
theorem dX4_arrange_151 : decode cX4_arrange 151 = .ok (.goto (-118), 3) := by decide +kernel
theorem dX4_arrange_154 : decode cX4_arrange 154 = .ok (.return_, 1) := by decide +kernel
theorem dX4_lookPlane_0 : decode cX4_lookPlane 0 = .ok (.aload_n 0, 1) := by decide +kernel
theorem dX4_lookPlane_1 : decode cX4_lookPlane 1 = .ok (.iload_n 1, 1) := by decide +kernel
theorem dX4_lookPlane_2 : decode cX4_lookPlane 2 = .ok (.invokevirtual 72, 3) := by decide +kernel
theorem dX4_lookPlane_5 : decode cX4_lookPlane 5 = .ok (.istore_n 3, 1) := by decide +kernel
theorem dX4_lookPlane_6 : decode cX4_lookPlane 6 = .ok (.iload_n 3, 1) := by decide +kernel
theorem dX4_lookPlane_7 : decode cX4_lookPlane 7 = .ok (.ifCond .ge 7, 3) := by decide +kernel
theorem dX4_lookPlane_10 : decode cX4_lookPlane 10 = .ok (.iload_n 3, 1) := by decide +kernel
theorem dX4_lookPlane_11 : decode cX4_lookPlane 11 = .ok (.goto 36, 3) := by decide +kernel
theorem dX4_lookPlane_14 : decode cX4_lookPlane 14 = .ok (.aload_n 0, 1) := by decide +kernel
theorem dX4_lookPlane_15 : decode cX4_lookPlane 15 = .ok (.getfield 31, 3) := by decide +kernel
theorem dX4_lookPlane_18 : decode cX4_lookPlane 18 = .ok (.iload_n 1, 1) := by decide +kernel
theorem dX4_lookPlane_19 : decode cX4_lookPlane 19 = .ok (.iaload, 1) := by decide +kernel
theorem dX4_lookPlane_20 : decode cX4_lookPlane 20 = .ok (.iconst 1, 1) := by decide +kernel
theorem dX4_lookPlane_21 : decode cX4_lookPlane 21 = .ok (.if_icmp .ne 8, 3) := by decide +kernel
theorem dX4_lookPlane_24 : decode cX4_lookPlane 24 = .ok (.bipush (-3), 2) := by decide +kernel
theorem dX4_lookPlane_26 : decode cX4_lookPlane 26 = .ok (.goto 21, 3) := by decide +kernel
theorem dX4_lookPlane_29 : decode cX4_lookPlane 29 = .ok (.iload_n 2, 1) := by decide +kernel
theorem dX4_lookPlane_30 : decode cX4_lookPlane 30 = .ok (.ifCond .lt 12, 3) := by decide +kernel
theorem dX4_lookPlane_33 : decode cX4_lookPlane 33 = .ok (.iload_n 2, 1) := by decide +kernel
theorem dX4_lookPlane_34 : decode cX4_lookPlane 34 = .ok (.aload_n 0, 1) := by decide +kernel
theorem dX4_lookPlane_35 : decode cX4_lookPlane 35 = .ok (.iload_n 1, 1) := by decide +kernel
theorem dX4_lookPlane_36 : decode cX4_lookPlane 36 = .ok (.invokevirtual 122, 3) := by decide +kernel
theorem dX4_lookPlane_39 : decode cX4_lookPlane 39 = .ok (.if_icmp .lt 7, 3) := by decide +kernel
theorem dX4_lookPlane_42 : decode cX4_lookPlane 42 = .ok (.iconst (-1), 1) := by decide +kernel
theorem dX4_lookPlane_43 : decode cX4_lookPlane 43 = .ok (.goto 4, 3) := by decide +kernel
theorem dX4_lookPlane_46 : decode cX4_lookPlane 46 = .ok (.iconst 0, 1) := by decide +kernel
theorem dX4_lookPlane_47 : decode cX4_lookPlane 47 = .ok (.ireturn, 1) := by decide +kernel
theorem dX4_bitOf_0 : decode cX4_bitOf 0 = .ok (.aload_n 0, 1) := by decide +kernel
theorem dX4_bitOf_1 : decode cX4_bitOf 1 = .ok (.iload_n 1, 1) := by decide +kernel
theorem dX4_bitOf_2 : decode cX4_bitOf 2 = .ok (.aload_n 0, 1) := by decide +kernel
theorem dX4_bitOf_3 : decode cX4_bitOf 3 = .ok (.getfield 52, 3) := by decide +kernel
theorem dX4_bitOf_6 : decode cX4_bitOf 6 = .ok (.iload_n 3, 1) := by decide +kernel
theorem dX4_bitOf_7 : decode cX4_bitOf 7 = .ok (.iaload, 1) := by decide +kernel
theorem dX4_bitOf_8 : decode cX4_bitOf 8 = .ok (.invokevirtual 103, 3) := by decide +kernel
theorem dX4_bitOf_11 : decode cX4_bitOf 11 = .ok (.aload_n 0, 1) := by decide +kernel
theorem dX4_bitOf_12 : decode cX4_bitOf 12 = .ok (.iload_n 1, 1) := by decide +kernel
theorem dX4_bitOf_13 : decode cX4_bitOf 13 = .ok (.invokevirtual 122, 3) := by decide +kernel
theorem dX4_bitOf_16 : decode cX4_bitOf 16 = .ok (.iconst 1, 1) := by decide +kernel
theorem dX4_bitOf_17 : decode cX4_bitOf 17 = .ok (.isub, 1) := by decide +kernel
theorem dX4_bitOf_18 : decode cX4_bitOf 18 = .ok (.iload_n 2, 1) := by decide +kernel
theorem dX4_bitOf_19 : decode cX4_bitOf 19 = .ok (.isub, 1) := by decide +kernel
theorem dX4_bitOf_20 : decode cX4_bitOf 20 = .ok (.ishr, 1) := by decide +kernel
theorem dX4_bitOf_21 : decode cX4_bitOf 21 = .ok (.iconst 1, 1) := by decide +kernel
theorem dX4_bitOf_22 : decode cX4_bitOf 22 = .ok (.iand, 1) := by decide +kernel
theorem dX4_bitOf_23 : decode cX4_bitOf 23 = .ok (.ireturn, 1) := by decide +kernel
theorem dX4_bit_0 : decode cX4_bit 0 = .ok (.aload_n 0, 1) := by decide +kernel
theorem dX4_bit_1 : decode cX4_bit 1 = .ok (.iload_n 1, 1) := by decide +kernel
theorem dX4_bit_2 : decode cX4_bit 2 = .ok (.iload_n 2, 1) := by decide +kernel
theorem dX4_bit_3 : decode cX4_bit 3 = .ok (.invokevirtual 125, 3) := by decide +kernel
theorem dX4_bit_6 : decode cX4_bit 6 = .ok (.istore 4, 2) := by decide +kernel
theorem dX4_bit_8 : decode cX4_bit 8 = .ok (.iload 4, 2) := by decide +kernel
theorem dX4_bit_10 : decode cX4_bit 10 = .ok (.ifCond .lt 16, 3) := by decide +kernel
theorem dX4_bit_13 : decode cX4_bit 13 = .ok (.iload_n 3, 1) := by decide +kernel
theorem dX4_bit_14 : decode cX4_bit 14 = .ok (.ifCond .lt 12, 3) := by decide +kernel
theorem dX4_bit_17 : decode cX4_bit 17 = .ok (.iload_n 3, 1) := by decide +kernel
theorem dX4_bit_18 : decode cX4_bit 18 = .ok (.aload_n 0, 1) := by decide +kernel
theorem dX4_bit_19 : decode cX4_bit 19 = .ok (.iload_n 1, 1) := by decide +kernel
theorem dX4_bit_20 : decode cX4_bit 20 = .ok (.invokevirtual 68, 3) := by decide +kernel
theorem dX4_bit_23 : decode cX4_bit 23 = .ok (.if_icmp .lt 19, 3) := by decide +kernel
theorem dX4_bit_26 : decode cX4_bit 26 = .ok (.aload_n 0, 1) := by decide +kernel
theorem dX4_bit_27 : decode cX4_bit 27 = .ok (.iload 4, 2) := by decide +kernel
theorem dX4_bit_29 : decode cX4_bit 29 = .ok (.ifCond .ge 8, 3) := by decide +kernel
theorem dX4_bit_32 : decode cX4_bit 32 = .ok (.iload 4, 2) := by decide +kernel
theorem dX4_bit_34 : decode cX4_bit 34 = .ok (.goto 4, 3) := by decide +kernel
theorem dX4_bit_37 : decode cX4_bit 37 = .ok (.iconst (-1), 1) := by decide +kernel
theorem dX4_bit_38 : decode cX4_bit 38 = .ok (.invokevirtual 86, 3) := by decide +kernel
theorem dX4_bit_41 : decode cX4_bit 41 = .ok (.ireturn, 1) := by decide +kernel
theorem dX4_bit_42 : decode cX4_bit 42 = .ok (.aload_n 0, 1) := by decide +kernel
theorem dX4_bit_43 : decode cX4_bit 43 = .ok (.iload_n 1, 1) := by decide +kernel
theorem dX4_bit_44 : decode cX4_bit 44 = .ok (.iload_n 2, 1) := by decide +kernel
theorem dX4_bit_45 : decode cX4_bit 45 = .ok (.invokevirtual 128, 3) := by decide +kernel
theorem dX4_bit_48 : decode cX4_bit 48 = .ok (.aload_n 0, 1) := by decide +kernel
theorem dX4_bit_49 : decode cX4_bit 49 = .ok (.iload_n 1, 1) := by decide +kernel
theorem dX4_bit_50 : decode cX4_bit 50 = .ok (.iload_n 2, 1) := by decide +kernel
theorem dX4_bit_51 : decode cX4_bit 51 = .ok (.iload_n 3, 1) := by decide +kernel
theorem dX4_bit_52 : decode cX4_bit 52 = .ok (.invokevirtual 131, 3) := by decide +kernel
theorem dX4_bit_55 : decode cX4_bit 55 = .ok (.ireturn, 1) := by decide +kernel
theorem dX4_ones_0 : decode cX4_ones 0 = .ok (.aload_n 0, 1) := by decide +kernel
theorem dX4_ones_1 : decode cX4_ones 1 = .ok (.iload_n 1, 1) := by decide +kernel
theorem dX4_ones_2 : decode cX4_ones 2 = .ok (.iload_n 2, 1) := by decide +kernel
theorem dX4_ones_3 : decode cX4_ones 3 = .ok (.invokevirtual 125, 3) := by decide +kernel
theorem dX4_ones_6 : decode cX4_ones 6 = .ok (.istore 4, 2) := by decide +kernel
theorem dX4_ones_8 : decode cX4_ones 8 = .ok (.iload 4, 2) := by decide +kernel
theorem dX4_ones_10 : decode cX4_ones 10 = .ok (.ifCond .lt 16, 3) := by decide +kernel
theorem dX4_ones_13 : decode cX4_ones 13 = .ok (.iload_n 3, 1) := by decide +kernel
theorem dX4_ones_14 : decode cX4_ones 14 = .ok (.ifCond .lt 12, 3) := by decide +kernel
theorem dX4_ones_17 : decode cX4_ones 17 = .ok (.iload_n 3, 1) := by decide +kernel
theorem dX4_ones_18 : decode cX4_ones 18 = .ok (.aload_n 0, 1) := by decide +kernel
theorem dX4_ones_19 : decode cX4_ones 19 = .ok (.iload_n 1, 1) := by decide +kernel
theorem dX4_ones_20 : decode cX4_ones 20 = .ok (.invokevirtual 68, 3) := by decide +kernel
theorem dX4_ones_23 : decode cX4_ones 23 = .ok (.if_icmp .le 19, 3) := by decide +kernel
theorem dX4_ones_26 : decode cX4_ones 26 = .ok (.aload_n 0, 1) := by decide +kernel
theorem dX4_ones_27 : decode cX4_ones 27 = .ok (.iload 4, 2) := by decide +kernel
theorem dX4_ones_29 : decode cX4_ones 29 = .ok (.ifCond .ge 8, 3) := by decide +kernel
theorem dX4_ones_32 : decode cX4_ones 32 = .ok (.iload 4, 2) := by decide +kernel
theorem dX4_ones_34 : decode cX4_ones 34 = .ok (.goto 4, 3) := by decide +kernel
theorem dX4_ones_37 : decode cX4_ones 37 = .ok (.iconst (-1), 1) := by decide +kernel
theorem dX4_ones_38 : decode cX4_ones 38 = .ok (.invokevirtual 86, 3) := by decide +kernel
theorem dX4_ones_41 : decode cX4_ones 41 = .ok (.ireturn, 1) := by decide +kernel
theorem dX4_ones_42 : decode cX4_ones 42 = .ok (.aload_n 0, 1) := by decide +kernel
theorem dX4_ones_43 : decode cX4_ones 43 = .ok (.iload_n 1, 1) := by decide +kernel
theorem dX4_ones_44 : decode cX4_ones 44 = .ok (.iload_n 2, 1) := by decide +kernel
theorem dX4_ones_45 : decode cX4_ones 45 = .ok (.invokevirtual 128, 3) := by decide +kernel
theorem dX4_ones_48 : decode cX4_ones 48 = .ok (.iconst 0, 1) := by decide +kernel
theorem dX4_ones_49 : decode cX4_ones 49 = .ok (.istore 5, 2) := by decide +kernel
theorem dX4_ones_51 : decode cX4_ones 51 = .ok (.iconst 0, 1) := by decide +kernel
theorem dX4_ones_52 : decode cX4_ones 52 = .ok (.istore 6, 2) := by decide +kernel
theorem dX4_ones_54 : decode cX4_ones 54 = .ok (.iload 6, 2) := by decide +kernel
theorem dX4_ones_56 : decode cX4_ones 56 = .ok (.iload_n 3, 1) := by decide +kernel
theorem dX4_ones_57 : decode cX4_ones 57 = .ok (.if_icmp .ge 22, 3) := by decide +kernel
theorem dX4_ones_60 : decode cX4_ones 60 = .ok (.iload 5, 2) := by decide +kernel
theorem dX4_ones_62 : decode cX4_ones 62 = .ok (.aload_n 0, 1) := by decide +kernel
theorem dX4_ones_63 : decode cX4_ones 63 = .ok (.iload_n 1, 1) := by decide +kernel
theorem dX4_ones_64 : decode cX4_ones 64 = .ok (.iload_n 2, 1) := by decide +kernel
theorem dX4_ones_65 : decode cX4_ones 65 = .ok (.iload 6, 2) := by decide +kernel
theorem dX4_ones_67 : decode cX4_ones 67 = .ok (.invokevirtual 131, 3) := by decide +kernel
theorem dX4_ones_70 : decode cX4_ones 70 = .ok (.iadd, 1) := by decide +kernel
theorem dX4_ones_71 : decode cX4_ones 71 = .ok (.istore 5, 2) := by decide +kernel
theorem dX4_ones_73 : decode cX4_ones 73 = .ok (.iinc 6 1, 3) := by decide +kernel
theorem dX4_ones_76 : decode cX4_ones 76 = .ok (.goto (-22), 3) := by decide +kernel
theorem dX4_ones_79 : decode cX4_ones 79 = .ok (.iload 5, 2) := by decide +kernel
theorem dX4_ones_81 : decode cX4_ones 81 = .ok (.ireturn, 1) := by decide +kernel
theorem dX4_count_0 : decode cX4_count 0 = .ok (.iconst 0, 1) := by decide +kernel
theorem dX4_count_1 : decode cX4_count 1 = .ok (.istore 5, 2) := by decide +kernel
theorem dX4_count_3 : decode cX4_count 3 = .ok (.iload 5, 2) := by decide +kernel
theorem dX4_count_5 : decode cX4_count 5 = .ok (.sipush 1024, 3) := by decide +kernel
theorem dX4_count_8 : decode cX4_count 8 = .ok (.if_icmp .ge 15, 3) := by decide +kernel
theorem dX4_count_11 : decode cX4_count 11 = .ok (.aload 4, 2) := by decide +kernel
theorem dX4_count_13 : decode cX4_count 13 = .ok (.iload 5, 2) := by decide +kernel
theorem dX4_count_15 : decode cX4_count 15 = .ok (.iconst 0, 1) := by decide +kernel
theorem dX4_count_16 : decode cX4_count 16 = .ok (.iastore, 1) := by decide +kernel
theorem dX4_count_17 : decode cX4_count 17 = .ok (.iinc 5 1, 3) := by decide +kernel
theorem dX4_count_20 : decode cX4_count 20 = .ok (.goto (-17), 3) := by decide +kernel
theorem dX4_count_23 : decode cX4_count 23 = .ok (.iload_n 2, 1) := by decide +kernel
theorem dX4_count_24 : decode cX4_count 24 = .ok (.istore 5, 2) := by decide +kernel
theorem dX4_count_26 : decode cX4_count 26 = .ok (.iload 5, 2) := by decide +kernel
theorem dX4_count_28 : decode cX4_count 28 = .ok (.iload_n 3, 1) := by decide +kernel
theorem dX4_count_29 : decode cX4_count 29 = .ok (.if_icmp .ge 23, 3) := by decide +kernel
theorem dX4_count_32 : decode cX4_count 32 = .ok (.aload 4, 2) := by decide +kernel
theorem dX4_count_34 : decode cX4_count 34 = .ok (.aload_n 0, 1) := by decide +kernel
theorem dX4_count_35 : decode cX4_count 35 = .ok (.iload_n 1, 1) := by decide +kernel
theorem dX4_count_36 : decode cX4_count 36 = .ok (.iload 5, 2) := by decide +kernel
theorem dX4_count_38 : decode cX4_count 38 = .ok (.invokevirtual 103, 3) := by decide +kernel
theorem dX4_count_41 : decode cX4_count 41 = .ok (.dup2, 1) := by decide +kernel
theorem dX4_count_42 : decode cX4_count 42 = .ok (.iaload, 1) := by decide +kernel
theorem dX4_count_43 : decode cX4_count 43 = .ok (.iconst 1, 1) := by decide +kernel
theorem dX4_count_44 : decode cX4_count 44 = .ok (.iadd, 1) := by decide +kernel
theorem dX4_count_45 : decode cX4_count 45 = .ok (.iastore, 1) := by decide +kernel
theorem dX4_count_46 : decode cX4_count 46 = .ok (.iinc 5 1, 3) := by decide +kernel
theorem dX4_count_49 : decode cX4_count 49 = .ok (.goto (-23), 3) := by decide +kernel
theorem dX4_count_52 : decode cX4_count 52 = .ok (.return_, 1) := by decide +kernel
theorem dX4_find_0 : decode cX4_find 0 = .ok (.iload 4, 2) := by decide +kernel
theorem dX4_find_2 : decode cX4_find 2 = .ok (.ifCond .lt 11, 3) := by decide +kernel
theorem dX4_find_5 : decode cX4_find 5 = .ok (.iload 4, 2) := by decide +kernel
theorem dX4_find_7 : decode cX4_find 7 = .ok (.iload_n 3, 1) := by decide +kernel
theorem dX4_find_8 : decode cX4_find 8 = .ok (.iload_n 2, 1) := by decide +kernel
theorem dX4_find_9 : decode cX4_find 9 = .ok (.isub, 1) := by decide +kernel
theorem dX4_find_10 : decode cX4_find 10 = .ok (.if_icmp .lt 10, 3) := by decide +kernel
theorem dX4_find_13 : decode cX4_find 13 = .ok (.aload_n 0, 1) := by decide +kernel
theorem dX4_find_14 : decode cX4_find 14 = .ok (.bipush (-6), 2) := by decide +kernel
theorem dX4_find_16 : decode cX4_find 16 = .ok (.invokevirtual 86, 3) := by decide +kernel
theorem dX4_find_19 : decode cX4_find 19 = .ok (.ireturn, 1) := by decide +kernel
theorem dX4_find_20 : decode cX4_find 20 = .ok (.aload_n 0, 1) := by decide +kernel
theorem dX4_find_21 : decode cX4_find 21 = .ok (.iload_n 1, 1) := by decide +kernel
theorem dX4_find_22 : decode cX4_find 22 = .ok (.iload_n 2, 1) := by decide +kernel
theorem dX4_find_23 : decode cX4_find 23 = .ok (.iload_n 3, 1) := by decide +kernel
theorem dX4_find_24 : decode cX4_find 24 = .ok (.aload_n 0, 1) := by decide +kernel
theorem dX4_find_25 : decode cX4_find 25 = .ok (.getfield 58, 3) := by decide +kernel
theorem dX4_find_28 : decode cX4_find 28 = .ok (.invokevirtual 134, 3) := by decide +kernel
theorem dX4_find_31 : decode cX4_find 31 = .ok (.iconst 0, 1) := by decide +kernel
theorem dX4_find_32 : decode cX4_find 32 = .ok (.istore 5, 2) := by decide +kernel
theorem dX4_find_34 : decode cX4_find 34 = .ok (.iload 4, 2) := by decide +kernel
theorem dX4_find_36 : decode cX4_find 36 = .ok (.istore 6, 2) := by decide +kernel
theorem dX4_find_38 : decode cX4_find 38 = .ok (.iload 6, 2) := by decide +kernel
theorem dX4_find_40 : decode cX4_find 40 = .ok (.aload_n 0, 1) := by decide +kernel
theorem dX4_find_41 : decode cX4_find 41 = .ok (.getfield 58, 3) := by decide +kernel
theorem dX4_find_44 : decode cX4_find 44 = .ok (.iload 5, 2) := by decide +kernel
theorem dX4_find_46 : decode cX4_find 46 = .ok (.iaload, 1) := by decide +kernel
theorem dX4_find_47 : decode cX4_find 47 = .ok (.if_icmp .lt 21, 3) := by decide +kernel
theorem dX4_find_50 : decode cX4_find 50 = .ok (.iload 6, 2) := by decide +kernel
theorem dX4_find_52 : decode cX4_find 52 = .ok (.aload_n 0, 1) := by decide +kernel
theorem dX4_find_53 : decode cX4_find 53 = .ok (.getfield 58, 3) := by decide +kernel
theorem dX4_find_56 : decode cX4_find 56 = .ok (.iload 5, 2) := by decide +kernel
theorem dX4_find_58 : decode cX4_find 58 = .ok (.iaload, 1) := by decide +kernel
theorem dX4_find_59 : decode cX4_find 59 = .ok (.isub, 1) := by decide +kernel
theorem dX4_find_60 : decode cX4_find 60 = .ok (.istore 6, 2) := by decide +kernel
theorem dX4_find_62 : decode cX4_find 62 = .ok (.iinc 5 1, 3) := by decide +kernel
theorem dX4_find_65 : decode cX4_find 65 = .ok (.goto (-27), 3) := by decide +kernel
theorem dX4_find_68 : decode cX4_find 68 = .ok (.aload_n 0, 1) := by decide +kernel
theorem dX4_find_69 : decode cX4_find 69 = .ok (.aload_n 0, 1) := by decide +kernel
theorem dX4_find_70 : decode cX4_find 70 = .ok (.iload_n 1, 1) := by decide +kernel
theorem dX4_find_71 : decode cX4_find 71 = .ok (.invokevirtual 122, 3) := by decide +kernel
theorem dX4_find_74 : decode cX4_find 74 = .ok (.putfield 138, 3) := by decide +kernel
theorem dX4_find_77 : decode cX4_find 77 = .ok (.iconst 0, 1) := by decide +kernel
theorem dX4_find_78 : decode cX4_find 78 = .ok (.istore 7, 2) := by decide +kernel
theorem dX4_find_80 : decode cX4_find 80 = .ok (.iload 7, 2) := by decide +kernel
theorem dX4_find_82 : decode cX4_find 82 = .ok (.aload_n 0, 1) := by decide +kernel
theorem dX4_find_83 : decode cX4_find 83 = .ok (.getfield 138, 3) := by decide +kernel
theorem dX4_find_86 : decode cX4_find 86 = .ok (.if_icmp .ge 93, 3) := by decide +kernel
theorem dX4_find_89 : decode cX4_find 89 = .ok (.aload_n 0, 1) := by decide +kernel
theorem dX4_find_90 : decode cX4_find 90 = .ok (.getfield 138, 3) := by decide +kernel
theorem dX4_find_93 : decode cX4_find 93 = .ok (.iconst 1, 1) := by decide +kernel
theorem dX4_find_94 : decode cX4_find 94 = .ok (.isub, 1) := by decide +kernel
theorem dX4_find_95 : decode cX4_find 95 = .ok (.iload 7, 2) := by decide +kernel
theorem dX4_find_97 : decode cX4_find 97 = .ok (.isub, 1) := by decide +kernel
theorem dX4_find_98 : decode cX4_find 98 = .ok (.istore 8, 2) := by decide +kernel
theorem dX4_find_100 : decode cX4_find 100 = .ok (.iconst 0, 1) := by decide +kernel
theorem dX4_find_101 : decode cX4_find 101 = .ok (.istore 9, 2) := by decide +kernel
theorem dX4_find_103 : decode cX4_find 103 = .ok (.iload_n 2, 1) := by decide +kernel
theorem dX4_find_104 : decode cX4_find 104 = .ok (.istore 10, 2) := by decide +kernel
theorem dX4_find_106 : decode cX4_find 106 = .ok (.iload 10, 2) := by decide +kernel
theorem dX4_find_108 : decode cX4_find 108 = .ok (.iload_n 3, 1) := by decide +kernel
theorem dX4_find_109 : decode cX4_find 109 = .ok (.if_icmp .ge 55, 3) := by decide +kernel
theorem dX4_find_112 : decode cX4_find 112 = .ok (.aload_n 0, 1) := by decide +kernel
theorem dX4_find_113 : decode cX4_find 113 = .ok (.iload_n 1, 1) := by decide +kernel
theorem dX4_find_114 : decode cX4_find 114 = .ok (.iload 10, 2) := by decide +kernel
theorem dX4_find_116 : decode cX4_find 116 = .ok (.invokevirtual 103, 3) := by decide +kernel
theorem dX4_find_119 : decode cX4_find 119 = .ok (.istore 11, 2) := by decide +kernel
theorem dX4_find_121 : decode cX4_find 121 = .ok (.iload 9, 2) := by decide +kernel
theorem dX4_find_123 : decode cX4_find 123 = .ok (.iload 11, 2) := by decide +kernel
theorem dX4_find_125 : decode cX4_find 125 = .ok (.iload 8, 2) := by decide +kernel
theorem dX4_find_127 : decode cX4_find 127 = .ok (.iconst 1, 1) := by decide +kernel
theorem dX4_find_128 : decode cX4_find 128 = .ok (.iadd, 1) := by decide +kernel
theorem dX4_find_129 : decode cX4_find 129 = .ok (.ishr, 1) := by decide +kernel
theorem dX4_find_130 : decode cX4_find 130 = .ok (.iload 5, 2) := by decide +kernel
theorem dX4_find_132 : decode cX4_find 132 = .ok (.iload 8, 2) := by decide +kernel
theorem dX4_find_134 : decode cX4_find 134 = .ok (.iconst 1, 1) := by decide +kernel
theorem dX4_find_135 : decode cX4_find 135 = .ok (.iadd, 1) := by decide +kernel
theorem dX4_find_136 : decode cX4_find 136 = .ok (.ishr, 1) := by decide +kernel
theorem dX4_find_137 : decode cX4_find 137 = .ok (.if_icmp .ne 17, 3) := by decide +kernel
theorem dX4_find_140 : decode cX4_find 140 = .ok (.iload 11, 2) := by decide +kernel
theorem dX4_find_142 : decode cX4_find 142 = .ok (.iload 8, 2) := by decide +kernel
theorem dX4_find_144 : decode cX4_find 144 = .ok (.ishr, 1) := by decide +kernel
theorem dX4_find_145 : decode cX4_find 145 = .ok (.iconst 1, 1) := by decide +kernel
theorem dX4_find_146 : decode cX4_find 146 = .ok (.iand, 1) := by decide +kernel
theorem dX4_find_147 : decode cX4_find 147 = .ok (.ifCond .ne 7, 3) := by decide +kernel
theorem dX4_find_150 : decode cX4_find 150 = .ok (.iconst 1, 1) := by decide +kernel
theorem dX4_find_151 : decode cX4_find 151 = .ok (.goto 4, 3) := by decide +kernel
theorem dX4_find_154 : decode cX4_find 154 = .ok (.iconst 0, 1) := by decide +kernel
theorem dX4_find_155 : decode cX4_find 155 = .ok (.iadd, 1) := by decide +kernel
theorem dX4_find_156 : decode cX4_find 156 = .ok (.istore 9, 2) := by decide +kernel
theorem dX4_find_158 : decode cX4_find 158 = .ok (.iinc 10 1, 3) := by decide +kernel
theorem dX4_find_161 : decode cX4_find 161 = .ok (.goto (-55), 3) := by decide +kernel
theorem dX4_find_164 : decode cX4_find 164 = .ok (.aload_n 0, 1) := by decide +kernel
theorem dX4_find_165 : decode cX4_find 165 = .ok (.getfield 46, 3) := by decide +kernel
theorem dX4_find_168 : decode cX4_find 168 = .ok (.iload 7, 2) := by decide +kernel
theorem dX4_find_170 : decode cX4_find 170 = .ok (.iload 9, 2) := by decide +kernel
theorem dX4_find_172 : decode cX4_find 172 = .ok (.iastore, 1) := by decide +kernel
theorem dX4_find_173 : decode cX4_find 173 = .ok (.iinc 7 1, 3) := by decide +kernel
theorem dX4_find_176 : decode cX4_find 176 = .ok (.goto (-96), 3) := by decide +kernel
theorem dX4_find_179 : decode cX4_find 179 = .ok (.iload 5, 2) := by decide +kernel
theorem dX4_find_181 : decode cX4_find 181 = .ok (.ireturn, 1) := by decide +kernel
theorem dX4_kth_0 : decode cX4_kth 0 = .ok (.aload_n 0, 1) := by decide +kernel
theorem dX4_kth_1 : decode cX4_kth 1 = .ok (.iload_n 1, 1) := by decide +kernel
theorem dX4_kth_2 : decode cX4_kth 2 = .ok (.iload_n 2, 1) := by decide +kernel
theorem dX4_kth_3 : decode cX4_kth 3 = .ok (.iload_n 3, 1) := by decide +kernel
theorem dX4_kth_4 : decode cX4_kth 4 = .ok (.invokevirtual 99, 3) := by decide +kernel
theorem dX4_kth_7 : decode cX4_kth 7 = .ok (.istore 5, 2) := by decide +kernel
theorem dX4_kth_9 : decode cX4_kth 9 = .ok (.iload 5, 2) := by decide +kernel
theorem dX4_kth_11 : decode cX4_kth 11 = .ok (.ifCond .ge 12, 3) := by decide +kernel
theorem dX4_kth_14 : decode cX4_kth 14 = .ok (.aload_n 0, 1) := by decide +kernel
theorem dX4_kth_15 : decode cX4_kth 15 = .ok (.iload 5, 2) := by decide +kernel
theorem dX4_kth_17 : decode cX4_kth 17 = .ok (.invokevirtual 86, 3) := by decide +kernel
theorem dX4_kth_20 : decode cX4_kth 20 = .ok (.goto 12, 3) := by decide +kernel
theorem dX4_kth_23 : decode cX4_kth 23 = .ok (.aload_n 0, 1) := by decide +kernel
theorem dX4_kth_24 : decode cX4_kth 24 = .ok (.iload_n 1, 1) := by decide +kernel
theorem dX4_kth_25 : decode cX4_kth 25 = .ok (.iload_n 2, 1) := by decide +kernel
theorem dX4_kth_26 : decode cX4_kth 26 = .ok (.iload_n 3, 1) := by decide +kernel
theorem dX4_kth_27 : decode cX4_kth 27 = .ok (.iload 4, 2) := by decide +kernel
theorem dX4_kth_29 : decode cX4_kth 29 = .ok (.invokevirtual 141, 3) := by decide +kernel
theorem dX4_kth_32 : decode cX4_kth 32 = .ok (.ireturn, 1) := by decide +kernel
theorem dX4_within_0 : decode cX4_within 0 = .ok (.iconst 0, 1) := by decide +kernel
theorem dX4_within_1 : decode cX4_within 1 = .ok (.istore 8, 2) := by decide +kernel
theorem dX4_within_3 : decode cX4_within 3 = .ok (.iload_n 2, 1) := by decide +kernel
theorem dX4_within_4 : decode cX4_within 4 = .ok (.istore 9, 2) := by decide +kernel
theorem dX4_within_6 : decode cX4_within 6 = .ok (.iload 9, 2) := by decide +kernel
theorem dX4_within_8 : decode cX4_within 8 = .ok (.iload_n 3, 1) := by decide +kernel
theorem dX4_within_9 : decode cX4_within 9 = .ok (.if_icmp .ge 47, 3) := by decide +kernel
theorem dX4_within_12 : decode cX4_within 12 = .ok (.iload 8, 2) := by decide +kernel
theorem dX4_within_14 : decode cX4_within 14 = .ok (.aload_n 0, 1) := by decide +kernel
theorem dX4_within_15 : decode cX4_within 15 = .ok (.iload_n 1, 1) := by decide +kernel
theorem dX4_within_16 : decode cX4_within 16 = .ok (.iload 9, 2) := by decide +kernel
theorem dX4_within_18 : decode cX4_within 18 = .ok (.invokevirtual 103, 3) := by decide +kernel
theorem dX4_within_21 : decode cX4_within 21 = .ok (.i2l, 1) := by decide +kernel
theorem dX4_within_22 : decode cX4_within 22 = .ok (.lload 4, 2) := by decide +kernel
theorem dX4_within_24 : decode cX4_within 24 = .ok (.lcmp, 1) := by decide +kernel
theorem dX4_within_25 : decode cX4_within 25 = .ok (.ifCond .lt 21, 3) := by decide +kernel
theorem dX4_within_28 : decode cX4_within 28 = .ok (.aload_n 0, 1) := by decide +kernel
theorem dX4_within_29 : decode cX4_within 29 = .ok (.iload_n 1, 1) := by decide +kernel
theorem dX4_within_30 : decode cX4_within 30 = .ok (.iload 9, 2) := by decide +kernel
theorem dX4_within_32 : decode cX4_within 32 = .ok (.invokevirtual 103, 3) := by decide +kernel
theorem dX4_within_35 : decode cX4_within 35 = .ok (.i2l, 1) := by decide +kernel
theorem dX4_within_36 : decode cX4_within 36 = .ok (.lload 6, 2) := by decide +kernel
theorem dX4_within_38 : decode cX4_within 38 = .ok (.lcmp, 1) := by decide +kernel
theorem dX4_within_39 : decode cX4_within 39 = .ok (.ifCond .gt 7, 3) := by decide +kernel
theorem dX4_within_42 : decode cX4_within 42 = .ok (.iconst 1, 1) := by decide +kernel
theorem dX4_within_43 : decode cX4_within 43 = .ok (.goto 4, 3) := by decide +kernel
theorem dX4_within_46 : decode cX4_within 46 = .ok (.iconst 0, 1) := by decide +kernel
theorem dX4_within_47 : decode cX4_within 47 = .ok (.iadd, 1) := by decide +kernel
theorem dX4_within_48 : decode cX4_within 48 = .ok (.istore 8, 2) := by decide +kernel
theorem dX4_within_50 : decode cX4_within 50 = .ok (.iinc 9 1, 3) := by decide +kernel
theorem dX4_within_53 : decode cX4_within 53 = .ok (.goto (-47), 3) := by decide +kernel
theorem dX4_within_56 : decode cX4_within 56 = .ok (.iload 8, 2) := by decide +kernel
theorem dX4_within_58 : decode cX4_within 58 = .ok (.ireturn, 1) := by decide +kernel
theorem dX4_rank_0 : decode cX4_rank 0 = .ok (.aload_n 0, 1) := by decide +kernel
theorem dX4_rank_1 : decode cX4_rank 1 = .ok (.iload_n 1, 1) := by decide +kernel
theorem dX4_rank_2 : decode cX4_rank 2 = .ok (.iload_n 2, 1) := by decide +kernel
theorem dX4_rank_3 : decode cX4_rank 3 = .ok (.iload_n 3, 1) := by decide +kernel
theorem dX4_rank_4 : decode cX4_rank 4 = .ok (.invokevirtual 99, 3) := by decide +kernel
theorem dX4_rank_7 : decode cX4_rank 7 = .ok (.istore 5, 2) := by decide +kernel
theorem dX4_rank_9 : decode cX4_rank 9 = .ok (.iload 5, 2) := by decide +kernel
theorem dX4_rank_11 : decode cX4_rank 11 = .ok (.ifCond .ge 12, 3) := by decide +kernel
theorem dX4_rank_14 : decode cX4_rank 14 = .ok (.aload_n 0, 1) := by decide +kernel
theorem dX4_rank_15 : decode cX4_rank 15 = .ok (.iload 5, 2) := by decide +kernel
theorem dX4_rank_17 : decode cX4_rank 17 = .ok (.invokevirtual 86, 3) := by decide +kernel
theorem dX4_rank_20 : decode cX4_rank 20 = .ok (.goto 18, 3) := by decide +kernel
theorem dX4_rank_23 : decode cX4_rank 23 = .ok (.aload_n 0, 1) := by decide +kernel
theorem dX4_rank_24 : decode cX4_rank 24 = .ok (.iload_n 1, 1) := by decide +kernel
theorem dX4_rank_25 : decode cX4_rank 25 = .ok (.iload_n 2, 1) := by decide +kernel
theorem dX4_rank_26 : decode cX4_rank 26 = .ok (.iload_n 3, 1) := by decide +kernel
theorem dX4_rank_27 : decode cX4_rank 27 = .ok (.ldc2_w 147, 3) := by decide +kernel
theorem dX4_rank_30 : decode cX4_rank 30 = .ok (.iload 4, 2) := by decide +kernel
theorem dX4_rank_32 : decode cX4_rank 32 = .ok (.i2l, 1) := by decide +kernel
theorem dX4_rank_33 : decode cX4_rank 33 = .ok (.lconst 1, 1) := by decide +kernel
theorem dX4_rank_34 : decode cX4_rank 34 = .ok (.lsub, 1) := by decide +kernel
theorem dX4_rank_35 : decode cX4_rank 35 = .ok (.invokevirtual 149, 3) := by decide +kernel
theorem dX4_rank_38 : decode cX4_rank 38 = .ok (.ireturn, 1) := by decide +kernel
theorem dX4_between_0 : decode cX4_between 0 = .ok (.aload_n 0, 1) := by decide +kernel
theorem dX4_between_1 : decode cX4_between 1 = .ok (.iload_n 1, 1) := by decide +kernel
theorem dX4_between_2 : decode cX4_between 2 = .ok (.iload_n 2, 1) := by decide +kernel
theorem dX4_between_3 : decode cX4_between 3 = .ok (.iload_n 3, 1) := by decide +kernel
theorem dX4_between_4 : decode cX4_between 4 = .ok (.invokevirtual 99, 3) := by decide +kernel
theorem dX4_between_7 : decode cX4_between 7 = .ok (.istore 6, 2) := by decide +kernel
theorem dX4_between_9 : decode cX4_between 9 = .ok (.iload 6, 2) := by decide +kernel
theorem dX4_between_11 : decode cX4_between 11 = .ok (.ifCond .ge 12, 3) := by decide +kernel
theorem dX4_between_14 : decode cX4_between 14 = .ok (.aload_n 0, 1) := by decide +kernel
theorem dX4_between_15 : decode cX4_between 15 = .ok (.iload 6, 2) := by decide +kernel
theorem dX4_between_17 : decode cX4_between 17 = .ok (.invokevirtual 86, 3) := by decide +kernel
theorem dX4_between_20 : decode cX4_between 20 = .ok (.goto 16, 3) := by decide +kernel
theorem dX4_between_23 : decode cX4_between 23 = .ok (.aload_n 0, 1) := by decide +kernel
theorem dX4_between_24 : decode cX4_between 24 = .ok (.iload_n 1, 1) := by decide +kernel
theorem dX4_between_25 : decode cX4_between 25 = .ok (.iload_n 2, 1) := by decide +kernel
theorem dX4_between_26 : decode cX4_between 26 = .ok (.iload_n 3, 1) := by decide +kernel
theorem dX4_between_27 : decode cX4_between 27 = .ok (.iload 4, 2) := by decide +kernel
theorem dX4_between_29 : decode cX4_between 29 = .ok (.i2l, 1) := by decide +kernel
theorem dX4_between_30 : decode cX4_between 30 = .ok (.iload 5, 2) := by decide +kernel
theorem dX4_between_32 : decode cX4_between 32 = .ok (.i2l, 1) := by decide +kernel
theorem dX4_between_33 : decode cX4_between 33 = .ok (.invokevirtual 149, 3) := by decide +kernel
theorem dX4_between_36 : decode cX4_between 36 = .ok (.ireturn, 1) := by decide +kernel
theorem dX4_next_0 : decode cX4_next 0 = .ok (.aload_n 0, 1) := by decide +kernel
theorem dX4_next_1 : decode cX4_next 1 = .ok (.iload_n 1, 1) := by decide +kernel
theorem dX4_next_2 : decode cX4_next 2 = .ok (.iload_n 2, 1) := by decide +kernel
theorem dX4_next_3 : decode cX4_next 3 = .ok (.iload_n 3, 1) := by decide +kernel
theorem dX4_next_4 : decode cX4_next 4 = .ok (.invokevirtual 99, 3) := by decide +kernel
theorem dX4_next_7 : decode cX4_next 7 = .ok (.istore 5, 2) := by decide +kernel
theorem dX4_next_9 : decode cX4_next 9 = .ok (.iload 5, 2) := by decide +kernel
theorem dX4_next_11 : decode cX4_next 11 = .ok (.ifCond .ge 10, 3) := by decide +kernel
theorem dX4_next_14 : decode cX4_next 14 = .ok (.aload_n 0, 1) := by decide +kernel
theorem dX4_next_15 : decode cX4_next 15 = .ok (.iload 5, 2) := by decide +kernel
theorem dX4_next_17 : decode cX4_next 17 = .ok (.invokevirtual 86, 3) := by decide +kernel
theorem dX4_next_20 : decode cX4_next 20 = .ok (.ireturn, 1) := by decide +kernel
theorem dX4_next_21 : decode cX4_next 21 = .ok (.sipush 1024, 3) := by decide +kernel
theorem dX4_next_24 : decode cX4_next 24 = .ok (.istore 6, 2) := by decide +kernel
theorem dX4_next_26 : decode cX4_next 26 = .ok (.iload_n 2, 1) := by decide +kernel
theorem dX4_next_27 : decode cX4_next 27 = .ok (.istore 7, 2) := by decide +kernel
theorem dX4_next_29 : decode cX4_next 29 = .ok (.iload 7, 2) := by decide +kernel
theorem dX4_next_31 : decode cX4_next 31 = .ok (.iload_n 3, 1) := by decide +kernel
theorem dX4_next_32 : decode cX4_next 32 = .ok (.if_icmp .ge 40, 3) := by decide +kernel
theorem dX4_next_35 : decode cX4_next 35 = .ok (.aload_n 0, 1) := by decide +kernel
theorem dX4_next_36 : decode cX4_next 36 = .ok (.iload_n 1, 1) := by decide +kernel
theorem dX4_next_37 : decode cX4_next 37 = .ok (.iload 7, 2) := by decide +kernel
theorem dX4_next_39 : decode cX4_next 39 = .ok (.invokevirtual 103, 3) := by decide +kernel
theorem dX4_next_42 : decode cX4_next 42 = .ok (.iload 4, 2) := by decide +kernel
theorem dX4_next_44 : decode cX4_next 44 = .ok (.if_icmp .lt 18, 3) := by decide +kernel
theorem dX4_next_47 : decode cX4_next 47 = .ok (.iload 6, 2) := by decide +kernel
theorem dX4_next_49 : decode cX4_next 49 = .ok (.aload_n 0, 1) := by decide +kernel
theorem dX4_next_50 : decode cX4_next 50 = .ok (.iload_n 1, 1) := by decide +kernel
theorem dX4_next_51 : decode cX4_next 51 = .ok (.iload 7, 2) := by decide +kernel
theorem dX4_next_53 : decode cX4_next 53 = .ok (.invokevirtual 103, 3) := by decide +kernel
theorem dX4_next_56 : decode cX4_next 56 = .ok (.invokestatic 153, 3) := by decide +kernel
theorem dX4_next_59 : decode cX4_next 59 = .ok (.goto 5, 3) := by decide +kernel
theorem dX4_next_62 : decode cX4_next 62 = .ok (.iload 6, 2) := by decide +kernel
theorem dX4_next_64 : decode cX4_next 64 = .ok (.istore 6, 2) := by decide +kernel
theorem dX4_next_66 : decode cX4_next 66 = .ok (.iinc 7 1, 3) := by decide +kernel
theorem dX4_next_69 : decode cX4_next 69 = .ok (.goto (-40), 3) := by decide +kernel
theorem dX4_next_72 : decode cX4_next 72 = .ok (.iload 6, 2) := by decide +kernel
theorem dX4_next_74 : decode cX4_next 74 = .ok (.sipush 1024, 3) := by decide +kernel
theorem dX4_next_77 : decode cX4_next 77 = .ok (.if_icmp .ne 12, 3) := by decide +kernel
theorem dX4_next_80 : decode cX4_next 80 = .ok (.aload_n 0, 1) := by decide +kernel
theorem dX4_next_81 : decode cX4_next 81 = .ok (.bipush (-6), 2) := by decide +kernel
theorem dX4_next_83 : decode cX4_next 83 = .ok (.invokevirtual 86, 3) := by decide +kernel
theorem dX4_next_86 : decode cX4_next 86 = .ok (.goto 5, 3) := by decide +kernel
theorem dX4_next_89 : decode cX4_next 89 = .ok (.iload 6, 2) := by decide +kernel
theorem dX4_next_91 : decode cX4_next 91 = .ok (.ireturn, 1) := by decide +kernel
theorem dX4_prior_0 : decode cX4_prior 0 = .ok (.aload_n 0, 1) := by decide +kernel
theorem dX4_prior_1 : decode cX4_prior 1 = .ok (.iload_n 1, 1) := by decide +kernel
theorem dX4_prior_2 : decode cX4_prior 2 = .ok (.iload_n 2, 1) := by decide +kernel
theorem dX4_prior_3 : decode cX4_prior 3 = .ok (.iload_n 3, 1) := by decide +kernel
theorem dX4_prior_4 : decode cX4_prior 4 = .ok (.invokevirtual 99, 3) := by decide +kernel
theorem dX4_prior_7 : decode cX4_prior 7 = .ok (.istore 5, 2) := by decide +kernel
theorem dX4_prior_9 : decode cX4_prior 9 = .ok (.iload 5, 2) := by decide +kernel
theorem dX4_prior_11 : decode cX4_prior 11 = .ok (.ifCond .ge 10, 3) := by decide +kernel
theorem dX4_prior_14 : decode cX4_prior 14 = .ok (.aload_n 0, 1) := by decide +kernel
theorem dX4_prior_15 : decode cX4_prior 15 = .ok (.iload 5, 2) := by decide +kernel
theorem dX4_prior_17 : decode cX4_prior 17 = .ok (.invokevirtual 86, 3) := by decide +kernel
theorem dX4_prior_20 : decode cX4_prior 20 = .ok (.ireturn, 1) := by decide +kernel
theorem dX4_prior_21 : decode cX4_prior 21 = .ok (.iconst (-1), 1) := by decide +kernel
theorem dX4_prior_22 : decode cX4_prior 22 = .ok (.istore 6, 2) := by decide +kernel
theorem dX4_prior_24 : decode cX4_prior 24 = .ok (.iload_n 2, 1) := by decide +kernel
theorem dX4_prior_25 : decode cX4_prior 25 = .ok (.istore 7, 2) := by decide +kernel
theorem dX4_prior_27 : decode cX4_prior 27 = .ok (.iload 7, 2) := by decide +kernel
theorem dX4_prior_29 : decode cX4_prior 29 = .ok (.iload_n 3, 1) := by decide +kernel
theorem dX4_prior_30 : decode cX4_prior 30 = .ok (.if_icmp .ge 40, 3) := by decide +kernel
theorem dX4_prior_33 : decode cX4_prior 33 = .ok (.aload_n 0, 1) := by decide +kernel
theorem dX4_prior_34 : decode cX4_prior 34 = .ok (.iload_n 1, 1) := by decide +kernel
theorem dX4_prior_35 : decode cX4_prior 35 = .ok (.iload 7, 2) := by decide +kernel
theorem dX4_prior_37 : decode cX4_prior 37 = .ok (.invokevirtual 103, 3) := by decide +kernel
theorem dX4_prior_40 : decode cX4_prior 40 = .ok (.iload 4, 2) := by decide +kernel
theorem dX4_prior_42 : decode cX4_prior 42 = .ok (.if_icmp .gt 18, 3) := by decide +kernel
theorem dX4_prior_45 : decode cX4_prior 45 = .ok (.iload 6, 2) := by decide +kernel
theorem dX4_prior_47 : decode cX4_prior 47 = .ok (.aload_n 0, 1) := by decide +kernel
theorem dX4_prior_48 : decode cX4_prior 48 = .ok (.iload_n 1, 1) := by decide +kernel
theorem dX4_prior_49 : decode cX4_prior 49 = .ok (.iload 7, 2) := by decide +kernel
theorem dX4_prior_51 : decode cX4_prior 51 = .ok (.invokevirtual 103, 3) := by decide +kernel
theorem dX4_prior_54 : decode cX4_prior 54 = .ok (.invokestatic 158, 3) := by decide +kernel
theorem dX4_prior_57 : decode cX4_prior 57 = .ok (.goto 5, 3) := by decide +kernel
theorem dX4_prior_60 : decode cX4_prior 60 = .ok (.iload 6, 2) := by decide +kernel
theorem dX4_prior_62 : decode cX4_prior 62 = .ok (.istore 6, 2) := by decide +kernel
theorem dX4_prior_64 : decode cX4_prior 64 = .ok (.iinc 7 1, 3) := by decide +kernel
theorem dX4_prior_67 : decode cX4_prior 67 = .ok (.goto (-40), 3) := by decide +kernel
theorem dX4_prior_70 : decode cX4_prior 70 = .ok (.iload 6, 2) := by decide +kernel
theorem dX4_prior_72 : decode cX4_prior 72 = .ok (.iconst (-1), 1) := by decide +kernel
theorem dX4_prior_73 : decode cX4_prior 73 = .ok (.if_icmp .ne 12, 3) := by decide +kernel
theorem dX4_prior_76 : decode cX4_prior 76 = .ok (.aload_n 0, 1) := by decide +kernel
theorem dX4_prior_77 : decode cX4_prior 77 = .ok (.bipush (-6), 2) := by decide +kernel
theorem dX4_prior_79 : decode cX4_prior 79 = .ok (.invokevirtual 86, 3) := by decide +kernel
theorem dX4_prior_82 : decode cX4_prior 82 = .ok (.goto 5, 3) := by decide +kernel
theorem dX4_prior_85 : decode cX4_prior 85 = .ok (.iload 6, 2) := by decide +kernel
theorem dX4_prior_87 : decode cX4_prior 87 = .ok (.ireturn, 1) := by decide +kernel
theorem dX4_median_0 : decode cX4_median 0 = .ok (.aload_n 0, 1) := by decide +kernel
theorem dX4_median_1 : decode cX4_median 1 = .ok (.iload_n 1, 1) := by decide +kernel
theorem dX4_median_2 : decode cX4_median 2 = .ok (.iload_n 2, 1) := by decide +kernel
theorem dX4_median_3 : decode cX4_median 3 = .ok (.iload_n 3, 1) := by decide +kernel
theorem dX4_median_4 : decode cX4_median 4 = .ok (.invokevirtual 99, 3) := by decide +kernel
theorem dX4_median_7 : decode cX4_median 7 = .ok (.istore 4, 2) := by decide +kernel
theorem dX4_median_9 : decode cX4_median 9 = .ok (.iload 4, 2) := by decide +kernel
theorem dX4_median_11 : decode cX4_median 11 = .ok (.ifCond .lt 8, 3) := by decide +kernel
theorem dX4_median_14 : decode cX4_median 14 = .ok (.iload_n 2, 1) := by decide +kernel
theorem dX4_median_15 : decode cX4_median 15 = .ok (.iload_n 3, 1) := by decide +kernel
theorem dX4_median_16 : decode cX4_median 16 = .ok (.if_icmp .ne 20, 3) := by decide +kernel
theorem dX4_median_19 : decode cX4_median 19 = .ok (.aload_n 0, 1) := by decide +kernel
theorem dX4_median_20 : decode cX4_median 20 = .ok (.iload 4, 2) := by decide +kernel
theorem dX4_median_22 : decode cX4_median 22 = .ok (.ifCond .ge 8, 3) := by decide +kernel
theorem dX4_median_25 : decode cX4_median 25 = .ok (.iload 4, 2) := by decide +kernel
theorem dX4_median_27 : decode cX4_median 27 = .ok (.goto 5, 3) := by decide +kernel
theorem dX4_median_30 : decode cX4_median 30 = .ok (.bipush (-6), 2) := by decide +kernel
theorem dX4_median_32 : decode cX4_median 32 = .ok (.invokevirtual 86, 3) := by decide +kernel
theorem dX4_median_35 : decode cX4_median 35 = .ok (.ireturn, 1) := by decide +kernel
theorem dX4_median_36 : decode cX4_median 36 = .ok (.aload_n 0, 1) := by decide +kernel
theorem dX4_median_37 : decode cX4_median 37 = .ok (.iload_n 1, 1) := by decide +kernel
theorem dX4_median_38 : decode cX4_median 38 = .ok (.iload_n 2, 1) := by decide +kernel
theorem dX4_median_39 : decode cX4_median 39 = .ok (.iload_n 3, 1) := by decide +kernel
theorem dX4_median_40 : decode cX4_median 40 = .ok (.iload_n 3, 1) := by decide +kernel
theorem dX4_median_41 : decode cX4_median 41 = .ok (.iload_n 2, 1) := by decide +kernel
theorem dX4_median_42 : decode cX4_median 42 = .ok (.isub, 1) := by decide +kernel
theorem dX4_median_43 : decode cX4_median 43 = .ok (.iconst 1, 1) := by decide +kernel
theorem dX4_median_44 : decode cX4_median 44 = .ok (.isub, 1) := by decide +kernel
theorem dX4_median_45 : decode cX4_median 45 = .ok (.iconst 2, 1) := by decide +kernel
theorem dX4_median_46 : decode cX4_median 46 = .ok (.idiv, 1) := by decide +kernel
theorem dX4_median_47 : decode cX4_median 47 = .ok (.invokevirtual 141, 3) := by decide +kernel
theorem dX4_median_50 : decode cX4_median 50 = .ok (.ireturn, 1) := by decide +kernel
theorem dX4_half_0 : decode cX4_half 0 = .ok (.aload_n 0, 1) := by decide +kernel
theorem dX4_half_1 : decode cX4_half 1 = .ok (.iload_n 1, 1) := by decide +kernel
theorem dX4_half_2 : decode cX4_half 2 = .ok (.iload_n 2, 1) := by decide +kernel
theorem dX4_half_3 : decode cX4_half 3 = .ok (.iload_n 3, 1) := by decide +kernel
theorem dX4_half_4 : decode cX4_half 4 = .ok (.invokevirtual 99, 3) := by decide +kernel
theorem dX4_half_7 : decode cX4_half 7 = .ok (.istore 4, 2) := by decide +kernel
theorem dX4_half_9 : decode cX4_half 9 = .ok (.iload 4, 2) := by decide +kernel
theorem dX4_half_11 : decode cX4_half 11 = .ok (.ifCond .ge 10, 3) := by decide +kernel
theorem dX4_half_14 : decode cX4_half 14 = .ok (.aload_n 0, 1) := by decide +kernel
theorem dX4_half_15 : decode cX4_half 15 = .ok (.iload 4, 2) := by decide +kernel
theorem dX4_half_17 : decode cX4_half 17 = .ok (.invokevirtual 86, 3) := by decide +kernel
theorem dX4_half_20 : decode cX4_half 20 = .ok (.ireturn, 1) := by decide +kernel
theorem dX4_half_21 : decode cX4_half 21 = .ok (.aload_n 0, 1) := by decide +kernel
theorem dX4_half_22 : decode cX4_half 22 = .ok (.iload_n 1, 1) := by decide +kernel
theorem dX4_half_23 : decode cX4_half 23 = .ok (.iload_n 2, 1) := by decide +kernel
theorem dX4_half_24 : decode cX4_half 24 = .ok (.iload_n 3, 1) := by decide +kernel
theorem dX4_half_25 : decode cX4_half 25 = .ok (.aload_n 0, 1) := by decide +kernel
theorem dX4_half_26 : decode cX4_half 26 = .ok (.getfield 58, 3) := by decide +kernel
theorem dX4_half_29 : decode cX4_half 29 = .ok (.invokevirtual 134, 3) := by decide +kernel
theorem dX4_half_32 : decode cX4_half 32 = .ok (.iconst 0, 1) := by decide +kernel
theorem dX4_half_33 : decode cX4_half 33 = .ok (.istore 5, 2) := by decide +kernel
theorem dX4_half_35 : decode cX4_half 35 = .ok (.iload 5, 2) := by decide +kernel
theorem dX4_half_37 : decode cX4_half 37 = .ok (.sipush 1024, 3) := by decide +kernel
theorem dX4_half_40 : decode cX4_half 40 = .ok (.if_icmp .ge 27, 3) := by decide +kernel
theorem dX4_half_43 : decode cX4_half 43 = .ok (.iconst 2, 1) := by decide +kernel
theorem dX4_half_44 : decode cX4_half 44 = .ok (.aload_n 0, 1) := by decide +kernel
theorem dX4_half_45 : decode cX4_half 45 = .ok (.getfield 58, 3) := by decide +kernel
theorem dX4_half_48 : decode cX4_half 48 = .ok (.iload 5, 2) := by decide +kernel
theorem dX4_half_50 : decode cX4_half 50 = .ok (.iaload, 1) := by decide +kernel
theorem dX4_half_51 : decode cX4_half 51 = .ok (.imul, 1) := by decide +kernel
theorem dX4_half_52 : decode cX4_half 52 = .ok (.iload_n 3, 1) := by decide +kernel
theorem dX4_half_53 : decode cX4_half 53 = .ok (.iload_n 2, 1) := by decide +kernel
theorem dX4_half_54 : decode cX4_half 54 = .ok (.isub, 1) := by decide +kernel
theorem dX4_half_55 : decode cX4_half 55 = .ok (.if_icmp .le 6, 3) := by decide +kernel
theorem dX4_half_58 : decode cX4_half 58 = .ok (.iload 5, 2) := by decide +kernel
theorem dX4_half_60 : decode cX4_half 60 = .ok (.ireturn, 1) := by decide +kernel
theorem dX4_half_61 : decode cX4_half 61 = .ok (.iinc 5 1, 3) := by decide +kernel
theorem dX4_half_64 : decode cX4_half 64 = .ok (.goto (-29), 3) := by decide +kernel
theorem dX4_half_67 : decode cX4_half 67 = .ok (.aload_n 0, 1) := by decide +kernel
theorem dX4_half_68 : decode cX4_half 68 = .ok (.bipush (-6), 2) := by decide +kernel
theorem dX4_half_70 : decode cX4_half 70 = .ok (.invokevirtual 86, 3) := by decide +kernel
theorem dX4_half_73 : decode cX4_half 73 = .ok (.ireturn, 1) := by decide +kernel
theorem dX4_often_0 : decode cX4_often 0 = .ok (.aload_n 0, 1) := by decide +kernel
theorem dX4_often_1 : decode cX4_often 1 = .ok (.iload_n 1, 1) := by decide +kernel
theorem dX4_often_2 : decode cX4_often 2 = .ok (.iload_n 2, 1) := by decide +kernel
theorem dX4_often_3 : decode cX4_often 3 = .ok (.iload_n 3, 1) := by decide +kernel
theorem dX4_often_4 : decode cX4_often 4 = .ok (.invokevirtual 99, 3) := by decide +kernel
theorem dX4_often_7 : decode cX4_often 7 = .ok (.istore 5, 2) := by decide +kernel
theorem dX4_often_9 : decode cX4_often 9 = .ok (.iload 5, 2) := by decide +kernel
theorem dX4_often_11 : decode cX4_often 11 = .ok (.ifCond .ge 10, 3) := by decide +kernel
theorem dX4_often_14 : decode cX4_often 14 = .ok (.aload_n 0, 1) := by decide +kernel
theorem dX4_often_15 : decode cX4_often 15 = .ok (.iload 5, 2) := by decide +kernel
theorem dX4_often_17 : decode cX4_often 17 = .ok (.invokevirtual 86, 3) := by decide +kernel
theorem dX4_often_20 : decode cX4_often 20 = .ok (.ireturn, 1) := by decide +kernel
theorem dX4_often_21 : decode cX4_often 21 = .ok (.aload_n 0, 1) := by decide +kernel
theorem dX4_often_22 : decode cX4_often 22 = .ok (.iload_n 1, 1) := by decide +kernel
theorem dX4_often_23 : decode cX4_often 23 = .ok (.iload_n 2, 1) := by decide +kernel
theorem dX4_often_24 : decode cX4_often 24 = .ok (.iload_n 3, 1) := by decide +kernel
theorem dX4_often_25 : decode cX4_often 25 = .ok (.aload_n 0, 1) := by decide +kernel
theorem dX4_often_26 : decode cX4_often 26 = .ok (.getfield 58, 3) := by decide +kernel
theorem dX4_often_29 : decode cX4_often 29 = .ok (.invokevirtual 134, 3) := by decide +kernel
theorem dX4_often_32 : decode cX4_often 32 = .ok (.iload 4, 2) := by decide +kernel
theorem dX4_often_34 : decode cX4_often 34 = .ok (.istore 6, 2) := by decide +kernel
theorem dX4_often_36 : decode cX4_often 36 = .ok (.iload_n 3, 1) := by decide +kernel
theorem dX4_often_37 : decode cX4_often 37 = .ok (.iload_n 2, 1) := by decide +kernel
theorem dX4_often_38 : decode cX4_often 38 = .ok (.isub, 1) := by decide +kernel
theorem dX4_often_39 : decode cX4_often 39 = .ok (.istore 7, 2) := by decide +kernel
theorem dX4_often_41 : decode cX4_often 41 = .ok (.iload 7, 2) := by decide +kernel
theorem dX4_often_43 : decode cX4_often 43 = .ok (.ifCond .le 49, 3) := by decide +kernel
theorem dX4_often_46 : decode cX4_often 46 = .ok (.iconst 0, 1) := by decide +kernel
theorem dX4_often_47 : decode cX4_often 47 = .ok (.istore 8, 2) := by decide +kernel
theorem dX4_often_49 : decode cX4_often 49 = .ok (.iload 8, 2) := by decide +kernel
theorem dX4_often_51 : decode cX4_often 51 = .ok (.sipush 1024, 3) := by decide +kernel
theorem dX4_often_54 : decode cX4_often 54 = .ok (.if_icmp .ge 32, 3) := by decide +kernel
theorem dX4_often_57 : decode cX4_often 57 = .ok (.aload_n 0, 1) := by decide +kernel
theorem dX4_often_58 : decode cX4_often 58 = .ok (.getfield 58, 3) := by decide +kernel
theorem dX4_often_61 : decode cX4_often 61 = .ok (.iload 8, 2) := by decide +kernel
theorem dX4_often_63 : decode cX4_often 63 = .ok (.iaload, 1) := by decide +kernel
theorem dX4_often_64 : decode cX4_often 64 = .ok (.iload 7, 2) := by decide +kernel
theorem dX4_often_66 : decode cX4_often 66 = .ok (.if_icmp .ne 14, 3) := by decide +kernel
theorem dX4_often_69 : decode cX4_often 69 = .ok (.iload 6, 2) := by decide +kernel
theorem dX4_often_71 : decode cX4_often 71 = .ok (.ifCond .ne 6, 3) := by decide +kernel
theorem dX4_often_74 : decode cX4_often 74 = .ok (.iload 8, 2) := by decide +kernel
theorem dX4_often_76 : decode cX4_often 76 = .ok (.ireturn, 1) := by decide +kernel
theorem dX4_often_77 : decode cX4_often 77 = .ok (.iinc 6 (-1), 3) := by decide +kernel
theorem dX4_often_80 : decode cX4_often 80 = .ok (.iinc 8 1, 3) := by decide +kernel
theorem dX4_often_83 : decode cX4_often 83 = .ok (.goto (-34), 3) := by decide +kernel
theorem dX4_often_86 : decode cX4_often 86 = .ok (.iinc 7 (-1), 3) := by decide +kernel
theorem dX4_often_89 : decode cX4_often 89 = .ok (.goto (-48), 3) := by decide +kernel
theorem dX4_often_92 : decode cX4_often 92 = .ok (.aload_n 0, 1) := by decide +kernel
theorem dX4_often_93 : decode cX4_often 93 = .ok (.bipush (-6), 2) := by decide +kernel
theorem dX4_often_95 : decode cX4_often 95 = .ok (.invokevirtual 86, 3) := by decide +kernel
theorem dX4_often_98 : decode cX4_often 98 = .ok (.ireturn, 1) := by decide +kernel
theorem dX4_distinct_0 : decode cX4_distinct 0 = .ok (.aload_n 0, 1) := by decide +kernel
theorem dX4_distinct_1 : decode cX4_distinct 1 = .ok (.iload_n 1, 1) := by decide +kernel
theorem dX4_distinct_2 : decode cX4_distinct 2 = .ok (.iload_n 2, 1) := by decide +kernel
theorem dX4_distinct_3 : decode cX4_distinct 3 = .ok (.iload_n 3, 1) := by decide +kernel
theorem dX4_distinct_4 : decode cX4_distinct 4 = .ok (.invokevirtual 99, 3) := by decide +kernel
theorem dX4_distinct_7 : decode cX4_distinct 7 = .ok (.istore 4, 2) := by decide +kernel
theorem dX4_distinct_9 : decode cX4_distinct 9 = .ok (.iload 4, 2) := by decide +kernel
theorem dX4_distinct_11 : decode cX4_distinct 11 = .ok (.ifCond .ge 10, 3) := by decide +kernel
theorem dX4_distinct_14 : decode cX4_distinct 14 = .ok (.aload_n 0, 1) := by decide +kernel
theorem dX4_distinct_15 : decode cX4_distinct 15 = .ok (.iload 4, 2) := by decide +kernel
theorem dX4_distinct_17 : decode cX4_distinct 17 = .ok (.invokevirtual 86, 3) := by decide +kernel
theorem dX4_distinct_20 : decode cX4_distinct 20 = .ok (.ireturn, 1) := by decide +kernel
theorem dX4_distinct_21 : decode cX4_distinct 21 = .ok (.aload_n 0, 1) := by decide +kernel
theorem dX4_distinct_22 : decode cX4_distinct 22 = .ok (.iload_n 1, 1) := by decide +kernel
theorem dX4_distinct_23 : decode cX4_distinct 23 = .ok (.iload_n 2, 1) := by decide +kernel
theorem dX4_distinct_24 : decode cX4_distinct 24 = .ok (.iload_n 3, 1) := by decide +kernel
theorem dX4_distinct_25 : decode cX4_distinct 25 = .ok (.aload_n 0, 1) := by decide +kernel
theorem dX4_distinct_26 : decode cX4_distinct 26 = .ok (.getfield 58, 3) := by decide +kernel
theorem dX4_distinct_29 : decode cX4_distinct 29 = .ok (.invokevirtual 134, 3) := by decide +kernel
theorem dX4_distinct_32 : decode cX4_distinct 32 = .ok (.iconst 0, 1) := by decide +kernel
theorem dX4_distinct_33 : decode cX4_distinct 33 = .ok (.istore 5, 2) := by decide +kernel
theorem dX4_distinct_35 : decode cX4_distinct 35 = .ok (.iconst 0, 1) := by decide +kernel
theorem dX4_distinct_36 : decode cX4_distinct 36 = .ok (.istore 6, 2) := by decide +kernel
theorem dX4_distinct_38 : decode cX4_distinct 38 = .ok (.iload 6, 2) := by decide +kernel
theorem dX4_distinct_40 : decode cX4_distinct 40 = .ok (.sipush 1024, 3) := by decide +kernel
theorem dX4_distinct_43 : decode cX4_distinct 43 = .ok (.if_icmp .ge 29, 3) := by decide +kernel
theorem dX4_distinct_46 : decode cX4_distinct 46 = .ok (.iload 5, 2) := by decide +kernel
theorem dX4_distinct_48 : decode cX4_distinct 48 = .ok (.aload_n 0, 1) := by decide +kernel
theorem dX4_distinct_49 : decode cX4_distinct 49 = .ok (.getfield 58, 3) := by decide +kernel
theorem dX4_distinct_52 : decode cX4_distinct 52 = .ok (.iload 6, 2) := by decide +kernel
theorem dX4_distinct_54 : decode cX4_distinct 54 = .ok (.iaload, 1) := by decide +kernel
theorem dX4_distinct_55 : decode cX4_distinct 55 = .ok (.ifCond .le 7, 3) := by decide +kernel
theorem dX4_distinct_58 : decode cX4_distinct 58 = .ok (.iconst 1, 1) := by decide +kernel
theorem dX4_distinct_59 : decode cX4_distinct 59 = .ok (.goto 4, 3) := by decide +kernel
theorem dX4_distinct_62 : decode cX4_distinct 62 = .ok (.iconst 0, 1) := by decide +kernel
theorem dX4_distinct_63 : decode cX4_distinct 63 = .ok (.iadd, 1) := by decide +kernel
theorem dX4_distinct_64 : decode cX4_distinct 64 = .ok (.istore 5, 2) := by decide +kernel
theorem dX4_distinct_66 : decode cX4_distinct 66 = .ok (.iinc 6 1, 3) := by decide +kernel
theorem dX4_distinct_69 : decode cX4_distinct 69 = .ok (.goto (-31), 3) := by decide +kernel
theorem dX4_distinct_72 : decode cX4_distinct 72 = .ok (.iload 5, 2) := by decide +kernel
theorem dX4_distinct_74 : decode cX4_distinct 74 = .ok (.ireturn, 1) := by decide +kernel
theorem dX4_sum_0 : decode cX4_sum 0 = .ok (.aload_n 0, 1) := by decide +kernel
theorem dX4_sum_1 : decode cX4_sum 1 = .ok (.iload_n 1, 1) := by decide +kernel
theorem dX4_sum_2 : decode cX4_sum 2 = .ok (.iload_n 2, 1) := by decide +kernel
theorem dX4_sum_3 : decode cX4_sum 3 = .ok (.iload_n 3, 1) := by decide +kernel
theorem dX4_sum_4 : decode cX4_sum 4 = .ok (.invokevirtual 99, 3) := by decide +kernel
theorem dX4_sum_7 : decode cX4_sum 7 = .ok (.istore 5, 2) := by decide +kernel
theorem dX4_sum_9 : decode cX4_sum 9 = .ok (.iload 5, 2) := by decide +kernel
theorem dX4_sum_11 : decode cX4_sum 11 = .ok (.ifCond .ge 12, 3) := by decide +kernel
theorem dX4_sum_14 : decode cX4_sum 14 = .ok (.aload_n 0, 1) := by decide +kernel
theorem dX4_sum_15 : decode cX4_sum 15 = .ok (.iload 5, 2) := by decide +kernel
theorem dX4_sum_17 : decode cX4_sum 17 = .ok (.invokevirtual 86, 3) := by decide +kernel
theorem dX4_sum_20 : decode cX4_sum 20 = .ok (.pop, 1) := by decide +kernel
theorem dX4_sum_21 : decode cX4_sum 21 = .ok (.lconst 0, 1) := by decide +kernel
theorem dX4_sum_22 : decode cX4_sum 22 = .ok (.lreturn, 1) := by decide +kernel
theorem dX4_sum_23 : decode cX4_sum 23 = .ok (.lconst 0, 1) := by decide +kernel
theorem dX4_sum_24 : decode cX4_sum 24 = .ok (.lstore 6, 2) := by decide +kernel
theorem dX4_sum_26 : decode cX4_sum 26 = .ok (.iload_n 2, 1) := by decide +kernel
theorem dX4_sum_27 : decode cX4_sum 27 = .ok (.istore 8, 2) := by decide +kernel
theorem dX4_sum_29 : decode cX4_sum 29 = .ok (.iload 8, 2) := by decide +kernel
theorem dX4_sum_31 : decode cX4_sum 31 = .ok (.iload_n 3, 1) := by decide +kernel
theorem dX4_sum_32 : decode cX4_sum 32 = .ok (.if_icmp .ge 38, 3) := by decide +kernel
theorem dX4_sum_35 : decode cX4_sum 35 = .ok (.lload 6, 2) := by decide +kernel
theorem dX4_sum_37 : decode cX4_sum 37 = .ok (.aload_n 0, 1) := by decide +kernel
theorem dX4_sum_38 : decode cX4_sum 38 = .ok (.iload_n 1, 1) := by decide +kernel
theorem dX4_sum_39 : decode cX4_sum 39 = .ok (.iload 8, 2) := by decide +kernel
theorem dX4_sum_41 : decode cX4_sum 41 = .ok (.invokevirtual 103, 3) := by decide +kernel
theorem dX4_sum_44 : decode cX4_sum 44 = .ok (.iload 4, 2) := by decide +kernel
theorem dX4_sum_46 : decode cX4_sum 46 = .ok (.if_icmp .ge 14, 3) := by decide +kernel
theorem dX4_sum_49 : decode cX4_sum 49 = .ok (.aload_n 0, 1) := by decide +kernel
theorem dX4_sum_50 : decode cX4_sum 50 = .ok (.iload_n 1, 1) := by decide +kernel
theorem dX4_sum_51 : decode cX4_sum 51 = .ok (.iload 8, 2) := by decide +kernel
theorem dX4_sum_53 : decode cX4_sum 53 = .ok (.invokevirtual 106, 3) := by decide +kernel
theorem dX4_sum_56 : decode cX4_sum 56 = .ok (.i2l, 1) := by decide +kernel
theorem dX4_sum_57 : decode cX4_sum 57 = .ok (.goto 4, 3) := by decide +kernel
theorem dX4_sum_60 : decode cX4_sum 60 = .ok (.lconst 0, 1) := by decide +kernel
theorem dX4_sum_61 : decode cX4_sum 61 = .ok (.ladd, 1) := by decide +kernel
theorem dX4_sum_62 : decode cX4_sum 62 = .ok (.lstore 6, 2) := by decide +kernel
theorem dX4_sum_64 : decode cX4_sum 64 = .ok (.iinc 8 1, 3) := by decide +kernel
theorem dX4_sum_67 : decode cX4_sum 67 = .ok (.goto (-38), 3) := by decide +kernel
theorem dX4_sum_70 : decode cX4_sum 70 = .ok (.lload 6, 2) := by decide +kernel
theorem dX4_sum_72 : decode cX4_sum 72 = .ok (.lreturn, 1) := by decide +kernel
theorem dX4_differ_0 : decode cX4_differ 0 = .ok (.aload_n 0, 1) := by decide +kernel
theorem dX4_differ_1 : decode cX4_differ 1 = .ok (.iload_n 1, 1) := by decide +kernel
theorem dX4_differ_2 : decode cX4_differ 2 = .ok (.invokevirtual 72, 3) := by decide +kernel
theorem dX4_differ_5 : decode cX4_differ 5 = .ok (.istore 6, 2) := by decide +kernel
theorem dX4_differ_7 : decode cX4_differ 7 = .ok (.iload 6, 2) := by decide +kernel
theorem dX4_differ_9 : decode cX4_differ 9 = .ok (.ifCond .ge 8, 3) := by decide +kernel
theorem dX4_differ_12 : decode cX4_differ 12 = .ok (.iload 6, 2) := by decide +kernel
theorem dX4_differ_14 : decode cX4_differ 14 = .ok (.goto 9, 3) := by decide +kernel
theorem dX4_differ_17 : decode cX4_differ 17 = .ok (.aload_n 0, 1) := by decide +kernel
theorem dX4_differ_18 : decode cX4_differ 18 = .ok (.iload 4, 2) := by decide +kernel
theorem dX4_differ_20 : decode cX4_differ 20 = .ok (.invokevirtual 72, 3) := by decide +kernel
theorem dX4_differ_23 : decode cX4_differ 23 = .ok (.istore 6, 2) := by decide +kernel
theorem dX4_differ_25 : decode cX4_differ 25 = .ok (.iload 6, 2) := by decide +kernel
theorem dX4_differ_27 : decode cX4_differ 27 = .ok (.ifCond .ge 8, 3) := by decide +kernel
theorem dX4_differ_30 : decode cX4_differ 30 = .ok (.iload 6, 2) := by decide +kernel
theorem dX4_differ_32 : decode cX4_differ 32 = .ok (.goto 12, 3) := by decide +kernel
theorem dX4_differ_35 : decode cX4_differ 35 = .ok (.aload_n 0, 1) := by decide +kernel
theorem dX4_differ_36 : decode cX4_differ 36 = .ok (.iload_n 1, 1) := by decide +kernel
theorem dX4_differ_37 : decode cX4_differ 37 = .ok (.iload_n 2, 1) := by decide +kernel
theorem dX4_differ_38 : decode cX4_differ 38 = .ok (.i2l, 1) := by decide +kernel
theorem dX4_differ_39 : decode cX4_differ 39 = .ok (.iload_n 3, 1) := by decide +kernel
theorem dX4_differ_40 : decode cX4_differ 40 = .ok (.i2l, 1) := by decide +kernel
theorem dX4_differ_41 : decode cX4_differ 41 = .ok (.invokevirtual 75, 3) := by decide +kernel
theorem dX4_differ_44 : decode cX4_differ 44 = .ok (.istore 6, 2) := by decide +kernel
theorem dX4_differ_46 : decode cX4_differ 46 = .ok (.iload 6, 2) := by decide +kernel
theorem dX4_differ_48 : decode cX4_differ 48 = .ok (.ifCond .ge 8, 3) := by decide +kernel
theorem dX4_differ_51 : decode cX4_differ 51 = .ok (.iload 6, 2) := by decide +kernel
theorem dX4_differ_53 : decode cX4_differ 53 = .ok (.goto 21, 3) := by decide +kernel
theorem dX4_differ_56 : decode cX4_differ 56 = .ok (.aload_n 0, 1) := by decide +kernel
theorem dX4_differ_57 : decode cX4_differ 57 = .ok (.iload 4, 2) := by decide +kernel
theorem dX4_differ_59 : decode cX4_differ 59 = .ok (.iload 5, 2) := by decide +kernel
theorem dX4_differ_61 : decode cX4_differ 61 = .ok (.i2l, 1) := by decide +kernel
theorem dX4_differ_62 : decode cX4_differ 62 = .ok (.iload 5, 2) := by decide +kernel
theorem dX4_differ_64 : decode cX4_differ 64 = .ok (.i2l, 1) := by decide +kernel
theorem dX4_differ_65 : decode cX4_differ 65 = .ok (.iload_n 3, 1) := by decide +kernel
theorem dX4_differ_66 : decode cX4_differ 66 = .ok (.i2l, 1) := by decide +kernel
theorem dX4_differ_67 : decode cX4_differ 67 = .ok (.ladd, 1) := by decide +kernel
theorem dX4_differ_68 : decode cX4_differ 68 = .ok (.iload_n 2, 1) := by decide +kernel
theorem dX4_differ_69 : decode cX4_differ 69 = .ok (.i2l, 1) := by decide +kernel
theorem dX4_differ_70 : decode cX4_differ 70 = .ok (.lsub, 1) := by decide +kernel
theorem dX4_differ_71 : decode cX4_differ 71 = .ok (.invokevirtual 75, 3) := by decide +kernel
theorem dX4_differ_74 : decode cX4_differ 74 = .ok (.istore 6, 2) := by decide +kernel
theorem dX4_differ_76 : decode cX4_differ 76 = .ok (.iload 6, 2) := by decide +kernel
theorem dX4_differ_78 : decode cX4_differ 78 = .ok (.ifCond .ge 10, 3) := by decide +kernel
theorem dX4_differ_81 : decode cX4_differ 81 = .ok (.aload_n 0, 1) := by decide +kernel
theorem dX4_differ_82 : decode cX4_differ 82 = .ok (.iload 6, 2) := by decide +kernel
theorem dX4_differ_84 : decode cX4_differ 84 = .ok (.invokevirtual 86, 3) := by decide +kernel
theorem dX4_differ_87 : decode cX4_differ 87 = .ok (.ireturn, 1) := by decide +kernel
theorem dX4_differ_88 : decode cX4_differ 88 = .ok (.aload_n 0, 1) := by decide +kernel
theorem dX4_differ_89 : decode cX4_differ 89 = .ok (.iload_n 1, 1) := by decide +kernel
theorem dX4_differ_90 : decode cX4_differ 90 = .ok (.iload_n 2, 1) := by decide +kernel
theorem dX4_differ_91 : decode cX4_differ 91 = .ok (.iload_n 3, 1) := by decide +kernel
theorem dX4_differ_92 : decode cX4_differ 92 = .ok (.aload_n 0, 1) := by decide +kernel
theorem dX4_differ_93 : decode cX4_differ 93 = .ok (.getfield 58, 3) := by decide +kernel
theorem dX4_differ_96 : decode cX4_differ 96 = .ok (.invokevirtual 134, 3) := by decide +kernel
theorem dX4_differ_99 : decode cX4_differ 99 = .ok (.aload_n 0, 1) := by decide +kernel
theorem dX4_differ_100 : decode cX4_differ 100 = .ok (.iload 4, 2) := by decide +kernel
theorem dX4_differ_102 : decode cX4_differ 102 = .ok (.iload 5, 2) := by decide +kernel
theorem dX4_differ_104 : decode cX4_differ 104 = .ok (.iload 5, 2) := by decide +kernel
theorem dX4_differ_106 : decode cX4_differ 106 = .ok (.iload_n 3, 1) := by decide +kernel
theorem dX4_differ_107 : decode cX4_differ 107 = .ok (.iadd, 1) := by decide +kernel
theorem dX4_differ_108 : decode cX4_differ 108 = .ok (.iload_n 2, 1) := by decide +kernel
theorem dX4_differ_109 : decode cX4_differ 109 = .ok (.isub, 1) := by decide +kernel
theorem dX4_differ_110 : decode cX4_differ 110 = .ok (.aload_n 0, 1) := by decide +kernel
theorem dX4_differ_111 : decode cX4_differ 111 = .ok (.getfield 61, 3) := by decide +kernel
theorem dX4_differ_114 : decode cX4_differ 114 = .ok (.invokevirtual 134, 3) := by decide +kernel
theorem dX4_differ_117 : decode cX4_differ 117 = .ok (.iconst 0, 1) := by decide +kernel
theorem dX4_differ_118 : decode cX4_differ 118 = .ok (.istore 7, 2) := by decide +kernel
theorem dX4_differ_120 : decode cX4_differ 120 = .ok (.iload 7, 2) := by decide +kernel
theorem dX4_differ_122 : decode cX4_differ 122 = .ok (.sipush 1024, 3) := by decide +kernel
theorem dX4_differ_125 : decode cX4_differ 125 = .ok (.if_icmp .ge 29, 3) := by decide +kernel
theorem dX4_differ_128 : decode cX4_differ 128 = .ok (.aload_n 0, 1) := by decide +kernel
theorem dX4_differ_129 : decode cX4_differ 129 = .ok (.getfield 58, 3) := by decide +kernel
theorem dX4_differ_132 : decode cX4_differ 132 = .ok (.iload 7, 2) := by decide +kernel
theorem dX4_differ_134 : decode cX4_differ 134 = .ok (.iaload, 1) := by decide +kernel
theorem dX4_differ_135 : decode cX4_differ 135 = .ok (.aload_n 0, 1) := by decide +kernel
theorem dX4_differ_136 : decode cX4_differ 136 = .ok (.getfield 61, 3) := by decide +kernel
theorem dX4_differ_139 : decode cX4_differ 139 = .ok (.iload 7, 2) := by decide +kernel
theorem dX4_differ_141 : decode cX4_differ 141 = .ok (.iaload, 1) := by decide +kernel
theorem dX4_differ_142 : decode cX4_differ 142 = .ok (.if_icmp .eq 6, 3) := by decide +kernel
theorem dX4_differ_145 : decode cX4_differ 145 = .ok (.iload 7, 2) := by decide +kernel
theorem dX4_differ_147 : decode cX4_differ 147 = .ok (.ireturn, 1) := by decide +kernel
theorem dX4_differ_148 : decode cX4_differ 148 = .ok (.iinc 7 1, 3) := by decide +kernel
theorem dX4_differ_151 : decode cX4_differ 151 = .ok (.goto (-31), 3) := by decide +kernel
theorem dX4_differ_154 : decode cX4_differ 154 = .ok (.aload_n 0, 1) := by decide +kernel
theorem dX4_differ_155 : decode cX4_differ 155 = .ok (.bipush (-6), 2) := by decide +kernel
theorem dX4_differ_157 : decode cX4_differ 157 = .ok (.invokevirtual 86, 3) := by decide +kernel
theorem dX4_differ_160 : decode cX4_differ 160 = .ok (.ireturn, 1) := by decide +kernel
theorem dX4_first_0 : decode cX4_first 0 = .ok (.aload_n 0, 1) := by decide +kernel
theorem dX4_first_1 : decode cX4_first 1 = .ok (.iload_n 1, 1) := by decide +kernel
theorem dX4_first_2 : decode cX4_first 2 = .ok (.invokevirtual 72, 3) := by decide +kernel
theorem dX4_first_5 : decode cX4_first 5 = .ok (.istore_n 3, 1) := by decide +kernel
theorem dX4_first_6 : decode cX4_first 6 = .ok (.iload_n 3, 1) := by decide +kernel
theorem dX4_first_7 : decode cX4_first 7 = .ok (.ifCond .ge 7, 3) := by decide +kernel
theorem dX4_first_10 : decode cX4_first 10 = .ok (.iload_n 3, 1) := by decide +kernel
theorem dX4_first_11 : decode cX4_first 11 = .ok (.goto 8, 3) := by decide +kernel
theorem dX4_first_14 : decode cX4_first 14 = .ok (.aload_n 0, 1) := by decide +kernel
theorem dX4_first_15 : decode cX4_first 15 = .ok (.iload_n 2, 1) := by decide +kernel
theorem dX4_first_16 : decode cX4_first 16 = .ok (.invokevirtual 72, 3) := by decide +kernel
theorem dX4_first_19 : decode cX4_first 19 = .ok (.istore_n 3, 1) := by decide +kernel
theorem dX4_first_20 : decode cX4_first 20 = .ok (.iload_n 3, 1) := by decide +kernel
theorem dX4_first_21 : decode cX4_first 21 = .ok (.ifCond .ge 9, 3) := by decide +kernel
theorem dX4_first_24 : decode cX4_first 24 = .ok (.aload_n 0, 1) := by decide +kernel
theorem dX4_first_25 : decode cX4_first 25 = .ok (.iload_n 3, 1) := by decide +kernel
theorem dX4_first_26 : decode cX4_first 26 = .ok (.invokevirtual 86, 3) := by decide +kernel
theorem dX4_first_29 : decode cX4_first 29 = .ok (.ireturn, 1) := by decide +kernel
theorem dX4_first_30 : decode cX4_first 30 = .ok (.aload_n 0, 1) := by decide +kernel
theorem dX4_first_31 : decode cX4_first 31 = .ok (.iload_n 1, 1) := by decide +kernel
theorem dX4_first_32 : decode cX4_first 32 = .ok (.invokevirtual 68, 3) := by decide +kernel
theorem dX4_first_35 : decode cX4_first 35 = .ok (.aload_n 0, 1) := by decide +kernel
theorem dX4_first_36 : decode cX4_first 36 = .ok (.iload_n 2, 1) := by decide +kernel
theorem dX4_first_37 : decode cX4_first 37 = .ok (.invokevirtual 68, 3) := by decide +kernel
theorem dX4_first_40 : decode cX4_first 40 = .ok (.invokestatic 153, 3) := by decide +kernel
theorem dX4_first_43 : decode cX4_first 43 = .ok (.istore 4, 2) := by decide +kernel
theorem dX4_first_45 : decode cX4_first 45 = .ok (.iconst 0, 1) := by decide +kernel
theorem dX4_first_46 : decode cX4_first 46 = .ok (.istore 5, 2) := by decide +kernel
theorem dX4_first_48 : decode cX4_first 48 = .ok (.iload 5, 2) := by decide +kernel
theorem dX4_first_50 : decode cX4_first 50 = .ok (.iload 4, 2) := by decide +kernel
theorem dX4_first_52 : decode cX4_first 52 = .ok (.if_icmp .ge 46, 3) := by decide +kernel
theorem dX4_first_55 : decode cX4_first 55 = .ok (.aload_n 0, 1) := by decide +kernel
theorem dX4_first_56 : decode cX4_first 56 = .ok (.iload_n 1, 1) := by decide +kernel
theorem dX4_first_57 : decode cX4_first 57 = .ok (.iload 5, 2) := by decide +kernel
theorem dX4_first_59 : decode cX4_first 59 = .ok (.invokevirtual 103, 3) := by decide +kernel
theorem dX4_first_62 : decode cX4_first 62 = .ok (.aload_n 0, 1) := by decide +kernel
theorem dX4_first_63 : decode cX4_first 63 = .ok (.iload_n 2, 1) := by decide +kernel
theorem dX4_first_64 : decode cX4_first 64 = .ok (.iload 5, 2) := by decide +kernel
theorem dX4_first_66 : decode cX4_first 66 = .ok (.invokevirtual 103, 3) := by decide +kernel
theorem dX4_first_69 : decode cX4_first 69 = .ok (.if_icmp .ne 20, 3) := by decide +kernel
theorem dX4_first_72 : decode cX4_first 72 = .ok (.aload_n 0, 1) := by decide +kernel
theorem dX4_first_73 : decode cX4_first 73 = .ok (.iload_n 1, 1) := by decide +kernel
theorem dX4_first_74 : decode cX4_first 74 = .ok (.iload 5, 2) := by decide +kernel
theorem dX4_first_76 : decode cX4_first 76 = .ok (.invokevirtual 106, 3) := by decide +kernel
theorem dX4_first_79 : decode cX4_first 79 = .ok (.aload_n 0, 1) := by decide +kernel
theorem dX4_first_80 : decode cX4_first 80 = .ok (.iload_n 2, 1) := by decide +kernel
theorem dX4_first_81 : decode cX4_first 81 = .ok (.iload 5, 2) := by decide +kernel
theorem dX4_first_83 : decode cX4_first 83 = .ok (.invokevirtual 106, 3) := by decide +kernel
theorem dX4_first_86 : decode cX4_first 86 = .ok (.if_icmp .eq 6, 3) := by decide +kernel
theorem dX4_first_89 : decode cX4_first 89 = .ok (.iload 5, 2) := by decide +kernel
theorem dX4_first_91 : decode cX4_first 91 = .ok (.ireturn, 1) := by decide +kernel
theorem dX4_first_92 : decode cX4_first 92 = .ok (.iinc 5 1, 3) := by decide +kernel
theorem dX4_first_95 : decode cX4_first 95 = .ok (.goto (-47), 3) := by decide +kernel
theorem dX4_first_98 : decode cX4_first 98 = .ok (.aload_n 0, 1) := by decide +kernel
theorem dX4_first_99 : decode cX4_first 99 = .ok (.iload_n 1, 1) := by decide +kernel
theorem dX4_first_100 : decode cX4_first 100 = .ok (.invokevirtual 68, 3) := by decide +kernel
theorem dX4_first_103 : decode cX4_first 103 = .ok (.aload_n 0, 1) := by decide +kernel
theorem dX4_first_104 : decode cX4_first 104 = .ok (.iload_n 2, 1) := by decide +kernel
theorem dX4_first_105 : decode cX4_first 105 = .ok (.invokevirtual 68, 3) := by decide +kernel
theorem dX4_first_108 : decode cX4_first 108 = .ok (.if_icmp .ne 12, 3) := by decide +kernel
theorem dX4_first_111 : decode cX4_first 111 = .ok (.aload_n 0, 1) := by decide +kernel
theorem dX4_first_112 : decode cX4_first 112 = .ok (.bipush (-6), 2) := by decide +kernel
theorem dX4_first_114 : decode cX4_first 114 = .ok (.invokevirtual 86, 3) := by decide +kernel
theorem dX4_first_117 : decode cX4_first 117 = .ok (.goto 5, 3) := by decide +kernel
theorem dX4_first_120 : decode cX4_first 120 = .ok (.iload 4, 2) := by decide +kernel
theorem dX4_first_122 : decode cX4_first 122 = .ok (.ireturn, 1) := by decide +kernel
theorem dX4_step_0 : decode cX4_step 0 = .ok (.iload_n 1, 1) := by decide +kernel
theorem dX4_step_1 : decode cX4_step 1 = .ok (.ifCond .lt 20, 3) := by decide +kernel
theorem dX4_step_4 : decode cX4_step 4 = .ok (.iload_n 1, 1) := by decide +kernel
theorem dX4_step_5 : decode cX4_step 5 = .ok (.aload_n 0, 1) := by decide +kernel
theorem dX4_step_6 : decode cX4_step 6 = .ok (.getfield 138, 3) := by decide +kernel
theorem dX4_step_9 : decode cX4_step 9 = .ok (.if_icmp .ge 12, 3) := by decide +kernel
theorem dX4_step_12 : decode cX4_step 12 = .ok (.aload_n 0, 1) := by decide +kernel
theorem dX4_step_13 : decode cX4_step 13 = .ok (.getfield 46, 3) := by decide +kernel
theorem dX4_step_16 : decode cX4_step 16 = .ok (.iload_n 1, 1) := by decide +kernel
theorem dX4_step_17 : decode cX4_step 17 = .ok (.iaload, 1) := by decide +kernel
theorem dX4_step_18 : decode cX4_step 18 = .ok (.goto 9, 3) := by decide +kernel
theorem dX4_step_21 : decode cX4_step 21 = .ok (.aload_n 0, 1) := by decide +kernel
theorem dX4_step_22 : decode cX4_step 22 = .ok (.bipush (-6), 2) := by decide +kernel
theorem dX4_step_24 : decode cX4_step 24 = .ok (.invokevirtual 86, 3) := by decide +kernel
theorem dX4_step_27 : decode cX4_step 27 = .ok (.ireturn, 1) := by decide +kernel
theorem dX4_found_0 : decode cX4_found 0 = .ok (.iload_n 1, 1) := by decide +kernel
theorem dX4_found_1 : decode cX4_found 1 = .ok (.ifCond .ge 19, 3) := by decide +kernel
theorem dX4_found_4 : decode cX4_found 4 = .ok (.iload_n 1, 1) := by decide +kernel
theorem dX4_found_5 : decode cX4_found 5 = .ok (.bipush (-6), 2) := by decide +kernel
theorem dX4_found_7 : decode cX4_found 7 = .ok (.if_icmp .lt 13, 3) := by decide +kernel
theorem dX4_found_10 : decode cX4_found 10 = .ok (.aload_n 0, 1) := by decide +kernel
theorem dX4_found_11 : decode cX4_found 11 = .ok (.getfield 49, 3) := by decide +kernel
theorem dX4_found_14 : decode cX4_found 14 = .ok (.iload_n 1, 1) := by decide +kernel
theorem dX4_found_15 : decode cX4_found 15 = .ok (.ineg, 1) := by decide +kernel
theorem dX4_found_16 : decode cX4_found 16 = .ok (.iaload, 1) := by decide +kernel
theorem dX4_found_17 : decode cX4_found 17 = .ok (.goto 8, 3) := by decide +kernel
theorem dX4_found_20 : decode cX4_found 20 = .ok (.aload_n 0, 1) := by decide +kernel
theorem dX4_found_21 : decode cX4_found 21 = .ok (.iconst (-1), 1) := by decide +kernel
theorem dX4_found_22 : decode cX4_found 22 = .ok (.invokevirtual 86, 3) := by decide +kernel
theorem dX4_found_25 : decode cX4_found 25 = .ok (.ireturn, 1) := by decide +kernel
end
section
theorem dL_law_0 : decode cL_law 0 = .ok (.new 7, 3) := by decide +kernel
theorem dL_law_3 : decode cL_law 3 = .ok (.dup, 1) := by decide +kernel
theorem dL_law_4 : decode cL_law 4 = .ok (.invokespecial 9, 3) := by decide +kernel
theorem dL_law_7 : decode cL_law 7 = .ok (.astore_n 1, 1) := by decide +kernel
theorem dL_law_8 : decode cL_law 8 = .ok (.new 10, 3) := by decide +kernel
theorem dL_law_11 : decode cL_law 11 = .ok (.dup, 1) := by decide +kernel
theorem dL_law_12 : decode cL_law 12 = .ok (.invokespecial 12, 3) := by decide +kernel
theorem dL_law_15 : decode cL_law 15 = .ok (.astore_n 2, 1) := by decide +kernel
theorem dL_law_16 : decode cL_law 16 = .ok (.iconst 0, 1) := by decide +kernel
theorem dL_law_17 : decode cL_law 17 = .ok (.istore_n 3, 1) := by decide +kernel
theorem dL_law_18 : decode cL_law 18 = .ok (.iload_n 3, 1) := by decide +kernel
theorem dL_law_19 : decode cL_law 19 = .ok (.aload_n 0, 1) := by decide +kernel
theorem dL_law_20 : decode cL_law 20 = .ok (.arraylength, 1) := by decide +kernel
theorem dL_law_21 : decode cL_law 21 = .ok (.bipush 6, 2) := by decide +kernel
theorem dL_law_23 : decode cL_law 23 = .ok (.isub, 1) := by decide +kernel
theorem dL_law_24 : decode cL_law 24 = .ok (.if_icmp .gt 1454, 3) := by decide +kernel
theorem dL_law_27 : decode cL_law 27 = .ok (.aload_n 0, 1) := by decide +kernel
theorem dL_law_28 : decode cL_law 28 = .ok (.iload_n 3, 1) := by decide +kernel
theorem dL_law_29 : decode cL_law 29 = .ok (.iaload, 1) := by decide +kernel
theorem dL_law_30 : decode cL_law 30 = .ok (.bipush 31, 2) := by decide +kernel
theorem dL_law_32 : decode cL_law 32 = .ok (.iand, 1) := by decide +kernel
theorem dL_law_33 : decode cL_law 33 = .ok (.tableswitch 1439 0 29 #[135, 188, 231, 294, 347, 380, 413, 446, 485, 544, 577, 600, 633, 666, 700, 743, 786, 839, 892, 955, 1008, 1061, 1104, 1147, 1200, 1243, 1297, 1360, 1393, 1416], 135) := by decide +kernel
theorem dL_law_168 : decode cL_law 168 = .ok (.aload_n 1, 1) := by decide +kernel
theorem dL_law_169 : decode cL_law 169 = .ok (.aload_n 0, 1) := by decide +kernel
theorem dL_law_170 : decode cL_law 170 = .ok (.iload_n 3, 1) := by decide +kernel
theorem dL_law_171 : decode cL_law 171 = .ok (.iconst 1, 1) := by decide +kernel
theorem dL_law_172 : decode cL_law 172 = .ok (.iadd, 1) := by decide +kernel
theorem dL_law_173 : decode cL_law 173 = .ok (.iaload, 1) := by decide +kernel
theorem dL_law_174 : decode cL_law 174 = .ok (.aload_n 0, 1) := by decide +kernel
theorem dL_law_175 : decode cL_law 175 = .ok (.iload_n 3, 1) := by decide +kernel
theorem dL_law_176 : decode cL_law 176 = .ok (.iconst 2, 1) := by decide +kernel
theorem dL_law_177 : decode cL_law 177 = .ok (.iadd, 1) := by decide +kernel
theorem dL_law_178 : decode cL_law 178 = .ok (.iaload, 1) := by decide +kernel
theorem dL_law_179 : decode cL_law 179 = .ok (.aload_n 0, 1) := by decide +kernel
theorem dL_law_180 : decode cL_law 180 = .ok (.iload_n 3, 1) := by decide +kernel
theorem dL_law_181 : decode cL_law 181 = .ok (.iconst 3, 1) := by decide +kernel
theorem dL_law_182 : decode cL_law 182 = .ok (.iadd, 1) := by decide +kernel
theorem dL_law_183 : decode cL_law 183 = .ok (.iaload, 1) := by decide +kernel
theorem dL_law_184 : decode cL_law 184 = .ok (.aload_n 0, 1) := by decide +kernel
theorem dL_law_185 : decode cL_law 185 = .ok (.iload_n 3, 1) := by decide +kernel
theorem dL_law_186 : decode cL_law 186 = .ok (.iconst 4, 1) := by decide +kernel
theorem dL_law_187 : decode cL_law 187 = .ok (.iadd, 1) := by decide +kernel
theorem dL_law_188 : decode cL_law 188 = .ok (.iaload, 1) := by decide +kernel
theorem dL_law_189 : decode cL_law 189 = .ok (.invokevirtual 13, 3) := by decide +kernel
theorem dL_law_192 : decode cL_law 192 = .ok (.aload_n 2, 1) := by decide +kernel
theorem dL_law_193 : decode cL_law 193 = .ok (.aload_n 0, 1) := by decide +kernel
theorem dL_law_194 : decode cL_law 194 = .ok (.iload_n 3, 1) := by decide +kernel
theorem dL_law_195 : decode cL_law 195 = .ok (.iconst 1, 1) := by decide +kernel
theorem dL_law_196 : decode cL_law 196 = .ok (.iadd, 1) := by decide +kernel
theorem dL_law_197 : decode cL_law 197 = .ok (.iaload, 1) := by decide +kernel
theorem dL_law_198 : decode cL_law 198 = .ok (.aload_n 0, 1) := by decide +kernel
theorem dL_law_199 : decode cL_law 199 = .ok (.iload_n 3, 1) := by decide +kernel
theorem dL_law_200 : decode cL_law 200 = .ok (.iconst 2, 1) := by decide +kernel
theorem dL_law_201 : decode cL_law 201 = .ok (.iadd, 1) := by decide +kernel
theorem dL_law_202 : decode cL_law 202 = .ok (.iaload, 1) := by decide +kernel
theorem dL_law_203 : decode cL_law 203 = .ok (.aload_n 0, 1) := by decide +kernel
theorem dL_law_204 : decode cL_law 204 = .ok (.iload_n 3, 1) := by decide +kernel
theorem dL_law_205 : decode cL_law 205 = .ok (.iconst 3, 1) := by decide +kernel
theorem dL_law_206 : decode cL_law 206 = .ok (.iadd, 1) := by decide +kernel
theorem dL_law_207 : decode cL_law 207 = .ok (.iaload, 1) := by decide +kernel
theorem dL_law_208 : decode cL_law 208 = .ok (.aload_n 0, 1) := by decide +kernel
theorem dL_law_209 : decode cL_law 209 = .ok (.iload_n 3, 1) := by decide +kernel
theorem dL_law_210 : decode cL_law 210 = .ok (.iconst 4, 1) := by decide +kernel
theorem dL_law_211 : decode cL_law 211 = .ok (.iadd, 1) := by decide +kernel
theorem dL_law_212 : decode cL_law 212 = .ok (.iaload, 1) := by decide +kernel
theorem dL_law_213 : decode cL_law 213 = .ok (.invokevirtual 17, 3) := by decide +kernel
theorem dL_law_216 : decode cL_law 216 = .ok (.if_icmp .eq 1256, 3) := by decide +kernel
theorem dL_law_219 : decode cL_law 219 = .ok (.iconst 0, 1) := by decide +kernel
theorem dL_law_220 : decode cL_law 220 = .ok (.ireturn, 1) := by decide +kernel
theorem dL_law_221 : decode cL_law 221 = .ok (.aload_n 1, 1) := by decide +kernel
theorem dL_law_222 : decode cL_law 222 = .ok (.aload_n 0, 1) := by decide +kernel
theorem dL_law_223 : decode cL_law 223 = .ok (.iload_n 3, 1) := by decide +kernel
theorem dL_law_224 : decode cL_law 224 = .ok (.iconst 1, 1) := by decide +kernel
theorem dL_law_225 : decode cL_law 225 = .ok (.iadd, 1) := by decide +kernel
theorem dL_law_226 : decode cL_law 226 = .ok (.iaload, 1) := by decide +kernel
theorem dL_law_227 : decode cL_law 227 = .ok (.aload_n 0, 1) := by decide +kernel
theorem dL_law_228 : decode cL_law 228 = .ok (.iload_n 3, 1) := by decide +kernel
theorem dL_law_229 : decode cL_law 229 = .ok (.iconst 2, 1) := by decide +kernel
theorem dL_law_230 : decode cL_law 230 = .ok (.iadd, 1) := by decide +kernel
theorem dL_law_231 : decode cL_law 231 = .ok (.iaload, 1) := by decide +kernel
theorem dL_law_232 : decode cL_law 232 = .ok (.aload_n 0, 1) := by decide +kernel
theorem dL_law_233 : decode cL_law 233 = .ok (.iload_n 3, 1) := by decide +kernel
theorem dL_law_234 : decode cL_law 234 = .ok (.iconst 3, 1) := by decide +kernel
theorem dL_law_235 : decode cL_law 235 = .ok (.iadd, 1) := by decide +kernel
theorem dL_law_236 : decode cL_law 236 = .ok (.iaload, 1) := by decide +kernel
theorem dL_law_237 : decode cL_law 237 = .ok (.invokevirtual 18, 3) := by decide +kernel
theorem dL_law_240 : decode cL_law 240 = .ok (.aload_n 2, 1) := by decide +kernel
theorem dL_law_241 : decode cL_law 241 = .ok (.aload_n 0, 1) := by decide +kernel
theorem dL_law_242 : decode cL_law 242 = .ok (.iload_n 3, 1) := by decide +kernel
theorem dL_law_243 : decode cL_law 243 = .ok (.iconst 1, 1) := by decide +kernel
theorem dL_law_244 : decode cL_law 244 = .ok (.iadd, 1) := by decide +kernel
theorem dL_law_245 : decode cL_law 245 = .ok (.iaload, 1) := by decide +kernel
theorem dL_law_246 : decode cL_law 246 = .ok (.aload_n 0, 1) := by decide +kernel
theorem dL_law_247 : decode cL_law 247 = .ok (.iload_n 3, 1) := by decide +kernel
theorem dL_law_248 : decode cL_law 248 = .ok (.iconst 2, 1) := by decide +kernel
theorem dL_law_249 : decode cL_law 249 = .ok (.iadd, 1) := by decide +kernel
theorem dL_law_250 : decode cL_law 250 = .ok (.iaload, 1) := by decide +kernel
theorem dL_law_251 : decode cL_law 251 = .ok (.aload_n 0, 1) := by decide +kernel
theorem dL_law_252 : decode cL_law 252 = .ok (.iload_n 3, 1) := by decide +kernel
theorem dL_law_253 : decode cL_law 253 = .ok (.iconst 3, 1) := by decide +kernel
theorem dL_law_254 : decode cL_law 254 = .ok (.iadd, 1) := by decide +kernel
theorem dL_law_255 : decode cL_law 255 = .ok (.iaload, 1) := by decide +kernel
theorem dL_law_256 : decode cL_law 256 = .ok (.invokevirtual 22, 3) := by decide +kernel
theorem dL_law_259 : decode cL_law 259 = .ok (.if_icmp .eq 1213, 3) := by decide +kernel
theorem dL_law_262 : decode cL_law 262 = .ok (.iconst 0, 1) := by decide +kernel
theorem dL_law_263 : decode cL_law 263 = .ok (.ireturn, 1) := by decide +kernel
theorem dL_law_264 : decode cL_law 264 = .ok (.aload_n 1, 1) := by decide +kernel
theorem dL_law_265 : decode cL_law 265 = .ok (.aload_n 0, 1) := by decide +kernel
theorem dL_law_266 : decode cL_law 266 = .ok (.iload_n 3, 1) := by decide +kernel
theorem dL_law_267 : decode cL_law 267 = .ok (.iconst 1, 1) := by decide +kernel
theorem dL_law_268 : decode cL_law 268 = .ok (.iadd, 1) := by decide +kernel
theorem dL_law_269 : decode cL_law 269 = .ok (.iaload, 1) := by decide +kernel
theorem dL_law_270 : decode cL_law 270 = .ok (.aload_n 0, 1) := by decide +kernel
theorem dL_law_271 : decode cL_law 271 = .ok (.iload_n 3, 1) := by decide +kernel
theorem dL_law_272 : decode cL_law 272 = .ok (.iconst 2, 1) := by decide +kernel
theorem dL_law_273 : decode cL_law 273 = .ok (.iadd, 1) := by decide +kernel
theorem dL_law_274 : decode cL_law 274 = .ok (.iaload, 1) := by decide +kernel
theorem dL_law_275 : decode cL_law 275 = .ok (.aload_n 0, 1) := by decide +kernel
theorem dL_law_276 : decode cL_law 276 = .ok (.iload_n 3, 1) := by decide +kernel
theorem dL_law_277 : decode cL_law 277 = .ok (.iconst 3, 1) := by decide +kernel
theorem dL_law_278 : decode cL_law 278 = .ok (.iadd, 1) := by decide +kernel
theorem dL_law_279 : decode cL_law 279 = .ok (.iaload, 1) := by decide +kernel
theorem dL_law_280 : decode cL_law 280 = .ok (.aload_n 0, 1) := by decide +kernel
theorem dL_law_281 : decode cL_law 281 = .ok (.iload_n 3, 1) := by decide +kernel
theorem dL_law_282 : decode cL_law 282 = .ok (.iconst 4, 1) := by decide +kernel
theorem dL_law_283 : decode cL_law 283 = .ok (.iadd, 1) := by decide +kernel
theorem dL_law_284 : decode cL_law 284 = .ok (.iaload, 1) := by decide +kernel
theorem dL_law_285 : decode cL_law 285 = .ok (.aload_n 0, 1) := by decide +kernel
theorem dL_law_286 : decode cL_law 286 = .ok (.iload_n 3, 1) := by decide +kernel
theorem dL_law_287 : decode cL_law 287 = .ok (.iconst 5, 1) := by decide +kernel
theorem dL_law_288 : decode cL_law 288 = .ok (.iadd, 1) := by decide +kernel
theorem dL_law_289 : decode cL_law 289 = .ok (.iaload, 1) := by decide +kernel
theorem dL_law_290 : decode cL_law 290 = .ok (.invokevirtual 23, 3) := by decide +kernel
theorem dL_law_293 : decode cL_law 293 = .ok (.aload_n 2, 1) := by decide +kernel
theorem dL_law_294 : decode cL_law 294 = .ok (.aload_n 0, 1) := by decide +kernel
theorem dL_law_295 : decode cL_law 295 = .ok (.iload_n 3, 1) := by decide +kernel
theorem dL_law_296 : decode cL_law 296 = .ok (.iconst 1, 1) := by decide +kernel
theorem dL_law_297 : decode cL_law 297 = .ok (.iadd, 1) := by decide +kernel
theorem dL_law_298 : decode cL_law 298 = .ok (.iaload, 1) := by decide +kernel
theorem dL_law_299 : decode cL_law 299 = .ok (.aload_n 0, 1) := by decide +kernel
theorem dL_law_300 : decode cL_law 300 = .ok (.iload_n 3, 1) := by decide +kernel
theorem dL_law_301 : decode cL_law 301 = .ok (.iconst 2, 1) := by decide +kernel
theorem dL_law_302 : decode cL_law 302 = .ok (.iadd, 1) := by decide +kernel
theorem dL_law_303 : decode cL_law 303 = .ok (.iaload, 1) := by decide +kernel
theorem dL_law_304 : decode cL_law 304 = .ok (.aload_n 0, 1) := by decide +kernel
theorem dL_law_305 : decode cL_law 305 = .ok (.iload_n 3, 1) := by decide +kernel
theorem dL_law_306 : decode cL_law 306 = .ok (.iconst 3, 1) := by decide +kernel
theorem dL_law_307 : decode cL_law 307 = .ok (.iadd, 1) := by decide +kernel
theorem dL_law_308 : decode cL_law 308 = .ok (.iaload, 1) := by decide +kernel
theorem dL_law_309 : decode cL_law 309 = .ok (.aload_n 0, 1) := by decide +kernel
theorem dL_law_310 : decode cL_law 310 = .ok (.iload_n 3, 1) := by decide +kernel
theorem dL_law_311 : decode cL_law 311 = .ok (.iconst 4, 1) := by decide +kernel
theorem dL_law_312 : decode cL_law 312 = .ok (.iadd, 1) := by decide +kernel
theorem dL_law_313 : decode cL_law 313 = .ok (.iaload, 1) := by decide +kernel
theorem dL_law_314 : decode cL_law 314 = .ok (.aload_n 0, 1) := by decide +kernel
theorem dL_law_315 : decode cL_law 315 = .ok (.iload_n 3, 1) := by decide +kernel
theorem dL_law_316 : decode cL_law 316 = .ok (.iconst 5, 1) := by decide +kernel
theorem dL_law_317 : decode cL_law 317 = .ok (.iadd, 1) := by decide +kernel
theorem dL_law_318 : decode cL_law 318 = .ok (.iaload, 1) := by decide +kernel
theorem dL_law_319 : decode cL_law 319 = .ok (.invokevirtual 27, 3) := by decide +kernel
theorem dL_law_322 : decode cL_law 322 = .ok (.if_icmp .eq 1150, 3) := by decide +kernel
theorem dL_law_325 : decode cL_law 325 = .ok (.iconst 0, 1) := by decide +kernel
theorem dL_law_326 : decode cL_law 326 = .ok (.ireturn, 1) := by decide +kernel
theorem dL_law_327 : decode cL_law 327 = .ok (.aload_n 1, 1) := by decide +kernel
theorem dL_law_328 : decode cL_law 328 = .ok (.aload_n 0, 1) := by decide +kernel
theorem dL_law_329 : decode cL_law 329 = .ok (.iload_n 3, 1) := by decide +kernel
theorem dL_law_330 : decode cL_law 330 = .ok (.iconst 1, 1) := by decide +kernel
theorem dL_law_331 : decode cL_law 331 = .ok (.iadd, 1) := by decide +kernel
theorem dL_law_332 : decode cL_law 332 = .ok (.iaload, 1) := by decide +kernel
theorem dL_law_333 : decode cL_law 333 = .ok (.aload_n 0, 1) := by decide +kernel
theorem dL_law_334 : decode cL_law 334 = .ok (.iload_n 3, 1) := by decide +kernel
theorem dL_law_335 : decode cL_law 335 = .ok (.iconst 2, 1) := by decide +kernel
theorem dL_law_336 : decode cL_law 336 = .ok (.iadd, 1) := by decide +kernel
theorem dL_law_337 : decode cL_law 337 = .ok (.iaload, 1) := by decide +kernel
theorem dL_law_338 : decode cL_law 338 = .ok (.aload_n 0, 1) := by decide +kernel
theorem dL_law_339 : decode cL_law 339 = .ok (.iload_n 3, 1) := by decide +kernel
theorem dL_law_340 : decode cL_law 340 = .ok (.iconst 3, 1) := by decide +kernel
theorem dL_law_341 : decode cL_law 341 = .ok (.iadd, 1) := by decide +kernel
theorem dL_law_342 : decode cL_law 342 = .ok (.iaload, 1) := by decide +kernel
theorem dL_law_343 : decode cL_law 343 = .ok (.aload_n 0, 1) := by decide +kernel
theorem dL_law_344 : decode cL_law 344 = .ok (.iload_n 3, 1) := by decide +kernel
theorem dL_law_345 : decode cL_law 345 = .ok (.iconst 4, 1) := by decide +kernel
theorem dL_law_346 : decode cL_law 346 = .ok (.iadd, 1) := by decide +kernel
theorem dL_law_347 : decode cL_law 347 = .ok (.iaload, 1) := by decide +kernel
theorem dL_law_348 : decode cL_law 348 = .ok (.invokevirtual 28, 3) := by decide +kernel
theorem dL_law_351 : decode cL_law 351 = .ok (.aload_n 2, 1) := by decide +kernel
theorem dL_law_352 : decode cL_law 352 = .ok (.aload_n 0, 1) := by decide +kernel
theorem dL_law_353 : decode cL_law 353 = .ok (.iload_n 3, 1) := by decide +kernel
theorem dL_law_354 : decode cL_law 354 = .ok (.iconst 1, 1) := by decide +kernel
theorem dL_law_355 : decode cL_law 355 = .ok (.iadd, 1) := by decide +kernel
theorem dL_law_356 : decode cL_law 356 = .ok (.iaload, 1) := by decide +kernel
theorem dL_law_357 : decode cL_law 357 = .ok (.aload_n 0, 1) := by decide +kernel
theorem dL_law_358 : decode cL_law 358 = .ok (.iload_n 3, 1) := by decide +kernel
theorem dL_law_359 : decode cL_law 359 = .ok (.iconst 2, 1) := by decide +kernel
theorem dL_law_360 : decode cL_law 360 = .ok (.iadd, 1) := by decide +kernel
theorem dL_law_361 : decode cL_law 361 = .ok (.iaload, 1) := by decide +kernel
theorem dL_law_362 : decode cL_law 362 = .ok (.aload_n 0, 1) := by decide +kernel
theorem dL_law_363 : decode cL_law 363 = .ok (.iload_n 3, 1) := by decide +kernel
theorem dL_law_364 : decode cL_law 364 = .ok (.iconst 3, 1) := by decide +kernel
theorem dL_law_365 : decode cL_law 365 = .ok (.iadd, 1) := by decide +kernel
theorem dL_law_366 : decode cL_law 366 = .ok (.iaload, 1) := by decide +kernel
theorem dL_law_367 : decode cL_law 367 = .ok (.aload_n 0, 1) := by decide +kernel
theorem dL_law_368 : decode cL_law 368 = .ok (.iload_n 3, 1) := by decide +kernel
theorem dL_law_369 : decode cL_law 369 = .ok (.iconst 4, 1) := by decide +kernel
theorem dL_law_370 : decode cL_law 370 = .ok (.iadd, 1) := by decide +kernel
theorem dL_law_371 : decode cL_law 371 = .ok (.iaload, 1) := by decide +kernel
theorem dL_law_372 : decode cL_law 372 = .ok (.invokevirtual 31, 3) := by decide +kernel
theorem dL_law_375 : decode cL_law 375 = .ok (.if_icmp .eq 1097, 3) := by decide +kernel
theorem dL_law_378 : decode cL_law 378 = .ok (.iconst 0, 1) := by decide +kernel
theorem dL_law_379 : decode cL_law 379 = .ok (.ireturn, 1) := by decide +kernel
theorem dL_law_380 : decode cL_law 380 = .ok (.aload_n 1, 1) := by decide +kernel
theorem dL_law_381 : decode cL_law 381 = .ok (.aload_n 0, 1) := by decide +kernel
theorem dL_law_382 : decode cL_law 382 = .ok (.iload_n 3, 1) := by decide +kernel
theorem dL_law_383 : decode cL_law 383 = .ok (.iconst 1, 1) := by decide +kernel
theorem dL_law_384 : decode cL_law 384 = .ok (.iadd, 1) := by decide +kernel
theorem dL_law_385 : decode cL_law 385 = .ok (.iaload, 1) := by decide +kernel
theorem dL_law_386 : decode cL_law 386 = .ok (.aload_n 0, 1) := by decide +kernel
theorem dL_law_387 : decode cL_law 387 = .ok (.iload_n 3, 1) := by decide +kernel
theorem dL_law_388 : decode cL_law 388 = .ok (.iconst 2, 1) := by decide +kernel
theorem dL_law_389 : decode cL_law 389 = .ok (.iadd, 1) := by decide +kernel
theorem dL_law_390 : decode cL_law 390 = .ok (.iaload, 1) := by decide +kernel
theorem dL_law_391 : decode cL_law 391 = .ok (.invokevirtual 32, 3) := by decide +kernel
theorem dL_law_394 : decode cL_law 394 = .ok (.aload_n 2, 1) := by decide +kernel
theorem dL_law_395 : decode cL_law 395 = .ok (.aload_n 0, 1) := by decide +kernel
theorem dL_law_396 : decode cL_law 396 = .ok (.iload_n 3, 1) := by decide +kernel
theorem dL_law_397 : decode cL_law 397 = .ok (.iconst 1, 1) := by decide +kernel
theorem dL_law_398 : decode cL_law 398 = .ok (.iadd, 1) := by decide +kernel
theorem dL_law_399 : decode cL_law 399 = .ok (.iaload, 1) := by decide +kernel
theorem dL_law_400 : decode cL_law 400 = .ok (.aload_n 0, 1) := by decide +kernel
theorem dL_law_401 : decode cL_law 401 = .ok (.iload_n 3, 1) := by decide +kernel
theorem dL_law_402 : decode cL_law 402 = .ok (.iconst 2, 1) := by decide +kernel
theorem dL_law_403 : decode cL_law 403 = .ok (.iadd, 1) := by decide +kernel
theorem dL_law_404 : decode cL_law 404 = .ok (.iaload, 1) := by decide +kernel
theorem dL_law_405 : decode cL_law 405 = .ok (.invokevirtual 36, 3) := by decide +kernel
theorem dL_law_408 : decode cL_law 408 = .ok (.if_icmp .eq 1064, 3) := by decide +kernel
theorem dL_law_411 : decode cL_law 411 = .ok (.iconst 0, 1) := by decide +kernel
theorem dL_law_412 : decode cL_law 412 = .ok (.ireturn, 1) := by decide +kernel
theorem dL_law_413 : decode cL_law 413 = .ok (.aload_n 1, 1) := by decide +kernel
theorem dL_law_414 : decode cL_law 414 = .ok (.aload_n 0, 1) := by decide +kernel
theorem dL_law_415 : decode cL_law 415 = .ok (.iload_n 3, 1) := by decide +kernel
theorem dL_law_416 : decode cL_law 416 = .ok (.iconst 1, 1) := by decide +kernel
theorem dL_law_417 : decode cL_law 417 = .ok (.iadd, 1) := by decide +kernel
theorem dL_law_418 : decode cL_law 418 = .ok (.iaload, 1) := by decide +kernel
theorem dL_law_419 : decode cL_law 419 = .ok (.aload_n 0, 1) := by decide +kernel
theorem dL_law_420 : decode cL_law 420 = .ok (.iload_n 3, 1) := by decide +kernel
theorem dL_law_421 : decode cL_law 421 = .ok (.iconst 2, 1) := by decide +kernel
theorem dL_law_422 : decode cL_law 422 = .ok (.iadd, 1) := by decide +kernel
theorem dL_law_423 : decode cL_law 423 = .ok (.iaload, 1) := by decide +kernel
theorem dL_law_424 : decode cL_law 424 = .ok (.invokevirtual 37, 3) := by decide +kernel
theorem dL_law_427 : decode cL_law 427 = .ok (.aload_n 2, 1) := by decide +kernel
theorem dL_law_428 : decode cL_law 428 = .ok (.aload_n 0, 1) := by decide +kernel
theorem dL_law_429 : decode cL_law 429 = .ok (.iload_n 3, 1) := by decide +kernel
theorem dL_law_430 : decode cL_law 430 = .ok (.iconst 1, 1) := by decide +kernel
theorem dL_law_431 : decode cL_law 431 = .ok (.iadd, 1) := by decide +kernel
theorem dL_law_432 : decode cL_law 432 = .ok (.iaload, 1) := by decide +kernel
theorem dL_law_433 : decode cL_law 433 = .ok (.aload_n 0, 1) := by decide +kernel
theorem dL_law_434 : decode cL_law 434 = .ok (.iload_n 3, 1) := by decide +kernel
theorem dL_law_435 : decode cL_law 435 = .ok (.iconst 2, 1) := by decide +kernel
theorem dL_law_436 : decode cL_law 436 = .ok (.iadd, 1) := by decide +kernel
theorem dL_law_437 : decode cL_law 437 = .ok (.iaload, 1) := by decide +kernel
theorem dL_law_438 : decode cL_law 438 = .ok (.invokevirtual 40, 3) := by decide +kernel
theorem dL_law_441 : decode cL_law 441 = .ok (.if_icmp .eq 1031, 3) := by decide +kernel
theorem dL_law_444 : decode cL_law 444 = .ok (.iconst 0, 1) := by decide +kernel
theorem dL_law_445 : decode cL_law 445 = .ok (.ireturn, 1) := by decide +kernel
theorem dL_law_446 : decode cL_law 446 = .ok (.aload_n 1, 1) := by decide +kernel
theorem dL_law_447 : decode cL_law 447 = .ok (.aload_n 0, 1) := by decide +kernel
theorem dL_law_448 : decode cL_law 448 = .ok (.iload_n 3, 1) := by decide +kernel
theorem dL_law_449 : decode cL_law 449 = .ok (.iconst 1, 1) := by decide +kernel
theorem dL_law_450 : decode cL_law 450 = .ok (.iadd, 1) := by decide +kernel
theorem dL_law_451 : decode cL_law 451 = .ok (.iaload, 1) := by decide +kernel
theorem dL_law_452 : decode cL_law 452 = .ok (.aload_n 0, 1) := by decide +kernel
theorem dL_law_453 : decode cL_law 453 = .ok (.iload_n 3, 1) := by decide +kernel
theorem dL_law_454 : decode cL_law 454 = .ok (.iconst 2, 1) := by decide +kernel
theorem dL_law_455 : decode cL_law 455 = .ok (.iadd, 1) := by decide +kernel
theorem dL_law_456 : decode cL_law 456 = .ok (.iaload, 1) := by decide +kernel
theorem dL_law_457 : decode cL_law 457 = .ok (.invokevirtual 41, 3) := by decide +kernel
theorem dL_law_460 : decode cL_law 460 = .ok (.aload_n 2, 1) := by decide +kernel
theorem dL_law_461 : decode cL_law 461 = .ok (.aload_n 0, 1) := by decide +kernel
theorem dL_law_462 : decode cL_law 462 = .ok (.iload_n 3, 1) := by decide +kernel
theorem dL_law_463 : decode cL_law 463 = .ok (.iconst 1, 1) := by decide +kernel
theorem dL_law_464 : decode cL_law 464 = .ok (.iadd, 1) := by decide +kernel
theorem dL_law_465 : decode cL_law 465 = .ok (.iaload, 1) := by decide +kernel
theorem dL_law_466 : decode cL_law 466 = .ok (.aload_n 0, 1) := by decide +kernel
theorem dL_law_467 : decode cL_law 467 = .ok (.iload_n 3, 1) := by decide +kernel
theorem dL_law_468 : decode cL_law 468 = .ok (.iconst 2, 1) := by decide +kernel
theorem dL_law_469 : decode cL_law 469 = .ok (.iadd, 1) := by decide +kernel
theorem dL_law_470 : decode cL_law 470 = .ok (.iaload, 1) := by decide +kernel
theorem dL_law_471 : decode cL_law 471 = .ok (.invokevirtual 44, 3) := by decide +kernel
theorem dL_law_474 : decode cL_law 474 = .ok (.if_icmp .eq 998, 3) := by decide +kernel
theorem dL_law_477 : decode cL_law 477 = .ok (.iconst 0, 1) := by decide +kernel
theorem dL_law_478 : decode cL_law 478 = .ok (.ireturn, 1) := by decide +kernel
theorem dL_law_479 : decode cL_law 479 = .ok (.aload_n 1, 1) := by decide +kernel
theorem dL_law_480 : decode cL_law 480 = .ok (.aload_n 0, 1) := by decide +kernel
theorem dL_law_481 : decode cL_law 481 = .ok (.iload_n 3, 1) := by decide +kernel
theorem dL_law_482 : decode cL_law 482 = .ok (.iconst 1, 1) := by decide +kernel
theorem dL_law_483 : decode cL_law 483 = .ok (.iadd, 1) := by decide +kernel
theorem dL_law_484 : decode cL_law 484 = .ok (.iaload, 1) := by decide +kernel
theorem dL_law_485 : decode cL_law 485 = .ok (.ifCond .eq 7, 3) := by decide +kernel
theorem dL_law_488 : decode cL_law 488 = .ok (.iconst 1, 1) := by decide +kernel
theorem dL_law_489 : decode cL_law 489 = .ok (.goto 4, 3) := by decide +kernel
theorem dL_law_492 : decode cL_law 492 = .ok (.iconst 0, 1) := by decide +kernel
theorem dL_law_493 : decode cL_law 493 = .ok (.invokevirtual 45, 3) := by decide +kernel
theorem dL_law_496 : decode cL_law 496 = .ok (.aload_n 2, 1) := by decide +kernel
theorem dL_law_497 : decode cL_law 497 = .ok (.aload_n 0, 1) := by decide +kernel
theorem dL_law_498 : decode cL_law 498 = .ok (.iload_n 3, 1) := by decide +kernel
theorem dL_law_499 : decode cL_law 499 = .ok (.iconst 1, 1) := by decide +kernel
theorem dL_law_500 : decode cL_law 500 = .ok (.iadd, 1) := by decide +kernel
theorem dL_law_501 : decode cL_law 501 = .ok (.iaload, 1) := by decide +kernel
theorem dL_law_502 : decode cL_law 502 = .ok (.ifCond .eq 7, 3) := by decide +kernel
theorem dL_law_505 : decode cL_law 505 = .ok (.iconst 1, 1) := by decide +kernel
theorem dL_law_506 : decode cL_law 506 = .ok (.goto 4, 3) := by decide +kernel
theorem dL_law_509 : decode cL_law 509 = .ok (.iconst 0, 1) := by decide +kernel
theorem dL_law_510 : decode cL_law 510 = .ok (.invokevirtual 49, 3) := by decide +kernel
theorem dL_law_513 : decode cL_law 513 = .ok (.if_icmp .eq 959, 3) := by decide +kernel
theorem dL_law_516 : decode cL_law 516 = .ok (.iconst 0, 1) := by decide +kernel
theorem dL_law_517 : decode cL_law 517 = .ok (.ireturn, 1) := by decide +kernel
theorem dL_law_518 : decode cL_law 518 = .ok (.aload_n 1, 1) := by decide +kernel
theorem dL_law_519 : decode cL_law 519 = .ok (.aload_n 0, 1) := by decide +kernel
theorem dL_law_520 : decode cL_law 520 = .ok (.iload_n 3, 1) := by decide +kernel
theorem dL_law_521 : decode cL_law 521 = .ok (.iconst 1, 1) := by decide +kernel
theorem dL_law_522 : decode cL_law 522 = .ok (.iadd, 1) := by decide +kernel
theorem dL_law_523 : decode cL_law 523 = .ok (.iaload, 1) := by decide +kernel
theorem dL_law_524 : decode cL_law 524 = .ok (.aload_n 0, 1) := by decide +kernel
theorem dL_law_525 : decode cL_law 525 = .ok (.iload_n 3, 1) := by decide +kernel
theorem dL_law_526 : decode cL_law 526 = .ok (.iconst 2, 1) := by decide +kernel
theorem dL_law_527 : decode cL_law 527 = .ok (.iadd, 1) := by decide +kernel
theorem dL_law_528 : decode cL_law 528 = .ok (.iaload, 1) := by decide +kernel
theorem dL_law_529 : decode cL_law 529 = .ok (.aload_n 0, 1) := by decide +kernel
theorem dL_law_530 : decode cL_law 530 = .ok (.iload_n 3, 1) := by decide +kernel
theorem dL_law_531 : decode cL_law 531 = .ok (.iconst 3, 1) := by decide +kernel
theorem dL_law_532 : decode cL_law 532 = .ok (.iadd, 1) := by decide +kernel
theorem dL_law_533 : decode cL_law 533 = .ok (.iaload, 1) := by decide +kernel
theorem dL_law_534 : decode cL_law 534 = .ok (.ifCond .eq 7, 3) := by decide +kernel
theorem dL_law_537 : decode cL_law 537 = .ok (.iconst 1, 1) := by decide +kernel
theorem dL_law_538 : decode cL_law 538 = .ok (.goto 4, 3) := by decide +kernel
theorem dL_law_541 : decode cL_law 541 = .ok (.iconst 0, 1) := by decide +kernel
theorem dL_law_542 : decode cL_law 542 = .ok (.invokevirtual 50, 3) := by decide +kernel
theorem dL_law_545 : decode cL_law 545 = .ok (.aload_n 2, 1) := by decide +kernel
theorem dL_law_546 : decode cL_law 546 = .ok (.aload_n 0, 1) := by decide +kernel
theorem dL_law_547 : decode cL_law 547 = .ok (.iload_n 3, 1) := by decide +kernel
theorem dL_law_548 : decode cL_law 548 = .ok (.iconst 1, 1) := by decide +kernel
theorem dL_law_549 : decode cL_law 549 = .ok (.iadd, 1) := by decide +kernel
theorem dL_law_550 : decode cL_law 550 = .ok (.iaload, 1) := by decide +kernel
theorem dL_law_551 : decode cL_law 551 = .ok (.aload_n 0, 1) := by decide +kernel
theorem dL_law_552 : decode cL_law 552 = .ok (.iload_n 3, 1) := by decide +kernel
theorem dL_law_553 : decode cL_law 553 = .ok (.iconst 2, 1) := by decide +kernel
theorem dL_law_554 : decode cL_law 554 = .ok (.iadd, 1) := by decide +kernel
theorem dL_law_555 : decode cL_law 555 = .ok (.iaload, 1) := by decide +kernel
theorem dL_law_556 : decode cL_law 556 = .ok (.aload_n 0, 1) := by decide +kernel
theorem dL_law_557 : decode cL_law 557 = .ok (.iload_n 3, 1) := by decide +kernel
theorem dL_law_558 : decode cL_law 558 = .ok (.iconst 3, 1) := by decide +kernel
theorem dL_law_559 : decode cL_law 559 = .ok (.iadd, 1) := by decide +kernel
theorem dL_law_560 : decode cL_law 560 = .ok (.iaload, 1) := by decide +kernel
theorem dL_law_561 : decode cL_law 561 = .ok (.ifCond .eq 7, 3) := by decide +kernel
theorem dL_law_564 : decode cL_law 564 = .ok (.iconst 1, 1) := by decide +kernel
theorem dL_law_565 : decode cL_law 565 = .ok (.goto 4, 3) := by decide +kernel
theorem dL_law_568 : decode cL_law 568 = .ok (.iconst 0, 1) := by decide +kernel
theorem dL_law_569 : decode cL_law 569 = .ok (.invokevirtual 54, 3) := by decide +kernel
theorem dL_law_572 : decode cL_law 572 = .ok (.if_icmp .eq 900, 3) := by decide +kernel
theorem dL_law_575 : decode cL_law 575 = .ok (.iconst 0, 1) := by decide +kernel
theorem dL_law_576 : decode cL_law 576 = .ok (.ireturn, 1) := by decide +kernel
theorem dL_law_577 : decode cL_law 577 = .ok (.aload_n 1, 1) := by decide +kernel
theorem dL_law_578 : decode cL_law 578 = .ok (.aload_n 0, 1) := by decide +kernel
theorem dL_law_579 : decode cL_law 579 = .ok (.iload_n 3, 1) := by decide +kernel
theorem dL_law_580 : decode cL_law 580 = .ok (.iconst 1, 1) := by decide +kernel
theorem dL_law_581 : decode cL_law 581 = .ok (.iadd, 1) := by decide +kernel
theorem dL_law_582 : decode cL_law 582 = .ok (.iaload, 1) := by decide +kernel
theorem dL_law_583 : decode cL_law 583 = .ok (.aload_n 0, 1) := by decide +kernel
theorem dL_law_584 : decode cL_law 584 = .ok (.iload_n 3, 1) := by decide +kernel
theorem dL_law_585 : decode cL_law 585 = .ok (.iconst 2, 1) := by decide +kernel
theorem dL_law_586 : decode cL_law 586 = .ok (.iadd, 1) := by decide +kernel
theorem dL_law_587 : decode cL_law 587 = .ok (.iaload, 1) := by decide +kernel
theorem dL_law_588 : decode cL_law 588 = .ok (.invokevirtual 55, 3) := by decide +kernel
theorem dL_law_591 : decode cL_law 591 = .ok (.aload_n 2, 1) := by decide +kernel
theorem dL_law_592 : decode cL_law 592 = .ok (.aload_n 0, 1) := by decide +kernel
theorem dL_law_593 : decode cL_law 593 = .ok (.iload_n 3, 1) := by decide +kernel
theorem dL_law_594 : decode cL_law 594 = .ok (.iconst 1, 1) := by decide +kernel
theorem dL_law_595 : decode cL_law 595 = .ok (.iadd, 1) := by decide +kernel
theorem dL_law_596 : decode cL_law 596 = .ok (.iaload, 1) := by decide +kernel
theorem dL_law_597 : decode cL_law 597 = .ok (.aload_n 0, 1) := by decide +kernel
theorem dL_law_598 : decode cL_law 598 = .ok (.iload_n 3, 1) := by decide +kernel
theorem dL_law_599 : decode cL_law 599 = .ok (.iconst 2, 1) := by decide +kernel
theorem dL_law_600 : decode cL_law 600 = .ok (.iadd, 1) := by decide +kernel
theorem dL_law_601 : decode cL_law 601 = .ok (.iaload, 1) := by decide +kernel
theorem dL_law_602 : decode cL_law 602 = .ok (.invokevirtual 58, 3) := by decide +kernel
theorem dL_law_605 : decode cL_law 605 = .ok (.if_icmp .eq 867, 3) := by decide +kernel
theorem dL_law_608 : decode cL_law 608 = .ok (.iconst 0, 1) := by decide +kernel
theorem dL_law_609 : decode cL_law 609 = .ok (.ireturn, 1) := by decide +kernel
theorem dL_law_610 : decode cL_law 610 = .ok (.aload_n 1, 1) := by decide +kernel
theorem dL_law_611 : decode cL_law 611 = .ok (.aload_n 0, 1) := by decide +kernel
theorem dL_law_612 : decode cL_law 612 = .ok (.iload_n 3, 1) := by decide +kernel
theorem dL_law_613 : decode cL_law 613 = .ok (.iconst 1, 1) := by decide +kernel
theorem dL_law_614 : decode cL_law 614 = .ok (.iadd, 1) := by decide +kernel
theorem dL_law_615 : decode cL_law 615 = .ok (.iaload, 1) := by decide +kernel
theorem dL_law_616 : decode cL_law 616 = .ok (.invokevirtual 59, 3) := by decide +kernel
theorem dL_law_619 : decode cL_law 619 = .ok (.aload_n 2, 1) := by decide +kernel
theorem dL_law_620 : decode cL_law 620 = .ok (.aload_n 0, 1) := by decide +kernel
theorem dL_law_621 : decode cL_law 621 = .ok (.iload_n 3, 1) := by decide +kernel
theorem dL_law_622 : decode cL_law 622 = .ok (.iconst 1, 1) := by decide +kernel
theorem dL_law_623 : decode cL_law 623 = .ok (.iadd, 1) := by decide +kernel
theorem dL_law_624 : decode cL_law 624 = .ok (.iaload, 1) := by decide +kernel
theorem dL_law_625 : decode cL_law 625 = .ok (.invokevirtual 63, 3) := by decide +kernel
theorem dL_law_628 : decode cL_law 628 = .ok (.if_icmp .eq 844, 3) := by decide +kernel
theorem dL_law_631 : decode cL_law 631 = .ok (.iconst 0, 1) := by decide +kernel
theorem dL_law_632 : decode cL_law 632 = .ok (.ireturn, 1) := by decide +kernel
theorem dL_law_633 : decode cL_law 633 = .ok (.aload_n 1, 1) := by decide +kernel
theorem dL_law_634 : decode cL_law 634 = .ok (.aload_n 0, 1) := by decide +kernel
theorem dL_law_635 : decode cL_law 635 = .ok (.iload_n 3, 1) := by decide +kernel
theorem dL_law_636 : decode cL_law 636 = .ok (.iconst 1, 1) := by decide +kernel
theorem dL_law_637 : decode cL_law 637 = .ok (.iadd, 1) := by decide +kernel
theorem dL_law_638 : decode cL_law 638 = .ok (.iaload, 1) := by decide +kernel
theorem dL_law_639 : decode cL_law 639 = .ok (.aload_n 0, 1) := by decide +kernel
theorem dL_law_640 : decode cL_law 640 = .ok (.iload_n 3, 1) := by decide +kernel
theorem dL_law_641 : decode cL_law 641 = .ok (.iconst 2, 1) := by decide +kernel
theorem dL_law_642 : decode cL_law 642 = .ok (.iadd, 1) := by decide +kernel
theorem dL_law_643 : decode cL_law 643 = .ok (.iaload, 1) := by decide +kernel
theorem dL_law_644 : decode cL_law 644 = .ok (.invokevirtual 64, 3) := by decide +kernel
theorem dL_law_647 : decode cL_law 647 = .ok (.aload_n 2, 1) := by decide +kernel
theorem dL_law_648 : decode cL_law 648 = .ok (.aload_n 0, 1) := by decide +kernel
theorem dL_law_649 : decode cL_law 649 = .ok (.iload_n 3, 1) := by decide +kernel
theorem dL_law_650 : decode cL_law 650 = .ok (.iconst 1, 1) := by decide +kernel
theorem dL_law_651 : decode cL_law 651 = .ok (.iadd, 1) := by decide +kernel
theorem dL_law_652 : decode cL_law 652 = .ok (.iaload, 1) := by decide +kernel
theorem dL_law_653 : decode cL_law 653 = .ok (.aload_n 0, 1) := by decide +kernel
theorem dL_law_654 : decode cL_law 654 = .ok (.iload_n 3, 1) := by decide +kernel
theorem dL_law_655 : decode cL_law 655 = .ok (.iconst 2, 1) := by decide +kernel
theorem dL_law_656 : decode cL_law 656 = .ok (.iadd, 1) := by decide +kernel
theorem dL_law_657 : decode cL_law 657 = .ok (.iaload, 1) := by decide +kernel
theorem dL_law_658 : decode cL_law 658 = .ok (.invokevirtual 67, 3) := by decide +kernel
theorem dL_law_661 : decode cL_law 661 = .ok (.if_icmp .eq 811, 3) := by decide +kernel
theorem dL_law_664 : decode cL_law 664 = .ok (.iconst 0, 1) := by decide +kernel
theorem dL_law_665 : decode cL_law 665 = .ok (.ireturn, 1) := by decide +kernel
theorem dL_law_666 : decode cL_law 666 = .ok (.aload_n 1, 1) := by decide +kernel
theorem dL_law_667 : decode cL_law 667 = .ok (.aload_n 0, 1) := by decide +kernel
theorem dL_law_668 : decode cL_law 668 = .ok (.iload_n 3, 1) := by decide +kernel
theorem dL_law_669 : decode cL_law 669 = .ok (.iconst 1, 1) := by decide +kernel
theorem dL_law_670 : decode cL_law 670 = .ok (.iadd, 1) := by decide +kernel
theorem dL_law_671 : decode cL_law 671 = .ok (.iaload, 1) := by decide +kernel
theorem dL_law_672 : decode cL_law 672 = .ok (.aload_n 0, 1) := by decide +kernel
theorem dL_law_673 : decode cL_law 673 = .ok (.iload_n 3, 1) := by decide +kernel
theorem dL_law_674 : decode cL_law 674 = .ok (.iconst 2, 1) := by decide +kernel
theorem dL_law_675 : decode cL_law 675 = .ok (.iadd, 1) := by decide +kernel
theorem dL_law_676 : decode cL_law 676 = .ok (.iaload, 1) := by decide +kernel
theorem dL_law_677 : decode cL_law 677 = .ok (.invokevirtual 68, 3) := by decide +kernel
theorem dL_law_680 : decode cL_law 680 = .ok (.aload_n 2, 1) := by decide +kernel
theorem dL_law_681 : decode cL_law 681 = .ok (.aload_n 0, 1) := by decide +kernel
theorem dL_law_682 : decode cL_law 682 = .ok (.iload_n 3, 1) := by decide +kernel
theorem dL_law_683 : decode cL_law 683 = .ok (.iconst 1, 1) := by decide +kernel
theorem dL_law_684 : decode cL_law 684 = .ok (.iadd, 1) := by decide +kernel
theorem dL_law_685 : decode cL_law 685 = .ok (.iaload, 1) := by decide +kernel
theorem dL_law_686 : decode cL_law 686 = .ok (.aload_n 0, 1) := by decide +kernel
theorem dL_law_687 : decode cL_law 687 = .ok (.iload_n 3, 1) := by decide +kernel
theorem dL_law_688 : decode cL_law 688 = .ok (.iconst 2, 1) := by decide +kernel
theorem dL_law_689 : decode cL_law 689 = .ok (.iadd, 1) := by decide +kernel
theorem dL_law_690 : decode cL_law 690 = .ok (.iaload, 1) := by decide +kernel
theorem dL_law_691 : decode cL_law 691 = .ok (.invokevirtual 71, 3) := by decide +kernel
theorem dL_law_694 : decode cL_law 694 = .ok (.if_icmp .eq 778, 3) := by decide +kernel
theorem dL_law_697 : decode cL_law 697 = .ok (.iconst 0, 1) := by decide +kernel
theorem dL_law_698 : decode cL_law 698 = .ok (.ireturn, 1) := by decide +kernel
theorem dL_law_699 : decode cL_law 699 = .ok (.aload_n 1, 1) := by decide +kernel
theorem dL_law_700 : decode cL_law 700 = .ok (.aload_n 0, 1) := by decide +kernel
theorem dL_law_701 : decode cL_law 701 = .ok (.iload_n 3, 1) := by decide +kernel
theorem dL_law_702 : decode cL_law 702 = .ok (.iconst 1, 1) := by decide +kernel
theorem dL_law_703 : decode cL_law 703 = .ok (.iadd, 1) := by decide +kernel
theorem dL_law_704 : decode cL_law 704 = .ok (.iaload, 1) := by decide +kernel
theorem dL_law_705 : decode cL_law 705 = .ok (.aload_n 0, 1) := by decide +kernel
theorem dL_law_706 : decode cL_law 706 = .ok (.iload_n 3, 1) := by decide +kernel
theorem dL_law_707 : decode cL_law 707 = .ok (.iconst 2, 1) := by decide +kernel
theorem dL_law_708 : decode cL_law 708 = .ok (.iadd, 1) := by decide +kernel
theorem dL_law_709 : decode cL_law 709 = .ok (.iaload, 1) := by decide +kernel
theorem dL_law_710 : decode cL_law 710 = .ok (.invokevirtual 72, 3) := by decide +kernel
theorem dL_law_713 : decode cL_law 713 = .ok (.aload_n 2, 1) := by decide +kernel
theorem dL_law_714 : decode cL_law 714 = .ok (.aload_n 0, 1) := by decide +kernel
theorem dL_law_715 : decode cL_law 715 = .ok (.iload_n 3, 1) := by decide +kernel
theorem dL_law_716 : decode cL_law 716 = .ok (.iconst 1, 1) := by decide +kernel
theorem dL_law_717 : decode cL_law 717 = .ok (.iadd, 1) := by decide +kernel
theorem dL_law_718 : decode cL_law 718 = .ok (.iaload, 1) := by decide +kernel
theorem dL_law_719 : decode cL_law 719 = .ok (.aload_n 0, 1) := by decide +kernel
theorem dL_law_720 : decode cL_law 720 = .ok (.iload_n 3, 1) := by decide +kernel
theorem dL_law_721 : decode cL_law 721 = .ok (.iconst 2, 1) := by decide +kernel
theorem dL_law_722 : decode cL_law 722 = .ok (.iadd, 1) := by decide +kernel
theorem dL_law_723 : decode cL_law 723 = .ok (.iaload, 1) := by decide +kernel
theorem dL_law_724 : decode cL_law 724 = .ok (.invokevirtual 76, 3) := by decide +kernel
theorem dL_law_727 : decode cL_law 727 = .ok (.lcmp, 1) := by decide +kernel
theorem dL_law_728 : decode cL_law 728 = .ok (.ifCond .eq 744, 3) := by decide +kernel
theorem dL_law_731 : decode cL_law 731 = .ok (.iconst 0, 1) := by decide +kernel
theorem dL_law_732 : decode cL_law 732 = .ok (.ireturn, 1) := by decide +kernel
theorem dL_law_733 : decode cL_law 733 = .ok (.aload_n 1, 1) := by decide +kernel
theorem dL_law_734 : decode cL_law 734 = .ok (.aload_n 0, 1) := by decide +kernel
theorem dL_law_735 : decode cL_law 735 = .ok (.iload_n 3, 1) := by decide +kernel
theorem dL_law_736 : decode cL_law 736 = .ok (.iconst 1, 1) := by decide +kernel
theorem dL_law_737 : decode cL_law 737 = .ok (.iadd, 1) := by decide +kernel
theorem dL_law_738 : decode cL_law 738 = .ok (.iaload, 1) := by decide +kernel
theorem dL_law_739 : decode cL_law 739 = .ok (.aload_n 0, 1) := by decide +kernel
theorem dL_law_740 : decode cL_law 740 = .ok (.iload_n 3, 1) := by decide +kernel
theorem dL_law_741 : decode cL_law 741 = .ok (.iconst 2, 1) := by decide +kernel
theorem dL_law_742 : decode cL_law 742 = .ok (.iadd, 1) := by decide +kernel
theorem dL_law_743 : decode cL_law 743 = .ok (.iaload, 1) := by decide +kernel
theorem dL_law_744 : decode cL_law 744 = .ok (.aload_n 0, 1) := by decide +kernel
theorem dL_law_745 : decode cL_law 745 = .ok (.iload_n 3, 1) := by decide +kernel
theorem dL_law_746 : decode cL_law 746 = .ok (.iconst 3, 1) := by decide +kernel
theorem dL_law_747 : decode cL_law 747 = .ok (.iadd, 1) := by decide +kernel
theorem dL_law_748 : decode cL_law 748 = .ok (.iaload, 1) := by decide +kernel
theorem dL_law_749 : decode cL_law 749 = .ok (.invokevirtual 77, 3) := by decide +kernel
theorem dL_law_752 : decode cL_law 752 = .ok (.aload_n 2, 1) := by decide +kernel
theorem dL_law_753 : decode cL_law 753 = .ok (.aload_n 0, 1) := by decide +kernel
theorem dL_law_754 : decode cL_law 754 = .ok (.iload_n 3, 1) := by decide +kernel
theorem dL_law_755 : decode cL_law 755 = .ok (.iconst 1, 1) := by decide +kernel
theorem dL_law_756 : decode cL_law 756 = .ok (.iadd, 1) := by decide +kernel
theorem dL_law_757 : decode cL_law 757 = .ok (.iaload, 1) := by decide +kernel
theorem dL_law_758 : decode cL_law 758 = .ok (.aload_n 0, 1) := by decide +kernel
theorem dL_law_759 : decode cL_law 759 = .ok (.iload_n 3, 1) := by decide +kernel
theorem dL_law_760 : decode cL_law 760 = .ok (.iconst 2, 1) := by decide +kernel
theorem dL_law_761 : decode cL_law 761 = .ok (.iadd, 1) := by decide +kernel
theorem dL_law_762 : decode cL_law 762 = .ok (.iaload, 1) := by decide +kernel
theorem dL_law_763 : decode cL_law 763 = .ok (.aload_n 0, 1) := by decide +kernel
theorem dL_law_764 : decode cL_law 764 = .ok (.iload_n 3, 1) := by decide +kernel
theorem dL_law_765 : decode cL_law 765 = .ok (.iconst 3, 1) := by decide +kernel
theorem dL_law_766 : decode cL_law 766 = .ok (.iadd, 1) := by decide +kernel
theorem dL_law_767 : decode cL_law 767 = .ok (.iaload, 1) := by decide +kernel
theorem dL_law_768 : decode cL_law 768 = .ok (.invokevirtual 80, 3) := by decide +kernel
theorem dL_law_771 : decode cL_law 771 = .ok (.if_icmp .eq 701, 3) := by decide +kernel
theorem dL_law_774 : decode cL_law 774 = .ok (.iconst 0, 1) := by decide +kernel
theorem dL_law_775 : decode cL_law 775 = .ok (.ireturn, 1) := by decide +kernel
theorem dL_law_776 : decode cL_law 776 = .ok (.aload_n 1, 1) := by decide +kernel
theorem dL_law_777 : decode cL_law 777 = .ok (.aload_n 0, 1) := by decide +kernel
theorem dL_law_778 : decode cL_law 778 = .ok (.iload_n 3, 1) := by decide +kernel
theorem dL_law_779 : decode cL_law 779 = .ok (.iconst 1, 1) := by decide +kernel
theorem dL_law_780 : decode cL_law 780 = .ok (.iadd, 1) := by decide +kernel
theorem dL_law_781 : decode cL_law 781 = .ok (.iaload, 1) := by decide +kernel
theorem dL_law_782 : decode cL_law 782 = .ok (.aload_n 0, 1) := by decide +kernel
theorem dL_law_783 : decode cL_law 783 = .ok (.iload_n 3, 1) := by decide +kernel
theorem dL_law_784 : decode cL_law 784 = .ok (.iconst 2, 1) := by decide +kernel
theorem dL_law_785 : decode cL_law 785 = .ok (.iadd, 1) := by decide +kernel
theorem dL_law_786 : decode cL_law 786 = .ok (.iaload, 1) := by decide +kernel
theorem dL_law_787 : decode cL_law 787 = .ok (.aload_n 0, 1) := by decide +kernel
theorem dL_law_788 : decode cL_law 788 = .ok (.iload_n 3, 1) := by decide +kernel
theorem dL_law_789 : decode cL_law 789 = .ok (.iconst 3, 1) := by decide +kernel
theorem dL_law_790 : decode cL_law 790 = .ok (.iadd, 1) := by decide +kernel
theorem dL_law_791 : decode cL_law 791 = .ok (.iaload, 1) := by decide +kernel
theorem dL_law_792 : decode cL_law 792 = .ok (.invokevirtual 81, 3) := by decide +kernel
theorem dL_law_795 : decode cL_law 795 = .ok (.aload_n 2, 1) := by decide +kernel
theorem dL_law_796 : decode cL_law 796 = .ok (.aload_n 0, 1) := by decide +kernel
theorem dL_law_797 : decode cL_law 797 = .ok (.iload_n 3, 1) := by decide +kernel
theorem dL_law_798 : decode cL_law 798 = .ok (.iconst 1, 1) := by decide +kernel
theorem dL_law_799 : decode cL_law 799 = .ok (.iadd, 1) := by decide +kernel
theorem dL_law_800 : decode cL_law 800 = .ok (.iaload, 1) := by decide +kernel
theorem dL_law_801 : decode cL_law 801 = .ok (.aload_n 0, 1) := by decide +kernel
theorem dL_law_802 : decode cL_law 802 = .ok (.iload_n 3, 1) := by decide +kernel
theorem dL_law_803 : decode cL_law 803 = .ok (.iconst 2, 1) := by decide +kernel
theorem dL_law_804 : decode cL_law 804 = .ok (.iadd, 1) := by decide +kernel
theorem dL_law_805 : decode cL_law 805 = .ok (.iaload, 1) := by decide +kernel
theorem dL_law_806 : decode cL_law 806 = .ok (.aload_n 0, 1) := by decide +kernel
theorem dL_law_807 : decode cL_law 807 = .ok (.iload_n 3, 1) := by decide +kernel
theorem dL_law_808 : decode cL_law 808 = .ok (.iconst 3, 1) := by decide +kernel
theorem dL_law_809 : decode cL_law 809 = .ok (.iadd, 1) := by decide +kernel
theorem dL_law_810 : decode cL_law 810 = .ok (.iaload, 1) := by decide +kernel
theorem dL_law_811 : decode cL_law 811 = .ok (.invokevirtual 84, 3) := by decide +kernel
theorem dL_law_814 : decode cL_law 814 = .ok (.if_icmp .eq 658, 3) := by decide +kernel
theorem dL_law_817 : decode cL_law 817 = .ok (.iconst 0, 1) := by decide +kernel
theorem dL_law_818 : decode cL_law 818 = .ok (.ireturn, 1) := by decide +kernel
theorem dL_law_819 : decode cL_law 819 = .ok (.aload_n 1, 1) := by decide +kernel
theorem dL_law_820 : decode cL_law 820 = .ok (.aload_n 0, 1) := by decide +kernel
theorem dL_law_821 : decode cL_law 821 = .ok (.iload_n 3, 1) := by decide +kernel
theorem dL_law_822 : decode cL_law 822 = .ok (.iconst 1, 1) := by decide +kernel
theorem dL_law_823 : decode cL_law 823 = .ok (.iadd, 1) := by decide +kernel
theorem dL_law_824 : decode cL_law 824 = .ok (.iaload, 1) := by decide +kernel
theorem dL_law_825 : decode cL_law 825 = .ok (.aload_n 0, 1) := by decide +kernel
theorem dL_law_826 : decode cL_law 826 = .ok (.iload_n 3, 1) := by decide +kernel
theorem dL_law_827 : decode cL_law 827 = .ok (.iconst 2, 1) := by decide +kernel
theorem dL_law_828 : decode cL_law 828 = .ok (.iadd, 1) := by decide +kernel
theorem dL_law_829 : decode cL_law 829 = .ok (.iaload, 1) := by decide +kernel
theorem dL_law_830 : decode cL_law 830 = .ok (.aload_n 0, 1) := by decide +kernel
theorem dL_law_831 : decode cL_law 831 = .ok (.iload_n 3, 1) := by decide +kernel
theorem dL_law_832 : decode cL_law 832 = .ok (.iconst 3, 1) := by decide +kernel
theorem dL_law_833 : decode cL_law 833 = .ok (.iadd, 1) := by decide +kernel
theorem dL_law_834 : decode cL_law 834 = .ok (.iaload, 1) := by decide +kernel
theorem dL_law_835 : decode cL_law 835 = .ok (.aload_n 0, 1) := by decide +kernel
theorem dL_law_836 : decode cL_law 836 = .ok (.iload_n 3, 1) := by decide +kernel
theorem dL_law_837 : decode cL_law 837 = .ok (.iconst 4, 1) := by decide +kernel
theorem dL_law_838 : decode cL_law 838 = .ok (.iadd, 1) := by decide +kernel
theorem dL_law_839 : decode cL_law 839 = .ok (.iaload, 1) := by decide +kernel
theorem dL_law_840 : decode cL_law 840 = .ok (.invokevirtual 85, 3) := by decide +kernel
theorem dL_law_843 : decode cL_law 843 = .ok (.aload_n 2, 1) := by decide +kernel
theorem dL_law_844 : decode cL_law 844 = .ok (.aload_n 0, 1) := by decide +kernel
theorem dL_law_845 : decode cL_law 845 = .ok (.iload_n 3, 1) := by decide +kernel
theorem dL_law_846 : decode cL_law 846 = .ok (.iconst 1, 1) := by decide +kernel
theorem dL_law_847 : decode cL_law 847 = .ok (.iadd, 1) := by decide +kernel
theorem dL_law_848 : decode cL_law 848 = .ok (.iaload, 1) := by decide +kernel
theorem dL_law_849 : decode cL_law 849 = .ok (.aload_n 0, 1) := by decide +kernel
theorem dL_law_850 : decode cL_law 850 = .ok (.iload_n 3, 1) := by decide +kernel
theorem dL_law_851 : decode cL_law 851 = .ok (.iconst 2, 1) := by decide +kernel
theorem dL_law_852 : decode cL_law 852 = .ok (.iadd, 1) := by decide +kernel
theorem dL_law_853 : decode cL_law 853 = .ok (.iaload, 1) := by decide +kernel
theorem dL_law_854 : decode cL_law 854 = .ok (.aload_n 0, 1) := by decide +kernel
theorem dL_law_855 : decode cL_law 855 = .ok (.iload_n 3, 1) := by decide +kernel
theorem dL_law_856 : decode cL_law 856 = .ok (.iconst 3, 1) := by decide +kernel
theorem dL_law_857 : decode cL_law 857 = .ok (.iadd, 1) := by decide +kernel
theorem dL_law_858 : decode cL_law 858 = .ok (.iaload, 1) := by decide +kernel
theorem dL_law_859 : decode cL_law 859 = .ok (.aload_n 0, 1) := by decide +kernel
theorem dL_law_860 : decode cL_law 860 = .ok (.iload_n 3, 1) := by decide +kernel
theorem dL_law_861 : decode cL_law 861 = .ok (.iconst 4, 1) := by decide +kernel
theorem dL_law_862 : decode cL_law 862 = .ok (.iadd, 1) := by decide +kernel
theorem dL_law_863 : decode cL_law 863 = .ok (.iaload, 1) := by decide +kernel
theorem dL_law_864 : decode cL_law 864 = .ok (.invokevirtual 88, 3) := by decide +kernel
theorem dL_law_867 : decode cL_law 867 = .ok (.if_icmp .eq 605, 3) := by decide +kernel
theorem dL_law_870 : decode cL_law 870 = .ok (.iconst 0, 1) := by decide +kernel
theorem dL_law_871 : decode cL_law 871 = .ok (.ireturn, 1) := by decide +kernel
theorem dL_law_872 : decode cL_law 872 = .ok (.aload_n 1, 1) := by decide +kernel
theorem dL_law_873 : decode cL_law 873 = .ok (.aload_n 0, 1) := by decide +kernel
theorem dL_law_874 : decode cL_law 874 = .ok (.iload_n 3, 1) := by decide +kernel
theorem dL_law_875 : decode cL_law 875 = .ok (.iconst 1, 1) := by decide +kernel
theorem dL_law_876 : decode cL_law 876 = .ok (.iadd, 1) := by decide +kernel
theorem dL_law_877 : decode cL_law 877 = .ok (.iaload, 1) := by decide +kernel
theorem dL_law_878 : decode cL_law 878 = .ok (.aload_n 0, 1) := by decide +kernel
theorem dL_law_879 : decode cL_law 879 = .ok (.iload_n 3, 1) := by decide +kernel
theorem dL_law_880 : decode cL_law 880 = .ok (.iconst 2, 1) := by decide +kernel
theorem dL_law_881 : decode cL_law 881 = .ok (.iadd, 1) := by decide +kernel
theorem dL_law_882 : decode cL_law 882 = .ok (.iaload, 1) := by decide +kernel
theorem dL_law_883 : decode cL_law 883 = .ok (.aload_n 0, 1) := by decide +kernel
theorem dL_law_884 : decode cL_law 884 = .ok (.iload_n 3, 1) := by decide +kernel
theorem dL_law_885 : decode cL_law 885 = .ok (.iconst 3, 1) := by decide +kernel
theorem dL_law_886 : decode cL_law 886 = .ok (.iadd, 1) := by decide +kernel
theorem dL_law_887 : decode cL_law 887 = .ok (.iaload, 1) := by decide +kernel
theorem dL_law_888 : decode cL_law 888 = .ok (.aload_n 0, 1) := by decide +kernel
theorem dL_law_889 : decode cL_law 889 = .ok (.iload_n 3, 1) := by decide +kernel
theorem dL_law_890 : decode cL_law 890 = .ok (.iconst 4, 1) := by decide +kernel
theorem dL_law_891 : decode cL_law 891 = .ok (.iadd, 1) := by decide +kernel
theorem dL_law_892 : decode cL_law 892 = .ok (.iaload, 1) := by decide +kernel
theorem dL_law_893 : decode cL_law 893 = .ok (.invokevirtual 89, 3) := by decide +kernel
theorem dL_law_896 : decode cL_law 896 = .ok (.aload_n 2, 1) := by decide +kernel
theorem dL_law_897 : decode cL_law 897 = .ok (.aload_n 0, 1) := by decide +kernel
theorem dL_law_898 : decode cL_law 898 = .ok (.iload_n 3, 1) := by decide +kernel
theorem dL_law_899 : decode cL_law 899 = .ok (.iconst 1, 1) := by decide +kernel
theorem dL_law_900 : decode cL_law 900 = .ok (.iadd, 1) := by decide +kernel
theorem dL_law_901 : decode cL_law 901 = .ok (.iaload, 1) := by decide +kernel
theorem dL_law_902 : decode cL_law 902 = .ok (.aload_n 0, 1) := by decide +kernel
theorem dL_law_903 : decode cL_law 903 = .ok (.iload_n 3, 1) := by decide +kernel
theorem dL_law_904 : decode cL_law 904 = .ok (.iconst 2, 1) := by decide +kernel
theorem dL_law_905 : decode cL_law 905 = .ok (.iadd, 1) := by decide +kernel
theorem dL_law_906 : decode cL_law 906 = .ok (.iaload, 1) := by decide +kernel
theorem dL_law_907 : decode cL_law 907 = .ok (.aload_n 0, 1) := by decide +kernel
theorem dL_law_908 : decode cL_law 908 = .ok (.iload_n 3, 1) := by decide +kernel
theorem dL_law_909 : decode cL_law 909 = .ok (.iconst 3, 1) := by decide +kernel
theorem dL_law_910 : decode cL_law 910 = .ok (.iadd, 1) := by decide +kernel
theorem dL_law_911 : decode cL_law 911 = .ok (.iaload, 1) := by decide +kernel
theorem dL_law_912 : decode cL_law 912 = .ok (.aload_n 0, 1) := by decide +kernel
theorem dL_law_913 : decode cL_law 913 = .ok (.iload_n 3, 1) := by decide +kernel
theorem dL_law_914 : decode cL_law 914 = .ok (.iconst 4, 1) := by decide +kernel
theorem dL_law_915 : decode cL_law 915 = .ok (.iadd, 1) := by decide +kernel
theorem dL_law_916 : decode cL_law 916 = .ok (.iaload, 1) := by decide +kernel
theorem dL_law_917 : decode cL_law 917 = .ok (.invokevirtual 92, 3) := by decide +kernel
theorem dL_law_920 : decode cL_law 920 = .ok (.if_icmp .eq 552, 3) := by decide +kernel
theorem dL_law_923 : decode cL_law 923 = .ok (.iconst 0, 1) := by decide +kernel
theorem dL_law_924 : decode cL_law 924 = .ok (.ireturn, 1) := by decide +kernel
theorem dL_law_925 : decode cL_law 925 = .ok (.aload_n 1, 1) := by decide +kernel
theorem dL_law_926 : decode cL_law 926 = .ok (.aload_n 0, 1) := by decide +kernel
theorem dL_law_927 : decode cL_law 927 = .ok (.iload_n 3, 1) := by decide +kernel
theorem dL_law_928 : decode cL_law 928 = .ok (.iconst 1, 1) := by decide +kernel
theorem dL_law_929 : decode cL_law 929 = .ok (.iadd, 1) := by decide +kernel
theorem dL_law_930 : decode cL_law 930 = .ok (.iaload, 1) := by decide +kernel
theorem dL_law_931 : decode cL_law 931 = .ok (.aload_n 0, 1) := by decide +kernel
theorem dL_law_932 : decode cL_law 932 = .ok (.iload_n 3, 1) := by decide +kernel
theorem dL_law_933 : decode cL_law 933 = .ok (.iconst 2, 1) := by decide +kernel
theorem dL_law_934 : decode cL_law 934 = .ok (.iadd, 1) := by decide +kernel
theorem dL_law_935 : decode cL_law 935 = .ok (.iaload, 1) := by decide +kernel
theorem dL_law_936 : decode cL_law 936 = .ok (.aload_n 0, 1) := by decide +kernel
theorem dL_law_937 : decode cL_law 937 = .ok (.iload_n 3, 1) := by decide +kernel
theorem dL_law_938 : decode cL_law 938 = .ok (.iconst 3, 1) := by decide +kernel
theorem dL_law_939 : decode cL_law 939 = .ok (.iadd, 1) := by decide +kernel
theorem dL_law_940 : decode cL_law 940 = .ok (.iaload, 1) := by decide +kernel
theorem dL_law_941 : decode cL_law 941 = .ok (.aload_n 0, 1) := by decide +kernel
theorem dL_law_942 : decode cL_law 942 = .ok (.iload_n 3, 1) := by decide +kernel
theorem dL_law_943 : decode cL_law 943 = .ok (.iconst 4, 1) := by decide +kernel
theorem dL_law_944 : decode cL_law 944 = .ok (.iadd, 1) := by decide +kernel
theorem dL_law_945 : decode cL_law 945 = .ok (.iaload, 1) := by decide +kernel
theorem dL_law_946 : decode cL_law 946 = .ok (.aload_n 0, 1) := by decide +kernel
theorem dL_law_947 : decode cL_law 947 = .ok (.iload_n 3, 1) := by decide +kernel
theorem dL_law_948 : decode cL_law 948 = .ok (.iconst 5, 1) := by decide +kernel
theorem dL_law_949 : decode cL_law 949 = .ok (.iadd, 1) := by decide +kernel
theorem dL_law_950 : decode cL_law 950 = .ok (.iaload, 1) := by decide +kernel
theorem dL_law_951 : decode cL_law 951 = .ok (.invokevirtual 93, 3) := by decide +kernel
theorem dL_law_954 : decode cL_law 954 = .ok (.aload_n 2, 1) := by decide +kernel
theorem dL_law_955 : decode cL_law 955 = .ok (.aload_n 0, 1) := by decide +kernel
theorem dL_law_956 : decode cL_law 956 = .ok (.iload_n 3, 1) := by decide +kernel
theorem dL_law_957 : decode cL_law 957 = .ok (.iconst 1, 1) := by decide +kernel
theorem dL_law_958 : decode cL_law 958 = .ok (.iadd, 1) := by decide +kernel
theorem dL_law_959 : decode cL_law 959 = .ok (.iaload, 1) := by decide +kernel
theorem dL_law_960 : decode cL_law 960 = .ok (.aload_n 0, 1) := by decide +kernel
theorem dL_law_961 : decode cL_law 961 = .ok (.iload_n 3, 1) := by decide +kernel
theorem dL_law_962 : decode cL_law 962 = .ok (.iconst 2, 1) := by decide +kernel
theorem dL_law_963 : decode cL_law 963 = .ok (.iadd, 1) := by decide +kernel
theorem dL_law_964 : decode cL_law 964 = .ok (.iaload, 1) := by decide +kernel
theorem dL_law_965 : decode cL_law 965 = .ok (.aload_n 0, 1) := by decide +kernel
theorem dL_law_966 : decode cL_law 966 = .ok (.iload_n 3, 1) := by decide +kernel
theorem dL_law_967 : decode cL_law 967 = .ok (.iconst 3, 1) := by decide +kernel
theorem dL_law_968 : decode cL_law 968 = .ok (.iadd, 1) := by decide +kernel
theorem dL_law_969 : decode cL_law 969 = .ok (.iaload, 1) := by decide +kernel
theorem dL_law_970 : decode cL_law 970 = .ok (.aload_n 0, 1) := by decide +kernel
theorem dL_law_971 : decode cL_law 971 = .ok (.iload_n 3, 1) := by decide +kernel
theorem dL_law_972 : decode cL_law 972 = .ok (.iconst 4, 1) := by decide +kernel
theorem dL_law_973 : decode cL_law 973 = .ok (.iadd, 1) := by decide +kernel
theorem dL_law_974 : decode cL_law 974 = .ok (.iaload, 1) := by decide +kernel
theorem dL_law_975 : decode cL_law 975 = .ok (.aload_n 0, 1) := by decide +kernel
theorem dL_law_976 : decode cL_law 976 = .ok (.iload_n 3, 1) := by decide +kernel
theorem dL_law_977 : decode cL_law 977 = .ok (.iconst 5, 1) := by decide +kernel
theorem dL_law_978 : decode cL_law 978 = .ok (.iadd, 1) := by decide +kernel
theorem dL_law_979 : decode cL_law 979 = .ok (.iaload, 1) := by decide +kernel
theorem dL_law_980 : decode cL_law 980 = .ok (.invokevirtual 96, 3) := by decide +kernel
theorem dL_law_983 : decode cL_law 983 = .ok (.if_icmp .eq 489, 3) := by decide +kernel
theorem dL_law_986 : decode cL_law 986 = .ok (.iconst 0, 1) := by decide +kernel
theorem dL_law_987 : decode cL_law 987 = .ok (.ireturn, 1) := by decide +kernel
theorem dL_law_988 : decode cL_law 988 = .ok (.aload_n 1, 1) := by decide +kernel
theorem dL_law_989 : decode cL_law 989 = .ok (.aload_n 0, 1) := by decide +kernel
theorem dL_law_990 : decode cL_law 990 = .ok (.iload_n 3, 1) := by decide +kernel
theorem dL_law_991 : decode cL_law 991 = .ok (.iconst 1, 1) := by decide +kernel
theorem dL_law_992 : decode cL_law 992 = .ok (.iadd, 1) := by decide +kernel
theorem dL_law_993 : decode cL_law 993 = .ok (.iaload, 1) := by decide +kernel
theorem dL_law_994 : decode cL_law 994 = .ok (.aload_n 0, 1) := by decide +kernel
theorem dL_law_995 : decode cL_law 995 = .ok (.iload_n 3, 1) := by decide +kernel
theorem dL_law_996 : decode cL_law 996 = .ok (.iconst 2, 1) := by decide +kernel
theorem dL_law_997 : decode cL_law 997 = .ok (.iadd, 1) := by decide +kernel
theorem dL_law_998 : decode cL_law 998 = .ok (.iaload, 1) := by decide +kernel
theorem dL_law_999 : decode cL_law 999 = .ok (.aload_n 0, 1) := by decide +kernel
theorem dL_law_1000 : decode cL_law 1000 = .ok (.iload_n 3, 1) := by decide +kernel
theorem dL_law_1001 : decode cL_law 1001 = .ok (.iconst 3, 1) := by decide +kernel
theorem dL_law_1002 : decode cL_law 1002 = .ok (.iadd, 1) := by decide +kernel
theorem dL_law_1003 : decode cL_law 1003 = .ok (.iaload, 1) := by decide +kernel
theorem dL_law_1004 : decode cL_law 1004 = .ok (.aload_n 0, 1) := by decide +kernel
theorem dL_law_1005 : decode cL_law 1005 = .ok (.iload_n 3, 1) := by decide +kernel
theorem dL_law_1006 : decode cL_law 1006 = .ok (.iconst 4, 1) := by decide +kernel
theorem dL_law_1007 : decode cL_law 1007 = .ok (.iadd, 1) := by decide +kernel
theorem dL_law_1008 : decode cL_law 1008 = .ok (.iaload, 1) := by decide +kernel
theorem dL_law_1009 : decode cL_law 1009 = .ok (.invokevirtual 97, 3) := by decide +kernel
theorem dL_law_1012 : decode cL_law 1012 = .ok (.aload_n 2, 1) := by decide +kernel
theorem dL_law_1013 : decode cL_law 1013 = .ok (.aload_n 0, 1) := by decide +kernel
theorem dL_law_1014 : decode cL_law 1014 = .ok (.iload_n 3, 1) := by decide +kernel
theorem dL_law_1015 : decode cL_law 1015 = .ok (.iconst 1, 1) := by decide +kernel
theorem dL_law_1016 : decode cL_law 1016 = .ok (.iadd, 1) := by decide +kernel
theorem dL_law_1017 : decode cL_law 1017 = .ok (.iaload, 1) := by decide +kernel
theorem dL_law_1018 : decode cL_law 1018 = .ok (.aload_n 0, 1) := by decide +kernel
theorem dL_law_1019 : decode cL_law 1019 = .ok (.iload_n 3, 1) := by decide +kernel
theorem dL_law_1020 : decode cL_law 1020 = .ok (.iconst 2, 1) := by decide +kernel
theorem dL_law_1021 : decode cL_law 1021 = .ok (.iadd, 1) := by decide +kernel
theorem dL_law_1022 : decode cL_law 1022 = .ok (.iaload, 1) := by decide +kernel
theorem dL_law_1023 : decode cL_law 1023 = .ok (.aload_n 0, 1) := by decide +kernel
theorem dL_law_1024 : decode cL_law 1024 = .ok (.iload_n 3, 1) := by decide +kernel
theorem dL_law_1025 : decode cL_law 1025 = .ok (.iconst 3, 1) := by decide +kernel
theorem dL_law_1026 : decode cL_law 1026 = .ok (.iadd, 1) := by decide +kernel
theorem dL_law_1027 : decode cL_law 1027 = .ok (.iaload, 1) := by decide +kernel
theorem dL_law_1028 : decode cL_law 1028 = .ok (.aload_n 0, 1) := by decide +kernel
theorem dL_law_1029 : decode cL_law 1029 = .ok (.iload_n 3, 1) := by decide +kernel
theorem dL_law_1030 : decode cL_law 1030 = .ok (.iconst 4, 1) := by decide +kernel
theorem dL_law_1031 : decode cL_law 1031 = .ok (.iadd, 1) := by decide +kernel
theorem dL_law_1032 : decode cL_law 1032 = .ok (.iaload, 1) := by decide +kernel
theorem dL_law_1033 : decode cL_law 1033 = .ok (.invokevirtual 100, 3) := by decide +kernel
theorem dL_law_1036 : decode cL_law 1036 = .ok (.if_icmp .eq 436, 3) := by decide +kernel
theorem dL_law_1039 : decode cL_law 1039 = .ok (.iconst 0, 1) := by decide +kernel
theorem dL_law_1040 : decode cL_law 1040 = .ok (.ireturn, 1) := by decide +kernel
theorem dL_law_1041 : decode cL_law 1041 = .ok (.aload_n 1, 1) := by decide +kernel
theorem dL_law_1042 : decode cL_law 1042 = .ok (.aload_n 0, 1) := by decide +kernel
theorem dL_law_1043 : decode cL_law 1043 = .ok (.iload_n 3, 1) := by decide +kernel
theorem dL_law_1044 : decode cL_law 1044 = .ok (.iconst 1, 1) := by decide +kernel
theorem dL_law_1045 : decode cL_law 1045 = .ok (.iadd, 1) := by decide +kernel
theorem dL_law_1046 : decode cL_law 1046 = .ok (.iaload, 1) := by decide +kernel
theorem dL_law_1047 : decode cL_law 1047 = .ok (.aload_n 0, 1) := by decide +kernel
theorem dL_law_1048 : decode cL_law 1048 = .ok (.iload_n 3, 1) := by decide +kernel
theorem dL_law_1049 : decode cL_law 1049 = .ok (.iconst 2, 1) := by decide +kernel
theorem dL_law_1050 : decode cL_law 1050 = .ok (.iadd, 1) := by decide +kernel
theorem dL_law_1051 : decode cL_law 1051 = .ok (.iaload, 1) := by decide +kernel
theorem dL_law_1052 : decode cL_law 1052 = .ok (.aload_n 0, 1) := by decide +kernel
theorem dL_law_1053 : decode cL_law 1053 = .ok (.iload_n 3, 1) := by decide +kernel
theorem dL_law_1054 : decode cL_law 1054 = .ok (.iconst 3, 1) := by decide +kernel
theorem dL_law_1055 : decode cL_law 1055 = .ok (.iadd, 1) := by decide +kernel
theorem dL_law_1056 : decode cL_law 1056 = .ok (.iaload, 1) := by decide +kernel
theorem dL_law_1057 : decode cL_law 1057 = .ok (.aload_n 0, 1) := by decide +kernel
theorem dL_law_1058 : decode cL_law 1058 = .ok (.iload_n 3, 1) := by decide +kernel
theorem dL_law_1059 : decode cL_law 1059 = .ok (.iconst 4, 1) := by decide +kernel
theorem dL_law_1060 : decode cL_law 1060 = .ok (.iadd, 1) := by decide +kernel
theorem dL_law_1061 : decode cL_law 1061 = .ok (.iaload, 1) := by decide +kernel
theorem dL_law_1062 : decode cL_law 1062 = .ok (.invokevirtual 101, 3) := by decide +kernel
theorem dL_law_1065 : decode cL_law 1065 = .ok (.aload_n 2, 1) := by decide +kernel
theorem dL_law_1066 : decode cL_law 1066 = .ok (.aload_n 0, 1) := by decide +kernel
theorem dL_law_1067 : decode cL_law 1067 = .ok (.iload_n 3, 1) := by decide +kernel
theorem dL_law_1068 : decode cL_law 1068 = .ok (.iconst 1, 1) := by decide +kernel
theorem dL_law_1069 : decode cL_law 1069 = .ok (.iadd, 1) := by decide +kernel
theorem dL_law_1070 : decode cL_law 1070 = .ok (.iaload, 1) := by decide +kernel
theorem dL_law_1071 : decode cL_law 1071 = .ok (.aload_n 0, 1) := by decide +kernel
theorem dL_law_1072 : decode cL_law 1072 = .ok (.iload_n 3, 1) := by decide +kernel
theorem dL_law_1073 : decode cL_law 1073 = .ok (.iconst 2, 1) := by decide +kernel
theorem dL_law_1074 : decode cL_law 1074 = .ok (.iadd, 1) := by decide +kernel
theorem dL_law_1075 : decode cL_law 1075 = .ok (.iaload, 1) := by decide +kernel
theorem dL_law_1076 : decode cL_law 1076 = .ok (.aload_n 0, 1) := by decide +kernel
theorem dL_law_1077 : decode cL_law 1077 = .ok (.iload_n 3, 1) := by decide +kernel
theorem dL_law_1078 : decode cL_law 1078 = .ok (.iconst 3, 1) := by decide +kernel
theorem dL_law_1079 : decode cL_law 1079 = .ok (.iadd, 1) := by decide +kernel
theorem dL_law_1080 : decode cL_law 1080 = .ok (.iaload, 1) := by decide +kernel
theorem dL_law_1081 : decode cL_law 1081 = .ok (.aload_n 0, 1) := by decide +kernel
theorem dL_law_1082 : decode cL_law 1082 = .ok (.iload_n 3, 1) := by decide +kernel
theorem dL_law_1083 : decode cL_law 1083 = .ok (.iconst 4, 1) := by decide +kernel
theorem dL_law_1084 : decode cL_law 1084 = .ok (.iadd, 1) := by decide +kernel
theorem dL_law_1085 : decode cL_law 1085 = .ok (.iaload, 1) := by decide +kernel
theorem dL_law_1086 : decode cL_law 1086 = .ok (.invokevirtual 104, 3) := by decide +kernel
theorem dL_law_1089 : decode cL_law 1089 = .ok (.if_icmp .eq 383, 3) := by decide +kernel
theorem dL_law_1092 : decode cL_law 1092 = .ok (.iconst 0, 1) := by decide +kernel
theorem dL_law_1093 : decode cL_law 1093 = .ok (.ireturn, 1) := by decide +kernel
theorem dL_law_1094 : decode cL_law 1094 = .ok (.aload_n 1, 1) := by decide +kernel
theorem dL_law_1095 : decode cL_law 1095 = .ok (.aload_n 0, 1) := by decide +kernel
theorem dL_law_1096 : decode cL_law 1096 = .ok (.iload_n 3, 1) := by decide +kernel
theorem dL_law_1097 : decode cL_law 1097 = .ok (.iconst 1, 1) := by decide +kernel
theorem dL_law_1098 : decode cL_law 1098 = .ok (.iadd, 1) := by decide +kernel
theorem dL_law_1099 : decode cL_law 1099 = .ok (.iaload, 1) := by decide +kernel
theorem dL_law_1100 : decode cL_law 1100 = .ok (.aload_n 0, 1) := by decide +kernel
theorem dL_law_1101 : decode cL_law 1101 = .ok (.iload_n 3, 1) := by decide +kernel
theorem dL_law_1102 : decode cL_law 1102 = .ok (.iconst 2, 1) := by decide +kernel
theorem dL_law_1103 : decode cL_law 1103 = .ok (.iadd, 1) := by decide +kernel
theorem dL_law_1104 : decode cL_law 1104 = .ok (.iaload, 1) := by decide +kernel
theorem dL_law_1105 : decode cL_law 1105 = .ok (.aload_n 0, 1) := by decide +kernel
theorem dL_law_1106 : decode cL_law 1106 = .ok (.iload_n 3, 1) := by decide +kernel
theorem dL_law_1107 : decode cL_law 1107 = .ok (.iconst 3, 1) := by decide +kernel
theorem dL_law_1108 : decode cL_law 1108 = .ok (.iadd, 1) := by decide +kernel
theorem dL_law_1109 : decode cL_law 1109 = .ok (.iaload, 1) := by decide +kernel
theorem dL_law_1110 : decode cL_law 1110 = .ok (.invokevirtual 105, 3) := by decide +kernel
theorem dL_law_1113 : decode cL_law 1113 = .ok (.aload_n 2, 1) := by decide +kernel
theorem dL_law_1114 : decode cL_law 1114 = .ok (.aload_n 0, 1) := by decide +kernel
theorem dL_law_1115 : decode cL_law 1115 = .ok (.iload_n 3, 1) := by decide +kernel
theorem dL_law_1116 : decode cL_law 1116 = .ok (.iconst 1, 1) := by decide +kernel
theorem dL_law_1117 : decode cL_law 1117 = .ok (.iadd, 1) := by decide +kernel
theorem dL_law_1118 : decode cL_law 1118 = .ok (.iaload, 1) := by decide +kernel
theorem dL_law_1119 : decode cL_law 1119 = .ok (.aload_n 0, 1) := by decide +kernel
theorem dL_law_1120 : decode cL_law 1120 = .ok (.iload_n 3, 1) := by decide +kernel
theorem dL_law_1121 : decode cL_law 1121 = .ok (.iconst 2, 1) := by decide +kernel
theorem dL_law_1122 : decode cL_law 1122 = .ok (.iadd, 1) := by decide +kernel
theorem dL_law_1123 : decode cL_law 1123 = .ok (.iaload, 1) := by decide +kernel
theorem dL_law_1124 : decode cL_law 1124 = .ok (.aload_n 0, 1) := by decide +kernel
theorem dL_law_1125 : decode cL_law 1125 = .ok (.iload_n 3, 1) := by decide +kernel
theorem dL_law_1126 : decode cL_law 1126 = .ok (.iconst 3, 1) := by decide +kernel
theorem dL_law_1127 : decode cL_law 1127 = .ok (.iadd, 1) := by decide +kernel
theorem dL_law_1128 : decode cL_law 1128 = .ok (.iaload, 1) := by decide +kernel
theorem dL_law_1129 : decode cL_law 1129 = .ok (.invokevirtual 108, 3) := by decide +kernel
theorem dL_law_1132 : decode cL_law 1132 = .ok (.if_icmp .eq 340, 3) := by decide +kernel
theorem dL_law_1135 : decode cL_law 1135 = .ok (.iconst 0, 1) := by decide +kernel
theorem dL_law_1136 : decode cL_law 1136 = .ok (.ireturn, 1) := by decide +kernel
theorem dL_law_1137 : decode cL_law 1137 = .ok (.aload_n 1, 1) := by decide +kernel
theorem dL_law_1138 : decode cL_law 1138 = .ok (.aload_n 0, 1) := by decide +kernel
theorem dL_law_1139 : decode cL_law 1139 = .ok (.iload_n 3, 1) := by decide +kernel
theorem dL_law_1140 : decode cL_law 1140 = .ok (.iconst 1, 1) := by decide +kernel
theorem dL_law_1141 : decode cL_law 1141 = .ok (.iadd, 1) := by decide +kernel
theorem dL_law_1142 : decode cL_law 1142 = .ok (.iaload, 1) := by decide +kernel
theorem dL_law_1143 : decode cL_law 1143 = .ok (.aload_n 0, 1) := by decide +kernel
theorem dL_law_1144 : decode cL_law 1144 = .ok (.iload_n 3, 1) := by decide +kernel
theorem dL_law_1145 : decode cL_law 1145 = .ok (.iconst 2, 1) := by decide +kernel
theorem dL_law_1146 : decode cL_law 1146 = .ok (.iadd, 1) := by decide +kernel
theorem dL_law_1147 : decode cL_law 1147 = .ok (.iaload, 1) := by decide +kernel
theorem dL_law_1148 : decode cL_law 1148 = .ok (.aload_n 0, 1) := by decide +kernel
theorem dL_law_1149 : decode cL_law 1149 = .ok (.iload_n 3, 1) := by decide +kernel
theorem dL_law_1150 : decode cL_law 1150 = .ok (.iconst 3, 1) := by decide +kernel
theorem dL_law_1151 : decode cL_law 1151 = .ok (.iadd, 1) := by decide +kernel
theorem dL_law_1152 : decode cL_law 1152 = .ok (.iaload, 1) := by decide +kernel
theorem dL_law_1153 : decode cL_law 1153 = .ok (.invokevirtual 109, 3) := by decide +kernel
theorem dL_law_1156 : decode cL_law 1156 = .ok (.aload_n 2, 1) := by decide +kernel
theorem dL_law_1157 : decode cL_law 1157 = .ok (.aload_n 0, 1) := by decide +kernel
theorem dL_law_1158 : decode cL_law 1158 = .ok (.iload_n 3, 1) := by decide +kernel
theorem dL_law_1159 : decode cL_law 1159 = .ok (.iconst 1, 1) := by decide +kernel
theorem dL_law_1160 : decode cL_law 1160 = .ok (.iadd, 1) := by decide +kernel
theorem dL_law_1161 : decode cL_law 1161 = .ok (.iaload, 1) := by decide +kernel
theorem dL_law_1162 : decode cL_law 1162 = .ok (.aload_n 0, 1) := by decide +kernel
theorem dL_law_1163 : decode cL_law 1163 = .ok (.iload_n 3, 1) := by decide +kernel
theorem dL_law_1164 : decode cL_law 1164 = .ok (.iconst 2, 1) := by decide +kernel
theorem dL_law_1165 : decode cL_law 1165 = .ok (.iadd, 1) := by decide +kernel
theorem dL_law_1166 : decode cL_law 1166 = .ok (.iaload, 1) := by decide +kernel
theorem dL_law_1167 : decode cL_law 1167 = .ok (.aload_n 0, 1) := by decide +kernel
theorem dL_law_1168 : decode cL_law 1168 = .ok (.iload_n 3, 1) := by decide +kernel
theorem dL_law_1169 : decode cL_law 1169 = .ok (.iconst 3, 1) := by decide +kernel
theorem dL_law_1170 : decode cL_law 1170 = .ok (.iadd, 1) := by decide +kernel
theorem dL_law_1171 : decode cL_law 1171 = .ok (.iaload, 1) := by decide +kernel
theorem dL_law_1172 : decode cL_law 1172 = .ok (.invokevirtual 112, 3) := by decide +kernel
theorem dL_law_1175 : decode cL_law 1175 = .ok (.if_icmp .eq 297, 3) := by decide +kernel
theorem dL_law_1178 : decode cL_law 1178 = .ok (.iconst 0, 1) := by decide +kernel
theorem dL_law_1179 : decode cL_law 1179 = .ok (.ireturn, 1) := by decide +kernel
theorem dL_law_1180 : decode cL_law 1180 = .ok (.aload_n 1, 1) := by decide +kernel
theorem dL_law_1181 : decode cL_law 1181 = .ok (.aload_n 0, 1) := by decide +kernel
theorem dL_law_1182 : decode cL_law 1182 = .ok (.iload_n 3, 1) := by decide +kernel
theorem dL_law_1183 : decode cL_law 1183 = .ok (.iconst 1, 1) := by decide +kernel
theorem dL_law_1184 : decode cL_law 1184 = .ok (.iadd, 1) := by decide +kernel
theorem dL_law_1185 : decode cL_law 1185 = .ok (.iaload, 1) := by decide +kernel
theorem dL_law_1186 : decode cL_law 1186 = .ok (.aload_n 0, 1) := by decide +kernel
theorem dL_law_1187 : decode cL_law 1187 = .ok (.iload_n 3, 1) := by decide +kernel
theorem dL_law_1188 : decode cL_law 1188 = .ok (.iconst 2, 1) := by decide +kernel
theorem dL_law_1189 : decode cL_law 1189 = .ok (.iadd, 1) := by decide +kernel
theorem dL_law_1190 : decode cL_law 1190 = .ok (.iaload, 1) := by decide +kernel
theorem dL_law_1191 : decode cL_law 1191 = .ok (.aload_n 0, 1) := by decide +kernel
theorem dL_law_1192 : decode cL_law 1192 = .ok (.iload_n 3, 1) := by decide +kernel
theorem dL_law_1193 : decode cL_law 1193 = .ok (.iconst 3, 1) := by decide +kernel
theorem dL_law_1194 : decode cL_law 1194 = .ok (.iadd, 1) := by decide +kernel
theorem dL_law_1195 : decode cL_law 1195 = .ok (.iaload, 1) := by decide +kernel
theorem dL_law_1196 : decode cL_law 1196 = .ok (.aload_n 0, 1) := by decide +kernel
theorem dL_law_1197 : decode cL_law 1197 = .ok (.iload_n 3, 1) := by decide +kernel
theorem dL_law_1198 : decode cL_law 1198 = .ok (.iconst 4, 1) := by decide +kernel
theorem dL_law_1199 : decode cL_law 1199 = .ok (.iadd, 1) := by decide +kernel
theorem dL_law_1200 : decode cL_law 1200 = .ok (.iaload, 1) := by decide +kernel
theorem dL_law_1201 : decode cL_law 1201 = .ok (.invokevirtual 113, 3) := by decide +kernel
theorem dL_law_1204 : decode cL_law 1204 = .ok (.aload_n 2, 1) := by decide +kernel
theorem dL_law_1205 : decode cL_law 1205 = .ok (.aload_n 0, 1) := by decide +kernel
theorem dL_law_1206 : decode cL_law 1206 = .ok (.iload_n 3, 1) := by decide +kernel
theorem dL_law_1207 : decode cL_law 1207 = .ok (.iconst 1, 1) := by decide +kernel
theorem dL_law_1208 : decode cL_law 1208 = .ok (.iadd, 1) := by decide +kernel
theorem dL_law_1209 : decode cL_law 1209 = .ok (.iaload, 1) := by decide +kernel
theorem dL_law_1210 : decode cL_law 1210 = .ok (.aload_n 0, 1) := by decide +kernel
theorem dL_law_1211 : decode cL_law 1211 = .ok (.iload_n 3, 1) := by decide +kernel
theorem dL_law_1212 : decode cL_law 1212 = .ok (.iconst 2, 1) := by decide +kernel
theorem dL_law_1213 : decode cL_law 1213 = .ok (.iadd, 1) := by decide +kernel
theorem dL_law_1214 : decode cL_law 1214 = .ok (.iaload, 1) := by decide +kernel
theorem dL_law_1215 : decode cL_law 1215 = .ok (.aload_n 0, 1) := by decide +kernel
theorem dL_law_1216 : decode cL_law 1216 = .ok (.iload_n 3, 1) := by decide +kernel
theorem dL_law_1217 : decode cL_law 1217 = .ok (.iconst 3, 1) := by decide +kernel
theorem dL_law_1218 : decode cL_law 1218 = .ok (.iadd, 1) := by decide +kernel
theorem dL_law_1219 : decode cL_law 1219 = .ok (.iaload, 1) := by decide +kernel
theorem dL_law_1220 : decode cL_law 1220 = .ok (.aload_n 0, 1) := by decide +kernel
theorem dL_law_1221 : decode cL_law 1221 = .ok (.iload_n 3, 1) := by decide +kernel
theorem dL_law_1222 : decode cL_law 1222 = .ok (.iconst 4, 1) := by decide +kernel
theorem dL_law_1223 : decode cL_law 1223 = .ok (.iadd, 1) := by decide +kernel
theorem dL_law_1224 : decode cL_law 1224 = .ok (.iaload, 1) := by decide +kernel
theorem dL_law_1225 : decode cL_law 1225 = .ok (.invokevirtual 116, 3) := by decide +kernel
theorem dL_law_1228 : decode cL_law 1228 = .ok (.if_icmp .eq 244, 3) := by decide +kernel
theorem dL_law_1231 : decode cL_law 1231 = .ok (.iconst 0, 1) := by decide +kernel
theorem dL_law_1232 : decode cL_law 1232 = .ok (.ireturn, 1) := by decide +kernel
theorem dL_law_1233 : decode cL_law 1233 = .ok (.aload_n 1, 1) := by decide +kernel
theorem dL_law_1234 : decode cL_law 1234 = .ok (.aload_n 0, 1) := by decide +kernel
theorem dL_law_1235 : decode cL_law 1235 = .ok (.iload_n 3, 1) := by decide +kernel
theorem dL_law_1236 : decode cL_law 1236 = .ok (.iconst 1, 1) := by decide +kernel
theorem dL_law_1237 : decode cL_law 1237 = .ok (.iadd, 1) := by decide +kernel
theorem dL_law_1238 : decode cL_law 1238 = .ok (.iaload, 1) := by decide +kernel
theorem dL_law_1239 : decode cL_law 1239 = .ok (.aload_n 0, 1) := by decide +kernel
theorem dL_law_1240 : decode cL_law 1240 = .ok (.iload_n 3, 1) := by decide +kernel
theorem dL_law_1241 : decode cL_law 1241 = .ok (.iconst 2, 1) := by decide +kernel
theorem dL_law_1242 : decode cL_law 1242 = .ok (.iadd, 1) := by decide +kernel
theorem dL_law_1243 : decode cL_law 1243 = .ok (.iaload, 1) := by decide +kernel
theorem dL_law_1244 : decode cL_law 1244 = .ok (.aload_n 0, 1) := by decide +kernel
theorem dL_law_1245 : decode cL_law 1245 = .ok (.iload_n 3, 1) := by decide +kernel
theorem dL_law_1246 : decode cL_law 1246 = .ok (.iconst 3, 1) := by decide +kernel
theorem dL_law_1247 : decode cL_law 1247 = .ok (.iadd, 1) := by decide +kernel
theorem dL_law_1248 : decode cL_law 1248 = .ok (.iaload, 1) := by decide +kernel
theorem dL_law_1249 : decode cL_law 1249 = .ok (.invokevirtual 117, 3) := by decide +kernel
theorem dL_law_1252 : decode cL_law 1252 = .ok (.aload_n 2, 1) := by decide +kernel
theorem dL_law_1253 : decode cL_law 1253 = .ok (.aload_n 0, 1) := by decide +kernel
theorem dL_law_1254 : decode cL_law 1254 = .ok (.iload_n 3, 1) := by decide +kernel
theorem dL_law_1255 : decode cL_law 1255 = .ok (.iconst 1, 1) := by decide +kernel
theorem dL_law_1256 : decode cL_law 1256 = .ok (.iadd, 1) := by decide +kernel
theorem dL_law_1257 : decode cL_law 1257 = .ok (.iaload, 1) := by decide +kernel
theorem dL_law_1258 : decode cL_law 1258 = .ok (.aload_n 0, 1) := by decide +kernel
theorem dL_law_1259 : decode cL_law 1259 = .ok (.iload_n 3, 1) := by decide +kernel
theorem dL_law_1260 : decode cL_law 1260 = .ok (.iconst 2, 1) := by decide +kernel
theorem dL_law_1261 : decode cL_law 1261 = .ok (.iadd, 1) := by decide +kernel
theorem dL_law_1262 : decode cL_law 1262 = .ok (.iaload, 1) := by decide +kernel
theorem dL_law_1263 : decode cL_law 1263 = .ok (.aload_n 0, 1) := by decide +kernel
theorem dL_law_1264 : decode cL_law 1264 = .ok (.iload_n 3, 1) := by decide +kernel
theorem dL_law_1265 : decode cL_law 1265 = .ok (.iconst 3, 1) := by decide +kernel
theorem dL_law_1266 : decode cL_law 1266 = .ok (.iadd, 1) := by decide +kernel
theorem dL_law_1267 : decode cL_law 1267 = .ok (.iaload, 1) := by decide +kernel
theorem dL_law_1268 : decode cL_law 1268 = .ok (.invokevirtual 120, 3) := by decide +kernel
theorem dL_law_1271 : decode cL_law 1271 = .ok (.if_icmp .eq 201, 3) := by decide +kernel
theorem dL_law_1274 : decode cL_law 1274 = .ok (.iconst 0, 1) := by decide +kernel
theorem dL_law_1275 : decode cL_law 1275 = .ok (.ireturn, 1) := by decide +kernel
theorem dL_law_1276 : decode cL_law 1276 = .ok (.aload_n 1, 1) := by decide +kernel
theorem dL_law_1277 : decode cL_law 1277 = .ok (.aload_n 0, 1) := by decide +kernel
theorem dL_law_1278 : decode cL_law 1278 = .ok (.iload_n 3, 1) := by decide +kernel
theorem dL_law_1279 : decode cL_law 1279 = .ok (.iconst 1, 1) := by decide +kernel
theorem dL_law_1280 : decode cL_law 1280 = .ok (.iadd, 1) := by decide +kernel
theorem dL_law_1281 : decode cL_law 1281 = .ok (.iaload, 1) := by decide +kernel
theorem dL_law_1282 : decode cL_law 1282 = .ok (.aload_n 0, 1) := by decide +kernel
theorem dL_law_1283 : decode cL_law 1283 = .ok (.iload_n 3, 1) := by decide +kernel
theorem dL_law_1284 : decode cL_law 1284 = .ok (.iconst 2, 1) := by decide +kernel
theorem dL_law_1285 : decode cL_law 1285 = .ok (.iadd, 1) := by decide +kernel
theorem dL_law_1286 : decode cL_law 1286 = .ok (.iaload, 1) := by decide +kernel
theorem dL_law_1287 : decode cL_law 1287 = .ok (.aload_n 0, 1) := by decide +kernel
theorem dL_law_1288 : decode cL_law 1288 = .ok (.iload_n 3, 1) := by decide +kernel
theorem dL_law_1289 : decode cL_law 1289 = .ok (.iconst 3, 1) := by decide +kernel
theorem dL_law_1290 : decode cL_law 1290 = .ok (.iadd, 1) := by decide +kernel
theorem dL_law_1291 : decode cL_law 1291 = .ok (.iaload, 1) := by decide +kernel
theorem dL_law_1292 : decode cL_law 1292 = .ok (.aload_n 0, 1) := by decide +kernel
theorem dL_law_1293 : decode cL_law 1293 = .ok (.iload_n 3, 1) := by decide +kernel
theorem dL_law_1294 : decode cL_law 1294 = .ok (.iconst 4, 1) := by decide +kernel
theorem dL_law_1295 : decode cL_law 1295 = .ok (.iadd, 1) := by decide +kernel
theorem dL_law_1296 : decode cL_law 1296 = .ok (.iaload, 1) := by decide +kernel
theorem dL_law_1297 : decode cL_law 1297 = .ok (.invokevirtual 121, 3) := by decide +kernel
theorem dL_law_1300 : decode cL_law 1300 = .ok (.aload_n 2, 1) := by decide +kernel
theorem dL_law_1301 : decode cL_law 1301 = .ok (.aload_n 0, 1) := by decide +kernel
theorem dL_law_1302 : decode cL_law 1302 = .ok (.iload_n 3, 1) := by decide +kernel
theorem dL_law_1303 : decode cL_law 1303 = .ok (.iconst 1, 1) := by decide +kernel
theorem dL_law_1304 : decode cL_law 1304 = .ok (.iadd, 1) := by decide +kernel
theorem dL_law_1305 : decode cL_law 1305 = .ok (.iaload, 1) := by decide +kernel
theorem dL_law_1306 : decode cL_law 1306 = .ok (.aload_n 0, 1) := by decide +kernel
theorem dL_law_1307 : decode cL_law 1307 = .ok (.iload_n 3, 1) := by decide +kernel
theorem dL_law_1308 : decode cL_law 1308 = .ok (.iconst 2, 1) := by decide +kernel
theorem dL_law_1309 : decode cL_law 1309 = .ok (.iadd, 1) := by decide +kernel
theorem dL_law_1310 : decode cL_law 1310 = .ok (.iaload, 1) := by decide +kernel
theorem dL_law_1311 : decode cL_law 1311 = .ok (.aload_n 0, 1) := by decide +kernel
theorem dL_law_1312 : decode cL_law 1312 = .ok (.iload_n 3, 1) := by decide +kernel
theorem dL_law_1313 : decode cL_law 1313 = .ok (.iconst 3, 1) := by decide +kernel
theorem dL_law_1314 : decode cL_law 1314 = .ok (.iadd, 1) := by decide +kernel
theorem dL_law_1315 : decode cL_law 1315 = .ok (.iaload, 1) := by decide +kernel
theorem dL_law_1316 : decode cL_law 1316 = .ok (.aload_n 0, 1) := by decide +kernel
theorem dL_law_1317 : decode cL_law 1317 = .ok (.iload_n 3, 1) := by decide +kernel
theorem dL_law_1318 : decode cL_law 1318 = .ok (.iconst 4, 1) := by decide +kernel
theorem dL_law_1319 : decode cL_law 1319 = .ok (.iadd, 1) := by decide +kernel
theorem dL_law_1320 : decode cL_law 1320 = .ok (.iaload, 1) := by decide +kernel
theorem dL_law_1321 : decode cL_law 1321 = .ok (.invokevirtual 125, 3) := by decide +kernel
theorem dL_law_1324 : decode cL_law 1324 = .ok (.lcmp, 1) := by decide +kernel
theorem dL_law_1325 : decode cL_law 1325 = .ok (.ifCond .eq 147, 3) := by decide +kernel
theorem dL_law_1328 : decode cL_law 1328 = .ok (.iconst 0, 1) := by decide +kernel
theorem dL_law_1329 : decode cL_law 1329 = .ok (.ireturn, 1) := by decide +kernel
theorem dL_law_1330 : decode cL_law 1330 = .ok (.aload_n 1, 1) := by decide +kernel
theorem dL_law_1331 : decode cL_law 1331 = .ok (.aload_n 0, 1) := by decide +kernel
theorem dL_law_1332 : decode cL_law 1332 = .ok (.iload_n 3, 1) := by decide +kernel
theorem dL_law_1333 : decode cL_law 1333 = .ok (.iconst 1, 1) := by decide +kernel
theorem dL_law_1334 : decode cL_law 1334 = .ok (.iadd, 1) := by decide +kernel
theorem dL_law_1335 : decode cL_law 1335 = .ok (.iaload, 1) := by decide +kernel
theorem dL_law_1336 : decode cL_law 1336 = .ok (.aload_n 0, 1) := by decide +kernel
theorem dL_law_1337 : decode cL_law 1337 = .ok (.iload_n 3, 1) := by decide +kernel
theorem dL_law_1338 : decode cL_law 1338 = .ok (.iconst 2, 1) := by decide +kernel
theorem dL_law_1339 : decode cL_law 1339 = .ok (.iadd, 1) := by decide +kernel
theorem dL_law_1340 : decode cL_law 1340 = .ok (.iaload, 1) := by decide +kernel
theorem dL_law_1341 : decode cL_law 1341 = .ok (.aload_n 0, 1) := by decide +kernel
theorem dL_law_1342 : decode cL_law 1342 = .ok (.iload_n 3, 1) := by decide +kernel
theorem dL_law_1343 : decode cL_law 1343 = .ok (.iconst 3, 1) := by decide +kernel
theorem dL_law_1344 : decode cL_law 1344 = .ok (.iadd, 1) := by decide +kernel
theorem dL_law_1345 : decode cL_law 1345 = .ok (.iaload, 1) := by decide +kernel
theorem dL_law_1346 : decode cL_law 1346 = .ok (.aload_n 0, 1) := by decide +kernel
theorem dL_law_1347 : decode cL_law 1347 = .ok (.iload_n 3, 1) := by decide +kernel
theorem dL_law_1348 : decode cL_law 1348 = .ok (.iconst 4, 1) := by decide +kernel
theorem dL_law_1349 : decode cL_law 1349 = .ok (.iadd, 1) := by decide +kernel
theorem dL_law_1350 : decode cL_law 1350 = .ok (.iaload, 1) := by decide +kernel
theorem dL_law_1351 : decode cL_law 1351 = .ok (.aload_n 0, 1) := by decide +kernel
theorem dL_law_1352 : decode cL_law 1352 = .ok (.iload_n 3, 1) := by decide +kernel
theorem dL_law_1353 : decode cL_law 1353 = .ok (.iconst 5, 1) := by decide +kernel
theorem dL_law_1354 : decode cL_law 1354 = .ok (.iadd, 1) := by decide +kernel
theorem dL_law_1355 : decode cL_law 1355 = .ok (.iaload, 1) := by decide +kernel
theorem dL_law_1356 : decode cL_law 1356 = .ok (.invokevirtual 126, 3) := by decide +kernel
theorem dL_law_1359 : decode cL_law 1359 = .ok (.aload_n 2, 1) := by decide +kernel
theorem dL_law_1360 : decode cL_law 1360 = .ok (.aload_n 0, 1) := by decide +kernel
theorem dL_law_1361 : decode cL_law 1361 = .ok (.iload_n 3, 1) := by decide +kernel
theorem dL_law_1362 : decode cL_law 1362 = .ok (.iconst 1, 1) := by decide +kernel
theorem dL_law_1363 : decode cL_law 1363 = .ok (.iadd, 1) := by decide +kernel
theorem dL_law_1364 : decode cL_law 1364 = .ok (.iaload, 1) := by decide +kernel
theorem dL_law_1365 : decode cL_law 1365 = .ok (.aload_n 0, 1) := by decide +kernel
theorem dL_law_1366 : decode cL_law 1366 = .ok (.iload_n 3, 1) := by decide +kernel
theorem dL_law_1367 : decode cL_law 1367 = .ok (.iconst 2, 1) := by decide +kernel
theorem dL_law_1368 : decode cL_law 1368 = .ok (.iadd, 1) := by decide +kernel
theorem dL_law_1369 : decode cL_law 1369 = .ok (.iaload, 1) := by decide +kernel
theorem dL_law_1370 : decode cL_law 1370 = .ok (.aload_n 0, 1) := by decide +kernel
theorem dL_law_1371 : decode cL_law 1371 = .ok (.iload_n 3, 1) := by decide +kernel
theorem dL_law_1372 : decode cL_law 1372 = .ok (.iconst 3, 1) := by decide +kernel
theorem dL_law_1373 : decode cL_law 1373 = .ok (.iadd, 1) := by decide +kernel
theorem dL_law_1374 : decode cL_law 1374 = .ok (.iaload, 1) := by decide +kernel
theorem dL_law_1375 : decode cL_law 1375 = .ok (.aload_n 0, 1) := by decide +kernel
theorem dL_law_1376 : decode cL_law 1376 = .ok (.iload_n 3, 1) := by decide +kernel
theorem dL_law_1377 : decode cL_law 1377 = .ok (.iconst 4, 1) := by decide +kernel
theorem dL_law_1378 : decode cL_law 1378 = .ok (.iadd, 1) := by decide +kernel
theorem dL_law_1379 : decode cL_law 1379 = .ok (.iaload, 1) := by decide +kernel
theorem dL_law_1380 : decode cL_law 1380 = .ok (.aload_n 0, 1) := by decide +kernel
theorem dL_law_1381 : decode cL_law 1381 = .ok (.iload_n 3, 1) := by decide +kernel
theorem dL_law_1382 : decode cL_law 1382 = .ok (.iconst 5, 1) := by decide +kernel
theorem dL_law_1383 : decode cL_law 1383 = .ok (.iadd, 1) := by decide +kernel
theorem dL_law_1384 : decode cL_law 1384 = .ok (.iaload, 1) := by decide +kernel
theorem dL_law_1385 : decode cL_law 1385 = .ok (.invokevirtual 129, 3) := by decide +kernel
theorem dL_law_1388 : decode cL_law 1388 = .ok (.if_icmp .eq 84, 3) := by decide +kernel
theorem dL_law_1391 : decode cL_law 1391 = .ok (.iconst 0, 1) := by decide +kernel
theorem dL_law_1392 : decode cL_law 1392 = .ok (.ireturn, 1) := by decide +kernel
theorem dL_law_1393 : decode cL_law 1393 = .ok (.aload_n 1, 1) := by decide +kernel
theorem dL_law_1394 : decode cL_law 1394 = .ok (.aload_n 0, 1) := by decide +kernel
theorem dL_law_1395 : decode cL_law 1395 = .ok (.iload_n 3, 1) := by decide +kernel
theorem dL_law_1396 : decode cL_law 1396 = .ok (.iconst 1, 1) := by decide +kernel
theorem dL_law_1397 : decode cL_law 1397 = .ok (.iadd, 1) := by decide +kernel
theorem dL_law_1398 : decode cL_law 1398 = .ok (.iaload, 1) := by decide +kernel
theorem dL_law_1399 : decode cL_law 1399 = .ok (.aload_n 0, 1) := by decide +kernel
theorem dL_law_1400 : decode cL_law 1400 = .ok (.iload_n 3, 1) := by decide +kernel
theorem dL_law_1401 : decode cL_law 1401 = .ok (.iconst 2, 1) := by decide +kernel
theorem dL_law_1402 : decode cL_law 1402 = .ok (.iadd, 1) := by decide +kernel
theorem dL_law_1403 : decode cL_law 1403 = .ok (.iaload, 1) := by decide +kernel
theorem dL_law_1404 : decode cL_law 1404 = .ok (.invokevirtual 130, 3) := by decide +kernel
theorem dL_law_1407 : decode cL_law 1407 = .ok (.aload_n 2, 1) := by decide +kernel
theorem dL_law_1408 : decode cL_law 1408 = .ok (.aload_n 0, 1) := by decide +kernel
theorem dL_law_1409 : decode cL_law 1409 = .ok (.iload_n 3, 1) := by decide +kernel
theorem dL_law_1410 : decode cL_law 1410 = .ok (.iconst 1, 1) := by decide +kernel
theorem dL_law_1411 : decode cL_law 1411 = .ok (.iadd, 1) := by decide +kernel
theorem dL_law_1412 : decode cL_law 1412 = .ok (.iaload, 1) := by decide +kernel
theorem dL_law_1413 : decode cL_law 1413 = .ok (.aload_n 0, 1) := by decide +kernel
theorem dL_law_1414 : decode cL_law 1414 = .ok (.iload_n 3, 1) := by decide +kernel
theorem dL_law_1415 : decode cL_law 1415 = .ok (.iconst 2, 1) := by decide +kernel
theorem dL_law_1416 : decode cL_law 1416 = .ok (.iadd, 1) := by decide +kernel
theorem dL_law_1417 : decode cL_law 1417 = .ok (.iaload, 1) := by decide +kernel
theorem dL_law_1418 : decode cL_law 1418 = .ok (.invokevirtual 133, 3) := by decide +kernel
theorem dL_law_1421 : decode cL_law 1421 = .ok (.if_icmp .eq 51, 3) := by decide +kernel
theorem dL_law_1424 : decode cL_law 1424 = .ok (.iconst 0, 1) := by decide +kernel
theorem dL_law_1425 : decode cL_law 1425 = .ok (.ireturn, 1) := by decide +kernel
theorem dL_law_1426 : decode cL_law 1426 = .ok (.aload_n 1, 1) := by decide +kernel
theorem dL_law_1427 : decode cL_law 1427 = .ok (.aload_n 0, 1) := by decide +kernel
theorem dL_law_1428 : decode cL_law 1428 = .ok (.iload_n 3, 1) := by decide +kernel
theorem dL_law_1429 : decode cL_law 1429 = .ok (.iconst 1, 1) := by decide +kernel
theorem dL_law_1430 : decode cL_law 1430 = .ok (.iadd, 1) := by decide +kernel
theorem dL_law_1431 : decode cL_law 1431 = .ok (.iaload, 1) := by decide +kernel
theorem dL_law_1432 : decode cL_law 1432 = .ok (.invokevirtual 134, 3) := by decide +kernel
theorem dL_law_1435 : decode cL_law 1435 = .ok (.aload_n 2, 1) := by decide +kernel
theorem dL_law_1436 : decode cL_law 1436 = .ok (.aload_n 0, 1) := by decide +kernel
theorem dL_law_1437 : decode cL_law 1437 = .ok (.iload_n 3, 1) := by decide +kernel
theorem dL_law_1438 : decode cL_law 1438 = .ok (.iconst 1, 1) := by decide +kernel
theorem dL_law_1439 : decode cL_law 1439 = .ok (.iadd, 1) := by decide +kernel
theorem dL_law_1440 : decode cL_law 1440 = .ok (.iaload, 1) := by decide +kernel
theorem dL_law_1441 : decode cL_law 1441 = .ok (.invokevirtual 137, 3) := by decide +kernel
theorem dL_law_1444 : decode cL_law 1444 = .ok (.if_icmp .eq 28, 3) := by decide +kernel
theorem dL_law_1447 : decode cL_law 1447 = .ok (.iconst 0, 1) := by decide +kernel
theorem dL_law_1448 : decode cL_law 1448 = .ok (.ireturn, 1) := by decide +kernel
theorem dL_law_1449 : decode cL_law 1449 = .ok (.aload_n 1, 1) := by decide +kernel
theorem dL_law_1450 : decode cL_law 1450 = .ok (.aload_n 0, 1) := by decide +kernel
theorem dL_law_1451 : decode cL_law 1451 = .ok (.iload_n 3, 1) := by decide +kernel
theorem dL_law_1452 : decode cL_law 1452 = .ok (.iconst 1, 1) := by decide +kernel
theorem dL_law_1453 : decode cL_law 1453 = .ok (.iadd, 1) := by decide +kernel
theorem dL_law_1454 : decode cL_law 1454 = .ok (.iaload, 1) := by decide +kernel
theorem dL_law_1455 : decode cL_law 1455 = .ok (.invokevirtual 138, 3) := by decide +kernel
theorem dL_law_1458 : decode cL_law 1458 = .ok (.aload_n 2, 1) := by decide +kernel
theorem dL_law_1459 : decode cL_law 1459 = .ok (.aload_n 0, 1) := by decide +kernel
theorem dL_law_1460 : decode cL_law 1460 = .ok (.iload_n 3, 1) := by decide +kernel
theorem dL_law_1461 : decode cL_law 1461 = .ok (.iconst 1, 1) := by decide +kernel
theorem dL_law_1462 : decode cL_law 1462 = .ok (.iadd, 1) := by decide +kernel
theorem dL_law_1463 : decode cL_law 1463 = .ok (.iaload, 1) := by decide +kernel
theorem dL_law_1464 : decode cL_law 1464 = .ok (.invokevirtual 141, 3) := by decide +kernel
theorem dL_law_1467 : decode cL_law 1467 = .ok (.if_icmp .eq 5, 3) := by decide +kernel
theorem dL_law_1470 : decode cL_law 1470 = .ok (.iconst 0, 1) := by decide +kernel
theorem dL_law_1471 : decode cL_law 1471 = .ok (.ireturn, 1) := by decide +kernel
theorem dL_law_1472 : decode cL_law 1472 = .ok (.iinc 3 6, 3) := by decide +kernel
theorem dL_law_1475 : decode cL_law 1475 = .ok (.goto (-1457), 3) := by decide +kernel
theorem dL_law_1478 : decode cL_law 1478 = .ok (.iconst 1, 1) := by decide +kernel
theorem dL_law_1479 : decode cL_law 1479 = .ok (.ireturn, 1) := by decide +kernel
end
section
/-! ===== words: the good ones of the tables, and those of the nest ===== -/
def gT : List Cond := lw_tbl.filter goodWord
def isNest : Cond → Bool
  | .fieldLinkNest .. => true
  | .methodLinkNest .. => true
  | _ => false
def nestL : List Cond := lw_tbl.filter isNest
def nwC (U : State) : Prop := ∀ w ∈ nestL, va_Nw w U
theorem gT_good {w : Cond} (h : w ∈ gT) : (w.onTables && w.keeps) = true ∨ ∃ ty, w = .arrayClass ty := good_of_word (List.mem_filter.mp h).2
theorem gT_in {c : Cond} (h : c ∈ gT) : GoodIn gT (c :: gT) := fun w hw => (List.mem_cons.mp hw).elim (fun e => e ▸ ⟨h, gT_good h⟩) (fun h2 => ⟨h2, gT_good h2⟩)
theorem gT_mk {w : Cond} (h : w ∈ lw_tbl) (h2 : goodWord w = true) : w ∈ gT := List.mem_filter.mpr ⟨h, h2⟩
theorem nestL_mk {w : Cond} (h : w ∈ lw_tbl) (h2 : isNest w = true) : w ∈ nestL := List.mem_filter.mpr ⟨h, h2⟩
theorem nw_warm {s U : State} (hW : s.WarmedH U.vm) (h : nwC s) : nwC U := by
  intro w hw
  have h1 := (List.mem_filter.mp hw).2
  have h2 := h w hw
  cases w with
  | fieldLinkNest a i b n d hh => exact va_Nw.warmF hW h2
  | methodLinkNest a i x hh => exact va_Nw.warmM hW h2
  | _ => exact absurd h1 (by simp [isNest])
theorem nw_same {u U : State} (hv : u.vm = U.vm) (h : nwC u) : nwC U := by
  intro w hw
  have h1 := (List.mem_filter.mp hw).2
  have h2 := h w hw
  cases w with
  | fieldLinkNest a i b n d hh => exact va_Nw.same rfl hv h2
  | methodLinkNest a i x hh => exact va_Nw.same rfl hv h2
  | _ => exact absurd h1 (by simp [isNest])
/-! ===== contracts over a world ===== -/
def rmA (d mc ms : Nat) : Room := { frames := d, cells := mc, slots := ms, locals := 30 * d }
def PX (D : va_G) (tys : List (ClassId × FieldType)) (w : va_W) (sz : Nat) : State → Prop := fun U => U.heap.size = sz ∧ va_P D vwCl w U.heap ∧ va_K D vwCl tys U ∧ va_D (fun _ => True) w ∧ nwC U
def BX {S : Type} (D : va_G) (wf : S → va_W) (A : Nat → Prop) : S → State → Prop := fun u t => va_P D vwCl (wf u) t.heap ∧ va_D A (wf u)
def HX (D : va_G) (w : va_W) (A : Nat → Prop) (H0 H : Heap) (locs : List Loc) : Prop := va_P D vwCl w H ∧ va_D A w ∧ va_S A H0 H locs ∧ ∀ q : Nat, H0.size ≤ q → A q
def Cx (p : Program) (s : State) (m : MethodId) (args : Array Value) (meth : Method) (c : Code) (cc : ByteArray) (nL : Nat) (own : String) (ret : Option FieldType) (D : va_G) (tys : List (ClassId × FieldType)) : Prop :=
  p.tables.exec = Jvm.exec ∧ c.code = cc ∧ c.maxLocals = nL ∧ s.vm.findClass own = some m.cls ∧ (∀ w ∈ gT, w.before args s = true) ∧ va_K D vwCl tys s ∧ nwC s ∧ meth.sig.returnType = ret ∧ meth.locks = false
abbrev QcT : Type := (Nat → Prop) → Array Value → State → Outcome → State → Prop
def MetX (l : Launch) (D : va_G) (tys : List (ClassId × FieldType)) (y : MethodName) (bytes : ByteArray) (maxL : Nat) (ret : Option FieldType) (d mc ms : Nat) (av : List Value) (w0 : va_W) (Qc : QcT) : Prop :=
  ∀ sz : Nat, Met l y (.code y bytes maxL ret :: gT) (rmA d mc ms) (va_Pc av (PX D tys w0 sz)) (Qc (va_A w0 sz)) mc ms (va_A w0 sz)
def QI {S : Type} (D : va_G) (wf : S → va_W) (post : Int32 → S → Prop) : QcT := fun A => va_Qi post (BX D wf A) A
def QL {S : Type} (D : va_G) (wf : S → va_W) (post : Int64 → S → Prop) : QcT := fun A => va_Ql post (BX D wf A) A
def QV {S : Type} (D : va_G) (wf : S → va_W) (post : S → Prop) : QcT := fun A => va_Qv post (BX D wf A) A
def QR {S : Type} (D : va_G) (wf : S → va_W) (rf : S → Nat) (post : S → Prop) : QcT := fun A => va_Qr post (fun u ra t => ra = rf u ∧ BX D wf A u t) A
def Yok (y : MethodName) (bytes : ByteArray) (maxL : Nat) (ret : Option FieldType) (n : Nat) : Prop := Cond.code y bytes maxL ret ∈ gT ∧ Cond.initialized y.cls ∈ gT ∧ (y.cls ≠ "java/lang/invoke/MethodHandle" ∧ y.cls ≠ "java/lang/invoke/VarHandle" ∧ (parseMethodDescriptor y.desc).map (fun d => d.parameters.length) = some n)
theorem PX_blind {D : va_G} {tys : List (ClassId × FieldType)} {w : va_W} {sz : Nat} {av : List Value} : FrameBlind (va_Pc av (PX D tys w sz)) := by
  intro a U g mk q
  obtain ⟨q0, q1, qP, qK, qD, qN⟩ := q
  exact ⟨q0, q1, qP, va_K.moved (u := U) (U := U.calling g mk a) (Vm.Alike.refl U.vm) qK, qD, nw_same (u := U) (U := U.calling g mk a) rfl qN⟩
theorem x_free {D : va_G} {w : va_W} {A : Nat → Prop} {H0 H : Heap} {locs : List Loc} (hH : HX D w A H0 H locs) : ∀ q, va_A w H.size q → A q := by
  intro q h
  rcases h with ⟨k, e, h⟩ | h
  · exact hH.2.1.2 k (q, e) h
  · exact hH.2.2.2 q (Nat.le_trans hH.2.2.1.1 h)
theorem x_ent {l : Launch} {D : va_G} {tys : List (ClassId × FieldType)} {y : MethodName} {bytes : ByteArray} {maxL : Nat} {ret : Option FieldType} {d mc ms : Nat} {av : List Value} {w0 : va_W} {Qc : QcT} (hy : plainName y.cls = true) (hlen : (lg_sl av).length ≤ maxL)
    (body : ∀ (p : Program) (e : Env) (s : State) (m : MethodId) (below : List Frame) (meth : Method) (c : Code) (ls : Array Slot), Cx p s m av.toArray meth c bytes maxL y.cls ret D tys → meth.name = y.name → HX D w0 (va_A w0 s.heap.size) s.heap s.heap [] → lv_has ls maxL (lv_args 0 av) → W p l e (rmA d mc ms) s m av.toArray below meth c s.heap [] 0 0 (MQ below (Qc (va_A w0 s.heap.size)) av.toArray s mc ms (va_A w0 s.heap.size)) (F0 m 0 ls [])) : MetX l D tys y bytes maxL ret d mc ms av w0 Qc := by
  intro sz
  refine Met.ofW (cc := bytes) (maxL := maxL) (ret := ret) hy rfl ?_
  intro p e s m args below meth c s₁ B hml hv
  obtain ⟨rfl, hsz, hP, hK, hD0, hN⟩ := hv
  subst hsz
  have hts := atoms_spec (ws := .code y bytes maxL ret :: gT) B.pre
  have hl := lv_entry av (n := maxL) hlen
  rw [lg_entry_eq]
  exact body p e s m below meth c _ ⟨B.exec, B.bytes, hml, findClass_of_methodNamed B.named, fun w h => hts w (List.mem_cons_of_mem _ h), hK, hN, B.returns, B.notSynchronized⟩ (name_of_methodNamed B.named B.method).1 ⟨hP, hD0.self, va_S.rf, fun q h => Or.inr h⟩ hl
section XROWS
variable {p : Program} {l : Launch} {e : Env} {R : Room} {s : State} {m : MethodId} {args : Array Value} {below : List Frame} {meth : Method} {c : Code} {H H0 : Heap} {locs : List Loc} {cells slots : Nat} {Q : State → Prop} {cc : ByteArray} {nL : Nat} {own : String} {rt : Option FieldType} {D : va_G} {tys : List (ClassId × FieldType)} {A : Nat → Prop} {w0 : va_W} {S : Type} {wf : S → va_W} {y : MethodName} {bytes : ByteArray} {maxL : Nat} {ret : Option FieldType} {d mc ms n index : Nat} {b : Nat} {As rest st : List Value} {pc : Nat} {ls : Array Slot}
theorem x_runV {Qc : QcT} (E : Cx p s m args meth c cc nL own rt D tys) (hM : MetX l D tys y bytes maxL ret d mc ms (.ref b :: As) w0 Qc) (hy : Yok y bytes maxL ret n) (hi : Cond.instanceMethod y ∈ gT ∧ Cond.selects y.cls y y ∈ gT) (hlink : Cond.methodLink own index y ∈ gT) (hR : d + 1 ≤ R.frames ∧ 8 + (maxL + 11) + 30 * d ≤ R.locals) (hcs : cells + mc ≤ R.cells ∧ slots + ms ≤ R.slots) (hH : HX D w0 A H0 H locs)
    (hrc : ∃ cellB : Cell, H[b]? = some cellB ∧ cellB.vm.isStatics = false ∧ s.vm.findClass y.cls = some cellB.cls) (hls : ls.size = nL) (hn : As.length = n) (hst : st = As.reverse ++ .ref b :: rest) (hrest : 2 * (F0 m pc ls st).monitorRoom + (rest.map fun v => v.category).sum ≤ 8) (hdg : decode cc pc = .ok (.invokevirtual index, 3)) :
    va_Run p l e R s m args below meth c H locs cells slots mc ms (F0 m pc ls st) rest (Qc (va_A w0 H.size) (Value.ref b :: As).toArray) (va_A w0 H.size) := by
  obtain ⟨hx, hb, hml, hown, hg, hK, hnw, hr, hlk⟩ := E
  exact va_runV (As := As) (rest := rest) (Ts := gT) ⟨hx, hb, hml, hown, hg⟩ (hM H.size) ⟨callB_of n hg (gT_in hy.1) rfl rfl rfl (hg _ hy.2.1) (hg _ hlink) hy.2.2 hR, hg _ hi.1, hg _ hi.2⟩ ⟨PX_blind, hrc, fun U hU hW => ⟨rfl, by rw [hU], by rw [hU]; exact hH.1, va_K.moved hW.alike hK, hH.2.1.weaken (fun _ _ _ _ => trivial), nw_warm hW hnw⟩⟩ rfl hn hls hst hrest hdg hcs
theorem x_runVN {Qc : QcT} {host : String} (E : Cx p s m args meth c cc nL own rt D tys) (hM : MetX l D tys y bytes maxL ret d mc ms (.ref b :: As) w0 Qc) (hy : Yok y bytes maxL ret n) (hi : Cond.instanceMethod y ∈ gT ∧ Cond.selects y.cls y y ∈ gT) (hlink : Cond.methodLinkNest own index y host ∈ nestL) (hR : d + 1 ≤ R.frames ∧ 8 + (maxL + 11) + 30 * d ≤ R.locals) (hcs : cells + mc ≤ R.cells ∧ slots + ms ≤ R.slots) (hH : HX D w0 A H0 H locs)
    (hrc : ∃ cellB : Cell, H[b]? = some cellB ∧ cellB.vm.isStatics = false ∧ s.vm.findClass y.cls = some cellB.cls) (hls : ls.size = nL) (hn : As.length = n) (hst : st = As.reverse ++ .ref b :: rest) (hrest : 2 * (F0 m pc ls st).monitorRoom + (rest.map fun v => v.category).sum ≤ 8) (hdg : decode cc pc = .ok (.invokevirtual index, 3)) :
    va_Run p l e R s m args below meth c H locs cells slots mc ms (F0 m pc ls st) rest (Qc (va_A w0 H.size) (Value.ref b :: As).toArray) (va_A w0 H.size) := by
  obtain ⟨hx, hb, hml, hown, hg, hK, hnw, hr, hlk⟩ := E
  exact va_runVN (As := As) (rest := rest) (Ts := gT) ⟨hx, hb, hml, hown, hg⟩ (hM H.size) ⟨va_cnB n hg (gT_in hy.1) rfl rfl rfl (hnw _ hlink) (hg _ hy.2.1) hy.2.2 hR, hg _ hi.1, hg _ hi.2⟩ ⟨PX_blind, hrc, fun U hU hW => ⟨rfl, by rw [hU], by rw [hU]; exact hH.1, va_K.moved hW.alike hK, hH.2.1.weaken (fun _ _ _ _ => trivial), nw_warm hW hnw⟩⟩ rfl hn hls hst hrest hdg hcs
theorem x_runS {Qc : QcT} (E : Cx p s m args meth c cc nL own rt D tys) (hM : MetX l D tys y bytes maxL ret d mc ms As w0 Qc) (hy : Yok y bytes maxL ret n) (hi : Cond.static y ∈ gT) (hlink : Cond.methodLink own index y ∈ gT) (hR : d + 1 ≤ R.frames ∧ 8 + (maxL + 11) + 30 * d ≤ R.locals) (hcs : cells + mc ≤ R.cells ∧ slots + ms ≤ R.slots) (hH : HX D w0 A H0 H locs)
    (hls : ls.size = nL) (hn : As.length = n) (hst : st = As.reverse ++ rest) (hrest : 2 * (F0 m pc ls st).monitorRoom + (rest.map fun v => v.category).sum ≤ 8) (hdg : decode cc pc = .ok (.invokestatic index, 3)) :
    va_Run p l e R s m args below meth c H locs cells slots mc ms (F0 m pc ls st) rest (Qc (va_A w0 H.size) As.toArray) (va_A w0 H.size) := by
  obtain ⟨hx, hb, hml, hown, hg, hK, hnw, hr, hlk⟩ := E
  exact va_runS (As := As) (rest := rest) (Ts := gT) ⟨hx, hb, hml, hown, hg⟩ (hM H.size) ⟨callB_of n hg (gT_in hy.1) rfl rfl rfl (hg _ hy.2.1) (hg _ hlink) hy.2.2 hR, hg _ hi⟩ ⟨PX_blind, fun U hU hW => ⟨rfl, by rw [hU], by rw [hU]; exact hH.1, va_K.moved hW.alike hK, hH.2.1.weaken (fun _ _ _ _ => trivial), nw_warm hW hnw⟩⟩ rfl hn hls hst hrest hdg hcs
theorem x_runI {Qc : QcT} (E : Cx p s m args meth c cc nL own rt D tys) (hM : MetX l D tys y bytes maxL none d mc ms (.ref b :: As) w0 Qc) (hy : Yok y bytes maxL none n) (hi : Cond.instanceMethod y ∈ gT ∧ y.name = "<init>") (hlink : Cond.methodLink own index y ∈ gT) (hR : d + 1 ≤ R.frames ∧ 8 + (maxL + 11) + 30 * d ≤ R.locals) (hcs : cells + mc ≤ R.cells ∧ slots + ms ≤ R.slots) (hH : HX D w0 A H0 H locs)
    (hls : ls.size = nL) (hn : As.length = n) (hst : st = As.reverse ++ .ref b :: rest) (hrest : 2 * (F0 m pc ls st).monitorRoom + (rest.map fun v => v.category).sum ≤ 8) (hdg : decode cc pc = .ok (.invokespecial index, 3)) :
    va_Run p l e R s m args below meth c H locs cells slots mc ms (F0 m pc ls st) rest (Qc (va_A w0 H.size) (Value.ref b :: As).toArray) (va_A w0 H.size) := by
  obtain ⟨hx, hb, hml, hown, hg, hK, hnw, hr, hlk⟩ := E
  exact va_runI (As := As) (rest := rest) (Ts := gT) ⟨hx, hb, hml, hown, hg⟩ (hM H.size) ⟨callB_of n hg (gT_in hy.1) rfl rfl rfl (hg _ hy.2.1) (hg _ hlink) hy.2.2 hR, hi.2, hg _ hi.1⟩ ⟨PX_blind, fun U hU hW => ⟨rfl, by rw [hU], by rw [hU]; exact hH.1, va_K.moved hW.alike hK, hH.2.1.weaken (fun _ _ _ _ => trivial), nw_warm hW hnw⟩⟩ rfl hn hls hst hrest hdg hcs
theorem x_runIN {Qc : QcT} {host : String} (E : Cx p s m args meth c cc nL own rt D tys) (hM : MetX l D tys y bytes maxL none d mc ms (.ref b :: As) w0 Qc) (hy : Yok y bytes maxL none n) (hi : Cond.instanceMethod y ∈ gT ∧ y.name = "<init>") (hlink : Cond.methodLinkNest own index y host ∈ nestL) (hR : d + 1 ≤ R.frames ∧ 8 + (maxL + 11) + 30 * d ≤ R.locals) (hcs : cells + mc ≤ R.cells ∧ slots + ms ≤ R.slots) (hH : HX D w0 A H0 H locs)
    (hls : ls.size = nL) (hn : As.length = n) (hst : st = As.reverse ++ .ref b :: rest) (hrest : 2 * (F0 m pc ls st).monitorRoom + (rest.map fun v => v.category).sum ≤ 8) (hdg : decode cc pc = .ok (.invokespecial index, 3)) :
    va_Run p l e R s m args below meth c H locs cells slots mc ms (F0 m pc ls st) rest (Qc (va_A w0 H.size) (Value.ref b :: As).toArray) (va_A w0 H.size) := by
  obtain ⟨hx, hb, hml, hown, hg, hK, hnw, hr, hlk⟩ := E
  exact va_runIN (As := As) (rest := rest) (Ts := gT) ⟨hx, hb, hml, hown, hg⟩ (hM H.size) ⟨va_cnB n hg (gT_in hy.1) rfl rfl rfl (hnw _ hlink) (hg _ hy.2.1) hy.2.2 hR, hi.2, hg _ hi.1⟩ ⟨PX_blind, fun U hU hW => ⟨rfl, by rw [hU], by rw [hU]; exact hH.1, va_K.moved hW.alike hK, hH.2.1.weaken (fun _ _ _ _ => trivial), nw_warm hW hnw⟩⟩ rfl hn hls hst hrest hdg hcs
/-- behind a call -/
theorem x_ci {post : Int32 → S → Prop} {a : Array Value} (hr : va_Run p l e R s m args below meth c H locs cells slots mc ms (F0 m pc ls st) rest (QI D wf post (va_A w0 H.size) a) (va_A w0 H.size)) (hH : HX D w0 A H0 H locs)
    (kk : ∀ (r : Int32) (u : S) (H1 : Heap) (locs1 : List Loc), post r u → HX D (wf u) A H0 H1 locs1 → W p l e R s m args below meth c H1 locs1 (cells + mc) (slots + ms) Q (F0 m (pc + 3) ls (.int r :: rest))) : W p l e R s m args below meth c H locs cells slots Q (F0 m pc ls st) := by
  have hF := x_free hH
  exact va_calli hr hH.2.2.1 (fun q _ h => hF q h) hF (fun r u t H1 locs1 ht hvm hw hB hz1 hk1 hS => kk r u H1 locs1 hw ⟨by rw [← ht]; exact hB.1, hB.2.weaken (fun _ q _ h => hF q.1 h), hS, hH.2.2.2⟩)
theorem x_cl {post : Int64 → S → Prop} {a : Array Value} (hr : va_Run p l e R s m args below meth c H locs cells slots mc ms (F0 m pc ls st) rest (QL D wf post (va_A w0 H.size) a) (va_A w0 H.size)) (hH : HX D w0 A H0 H locs)
    (kk : ∀ (r : Int64) (u : S) (H1 : Heap) (locs1 : List Loc), post r u → HX D (wf u) A H0 H1 locs1 → W p l e R s m args below meth c H1 locs1 (cells + mc) (slots + ms) Q (F0 m (pc + 3) ls (.long r :: rest))) : W p l e R s m args below meth c H locs cells slots Q (F0 m pc ls st) := by
  have hF := x_free hH
  exact va_calll hr hH.2.2.1 (fun q _ h => hF q h) hF (fun r u t H1 locs1 ht hvm hw hB hz1 hk1 hS => kk r u H1 locs1 hw ⟨by rw [← ht]; exact hB.1, hB.2.weaken (fun _ q _ h => hF q.1 h), hS, hH.2.2.2⟩)
theorem x_cv {post : S → Prop} {a : Array Value} (hr : va_Run p l e R s m args below meth c H locs cells slots mc ms (F0 m pc ls st) rest (QV D wf post (va_A w0 H.size) a) (va_A w0 H.size)) (hH : HX D w0 A H0 H locs)
    (kk : ∀ (u : S) (H1 : Heap) (locs1 : List Loc), post u → HX D (wf u) A H0 H1 locs1 → W p l e R s m args below meth c H1 locs1 (cells + mc) (slots + ms) Q (F0 m (pc + 3) ls rest)) : W p l e R s m args below meth c H locs cells slots Q (F0 m pc ls st) := by
  have hF := x_free hH
  exact va_callv hr hH.2.2.1 (fun q _ h => hF q h) hF (fun u t H1 locs1 ht hvm hw hB hz1 hk1 hS => kk u H1 locs1 hw ⟨by rw [← ht]; exact hB.1, hB.2.weaken (fun _ q _ h => hF q.1 h), hS, hH.2.2.2⟩)
theorem x_cr {post : S → Prop} {rf : S → Nat} {a : Array Value} (hr : va_Run p l e R s m args below meth c H locs cells slots mc ms (F0 m pc ls st) rest (QR D wf rf post (va_A w0 H.size) a) (va_A w0 H.size)) (hH : HX D w0 A H0 H locs)
    (kk : ∀ (u : S) (H1 : Heap) (locs1 : List Loc), post u → HX D (wf u) A H0 H1 locs1 → W p l e R s m args below meth c H1 locs1 (cells + mc) (slots + ms) Q (F0 m (pc + 3) ls (.ref (rf u) :: rest))) : W p l e R s m args below meth c H locs cells slots Q (F0 m pc ls st) := by
  have hF := x_free hH
  refine va_callr hr hH.2.2.1 (fun q _ h => hF q h) hF (fun u ra t H1 locs1 ht hvm hw hB hz1 hk1 hS => ?_)
  obtain ⟨rfl, hB1, hB2⟩ := hB
  exact kk u H1 locs1 hw ⟨by rw [← ht]; exact hB1, hB2.weaken (fun _ q _ h => hF q.1 h), hS, hH.2.2.2⟩
/-- a frame rule: what is called works on a part wc of the world wc ++ wr -/
theorem x_part {wc wr : va_W} (hH : HX D (wc ++ wr) A H0 H locs) : HX D wc A H0 H locs := by
  obtain ⟨hP, hD, hS, hA⟩ := hH
  have g : ∀ (k : Nat) (q : Nat × va_E), wc[k]? = some q → (wc ++ wr)[k]? = some q := fun k q h => by
    rw [List.getElem?_append_left (List.getElem?_eq_some_iff.mp h).1]; exact h
  exact ⟨fun k q h => hP k q (g k q h), ⟨fun i j p q hi hj => hD.1 i j p q (g i p hi) (g j q hj), fun k q h => hD.2 k q (g k q h)⟩, hS, hA⟩
theorem x_swap {wc wr : va_W} (hH : HX D (wc ++ wr) A H0 H locs) : HX D (wr ++ wc) A H0 H locs := by
  obtain ⟨hP, hD, hS, hA⟩ := hH
  have g : ∀ (k : Nat) (q : Nat × va_E), (wr ++ wc)[k]? = some q → (wc ++ wr)[if k < wr.length then wc.length + k else k - wr.length]? = some q := fun k q h => by
    by_cases hk : k < wr.length
    · rw [List.getElem?_append_left hk] at h
      rw [if_pos hk, List.getElem?_append_right (by omega), show wc.length + k - wc.length = k by omega]
      exact h
    · rw [List.getElem?_append_right (by omega)] at h
      rw [if_neg hk, List.getElem?_append_left (List.getElem?_eq_some_iff.mp h).1]
      exact h
  refine ⟨fun k q h => hP _ q (g k q h), ⟨fun i j p q hi hj e => ?_, fun k q h => hD.2 _ q (g k q h)⟩, hS, hA⟩
  have e1 := hD.1 _ _ p q (g i p hi) (g j q hj) e
  have li := (List.getElem?_eq_some_iff.mp hi).1
  have lj := (List.getElem?_eq_some_iff.mp hj).1
  rw [List.length_append] at li lj
  by_cases h1 : i < wr.length <;> by_cases h2 : j < wr.length <;> simp only [h1, h2, if_true, if_false] at e1 <;> omega
theorem x_back {wc wr w1 : va_W} {H1 : Heap} {locs1 : List Loc} (hH : HX D (wc ++ wr) A H0 H locs) (hk : ∀ q : Nat, q < H.size → ¬ va_A wc H.size q → H1[q]? = H[q]?) (hP1 : va_P D vwCl w1 H1) (hD1 : va_D (va_A wc H.size) w1) (hS : va_S A H0 H1 locs1) : HX D (w1 ++ wr) A H0 H1 locs1 := by
  have hF := x_free (x_part hH)
  obtain ⟨hP, hD, -, hA⟩ := hH
  have g : ∀ (k : Nat) (q : Nat × va_E), wr[k]? = some q → (wc ++ wr)[wc.length + k]? = some q := fun k q h => by
    rw [List.getElem?_append_right (by omega), show wc.length + k - wc.length = k by omega]; exact h
  have apart : ∀ (k : Nat) (q : Nat × va_E), wr[k]? = some q → q.1 < H.size ∧ ¬ va_A wc H.size q.1 := by
    intro k q hq
    have hl := (hP _ q (g k q hq)).lt
    refine ⟨hl, fun h => ?_⟩
    rcases h with ⟨k2, e, h⟩ | h
    · have l2 := (List.getElem?_eq_some_iff.mp h).1
      have h4 : (wc ++ wr)[k2]? = some (q.1, e) := by rw [List.getElem?_append_left l2]; exact h
      have := hD.1 _ _ q (q.1, e) (g k q hq) h4 rfl
      omega
    · omega
  refine ⟨va_P.app hP1 (fun k q hq => ?_), va_D.app (hD1.weaken (fun k q _ h => hF q.1 h)) ⟨fun i j p q hi hj e => ?_, fun k q h => hD.2 _ q (g k q h)⟩ (fun i j x y hx hy hxy => ?_), hS, hA⟩
  · exact (hP _ q (g k q hq)).kept (hk q.1 (apart k q hq).1 (apart k q hq).2)
  · have := hD.1 _ _ p q (g i p hi) (g j q hj) e
    omega
  · exact (apart j y hy).2 (by rw [← hxy]; exact hD1.2 i x hx)
theorem x_fi {wr : va_W} {post : Int32 → S → Prop} {a : Array Value} (hr : va_Run p l e R s m args below meth c H locs cells slots mc ms (F0 m pc ls st) rest (QI D wf post (va_A w0 H.size) a) (va_A w0 H.size)) (hH : HX D (w0 ++ wr) A H0 H locs)
    (kk : ∀ (r : Int32) (u : S) (H1 : Heap) (locs1 : List Loc), post r u → HX D (wf u ++ wr) A H0 H1 locs1 → W p l e R s m args below meth c H1 locs1 (cells + mc) (slots + ms) Q (F0 m (pc + 3) ls (.int r :: rest))) : W p l e R s m args below meth c H locs cells slots Q (F0 m pc ls st) := by
  have hF := x_free (x_part hH)
  exact va_calli hr hH.2.2.1 (fun q _ h => hF q h) hF (fun r u t H1 locs1 ht hvm hw hB hz1 hk1 hS => kk r u H1 locs1 hw (x_back hH hk1 (by rw [← ht]; exact hB.1) hB.2 hS))
theorem x_fl {wr : va_W} {post : Int64 → S → Prop} {a : Array Value} (hr : va_Run p l e R s m args below meth c H locs cells slots mc ms (F0 m pc ls st) rest (QL D wf post (va_A w0 H.size) a) (va_A w0 H.size)) (hH : HX D (w0 ++ wr) A H0 H locs)
    (kk : ∀ (r : Int64) (u : S) (H1 : Heap) (locs1 : List Loc), post r u → HX D (wf u ++ wr) A H0 H1 locs1 → W p l e R s m args below meth c H1 locs1 (cells + mc) (slots + ms) Q (F0 m (pc + 3) ls (.long r :: rest))) : W p l e R s m args below meth c H locs cells slots Q (F0 m pc ls st) := by
  have hF := x_free (x_part hH)
  exact va_calll hr hH.2.2.1 (fun q _ h => hF q h) hF (fun r u t H1 locs1 ht hvm hw hB hz1 hk1 hS => kk r u H1 locs1 hw (x_back hH hk1 (by rw [← ht]; exact hB.1) hB.2 hS))
theorem x_fv {wr : va_W} {post : S → Prop} {a : Array Value} (hr : va_Run p l e R s m args below meth c H locs cells slots mc ms (F0 m pc ls st) rest (QV D wf post (va_A w0 H.size) a) (va_A w0 H.size)) (hH : HX D (w0 ++ wr) A H0 H locs)
    (kk : ∀ (u : S) (H1 : Heap) (locs1 : List Loc), post u → HX D (wf u ++ wr) A H0 H1 locs1 → W p l e R s m args below meth c H1 locs1 (cells + mc) (slots + ms) Q (F0 m (pc + 3) ls rest)) : W p l e R s m args below meth c H locs cells slots Q (F0 m pc ls st) := by
  have hF := x_free (x_part hH)
  exact va_callv hr hH.2.2.1 (fun q _ h => hF q h) hF (fun u t H1 locs1 ht hvm hw hB hz1 hk1 hS => kk u H1 locs1 hw (x_back hH hk1 (by rw [← ht]; exact hB.1) hB.2 hS))
/-- returns -/
theorem x_iret {post : Int32 → S → Prop} {v : Int32} {u : S} (E : Cx p s m args meth c cc nL own (some .int) D tys) (hH : HX D (wf u) A s.heap H locs) (hp : post v u) (hdg : decode cc pc = .ok (.ireturn, 1)) : W p l e R s m args below meth c H locs cells slots (MQ below (QI D wf post A) args s cells slots A) (F0 m pc ls [.int v]) := by
  obtain ⟨hx, hb, hml, hown, hg, hK, hnw, hr, hlk⟩ := E
  exact W.iret (v := v) hx hb hr (fun t ht hW => ⟨⟨v, u, rfl, hp, by rw [ht]; exact hH.1, hH.2.1⟩, hH.2.2.1.F ht⟩) hH.2.2.1.2.2 hdg hlk
theorem x_zret {post : Int32 → S → Prop} {v : Int32} {u : S} (E : Cx p s m args meth c cc nL own (some .boolean) D tys) (hH : HX D (wf u) A s.heap H locs) (hp : post v u) (hn : narrow .boolean (.int v) = .int v) (hdg : decode cc pc = .ok (.ireturn, 1)) : W p l e R s m args below meth c H locs cells slots (MQ below (QI D wf post A) args s cells slots A) (F0 m pc ls [.int v]) := by
  obtain ⟨hx, hb, hml, hown, hg, hK, hnw, hr, hlk⟩ := E
  exact W.zret (v := v) hx hb hr hn (fun t ht hW => ⟨⟨v, u, rfl, hp, by rw [ht]; exact hH.1, hH.2.1⟩, hH.2.2.1.F ht⟩) hH.2.2.1.2.2 hdg hlk
theorem x_lret {post : Int64 → S → Prop} {v : Int64} {u : S} (E : Cx p s m args meth c cc nL own (some .long) D tys) (hH : HX D (wf u) A s.heap H locs) (hp : post v u) (hdg : decode cc pc = .ok (.lreturn, 1)) : W p l e R s m args below meth c H locs cells slots (MQ below (QL D wf post A) args s cells slots A) (F0 m pc ls [.long v]) := by
  obtain ⟨hx, hb, hml, hown, hg, hK, hnw, hr, hlk⟩ := E
  exact W.lret (v := v) hx hb hr (fun t ht hW => ⟨⟨v, u, rfl, hp, by rw [ht]; exact hH.1, hH.2.1⟩, hH.2.2.1.F ht⟩) hH.2.2.1.2.2 hdg hlk
theorem x_vret {post : S → Prop} {u : S} (E : Cx p s m args meth c cc nL own none D tys) (hH : HX D (wf u) A s.heap H locs) (hp : post u) (hdg : decode cc pc = .ok (.return_, 1)) : W p l e R s m args below meth c H locs cells slots (MQ below (QV D wf post A) args s cells slots A) (F0 m pc ls []) := by
  obtain ⟨hx, hb, hml, hown, hg, hK, hnw, hr, hlk⟩ := E
  exact W.vret hx hb hr (fun t ht hW => ⟨⟨u, rfl, hp, by rw [ht]; exact hH.1, hH.2.1⟩, hH.2.2.1.F ht⟩) hH.2.2.1.2.2 hdg hlk
theorem x_aret {post : S → Prop} {rf : S → Nat} {u : S} {cn : String} (E : Cx p s m args meth c cc nL own (some (.object cn)) D tys) (hH : HX D (wf u) A s.heap H locs) (hp : post u) (hdg : decode cc pc = .ok (.areturn, 1)) : W p l e R s m args below meth c H locs cells slots (MQ below (QR D wf rf post A) args s cells slots A) (F0 m pc ls [.ref (rf u)]) := by
  obtain ⟨hx, hb, hml, hown, hg, hK, hnw, hr, hlk⟩ := E
  exact W.aret (v := .ref (rf u)) hx hb hr (Or.inl ⟨cn, rfl⟩) (Or.inr ⟨_, rfl⟩) (fun t ht hW => ⟨⟨u, rf u, rfl, hp, rfl, by rw [ht]; exact hH.1, hH.2.1⟩, hH.2.2.1.F ht⟩) hH.2.2.1.2.2 hdg hlk
/-- fields and arrays -/
theorem x_get {CN : String} {T : u_T} {N ci : Nat} {fs : List Value} {v : Value} (E : Cx p s m args meth c cc nL own rt D tys) (hin : ∀ w ∈ u_ws CN T N, w ∈ gT) (hH : HX D w0 A H0 H locs) (q0 : Nat) (he : w0[q0]? = some (b, .inr (ci, fs))) (hc : vwCl[ci]? = some (CN, T, N)) (k : Nat) (hk : k < N) (hlink : Cond.fieldLink own index (T k).1 (T k).2.1 (T k).2.2.1 ∈ gT) (hv : fs[k]? = some v) (hdg : decode cc pc = .ok (.getfield index, 3))
    (kk : W p l e R s m args below meth c H locs cells slots Q (F0 m (pc + 3) ls (v :: rest))) : W p l e R s m args below meth c H locs cells slots Q (F0 m pc ls (.ref b :: rest)) := by
  obtain ⟨hx, hb, hml, hown, hg, hK, hnw, hr, hlk⟩ := E
  exact va_get hx hb hg hin hown hK hH.1 q0 he hc k hk (hg _ hlink) (fun _ h9 => h9) hv hdg kk
theorem x_getN {CN host : String} {T : u_T} {N ci : Nat} {fs : List Value} {v : Value} (E : Cx p s m args meth c cc nL own rt D tys) (hin : ∀ w ∈ u_ws CN T N, w ∈ gT) (hH : HX D w0 A H0 H locs) (q0 : Nat) (he : w0[q0]? = some (b, .inr (ci, fs))) (hc : vwCl[ci]? = some (CN, T, N)) (k : Nat) (hk : k < N) (hlink : Cond.fieldLinkNest own index (T k).1 (T k).2.1 (T k).2.2.1 host ∈ nestL) (hv : fs[k]? = some v) (hdg : decode cc pc = .ok (.getfield index, 3))
    (kk : W p l e R s m args below meth c H locs cells slots Q (F0 m (pc + 3) ls (v :: rest))) : W p l e R s m args below meth c H locs cells slots Q (F0 m pc ls (.ref b :: rest)) := by
  obtain ⟨hx, hb, hml, hown, hg, hK, hnw, hr, hlk⟩ := E
  exact va_getN hx hb hg hin hown hK hH.1 q0 he hc k hk (va_Nw.use rfl (hnw _ hlink)) (fun _ h9 => h9) hv hdg kk
theorem x_puti {CN : String} {T : u_T} {N ci : Nat} {fs : List Value} {v : Int32} {w1 : va_W} (E : Cx p s m args meth c cc nL own rt D tys) (hin : ∀ w ∈ u_ws CN T N, w ∈ gT) (ty0 : Nat → FieldType) (hty : ∀ k, k < N → parseFieldDescriptor (T k).2.2.1 = some (ty0 k)) (hnm : ∀ a, a < N → ∀ b, b < N → a ≠ b → (T a).2.1 ≠ (T b).2.1) (hH : HX D w0 A H0 H locs) (q0 : Nat) (he : w0[q0]? = some (b, .inr (ci, fs))) (hc : vwCl[ci]? = some (CN, T, N)) (k : Nat) (hk : k < N) (hlink : Cond.fieldLink own index (T k).1 (T k).2.1 (T k).2.2.1 ∈ gT) (hfin : (T k).2.2.2 = false) (hd : parseFieldDescriptor (T k).2.2.1 = some .int) (hl : k < fs.length) (hw : w0.set q0 (b, .inr (ci, fs.set k (.int v))) = w1) (hdg : decode cc pc = .ok (.putfield index, 3))
    (kk : ∀ (H1 : Heap) (locs1 : List Loc), HX D w1 A H0 H1 locs1 → W p l e R s m args below meth c H1 locs1 cells slots Q (F0 m (pc + 3) ls rest)) : W p l e R s m args below meth c H locs cells slots Q (F0 m pc ls (.int v :: .ref b :: rest)) := by
  obtain ⟨hx, hb, hml, hown, hg, hK, hnw, hr, hlk⟩ := E
  exact va_put (ty := .int) hx hb hg hin ty0 hty hnm hown hK hH.1 hH.2.1 hH.2.2.1 q0 he hc k hk (hg _ hlink) (fun _ h9 => h9) hfin hd rfl rfl hl hdg (fun H1 locs1 hP hD hS => kk H1 locs1 ⟨hw ▸ hP, hw ▸ hD, hS, hH.2.2.2⟩)
theorem x_putiN {CN host : String} {T : u_T} {N ci : Nat} {fs : List Value} {v : Int32} {w1 : va_W} (E : Cx p s m args meth c cc nL own rt D tys) (hin : ∀ w ∈ u_ws CN T N, w ∈ gT) (ty0 : Nat → FieldType) (hty : ∀ k, k < N → parseFieldDescriptor (T k).2.2.1 = some (ty0 k)) (hnm : ∀ a, a < N → ∀ b, b < N → a ≠ b → (T a).2.1 ≠ (T b).2.1) (hH : HX D w0 A H0 H locs) (q0 : Nat) (he : w0[q0]? = some (b, .inr (ci, fs))) (hc : vwCl[ci]? = some (CN, T, N)) (k : Nat) (hk : k < N) (hlink : Cond.fieldLinkNest own index (T k).1 (T k).2.1 (T k).2.2.1 host ∈ nestL) (hfin : (T k).2.2.2 = false) (hd : parseFieldDescriptor (T k).2.2.1 = some .int) (hl : k < fs.length) (hw : w0.set q0 (b, .inr (ci, fs.set k (.int v))) = w1) (hdg : decode cc pc = .ok (.putfield index, 3))
    (kk : ∀ (H1 : Heap) (locs1 : List Loc), HX D w1 A H0 H1 locs1 → W p l e R s m args below meth c H1 locs1 cells slots Q (F0 m (pc + 3) ls rest)) : W p l e R s m args below meth c H locs cells slots Q (F0 m pc ls (.int v :: .ref b :: rest)) := by
  obtain ⟨hx, hb, hml, hown, hg, hK, hnw, hr, hlk⟩ := E
  exact va_putN (ty := .int) hx hb hg hin ty0 hty hnm hown hK hH.1 hH.2.1 hH.2.2.1 q0 he hc k hk (va_Nw.use rfl (hnw _ hlink)) (fun _ h9 => h9) hfin hd rfl rfl hl hdg (fun H1 locs1 hP hD hS => kk H1 locs1 ⟨hw ▸ hP, hw ▸ hD, hS, hH.2.2.2⟩)
theorem x_iald {cA : ClassId} {N : Nat} {f : Nat → Int32} {i : Int32} (E : Cx p s m args meth c cc nL own rt D tys) (hH : HX D w0 A H0 H locs) (q0 t0 : Nat) (ha : w0[q0]? = some (b, .inl (cA, N, .inl f))) (ht : tys[t0]? = some (cA, .int)) (hin : vp_in i N) (hdg : decode cc pc = .ok (.iaload, 1))
    (kk : W p l e R s m args below meth c H locs cells slots Q (F0 m (pc + 1) ls (.int (f i.toNatClampNeg) :: rest))) : W p l e R s m args below meth c H locs cells slots Q (F0 m pc ls (.int i :: .ref b :: rest)) := by
  obtain ⟨hx, hb, hml, hown, hg, hK, hnw, hr, hlk⟩ := E
  exact va_iald hx hb hK hH.1 q0 t0 ha ht hin hdg kk
theorem x_sald {cA : ClassId} {N : Nat} {f : Nat → Int32} {i : Int32} (E : Cx p s m args meth c cc nL own rt D tys) (hH : HX D w0 A H0 H locs) (q0 t0 : Nat) (ha : w0[q0]? = some (b, .inl (cA, N, .inl f))) (ht : tys[t0]? = some (cA, .short)) (hin : vp_in i N) (hdg : decode cc pc = .ok (.saload, 1))
    (kk : W p l e R s m args below meth c H locs cells slots Q (F0 m (pc + 1) ls (.int (f i.toNatClampNeg) :: rest))) : W p l e R s m args below meth c H locs cells slots Q (F0 m pc ls (.int i :: .ref b :: rest)) := by
  obtain ⟨hx, hb, hml, hown, hg, hK, hnw, hr, hlk⟩ := E
  exact va_sald hx hb hK hH.1 q0 t0 ha ht hin hdg kk
theorem x_aald {cA : ClassId} {N : Nat} {f : Nat → Option Nat} {i : Int32} {CN : String} (E : Cx p s m args meth c cc nL own rt D tys) (hH : HX D w0 A H0 H locs) (q0 t0 : Nat) (ha : w0[q0]? = some (b, .inl (cA, N, .inr (.inr (.inr (.inr f)))))) (ht : tys[t0]? = some (cA, .object CN)) (hin : vp_in i N) (hdg : decode cc pc = .ok (.aaload, 1))
    (kk : W p l e R s m args below meth c H locs cells slots Q (F0 m (pc + 1) ls (va_rf (f i.toNatClampNeg) :: rest))) : W p l e R s m args below meth c H locs cells slots Q (F0 m pc ls (.int i :: .ref b :: rest)) := by
  obtain ⟨hx, hb, hml, hown, hg, hK, hnw, hr, hlk⟩ := E
  exact va_aldq hx hb hK hH.1 q0 t0 ha ht hin hdg kk
theorem x_iast {cA : ClassId} {N : Nat} {f : Nat → Int32} {i x : Int32} {w1 : va_W} (E : Cx p s m args meth c cc nL own rt D tys) (hH : HX D w0 A H0 H locs) (q0 t0 : Nat) (ha : w0[q0]? = some (b, .inl (cA, N, .inl f))) (ht : tys[t0]? = some (cA, .int)) (hin : vp_in i N) (hw : w0.set q0 (b, .inl (cA, N, .inl (upd f i.toNatClampNeg x))) = w1) (hdg : decode cc pc = .ok (.iastore, 1))
    (kk : ∀ (H1 : Heap) (locs1 : List Loc), HX D w1 A H0 H1 locs1 → W p l e R s m args below meth c H1 locs1 cells slots Q (F0 m (pc + 1) ls rest)) : W p l e R s m args below meth c H locs cells slots Q (F0 m pc ls (.int x :: .int i :: .ref b :: rest)) := by
  obtain ⟨hx, hb, hml, hown, hg, hK, hnw, hr, hlk⟩ := E
  exact va_iast hx hb hK hH.1 hH.2.1 hH.2.2.1 q0 t0 ha ht hin hdg (fun H1 locs1 hP hD hS => kk H1 locs1 ⟨hw ▸ hP, hw ▸ hD, hS, hH.2.2.2⟩)
theorem x_sast {cA : ClassId} {N : Nat} {f : Nat → Int32} {i x : Int32} {w1 : va_W} (E : Cx p s m args meth c cc nL own rt D tys) (hH : HX D w0 A H0 H locs) (q0 t0 : Nat) (ha : w0[q0]? = some (b, .inl (cA, N, .inl f))) (ht : tys[t0]? = some (cA, .short)) (hin : vp_in i N) (hw : w0.set q0 (b, .inl (cA, N, .inl (upd f i.toNatClampNeg (vp_nar .short x)))) = w1) (hdg : decode cc pc = .ok (.sastore, 1))
    (kk : ∀ (H1 : Heap) (locs1 : List Loc), HX D w1 A H0 H1 locs1 → W p l e R s m args below meth c H1 locs1 cells slots Q (F0 m (pc + 1) ls rest)) : W p l e R s m args below meth c H locs cells slots Q (F0 m pc ls (.int x :: .int i :: .ref b :: rest)) := by
  obtain ⟨hx, hb, hml, hown, hg, hK, hnw, hr, hlk⟩ := E
  exact va_sast hx hb hK hH.1 hH.2.1 hH.2.2.1 q0 t0 ha ht hin hdg (fun H1 locs1 hP hD hS => kk H1 locs1 ⟨hw ▸ hP, hw ▸ hD, hS, hH.2.2.2⟩)
theorem x_alen {cA : ClassId} {x : vp_A} {ty : FieldType} (E : Cx p s m args meth c cc nL own rt D tys) (hH : HX D w0 A H0 H locs) (q0 t0 : Nat) (ha : w0[q0]? = some (b, .inl (cA, x))) (ht : tys[t0]? = some (cA, ty)) (hdg : decode cc pc = .ok (.arraylength, 1))
    (kk : W p l e R s m args below meth c H locs cells slots Q (F0 m (pc + 1) ls (.int (nI x.1) :: rest))) : W p l e R s m args below meth c H locs cells slots Q (F0 m pc ls (.ref b :: rest)) := by
  obtain ⟨hx, hb, hml, hown, hg, hK, hnw, hr, hlk⟩ := E
  exact va_alen hx hb hK hH.1 q0 t0 ha ht rfl hdg kk
/-- references that may be null, by the version's number -/
def rv (ad : Nat → Nat) (w : Option Nat) : Value := va_rf (w.map (fun v => ad (3 * v)))
theorem q_aload_n {k : Fin 4} {i : Nat} {ad : Nat → Nat} {x : Option Nat} (hexec : p.tables.exec = Jvm.exec) (hb : c.code = cc) (hdg : decode cc pc = .ok (.aload_n k, 1)) (hi : (k : Nat) = i) (hl : ls[i]? = some (.val (rv ad x)))
    (kk : W p l e R s m args below meth c H locs cells slots Q (F0 m (pc + 1) ls (rv ad x :: rest))) : W p l e R s m args below meth c H locs cells slots Q (F0 m pc ls rest) := by
  cases x with
  | none => exact lv_aload_nN hexec hb hdg hi hl kk
  | some v => exact lv_aload_n hexec hb hdg hi hl kk
theorem q_aload {i : Nat} {ad : Nat → Nat} {x : Option Nat} (hexec : p.tables.exec = Jvm.exec) (hb : c.code = cc) (hdg : decode cc pc = .ok (.aload i, 2)) (hl : ls[i]? = some (.val (rv ad x)))
    (kk : W p l e R s m args below meth c H locs cells slots Q (F0 m (pc + 2) ls (rv ad x :: rest))) : W p l e R s m args below meth c H locs cells slots Q (F0 m pc ls rest) := by
  cases x with
  | none => exact lv_aloadN hexec hb hdg hl kk
  | some v => exact lv_aload hexec hb hdg hl kk
theorem q_astore_n {k : Fin 4} {i : Nat} {ad : Nat → Nat} {x : Option Nat} {lv lv' : List (Nat × Value)} (hexec : p.tables.exec = Jvm.exec) (hb : c.code = cc) (hdg : decode cc pc = .ok (.astore_n k, 1)) (hi : (k : Nat) = i) (h : lv_has ls nL lv) (hn : i < nL) (hl : ∀ v : Value, (i, v) :: lv.filter (fun q => !(q.1 == i) && !(q.1 + 1 == i && q.2.category == 2)) = (i, v) :: lv')
    (kk : ∀ ls' : Array Slot, lv_has ls' nL ((i, rv ad x) :: lv') → W p l e R s m args below meth c H locs cells slots Q (F0 m (pc + 1) ls' rest)) : W p l e R s m args below meth c H locs cells slots Q (F0 m pc ls (rv ad x :: rest)) := by
  cases x with
  | none => exact lv_astore_nN hexec hb hdg hi h hn (hl _) kk
  | some v => exact lv_astore_n hexec hb hdg hi h hn (hl _) kk
theorem q_astore {i : Nat} {ad : Nat → Nat} {x : Option Nat} {lv lv' : List (Nat × Value)} (hexec : p.tables.exec = Jvm.exec) (hb : c.code = cc) (hdg : decode cc pc = .ok (.astore i, 2)) (h : lv_has ls nL lv) (hn : i < nL) (hl : ∀ v : Value, (i, v) :: lv.filter (fun q => !(q.1 == i) && !(q.1 + 1 == i && q.2.category == 2)) = (i, v) :: lv')
    (kk : ∀ ls' : Array Slot, lv_has ls' nL ((i, rv ad x) :: lv') → W p l e R s m args below meth c H locs cells slots Q (F0 m (pc + 2) ls' rest)) : W p l e R s m args below meth c H locs cells slots Q (F0 m pc ls (rv ad x :: rest)) := by
  cases x with
  | none => exact lv_astoreN hexec hb hdg h hn (hl _) kk
  | some v => exact lv_astore hexec hb hdg h hn (hl _) kk
theorem q_ifnull {off : Int} {tgt : Nat} {ad : Nat → Nat} {x : Option Nat} (hexec : p.tables.exec = Jvm.exec) (hb : c.code = cc) (hdg : decode cc pc = .ok (.ifnull off, 3)) (ht : (pc : Int) + off = (tgt : Int))
    (kt : x = none → W p l e R s m args below meth c H locs cells slots Q (F0 m tgt ls rest)) (kf : ¬ x = none → W p l e R s m args below meth c H locs cells slots Q (F0 m (pc + 3) ls rest)) : W p l e R s m args below meth c H locs cells slots Q (F0 m pc ls (rv ad x :: rest)) := by
  cases x with
  | none => exact lv_ifnullN hexec hb hdg ht (kt rfl)
  | some v => exact lv_ifnull hexec hb hdg (kf (fun h => by cases h))
theorem q_ifnonnull {off : Int} {tgt : Nat} {ad : Nat → Nat} {x : Option Nat} (hexec : p.tables.exec = Jvm.exec) (hb : c.code = cc) (hdg : decode cc pc = .ok (.ifnonnull off, 3)) (ht : (pc : Int) + off = (tgt : Int))
    (kt : ¬ x = none → W p l e R s m args below meth c H locs cells slots Q (F0 m tgt ls rest)) (kf : x = none → W p l e R s m args below meth c H locs cells slots Q (F0 m (pc + 3) ls rest)) : W p l e R s m args below meth c H locs cells slots Q (F0 m pc ls (rv ad x :: rest)) := by
  cases x with
  | none => exact lv_ifnonnullN hexec hb hdg (kf rfl)
  | some v => exact lv_ifnonnull hexec hb hdg ht (kt (fun h => by cases h))
end XROWS
end
section
abbrev tyW (cI cS cO : ClassId) : List (ClassId × FieldType) := [(cI, .int), (cS, .short), (cO, .object "RankShelf$Version")]
/-! ===== the reference: ints by their slot, arrays by their slot ===== -/
abbrev MS : Type := (Nat → Int32) × (Nat → Nat → Int32)
def mz (M : MS) : Nat → Int32 := M.1
def mr (M : MS) : Nat → Nat → Int32 := M.2
def mzu (M : MS) (k : Nat) (v : Int32) : MS := (va_up M.1 k v, M.2)
def mru (M : MS) (k : Nat) (g : Nat → Int32) : MS := (M.1, va_up M.2 k g)
def oM (a : Nat → Nat) (M : MS) : List Value := [.int (mz M 0), .ref (a 1), .ref (a 2), .ref (a 3), .ref (a 4), .ref (a 5), .int (mz M 6), .int (mz M 7), .ref (a 8), .ref (a 9), .ref (a 10), .ref (a 11), .ref (a 12), .ref (a 13), .int (mz M 14), .ref (a 15), .ref (a 16), .ref (a 17), .ref (a 18), .ref (a 19)]
def wM (cI cS : ClassId) (a : Nat → Nat) (M : MS) : va_W := [(a 0, .inr (4, oM a M)), (a 1, .inl (cI, 500, .inl (mr M 1))), (a 2, .inl (cI, 500, .inl (mr M 2))), (a 3, .inl (cI, 500, .inl (mr M 3))), (a 4, .inl (cS, 200000, .inl (mr M 4))), (a 5, .inl (cI, 200000, .inl (mr M 5))), (a 8, .inl (cI, 12, .inl (mr M 8))), (a 9, .inl (cI, 12, .inl (mr M 9))), (a 10, .inl (cI, 12, .inl (mr M 10))), (a 11, .inl (cI, 4800, .inl (mr M 11))), (a 12, .inl (cI, 4800, .inl (mr M 12))), (a 13, .inl (cI, 10, .inl (mr M 13))), (a 15, .inl (cI, 7, .inl (mr M 15))), (a 16, .inl (cI, 400, .inl (mr M 16))), (a 17, .inl (cI, 400, .inl (mr M 17))), (a 18, .inl (cI, 1024, .inl (mr M 18))), (a 19, .inl (cI, 1024, .inl (mr M 19)))]
theorem wM_g0 {cI cS : ClassId} {a : Nat → Nat} {M : MS} : (wM cI cS a M)[0]? = some (a 0, .inr (4, oM a M)) := rfl
theorem wM_g1 {cI cS : ClassId} {a : Nat → Nat} {M : MS} : (wM cI cS a M)[1]? = some (a 1, .inl (cI, 500, .inl (mr M 1))) := rfl
theorem wM_s1 {cI cS : ClassId} {a : Nat → Nat} {M : MS} {g : Nat → Int32} : (wM cI cS a M).set 1 (a 1, .inl (cI, 500, .inl g)) = wM cI cS a (mru M 1 g) := rfl
theorem wM_g2 {cI cS : ClassId} {a : Nat → Nat} {M : MS} : (wM cI cS a M)[2]? = some (a 2, .inl (cI, 500, .inl (mr M 2))) := rfl
theorem wM_s2 {cI cS : ClassId} {a : Nat → Nat} {M : MS} {g : Nat → Int32} : (wM cI cS a M).set 2 (a 2, .inl (cI, 500, .inl g)) = wM cI cS a (mru M 2 g) := rfl
theorem wM_g3 {cI cS : ClassId} {a : Nat → Nat} {M : MS} : (wM cI cS a M)[3]? = some (a 3, .inl (cI, 500, .inl (mr M 3))) := rfl
theorem wM_s3 {cI cS : ClassId} {a : Nat → Nat} {M : MS} {g : Nat → Int32} : (wM cI cS a M).set 3 (a 3, .inl (cI, 500, .inl g)) = wM cI cS a (mru M 3 g) := rfl
theorem wM_g4 {cI cS : ClassId} {a : Nat → Nat} {M : MS} : (wM cI cS a M)[4]? = some (a 4, .inl (cS, 200000, .inl (mr M 4))) := rfl
theorem wM_s4 {cI cS : ClassId} {a : Nat → Nat} {M : MS} {g : Nat → Int32} : (wM cI cS a M).set 4 (a 4, .inl (cS, 200000, .inl g)) = wM cI cS a (mru M 4 g) := rfl
theorem wM_g5 {cI cS : ClassId} {a : Nat → Nat} {M : MS} : (wM cI cS a M)[5]? = some (a 5, .inl (cI, 200000, .inl (mr M 5))) := rfl
theorem wM_s5 {cI cS : ClassId} {a : Nat → Nat} {M : MS} {g : Nat → Int32} : (wM cI cS a M).set 5 (a 5, .inl (cI, 200000, .inl g)) = wM cI cS a (mru M 5 g) := rfl
theorem wM_g8 {cI cS : ClassId} {a : Nat → Nat} {M : MS} : (wM cI cS a M)[6]? = some (a 8, .inl (cI, 12, .inl (mr M 8))) := rfl
theorem wM_s8 {cI cS : ClassId} {a : Nat → Nat} {M : MS} {g : Nat → Int32} : (wM cI cS a M).set 6 (a 8, .inl (cI, 12, .inl g)) = wM cI cS a (mru M 8 g) := rfl
theorem wM_g9 {cI cS : ClassId} {a : Nat → Nat} {M : MS} : (wM cI cS a M)[7]? = some (a 9, .inl (cI, 12, .inl (mr M 9))) := rfl
theorem wM_s9 {cI cS : ClassId} {a : Nat → Nat} {M : MS} {g : Nat → Int32} : (wM cI cS a M).set 7 (a 9, .inl (cI, 12, .inl g)) = wM cI cS a (mru M 9 g) := rfl
theorem wM_g10 {cI cS : ClassId} {a : Nat → Nat} {M : MS} : (wM cI cS a M)[8]? = some (a 10, .inl (cI, 12, .inl (mr M 10))) := rfl
theorem wM_s10 {cI cS : ClassId} {a : Nat → Nat} {M : MS} {g : Nat → Int32} : (wM cI cS a M).set 8 (a 10, .inl (cI, 12, .inl g)) = wM cI cS a (mru M 10 g) := rfl
theorem wM_g11 {cI cS : ClassId} {a : Nat → Nat} {M : MS} : (wM cI cS a M)[9]? = some (a 11, .inl (cI, 4800, .inl (mr M 11))) := rfl
theorem wM_s11 {cI cS : ClassId} {a : Nat → Nat} {M : MS} {g : Nat → Int32} : (wM cI cS a M).set 9 (a 11, .inl (cI, 4800, .inl g)) = wM cI cS a (mru M 11 g) := rfl
theorem wM_g12 {cI cS : ClassId} {a : Nat → Nat} {M : MS} : (wM cI cS a M)[10]? = some (a 12, .inl (cI, 4800, .inl (mr M 12))) := rfl
theorem wM_s12 {cI cS : ClassId} {a : Nat → Nat} {M : MS} {g : Nat → Int32} : (wM cI cS a M).set 10 (a 12, .inl (cI, 4800, .inl g)) = wM cI cS a (mru M 12 g) := rfl
theorem wM_g13 {cI cS : ClassId} {a : Nat → Nat} {M : MS} : (wM cI cS a M)[11]? = some (a 13, .inl (cI, 10, .inl (mr M 13))) := rfl
theorem wM_s13 {cI cS : ClassId} {a : Nat → Nat} {M : MS} {g : Nat → Int32} : (wM cI cS a M).set 11 (a 13, .inl (cI, 10, .inl g)) = wM cI cS a (mru M 13 g) := rfl
theorem wM_g15 {cI cS : ClassId} {a : Nat → Nat} {M : MS} : (wM cI cS a M)[12]? = some (a 15, .inl (cI, 7, .inl (mr M 15))) := rfl
theorem wM_s15 {cI cS : ClassId} {a : Nat → Nat} {M : MS} {g : Nat → Int32} : (wM cI cS a M).set 12 (a 15, .inl (cI, 7, .inl g)) = wM cI cS a (mru M 15 g) := rfl
theorem wM_g16 {cI cS : ClassId} {a : Nat → Nat} {M : MS} : (wM cI cS a M)[13]? = some (a 16, .inl (cI, 400, .inl (mr M 16))) := rfl
theorem wM_s16 {cI cS : ClassId} {a : Nat → Nat} {M : MS} {g : Nat → Int32} : (wM cI cS a M).set 13 (a 16, .inl (cI, 400, .inl g)) = wM cI cS a (mru M 16 g) := rfl
theorem wM_g17 {cI cS : ClassId} {a : Nat → Nat} {M : MS} : (wM cI cS a M)[14]? = some (a 17, .inl (cI, 400, .inl (mr M 17))) := rfl
theorem wM_s17 {cI cS : ClassId} {a : Nat → Nat} {M : MS} {g : Nat → Int32} : (wM cI cS a M).set 14 (a 17, .inl (cI, 400, .inl g)) = wM cI cS a (mru M 17 g) := rfl
theorem wM_g18 {cI cS : ClassId} {a : Nat → Nat} {M : MS} : (wM cI cS a M)[15]? = some (a 18, .inl (cI, 1024, .inl (mr M 18))) := rfl
theorem wM_s18 {cI cS : ClassId} {a : Nat → Nat} {M : MS} {g : Nat → Int32} : (wM cI cS a M).set 15 (a 18, .inl (cI, 1024, .inl g)) = wM cI cS a (mru M 18 g) := rfl
theorem wM_g19 {cI cS : ClassId} {a : Nat → Nat} {M : MS} : (wM cI cS a M)[16]? = some (a 19, .inl (cI, 1024, .inl (mr M 19))) := rfl
theorem wM_s19 {cI cS : ClassId} {a : Nat → Nat} {M : MS} {g : Nat → Int32} : (wM cI cS a M).set 16 (a 19, .inl (cI, 1024, .inl g)) = wM cI cS a (mru M 19 g) := rfl
theorem wM_z0 {cI cS : ClassId} {a : Nat → Nat} {M : MS} {v : Int32} : (wM cI cS a M).set 0 (a 0, .inr (4, (oM a M).set 0 (.int v))) = wM cI cS a (mzu M 0 v) := rfl
theorem wM_z6 {cI cS : ClassId} {a : Nat → Nat} {M : MS} {v : Int32} : (wM cI cS a M).set 0 (a 0, .inr (4, (oM a M).set 6 (.int v))) = wM cI cS a (mzu M 6 v) := rfl
theorem wM_z7 {cI cS : ClassId} {a : Nat → Nat} {M : MS} {v : Int32} : (wM cI cS a M).set 0 (a 0, .inr (4, (oM a M).set 7 (.int v))) = wM cI cS a (mzu M 7 v) := rfl
theorem wM_z14 {cI cS : ClassId} {a : Nat → Nat} {M : MS} {v : Int32} : (wM cI cS a M).set 0 (a 0, .inr (4, (oM a M).set 14 (.int v))) = wM cI cS a (mzu M 14 v) := rfl
/-! ===== the class: ints, arrays, rows of references (by the version's number), the versions ===== -/
abbrev CS : Type := (Nat → Int32) × (Nat → Nat → Int32) × (Nat → Nat → Option Nat) × Nat × (Nat → Nat → Int32) × (Nat → Option Nat) × (Nat → Nat) × (Nat → Nat → Int32) × (Nat → Nat → Int32)
def cz (C : CS) : Nat → Int32 := C.1
def cr (C : CS) : Nat → Nat → Int32 := C.2.1
def co (C : CS) : Nat → Nat → Option Nat := C.2.2.1
def cn (C : CS) : Nat := C.2.2.2.1
def cf (C : CS) : Nat → Nat → Int32 := C.2.2.2.2.1
def cp (C : CS) : Nat → Option Nat := C.2.2.2.2.2.1
def ck (C : CS) : Nat → Nat := C.2.2.2.2.2.2.1
def cv (C : CS) : Nat → Nat → Int32 := C.2.2.2.2.2.2.2.1
def cw (C : CS) : Nat → Nat → Int32 := C.2.2.2.2.2.2.2.2
def czu (C : CS) (k : Nat) (v : Int32) : CS := (va_up (cz C) k v, C.2)
def cru (C : CS) (k : Nat) (g : Nat → Int32) : CS := (cz C, va_up (cr C) k g, C.2.2)
def cou (C : CS) (k : Nat) (g : Nat → Option Nat) : CS := (cz C, cr C, va_up (co C) k g, C.2.2.2)
def cfu (C : CS) (v k : Nat) (x : Int32) : CS := (cz C, cr C, co C, cn C, va_up (cf C) v (va_up (cf C v) k x), C.2.2.2.2.2)
def cvu (C : CS) (v : Nat) (g : Nat → Int32) : CS := (cz C, cr C, co C, cn C, cf C, cp C, ck C, va_up (cv C) v g, cw C)
def cwu (C : CS) (v : Nat) (g : Nat → Int32) : CS := (cz C, cr C, co C, cn C, cf C, cp C, ck C, cv C, va_up (cw C) v g)
def vO (ad : Nat → Nat) (f : Nat → Nat → Int32) (q : Nat → Option Nat) (v : Nat) : List Value := [.int (f v 0), rv ad (q v), .int (f v 2), .int (f v 3), .ref (ad (3 * v + 1)), .ref (ad (3 * v + 2)), .int (f v 6), .int (f v 7), .int (f v 8)]
def poolC (cI : ClassId) (ad : Nat → Nat) (f : Nat → Nat → Int32) (q : Nat → Option Nat) (k : Nat → Nat) (g h : Nat → Nat → Int32) : Nat → va_W
  | 0 => []
  | n + 1 => poolC cI ad f q k g h n ++ [(ad (3 * n), .inr (2, vO ad f q n)), (ad (3 * n + 1), .inl (cI, k n, .inl (g n))), (ad (3 * n + 2), .inl (cI, k n, .inl (h n)))]
def oC (a : Nat → Nat) (C : CS) : List Value := [.ref (a 1), .int (cz C 0), .int (cz C 1), .ref (a 2), .ref (a 3), .ref (a 4), .ref (a 8), .ref (a 12), .ref (a 15), .int (cz C 2), .ref (a 16)]
def hM (ad : Nat → Nat) (h : Nat → Option Nat) : Nat → Option Nat := fun i => (h i).map (fun v => ad (3 * v))

def fixC (cI cO : ClassId) (a ad : Nat → Nat) (C : CS) : va_W := [(a 0, .inr (3, oC a C)), (a 1, .inl (cO, 500, .inr (.inr (.inr (.inr (hM ad (co C 1))))))), (a 2, .inl (cO, 12, .inr (.inr (.inr (.inr (hM ad (co C 2))))))), (a 3, .inl (cI, 12, .inl (cr C 3))), (a 4, .inr (0, [.ref (a 5), .ref (a 6), .ref (a 7), .int (cz C 3)])), (a 5, .inl (cI, 400, .inl (cr C 5))), (a 6, .inl (cI, 400, .inl (cr C 6))), (a 7, .inl (cI, 400, .inl (cr C 7))), (a 8, .inr (0, [.ref (a 9), .ref (a 10), .ref (a 11), .int (cz C 4)])), (a 9, .inl (cI, 400, .inl (cr C 9))), (a 10, .inl (cI, 400, .inl (cr C 10))), (a 11, .inl (cI, 400, .inl (cr C 11))), (a 12, .inr (1, [.ref (a 13), .ref (a 14)])), (a 13, .inl (cI, 1024, .inl (cr C 13))), (a 14, .inl (cI, 401, .inl (cr C 14))), (a 15, .inl (cI, 10, .inl (cr C 15))), (a 16, .inl (cI, 7, .inl (cr C 16)))]
def wC (cI cO : ClassId) (a ad : Nat → Nat) (C : CS) : va_W := fixC cI cO a ad C ++ poolC cI ad (cf C) (cp C) (ck C) (cv C) (cw C) (cn C)
theorem wC_g0 {cI cO : ClassId} {a ad : Nat → Nat} {C : CS} : (wC cI cO a ad C)[0]? = some (a 0, .inr (3, oC a C)) := rfl
theorem wC_g1 {cI cO : ClassId} {a ad : Nat → Nat} {C : CS} : (wC cI cO a ad C)[1]? = some (a 1, .inl (cO, 500, .inr (.inr (.inr (.inr (hM ad (co C 1))))))) := rfl
theorem wC_g2 {cI cO : ClassId} {a ad : Nat → Nat} {C : CS} : (wC cI cO a ad C)[2]? = some (a 2, .inl (cO, 12, .inr (.inr (.inr (.inr (hM ad (co C 2))))))) := rfl
theorem wC_g3 {cI cO : ClassId} {a ad : Nat → Nat} {C : CS} : (wC cI cO a ad C)[3]? = some (a 3, .inl (cI, 12, .inl (cr C 3))) := rfl
theorem wC_g4 {cI cO : ClassId} {a ad : Nat → Nat} {C : CS} : (wC cI cO a ad C)[4]? = some (a 4, .inr (0, [.ref (a 5), .ref (a 6), .ref (a 7), .int (cz C 3)])) := rfl
theorem wC_g5 {cI cO : ClassId} {a ad : Nat → Nat} {C : CS} : (wC cI cO a ad C)[5]? = some (a 5, .inl (cI, 400, .inl (cr C 5))) := rfl
theorem wC_g6 {cI cO : ClassId} {a ad : Nat → Nat} {C : CS} : (wC cI cO a ad C)[6]? = some (a 6, .inl (cI, 400, .inl (cr C 6))) := rfl
theorem wC_g7 {cI cO : ClassId} {a ad : Nat → Nat} {C : CS} : (wC cI cO a ad C)[7]? = some (a 7, .inl (cI, 400, .inl (cr C 7))) := rfl
theorem wC_g8 {cI cO : ClassId} {a ad : Nat → Nat} {C : CS} : (wC cI cO a ad C)[8]? = some (a 8, .inr (0, [.ref (a 9), .ref (a 10), .ref (a 11), .int (cz C 4)])) := rfl
theorem wC_g9 {cI cO : ClassId} {a ad : Nat → Nat} {C : CS} : (wC cI cO a ad C)[9]? = some (a 9, .inl (cI, 400, .inl (cr C 9))) := rfl
theorem wC_g10 {cI cO : ClassId} {a ad : Nat → Nat} {C : CS} : (wC cI cO a ad C)[10]? = some (a 10, .inl (cI, 400, .inl (cr C 10))) := rfl
theorem wC_g11 {cI cO : ClassId} {a ad : Nat → Nat} {C : CS} : (wC cI cO a ad C)[11]? = some (a 11, .inl (cI, 400, .inl (cr C 11))) := rfl
theorem wC_g12 {cI cO : ClassId} {a ad : Nat → Nat} {C : CS} : (wC cI cO a ad C)[12]? = some (a 12, .inr (1, [.ref (a 13), .ref (a 14)])) := rfl
theorem wC_g13 {cI cO : ClassId} {a ad : Nat → Nat} {C : CS} : (wC cI cO a ad C)[13]? = some (a 13, .inl (cI, 1024, .inl (cr C 13))) := rfl
theorem wC_g14 {cI cO : ClassId} {a ad : Nat → Nat} {C : CS} : (wC cI cO a ad C)[14]? = some (a 14, .inl (cI, 401, .inl (cr C 14))) := rfl
theorem wC_g15 {cI cO : ClassId} {a ad : Nat → Nat} {C : CS} : (wC cI cO a ad C)[15]? = some (a 15, .inl (cI, 10, .inl (cr C 15))) := rfl
theorem wC_g16 {cI cO : ClassId} {a ad : Nat → Nat} {C : CS} : (wC cI cO a ad C)[16]? = some (a 16, .inl (cI, 7, .inl (cr C 16))) := rfl
theorem wC_s3 {cI cO : ClassId} {a ad : Nat → Nat} {C : CS} {g : Nat → Int32} : (wC cI cO a ad C).set 3 (a 3, .inl (cI, 12, .inl g)) = wC cI cO a ad (cru C 3 g) := rfl
theorem wC_s5 {cI cO : ClassId} {a ad : Nat → Nat} {C : CS} {g : Nat → Int32} : (wC cI cO a ad C).set 5 (a 5, .inl (cI, 400, .inl g)) = wC cI cO a ad (cru C 5 g) := rfl
theorem wC_s6 {cI cO : ClassId} {a ad : Nat → Nat} {C : CS} {g : Nat → Int32} : (wC cI cO a ad C).set 6 (a 6, .inl (cI, 400, .inl g)) = wC cI cO a ad (cru C 6 g) := rfl
theorem wC_s7 {cI cO : ClassId} {a ad : Nat → Nat} {C : CS} {g : Nat → Int32} : (wC cI cO a ad C).set 7 (a 7, .inl (cI, 400, .inl g)) = wC cI cO a ad (cru C 7 g) := rfl
theorem wC_s9 {cI cO : ClassId} {a ad : Nat → Nat} {C : CS} {g : Nat → Int32} : (wC cI cO a ad C).set 9 (a 9, .inl (cI, 400, .inl g)) = wC cI cO a ad (cru C 9 g) := rfl
theorem wC_s10 {cI cO : ClassId} {a ad : Nat → Nat} {C : CS} {g : Nat → Int32} : (wC cI cO a ad C).set 10 (a 10, .inl (cI, 400, .inl g)) = wC cI cO a ad (cru C 10 g) := rfl
theorem wC_s11 {cI cO : ClassId} {a ad : Nat → Nat} {C : CS} {g : Nat → Int32} : (wC cI cO a ad C).set 11 (a 11, .inl (cI, 400, .inl g)) = wC cI cO a ad (cru C 11 g) := rfl
theorem wC_s13 {cI cO : ClassId} {a ad : Nat → Nat} {C : CS} {g : Nat → Int32} : (wC cI cO a ad C).set 13 (a 13, .inl (cI, 1024, .inl g)) = wC cI cO a ad (cru C 13 g) := rfl
theorem wC_s14 {cI cO : ClassId} {a ad : Nat → Nat} {C : CS} {g : Nat → Int32} : (wC cI cO a ad C).set 14 (a 14, .inl (cI, 401, .inl g)) = wC cI cO a ad (cru C 14 g) := rfl
theorem wC_s15 {cI cO : ClassId} {a ad : Nat → Nat} {C : CS} {g : Nat → Int32} : (wC cI cO a ad C).set 15 (a 15, .inl (cI, 10, .inl g)) = wC cI cO a ad (cru C 15 g) := rfl
theorem wC_s16 {cI cO : ClassId} {a ad : Nat → Nat} {C : CS} {g : Nat → Int32} : (wC cI cO a ad C).set 16 (a 16, .inl (cI, 7, .inl g)) = wC cI cO a ad (cru C 16 g) := rfl
theorem wC_z0 {cI cO : ClassId} {a ad : Nat → Nat} {C : CS} {v : Int32} : (wC cI cO a ad C).set 0 (a 0, .inr (3, (oC a C).set 1 (.int v))) = wC cI cO a ad (czu C 0 v) := rfl
theorem wC_z1 {cI cO : ClassId} {a ad : Nat → Nat} {C : CS} {v : Int32} : (wC cI cO a ad C).set 0 (a 0, .inr (3, (oC a C).set 2 (.int v))) = wC cI cO a ad (czu C 1 v) := rfl
theorem wC_z2 {cI cO : ClassId} {a ad : Nat → Nat} {C : CS} {v : Int32} : (wC cI cO a ad C).set 0 (a 0, .inr (3, (oC a C).set 9 (.int v))) = wC cI cO a ad (czu C 2 v) := rfl
theorem wC_z3 {cI cO : ClassId} {a ad : Nat → Nat} {C : CS} {v : Int32} : (wC cI cO a ad C).set 4 (a 4, .inr (0, ([.ref (a 5), .ref (a 6), .ref (a 7), .int (cz C 3)] : List Value).set 3 (.int v))) = wC cI cO a ad (czu C 3 v) := rfl
theorem wC_z4 {cI cO : ClassId} {a ad : Nat → Nat} {C : CS} {v : Int32} : (wC cI cO a ad C).set 8 (a 8, .inr (0, ([.ref (a 9), .ref (a 10), .ref (a 11), .int (cz C 4)] : List Value).set 3 (.int v))) = wC cI cO a ad (czu C 4 v) := rfl
theorem hM_up {ad : Nat → Nat} {h : Nat → Option Nat} {i v : Nat} : va_up (hM ad h) i (some (ad (3 * v))) = hM ad (va_up h i (some v)) := by funext j; by_cases e : j = i <;> simp [hM, va_up, e]
theorem hM_no {ad : Nat → Nat} {h : Nat → Option Nat} {i : Nat} : va_up (hM ad h) i none = hM ad (va_up h i none) := by funext j; by_cases e : j = i <;> simp [hM, va_up, e]
theorem wC_o1 {cI cO : ClassId} {a ad : Nat → Nat} {C : CS} {i v : Nat} : (wC cI cO a ad C).set 1 (a 1, .inl (cO, 500, .inr (.inr (.inr (.inr (va_up (hM ad (co C 1)) i (some (ad (3 * v)))))))))  = wC cI cO a ad (cou C 1 (va_up (co C 1) i (some v))) := by rw [hM_up]; rfl
theorem wC_on1 {cI cO : ClassId} {a ad : Nat → Nat} {C : CS} {i : Nat} : (wC cI cO a ad C).set 1 (a 1, .inl (cO, 500, .inr (.inr (.inr (.inr (va_up (hM ad (co C 1)) i none))))))  = wC cI cO a ad (cou C 1 (va_up (co C 1) i none)) := by rw [hM_no]; rfl
theorem wC_o2 {cI cO : ClassId} {a ad : Nat → Nat} {C : CS} {i v : Nat} : (wC cI cO a ad C).set 2 (a 2, .inl (cO, 12, .inr (.inr (.inr (.inr (va_up (hM ad (co C 2)) i (some (ad (3 * v)))))))))  = wC cI cO a ad (cou C 2 (va_up (co C 2) i (some v))) := by rw [hM_up]; rfl
theorem wC_on2 {cI cO : ClassId} {a ad : Nat → Nat} {C : CS} {i : Nat} : (wC cI cO a ad C).set 2 (a 2, .inl (cO, 12, .inr (.inr (.inr (.inr (va_up (hM ad (co C 2)) i none))))))  = wC cI cO a ad (cou C 2 (va_up (co C 2) i none)) := by rw [hM_no]; rfl
section POOL
variable {cI : ClassId} {ad : Nat → Nat} {f : Nat → Nat → Int32} {q : Nat → Option Nat} {k : Nat → Nat} {g h : Nat → Nat → Int32}
theorem poolC_len (n : Nat) : (poolC cI ad f q k g h n).length = 3 * n := by
  induction n with
  | zero => rfl
  | succ n ih => simp only [poolC, List.length_append, ih, List.length_cons, List.length_nil]; omega
theorem poolC_get {v j : Nat} {e : Nat × va_E} (he : ([(ad (3 * v), .inr (2, vO ad f q v)), (ad (3 * v + 1), .inl (cI, k v, .inl (g v))), (ad (3 * v + 2), .inl (cI, k v, .inl (h v)))] : va_W)[j]? = some e) : ∀ n, v < n → (poolC cI ad f q k g h n)[3 * v + j]? = some e := by
  intro n hv
  induction n with
  | zero => omega
  | succ n ih =>
    have hj : j < 3 := (List.getElem?_eq_some_iff.mp he).1
    by_cases hvn : v < n
    · rw [poolC, List.getElem?_append_left (by rw [poolC_len]; omega)]
      exact ih hvn
    · have e1 : v = n := by omega
      subst e1
      rw [poolC, List.getElem?_append_right (by rw [poolC_len]; omega), poolC_len, show 3 * v + j - 3 * v = j by omega]
      exact he
theorem poolC_cong {f2 : Nat → Nat → Int32} {g2 h2 : Nat → Nat → Int32} : ∀ n, (∀ v, v < n → f v = f2 v ∧ g v = g2 v ∧ h v = h2 v) → poolC cI ad f q k g h n = poolC cI ad f2 q k g2 h2 n := by
  intro n hv
  induction n with
  | zero => rfl
  | succ n ih =>
    obtain ⟨e1, e2, e3⟩ := hv n (Nat.lt_succ_self n)
    rw [poolC, poolC, ih (fun v h => hv v (by omega)), vO, vO, e1, e2, e3]
theorem poolC_setf {v x : Nat} {y : Int32} (hx : x = 8) : ∀ n, v < n → (poolC cI ad f q k g h n).set (3 * v) (ad (3 * v), .inr (2, (vO ad f q v).set x (.int y))) = poolC cI ad (va_up f v (va_up (f v) x y)) q k g h n := by
  intro n hv
  subst hx
  induction n with
  | zero => omega
  | succ n ih =>
    by_cases hvn : v < n
    · rw [poolC, poolC, List.set_append_left _ _ (by rw [poolC_len]; omega), ih hvn]
      simp [vO, va_up, show ¬ n = v by omega]
    · have e1 : v = n := by omega
      subst e1
      rw [poolC, poolC, List.set_append_right _ _ (by rw [poolC_len]; omega), poolC_len, Nat.sub_self, poolC_cong (f2 := va_up f v (va_up (f v) 8 y)) v (fun u hu => ⟨(va_up_ne f _ (by omega : u ≠ v)).symm, rfl, rfl⟩)]
      simp [vO, va_up]
theorem poolC_setv {v : Nat} {g1 : Nat → Int32} : ∀ n, v < n → (poolC cI ad f q k g h n).set (3 * v + 1) (ad (3 * v + 1), .inl (cI, k v, .inl g1)) = poolC cI ad f q k (va_up g v g1) h n := by
  intro n hv
  induction n with
  | zero => omega
  | succ n ih =>
    by_cases hvn : v < n
    · rw [poolC, poolC, List.set_append_left _ _ (by rw [poolC_len]; omega), ih hvn]
      simp [vO, va_up, show ¬ n = v by omega]
    · have e1 : v = n := by omega
      subst e1
      rw [poolC, poolC, List.set_append_right _ _ (by rw [poolC_len]; omega), poolC_len, show 3 * v + 1 - 3 * v = 1 by omega, poolC_cong (g2 := va_up g v g1) v (fun u hu => ⟨rfl, (va_up_ne g _ (by omega : u ≠ v)).symm, rfl⟩)]
      simp [vO, va_up]
theorem poolC_setw {v : Nat} {g1 : Nat → Int32} : ∀ n, v < n → (poolC cI ad f q k g h n).set (3 * v + 2) (ad (3 * v + 2), .inl (cI, k v, .inl g1)) = poolC cI ad f q k g (va_up h v g1) n := by
  intro n hv
  induction n with
  | zero => omega
  | succ n ih =>
    by_cases hvn : v < n
    · rw [poolC, poolC, List.set_append_left _ _ (by rw [poolC_len]; omega), ih hvn]
      simp [vO, va_up, show ¬ n = v by omega]
    · have e1 : v = n := by omega
      subst e1
      rw [poolC, poolC, List.set_append_right _ _ (by rw [poolC_len]; omega), poolC_len, show 3 * v + 2 - 3 * v = 2 by omega, poolC_cong (h2 := va_up h v g1) v (fun u hu => ⟨rfl, rfl, (va_up_ne h _ (by omega : u ≠ v)).symm⟩)]
      simp [vO, va_up]
end POOL
theorem wC_v0 {cI cO : ClassId} {a ad : Nat → Nat} {C : CS} {v : Nat} (hv : v < cn C) : (wC cI cO a ad C)[17 + 3 * v]? = some (ad (3 * v), .inr (2, vO ad (cf C) (cp C) v)) := (List.getElem?_append_right (Nat.le_add_right 17 _)).trans (by rw [show 17 + 3 * v - (fixC cI cO a ad C).length = 3 * v + 0 by simp only [fixC, List.length_cons, List.length_nil]; omega]; exact poolC_get rfl _ hv)
theorem wC_v1 {cI cO : ClassId} {a ad : Nat → Nat} {C : CS} {v : Nat} (hv : v < cn C) : (wC cI cO a ad C)[17 + (3 * v + 1)]? = some (ad (3 * v + 1), .inl (cI, ck C v, .inl (cv C v))) := (List.getElem?_append_right (Nat.le_add_right 17 _)).trans (by rw [show 17 + (3 * v + 1) - (fixC cI cO a ad C).length = 3 * v + 1 by simp only [fixC, List.length_cons, List.length_nil]; omega]; exact poolC_get rfl _ hv)
theorem wC_v2 {cI cO : ClassId} {a ad : Nat → Nat} {C : CS} {v : Nat} (hv : v < cn C) : (wC cI cO a ad C)[17 + (3 * v + 2)]? = some (ad (3 * v + 2), .inl (cI, ck C v, .inl (cw C v))) := (List.getElem?_append_right (Nat.le_add_right 17 _)).trans (by rw [show 17 + (3 * v + 2) - (fixC cI cO a ad C).length = 3 * v + 2 by simp only [fixC, List.length_cons, List.length_nil]; omega]; exact poolC_get rfl _ hv)
theorem wC_sf {cI cO : ClassId} {a ad : Nat → Nat} {C : CS} {v : Nat} {y : Int32} (hv : v < cn C) : (wC cI cO a ad C).set (17 + 3 * v) (ad (3 * v), .inr (2, (vO ad (cf C) (cp C) v).set 8 (.int y))) = wC cI cO a ad (cfu C v 8 y) := (List.set_append_right _ _ (Nat.le_add_right 17 _)).trans (by rw [show 17 + 3 * v - (fixC cI cO a ad C).length = 3 * v by simp only [fixC, List.length_cons, List.length_nil]; omega, poolC_setf rfl _ hv]; rfl)
theorem wC_sv {cI cO : ClassId} {a ad : Nat → Nat} {C : CS} {v : Nat} {g : Nat → Int32} (hv : v < cn C) : (wC cI cO a ad C).set (17 + (3 * v + 1)) (ad (3 * v + 1), .inl (cI, ck C v, .inl g)) = wC cI cO a ad (cvu C v g) := (List.set_append_right _ _ (Nat.le_add_right 17 _)).trans (by rw [show 17 + (3 * v + 1) - (fixC cI cO a ad C).length = 3 * v + 1 by simp only [fixC, List.length_cons, List.length_nil]; omega, poolC_setv _ hv]; rfl)
theorem wC_sw {cI cO : ClassId} {a ad : Nat → Nat} {C : CS} {v : Nat} {g : Nat → Int32} (hv : v < cn C) : (wC cI cO a ad C).set (17 + (3 * v + 2)) (ad (3 * v + 2), .inl (cI, ck C v, .inl g)) = wC cI cO a ad (cwu C v g) := (List.set_append_right _ _ (Nat.le_add_right 17 _)).trans (by rw [show 17 + (3 * v + 2) - (fixC cI cO a ad C).length = 3 * v + 2 by simp only [fixC, List.length_cons, List.length_nil]; omega, poolC_setw _ hv]; rfl)
theorem wC_inj {cI cO : ClassId} {a ad : Nat → Nat} {C : CS} {D : va_G} {A : Nat → Prop} {H0 H : Heap} {locs : List Loc} (hH : HX D (wC cI cO a ad C) A H0 H locs) {v u : Nat} (hv : v < cn C) (hu : u < cn C) (e : ad (3 * v) = ad (3 * u)) : v = u := by have := hH.2.1.1 _ _ _ _ (wC_v0 hv) (wC_v0 hu) e; omega
end
section
theorem zz_end : True := trivial
end
