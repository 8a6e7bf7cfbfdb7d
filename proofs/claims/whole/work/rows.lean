section
-- ===== PART A: goes FIRST, ahead of the names: the tables' words, and 'selects' of the private methods out of them =====
/-- a private method of a class that the tables say can be made, by its rows of tables_1 -/
def lw_okq (q : MethodName × Nat) : Prop := (q.1.cls ≠ "java/lang/invoke/MethodHandle" ∧ q.1.cls ≠ "java/lang/invoke/VarHandle") ∧ Cond.instantiable q.1.cls q.2 ∈ tables_1 ∧ Cond.privateMethod q.1 ∈ tables_1 ∧ Cond.instanceMethod q.1 ∈ tables_1
theorem lw_p0 : lw_okq (⟨"WordGrounds$Words", "resize", "(I)V"⟩, 5) := ⟨⟨by decide +kernel, by decide +kernel⟩, List.mem_of_getElem? (i := 17) (by decide +kernel), List.mem_of_getElem? (i := 129) (by decide +kernel), List.mem_of_getElem? (i := 130) (by decide +kernel)⟩
theorem lw_p1 : lw_okq (⟨"WordGrounds$Words", "all", "()I"⟩, 5) := ⟨⟨by decide +kernel, by decide +kernel⟩, List.mem_of_getElem? (i := 17) (by decide +kernel), List.mem_of_getElem? (i := 133) (by decide +kernel), List.mem_of_getElem? (i := 134) (by decide +kernel)⟩
theorem lw_p2 : lw_okq (⟨"WordGrounds$Words", "makeBare", "(I)V"⟩, 5) := ⟨⟨by decide +kernel, by decide +kernel⟩, List.mem_of_getElem? (i := 17) (by decide +kernel), List.mem_of_getElem? (i := 137) (by decide +kernel), List.mem_of_getElem? (i := 138) (by decide +kernel)⟩
theorem lw_p3 : lw_okq (⟨"WordGrounds$Text", "append", "(I)V"⟩, 2) := ⟨⟨by decide +kernel, by decide +kernel⟩, List.mem_of_getElem? (i := 51) (by decide +kernel), List.mem_of_getElem? (i := 145) (by decide +kernel), List.mem_of_getElem? (i := 146) (by decide +kernel)⟩
theorem lw_p4 : lw_okq (⟨"WordGrounds$Text", "faultPlace", "(I)I"⟩, 2) := ⟨⟨by decide +kernel, by decide +kernel⟩, List.mem_of_getElem? (i := 51) (by decide +kernel), List.mem_of_getElem? (i := 157) (by decide +kernel), List.mem_of_getElem? (i := 158) (by decide +kernel)⟩
theorem lw_p5 : lw_okq (⟨"WordGrounds$Text", "tellsBare", "()Z"⟩, 2) := ⟨⟨by decide +kernel, by decide +kernel⟩, List.mem_of_getElem? (i := 51) (by decide +kernel), List.mem_of_getElem? (i := 164) (by decide +kernel), List.mem_of_getElem? (i := 165) (by decide +kernel)⟩
theorem lw_p6 : lw_okq (⟨"WordGrounds$Text", "toldWord", "()I"⟩, 2) := ⟨⟨by decide +kernel, by decide +kernel⟩, List.mem_of_getElem? (i := 51) (by decide +kernel), List.mem_of_getElem? (i := 168) (by decide +kernel), List.mem_of_getElem? (i := 169) (by decide +kernel)⟩
theorem lw_p7 : lw_okq (⟨"WordGrounds$Text", "toldSet", "()I"⟩, 2) := ⟨⟨by decide +kernel, by decide +kernel⟩, List.mem_of_getElem? (i := 51) (by decide +kernel), List.mem_of_getElem? (i := 174) (by decide +kernel), List.mem_of_getElem? (i := 175) (by decide +kernel)⟩
theorem lw_p8 : lw_okq (⟨"WordGrounds$Words", "setDefinition", "(II)V"⟩, 5) := ⟨⟨by decide +kernel, by decide +kernel⟩, List.mem_of_getElem? (i := 17) (by decide +kernel), List.mem_of_getElem? (i := 178) (by decide +kernel), List.mem_of_getElem? (i := 179) (by decide +kernel)⟩
theorem lw_p9 : lw_okq (⟨"WordGrounds$Words", "isBare", "(I)Z"⟩, 5) := ⟨⟨by decide +kernel, by decide +kernel⟩, List.mem_of_getElem? (i := 17) (by decide +kernel), List.mem_of_getElem? (i := 182) (by decide +kernel), List.mem_of_getElem? (i := 183) (by decide +kernel)⟩
theorem lw_p10 : lw_okq (⟨"WordGrounds$Words", "has", "(I)Z"⟩, 5) := ⟨⟨by decide +kernel, by decide +kernel⟩, List.mem_of_getElem? (i := 17) (by decide +kernel), List.mem_of_getElem? (i := 200) (by decide +kernel), List.mem_of_getElem? (i := 201) (by decide +kernel)⟩
theorem lw_p11 : lw_okq (⟨"WordGrounds$Words", "usersOf", "(I)I"⟩, 5) := ⟨⟨by decide +kernel, by decide +kernel⟩, List.mem_of_getElem? (i := 17) (by decide +kernel), List.mem_of_getElem? (i := 208) (by decide +kernel), List.mem_of_getElem? (i := 209) (by decide +kernel)⟩
theorem lw_p12 : lw_okq (⟨"WordGrounds$Words", "hasAll", "(I)Z"⟩, 5) := ⟨⟨by decide +kernel, by decide +kernel⟩, List.mem_of_getElem? (i := 17) (by decide +kernel), List.mem_of_getElem? (i := 220) (by decide +kernel), List.mem_of_getElem? (i := 221) (by decide +kernel)⟩
theorem lw_p13 : lw_okq (⟨"WordGrounds$Words", "groundedBy", "(I)I"⟩, 5) := ⟨⟨by decide +kernel, by decide +kernel⟩, List.mem_of_getElem? (i := 17) (by decide +kernel), List.mem_of_getElem? (i := 224) (by decide +kernel), List.mem_of_getElem? (i := 225) (by decide +kernel)⟩
theorem lw_p14 : lw_okq (⟨"WordGrounds$Words", "nextDay", "(I)I"⟩, 5) := ⟨⟨by decide +kernel, by decide +kernel⟩, List.mem_of_getElem? (i := 17) (by decide +kernel), List.mem_of_getElem? (i := 228) (by decide +kernel), List.mem_of_getElem? (i := 229) (by decide +kernel)⟩
theorem lw_p15 : lw_okq (⟨"WordGrounds$Words", "daysTill", "(II)I"⟩, 5) := ⟨⟨by decide +kernel, by decide +kernel⟩, List.mem_of_getElem? (i := 17) (by decide +kernel), List.mem_of_getElem? (i := 237) (by decide +kernel), List.mem_of_getElem? (i := 238) (by decide +kernel)⟩
def lw_privs_1 : List (MethodName × Nat) := [(⟨"WordGrounds$Words", "resize", "(I)V"⟩, 5), (⟨"WordGrounds$Words", "all", "()I"⟩, 5), (⟨"WordGrounds$Words", "makeBare", "(I)V"⟩, 5), (⟨"WordGrounds$Text", "append", "(I)V"⟩, 2), (⟨"WordGrounds$Text", "faultPlace", "(I)I"⟩, 2), (⟨"WordGrounds$Text", "tellsBare", "()Z"⟩, 2), (⟨"WordGrounds$Text", "toldWord", "()I"⟩, 2), (⟨"WordGrounds$Text", "toldSet", "()I"⟩, 2), (⟨"WordGrounds$Words", "setDefinition", "(II)V"⟩, 5), (⟨"WordGrounds$Words", "isBare", "(I)Z"⟩, 5), (⟨"WordGrounds$Words", "has", "(I)Z"⟩, 5), (⟨"WordGrounds$Words", "usersOf", "(I)I"⟩, 5), (⟨"WordGrounds$Words", "hasAll", "(I)Z"⟩, 5), (⟨"WordGrounds$Words", "groundedBy", "(I)I"⟩, 5), (⟨"WordGrounds$Words", "nextDay", "(I)I"⟩, 5), (⟨"WordGrounds$Words", "daysTill", "(II)I"⟩, 5)]
theorem lw_r1 : ∀ q ∈ lw_privs_1, lw_okq q := List.forall_mem_cons.mpr ⟨lw_p0, List.forall_mem_cons.mpr ⟨lw_p1, List.forall_mem_cons.mpr ⟨lw_p2, List.forall_mem_cons.mpr ⟨lw_p3, List.forall_mem_cons.mpr ⟨lw_p4, List.forall_mem_cons.mpr ⟨lw_p5, List.forall_mem_cons.mpr ⟨lw_p6, List.forall_mem_cons.mpr ⟨lw_p7, List.forall_mem_cons.mpr ⟨lw_p8, List.forall_mem_cons.mpr ⟨lw_p9, List.forall_mem_cons.mpr ⟨lw_p10, List.forall_mem_cons.mpr ⟨lw_p11, List.forall_mem_cons.mpr ⟨lw_p12, List.forall_mem_cons.mpr ⟨lw_p13, List.forall_mem_cons.mpr ⟨lw_p14, List.forall_mem_cons.mpr ⟨lw_p15, fun _ h => absurd h List.not_mem_nil⟩⟩⟩⟩⟩⟩⟩⟩⟩⟩⟩⟩⟩⟩⟩⟩
theorem lw_p16 : lw_okq (⟨"WordGrounds", "currentTellings", "()LWordGrounds$Tellings;"⟩, 8) := ⟨⟨by decide +kernel, by decide +kernel⟩, List.mem_of_getElem? (i := 9) (by decide +kernel), List.mem_of_getElem? (i := 254) (by decide +kernel), List.mem_of_getElem? (i := 255) (by decide +kernel)⟩
theorem lw_p17 : lw_okq (⟨"WordGrounds", "currentRings", "()LWordGrounds$Rings;"⟩, 8) := ⟨⟨by decide +kernel, by decide +kernel⟩, List.mem_of_getElem? (i := 9) (by decide +kernel), List.mem_of_getElem? (i := 258) (by decide +kernel), List.mem_of_getElem? (i := 259) (by decide +kernel)⟩
theorem lw_p18 : lw_okq (⟨"WordGrounds$Rings", "trace", "(LWordGrounds$Words;)V"⟩, 3) := ⟨⟨by decide +kernel, by decide +kernel⟩, List.mem_of_getElem? (i := 65) (by decide +kernel), List.mem_of_getElem? (i := 262) (by decide +kernel), List.mem_of_getElem? (i := 263) (by decide +kernel)⟩
theorem lw_p19 : lw_okq (⟨"WordGrounds$Tellings", "find", "(LWordGrounds$Words;LWordGrounds$Rings;)V"⟩, 3) := ⟨⟨by decide +kernel, by decide +kernel⟩, List.mem_of_getElem? (i := 83) (by decide +kernel), List.mem_of_getElem? (i := 266) (by decide +kernel), List.mem_of_getElem? (i := 267) (by decide +kernel)⟩
theorem lw_p20 : lw_okq (⟨"WordGrounds$Tellings", "isFreeWithoutOne", "(LWordGrounds$Words;I)Z"⟩, 3) := ⟨⟨by decide +kernel, by decide +kernel⟩, List.mem_of_getElem? (i := 83) (by decide +kernel), List.mem_of_getElem? (i := 272) (by decide +kernel), List.mem_of_getElem? (i := 273) (by decide +kernel)⟩
theorem lw_p21 : lw_okq (⟨"WordGrounds$Tellings", "isFree", "(I)Z"⟩, 3) := ⟨⟨by decide +kernel, by decide +kernel⟩, List.mem_of_getElem? (i := 83) (by decide +kernel), List.mem_of_getElem? (i := 276) (by decide +kernel), List.mem_of_getElem? (i := 277) (by decide +kernel)⟩
theorem lw_p22 : lw_okq (⟨"WordGrounds$Tellings", "mark", "(IZ)V"⟩, 3) := ⟨⟨by decide +kernel, by decide +kernel⟩, List.mem_of_getElem? (i := 83) (by decide +kernel), List.mem_of_getElem? (i := 280) (by decide +kernel), List.mem_of_getElem? (i := 281) (by decide +kernel)⟩
theorem lw_p23 : lw_okq (⟨"WordGrounds$Tellings", "cheapest", "(LWordGrounds$Words;I)I"⟩, 3) := ⟨⟨by decide +kernel, by decide +kernel⟩, List.mem_of_getElem? (i := 83) (by decide +kernel), List.mem_of_getElem? (i := 288) (by decide +kernel), List.mem_of_getElem? (i := 289) (by decide +kernel)⟩
theorem lw_p24 : lw_okq (⟨"WordGrounds$Words", "costOf", "(I)I"⟩, 5) := ⟨⟨by decide +kernel, by decide +kernel⟩, List.mem_of_getElem? (i := 17) (by decide +kernel), List.mem_of_getElem? (i := 292) (by decide +kernel), List.mem_of_getElem? (i := 293) (by decide +kernel)⟩
theorem lw_p25 : lw_okq (⟨"WordGrounds$Tellings", "greatestLeast", "()I"⟩, 3) := ⟨⟨by decide +kernel, by decide +kernel⟩, List.mem_of_getElem? (i := 83) (by decide +kernel), List.mem_of_getElem? (i := 306) (by decide +kernel), List.mem_of_getElem? (i := 307) (by decide +kernel)⟩
theorem lw_p26 : lw_okq (⟨"WordGrounds$Tellings", "isLeast", "(I)Z"⟩, 3) := ⟨⟨by decide +kernel, by decide +kernel⟩, List.mem_of_getElem? (i := 83) (by decide +kernel), List.mem_of_getElem? (i := 310) (by decide +kernel), List.mem_of_getElem? (i := 311) (by decide +kernel)⟩
theorem lw_p27 : lw_okq (⟨"WordGrounds$Tellings", "leastWith", "(I)I"⟩, 3) := ⟨⟨by decide +kernel, by decide +kernel⟩, List.mem_of_getElem? (i := 83) (by decide +kernel), List.mem_of_getElem? (i := 314) (by decide +kernel), List.mem_of_getElem? (i := 315) (by decide +kernel)⟩
theorem lw_p28 : lw_okq (⟨"WordGrounds$Words", "stepsBetween", "(II)I"⟩, 5) := ⟨⟨by decide +kernel, by decide +kernel⟩, List.mem_of_getElem? (i := 17) (by decide +kernel), List.mem_of_getElem? (i := 322) (by decide +kernel), List.mem_of_getElem? (i := 323) (by decide +kernel)⟩
theorem lw_p29 : lw_okq (⟨"WordGrounds$Words", "usedByAny", "(I)I"⟩, 5) := ⟨⟨by decide +kernel, by decide +kernel⟩, List.mem_of_getElem? (i := 17) (by decide +kernel), List.mem_of_getElem? (i := 326) (by decide +kernel), List.mem_of_getElem? (i := 327) (by decide +kernel)⟩
theorem lw_p30 : lw_okq (⟨"WordGrounds$Rings", "howMany", "()I"⟩, 3) := ⟨⟨by decide +kernel, by decide +kernel⟩, List.mem_of_getElem? (i := 65) (by decide +kernel), List.mem_of_getElem? (i := 334) (by decide +kernel), List.mem_of_getElem? (i := 335) (by decide +kernel)⟩
theorem lw_p31 : lw_okq (⟨"WordGrounds$Rings", "ringOf", "(I)I"⟩, 3) := ⟨⟨by decide +kernel, by decide +kernel⟩, List.mem_of_getElem? (i := 65) (by decide +kernel), List.mem_of_getElem? (i := 338) (by decide +kernel), List.mem_of_getElem? (i := 339) (by decide +kernel)⟩
def lw_privs_2 : List (MethodName × Nat) := [(⟨"WordGrounds", "currentTellings", "()LWordGrounds$Tellings;"⟩, 8), (⟨"WordGrounds", "currentRings", "()LWordGrounds$Rings;"⟩, 8), (⟨"WordGrounds$Rings", "trace", "(LWordGrounds$Words;)V"⟩, 3), (⟨"WordGrounds$Tellings", "find", "(LWordGrounds$Words;LWordGrounds$Rings;)V"⟩, 3), (⟨"WordGrounds$Tellings", "isFreeWithoutOne", "(LWordGrounds$Words;I)Z"⟩, 3), (⟨"WordGrounds$Tellings", "isFree", "(I)Z"⟩, 3), (⟨"WordGrounds$Tellings", "mark", "(IZ)V"⟩, 3), (⟨"WordGrounds$Tellings", "cheapest", "(LWordGrounds$Words;I)I"⟩, 3), (⟨"WordGrounds$Words", "costOf", "(I)I"⟩, 5), (⟨"WordGrounds$Tellings", "greatestLeast", "()I"⟩, 3), (⟨"WordGrounds$Tellings", "isLeast", "(I)Z"⟩, 3), (⟨"WordGrounds$Tellings", "leastWith", "(I)I"⟩, 3), (⟨"WordGrounds$Words", "stepsBetween", "(II)I"⟩, 5), (⟨"WordGrounds$Words", "usedByAny", "(I)I"⟩, 5), (⟨"WordGrounds$Rings", "howMany", "()I"⟩, 3), (⟨"WordGrounds$Rings", "ringOf", "(I)I"⟩, 3)]
theorem lw_r2 : ∀ q ∈ lw_privs_2, lw_okq q := List.forall_mem_cons.mpr ⟨lw_p16, List.forall_mem_cons.mpr ⟨lw_p17, List.forall_mem_cons.mpr ⟨lw_p18, List.forall_mem_cons.mpr ⟨lw_p19, List.forall_mem_cons.mpr ⟨lw_p20, List.forall_mem_cons.mpr ⟨lw_p21, List.forall_mem_cons.mpr ⟨lw_p22, List.forall_mem_cons.mpr ⟨lw_p23, List.forall_mem_cons.mpr ⟨lw_p24, List.forall_mem_cons.mpr ⟨lw_p25, List.forall_mem_cons.mpr ⟨lw_p26, List.forall_mem_cons.mpr ⟨lw_p27, List.forall_mem_cons.mpr ⟨lw_p28, List.forall_mem_cons.mpr ⟨lw_p29, List.forall_mem_cons.mpr ⟨lw_p30, List.forall_mem_cons.mpr ⟨lw_p31, fun _ h => absurd h List.not_mem_nil⟩⟩⟩⟩⟩⟩⟩⟩⟩⟩⟩⟩⟩⟩⟩⟩
theorem lw_p32 : lw_okq (⟨"WordGrounds$Rings", "numbered", "(I)I"⟩, 3) := ⟨⟨by decide +kernel, by decide +kernel⟩, List.mem_of_getElem? (i := 65) (by decide +kernel), List.mem_of_getElem? (i := 342) (by decide +kernel), List.mem_of_getElem? (i := 343) (by decide +kernel)⟩
theorem lw_p33 : lw_okq (⟨"WordGrounds$Rings", "before", "()I"⟩, 3) := ⟨⟨by decide +kernel, by decide +kernel⟩, List.mem_of_getElem? (i := 65) (by decide +kernel), List.mem_of_getElem? (i := 350) (by decide +kernel), List.mem_of_getElem? (i := 351) (by decide +kernel)⟩
theorem lw_p34 : lw_okq (⟨"WordGrounds$Rings", "behind", "()I"⟩, 3) := ⟨⟨by decide +kernel, by decide +kernel⟩, List.mem_of_getElem? (i := 65) (by decide +kernel), List.mem_of_getElem? (i := 354) (by decide +kernel), List.mem_of_getElem? (i := 355) (by decide +kernel)⟩
theorem lw_p35 : lw_okq (⟨"WordGrounds$Words", "used", "()I"⟩, 5) := ⟨⟨by decide +kernel, by decide +kernel⟩, List.mem_of_getElem? (i := 17) (by decide +kernel), List.mem_of_getElem? (i := 358) (by decide +kernel), List.mem_of_getElem? (i := 359) (by decide +kernel)⟩
theorem lw_p36 : lw_okq (⟨"WordGrounds$Words", "copyFrom", "(LWordGrounds$Words;)V"⟩, 5) := ⟨⟨by decide +kernel, by decide +kernel⟩, List.mem_of_getElem? (i := 17) (by decide +kernel), List.mem_of_getElem? (i := 366) (by decide +kernel), List.mem_of_getElem? (i := 367) (by decide +kernel)⟩
theorem lw_p37 : lw_okq (⟨"WordGrounds$Words", "howOftenUsed", "()I"⟩, 5) := ⟨⟨by decide +kernel, by decide +kernel⟩, List.mem_of_getElem? (i := 17) (by decide +kernel), List.mem_of_getElem? (i := 378) (by decide +kernel), List.mem_of_getElem? (i := 379) (by decide +kernel)⟩
theorem lw_p38 : lw_okq (⟨"WordGroundsModel", "all", "()I"⟩, 10) := ⟨⟨by decide +kernel, by decide +kernel⟩, List.mem_of_getElem? (i := 383) (by decide +kernel), List.mem_of_getElem? (i := 428) (by decide +kernel), List.mem_of_getElem? (i := 429) (by decide +kernel)⟩
theorem lw_p39 : lw_okq (⟨"WordGroundsModel", "faultNow", "()I"⟩, 10) := ⟨⟨by decide +kernel, by decide +kernel⟩, List.mem_of_getElem? (i := 383) (by decide +kernel), List.mem_of_getElem? (i := 444) (by decide +kernel), List.mem_of_getElem? (i := 445) (by decide +kernel)⟩
theorem lw_p40 : lw_okq (⟨"WordGroundsModel", "canStand", "(I)Z"⟩, 10) := ⟨⟨by decide +kernel, by decide +kernel⟩, List.mem_of_getElem? (i := 383) (by decide +kernel), List.mem_of_getElem? (i := 448) (by decide +kernel), List.mem_of_getElem? (i := 449) (by decide +kernel)⟩
theorem lw_p41 : lw_okq (⟨"WordGroundsModel", "isWord", "(I)Z"⟩, 10) := ⟨⟨by decide +kernel, by decide +kernel⟩, List.mem_of_getElem? (i := 383) (by decide +kernel), List.mem_of_getElem? (i := 452) (by decide +kernel), List.mem_of_getElem? (i := 453) (by decide +kernel)⟩
theorem lw_p42 : lw_okq (⟨"WordGroundsModel", "toldUpTo", "(I)I"⟩, 10) := ⟨⟨by decide +kernel, by decide +kernel⟩, List.mem_of_getElem? (i := 383) (by decide +kernel), List.mem_of_getElem? (i := 456) (by decide +kernel), List.mem_of_getElem? (i := 457) (by decide +kernel)⟩
theorem lw_p43 : lw_okq (⟨"WordGroundsModel", "usersOf", "(I)I"⟩, 10) := ⟨⟨by decide +kernel, by decide +kernel⟩, List.mem_of_getElem? (i := 383) (by decide +kernel), List.mem_of_getElem? (i := 478) (by decide +kernel), List.mem_of_getElem? (i := 479) (by decide +kernel)⟩
theorem lw_p44 : lw_okq (⟨"WordGroundsModel", "isUsed", "(II)Z"⟩, 10) := ⟨⟨by decide +kernel, by decide +kernel⟩, List.mem_of_getElem? (i := 383) (by decide +kernel), List.mem_of_getElem? (i := 482) (by decide +kernel), List.mem_of_getElem? (i := 483) (by decide +kernel)⟩
theorem lw_p45 : lw_okq (⟨"WordGroundsModel", "isSet", "(I)Z"⟩, 10) := ⟨⟨by decide +kernel, by decide +kernel⟩, List.mem_of_getElem? (i := 383) (by decide +kernel), List.mem_of_getElem? (i := 494) (by decide +kernel), List.mem_of_getElem? (i := 495) (by decide +kernel)⟩
theorem lw_p46 : lw_okq (⟨"WordGroundsModel", "knownOn", "(II)I"⟩, 10) := ⟨⟨by decide +kernel, by decide +kernel⟩, List.mem_of_getElem? (i := 383) (by decide +kernel), List.mem_of_getElem? (i := 498) (by decide +kernel), List.mem_of_getElem? (i := 499) (by decide +kernel)⟩
theorem lw_p47 : lw_okq (⟨"WordGroundsModel", "after", "(I)I"⟩, 10) := ⟨⟨by decide +kernel, by decide +kernel⟩, List.mem_of_getElem? (i := 383) (by decide +kernel), List.mem_of_getElem? (i := 502) (by decide +kernel), List.mem_of_getElem? (i := 503) (by decide +kernel)⟩
def lw_privs_3 : List (MethodName × Nat) := [(⟨"WordGrounds$Rings", "numbered", "(I)I"⟩, 3), (⟨"WordGrounds$Rings", "before", "()I"⟩, 3), (⟨"WordGrounds$Rings", "behind", "()I"⟩, 3), (⟨"WordGrounds$Words", "used", "()I"⟩, 5), (⟨"WordGrounds$Words", "copyFrom", "(LWordGrounds$Words;)V"⟩, 5), (⟨"WordGrounds$Words", "howOftenUsed", "()I"⟩, 5), (⟨"WordGroundsModel", "all", "()I"⟩, 10), (⟨"WordGroundsModel", "faultNow", "()I"⟩, 10), (⟨"WordGroundsModel", "canStand", "(I)Z"⟩, 10), (⟨"WordGroundsModel", "isWord", "(I)Z"⟩, 10), (⟨"WordGroundsModel", "toldUpTo", "(I)I"⟩, 10), (⟨"WordGroundsModel", "usersOf", "(I)I"⟩, 10), (⟨"WordGroundsModel", "isUsed", "(II)Z"⟩, 10), (⟨"WordGroundsModel", "isSet", "(I)Z"⟩, 10), (⟨"WordGroundsModel", "knownOn", "(II)I"⟩, 10), (⟨"WordGroundsModel", "after", "(I)I"⟩, 10)]
theorem lw_r3 : ∀ q ∈ lw_privs_3, lw_okq q := List.forall_mem_cons.mpr ⟨lw_p32, List.forall_mem_cons.mpr ⟨lw_p33, List.forall_mem_cons.mpr ⟨lw_p34, List.forall_mem_cons.mpr ⟨lw_p35, List.forall_mem_cons.mpr ⟨lw_p36, List.forall_mem_cons.mpr ⟨lw_p37, List.forall_mem_cons.mpr ⟨lw_p38, List.forall_mem_cons.mpr ⟨lw_p39, List.forall_mem_cons.mpr ⟨lw_p40, List.forall_mem_cons.mpr ⟨lw_p41, List.forall_mem_cons.mpr ⟨lw_p42, List.forall_mem_cons.mpr ⟨lw_p43, List.forall_mem_cons.mpr ⟨lw_p44, List.forall_mem_cons.mpr ⟨lw_p45, List.forall_mem_cons.mpr ⟨lw_p46, List.forall_mem_cons.mpr ⟨lw_p47, fun _ h => absurd h List.not_mem_nil⟩⟩⟩⟩⟩⟩⟩⟩⟩⟩⟩⟩⟩⟩⟩⟩
theorem lw_p48 : lw_okq (⟨"WordGroundsModel", "planFor", "(I)I"⟩, 10) := ⟨⟨by decide +kernel, by decide +kernel⟩, List.mem_of_getElem? (i := 383) (by decide +kernel), List.mem_of_getElem? (i := 522) (by decide +kernel), List.mem_of_getElem? (i := 523) (by decide +kernel)⟩
theorem lw_p49 : lw_okq (⟨"WordGroundsModel", "isBetter", "(II)Z"⟩, 10) := ⟨⟨by decide +kernel, by decide +kernel⟩, List.mem_of_getElem? (i := 383) (by decide +kernel), List.mem_of_getElem? (i := 526) (by decide +kernel), List.mem_of_getElem? (i := 527) (by decide +kernel)⟩
theorem lw_p50 : lw_okq (⟨"WordGroundsModel", "costOf", "(I)I"⟩, 10) := ⟨⟨by decide +kernel, by decide +kernel⟩, List.mem_of_getElem? (i := 383) (by decide +kernel), List.mem_of_getElem? (i := 530) (by decide +kernel), List.mem_of_getElem? (i := 531) (by decide +kernel)⟩
theorem lw_p51 : lw_okq (⟨"WordGroundsModel", "isLeast", "(I)Z"⟩, 10) := ⟨⟨by decide +kernel, by decide +kernel⟩, List.mem_of_getElem? (i := 383) (by decide +kernel), List.mem_of_getElem? (i := 542) (by decide +kernel), List.mem_of_getElem? (i := 543) (by decide +kernel)⟩
theorem lw_p52 : lw_okq (⟨"WordGroundsModel", "wayOf", "(II)I"⟩, 10) := ⟨⟨by decide +kernel, by decide +kernel⟩, List.mem_of_getElem? (i := 383) (by decide +kernel), List.mem_of_getElem? (i := 550) (by decide +kernel), List.mem_of_getElem? (i := 551) (by decide +kernel)⟩
theorem lw_p53 : lw_okq (⟨"WordGroundsModel", "reached", "(II)I"⟩, 10) := ⟨⟨by decide +kernel, by decide +kernel⟩, List.mem_of_getElem? (i := 383) (by decide +kernel), List.mem_of_getElem? (i := 554) (by decide +kernel), List.mem_of_getElem? (i := 555) (by decide +kernel)⟩
theorem lw_p54 : lw_okq (⟨"WordGroundsModel", "ringOf", "(I)I"⟩, 10) := ⟨⟨by decide +kernel, by decide +kernel⟩, List.mem_of_getElem? (i := 383) (by decide +kernel), List.mem_of_getElem? (i := 562) (by decide +kernel), List.mem_of_getElem? (i := 563) (by decide +kernel)⟩
theorem lw_p55 : lw_okq (⟨"WordGroundsModel", "lies", "(II)Z"⟩, 10) := ⟨⟨by decide +kernel, by decide +kernel⟩, List.mem_of_getElem? (i := 383) (by decide +kernel), List.mem_of_getElem? (i := 570) (by decide +kernel), List.mem_of_getElem? (i := 571) (by decide +kernel)⟩
theorem lw_p56 : lw_okq (⟨"WordGroundsModel", "ringed", "()I"⟩, 10) := ⟨⟨by decide +kernel, by decide +kernel⟩, List.mem_of_getElem? (i := 383) (by decide +kernel), List.mem_of_getElem? (i := 574) (by decide +kernel), List.mem_of_getElem? (i := 575) (by decide +kernel)⟩
def lw_privs_4 : List (MethodName × Nat) := [(⟨"WordGroundsModel", "planFor", "(I)I"⟩, 10), (⟨"WordGroundsModel", "isBetter", "(II)Z"⟩, 10), (⟨"WordGroundsModel", "costOf", "(I)I"⟩, 10), (⟨"WordGroundsModel", "isLeast", "(I)Z"⟩, 10), (⟨"WordGroundsModel", "wayOf", "(II)I"⟩, 10), (⟨"WordGroundsModel", "reached", "(II)I"⟩, 10), (⟨"WordGroundsModel", "ringOf", "(I)I"⟩, 10), (⟨"WordGroundsModel", "lies", "(II)Z"⟩, 10), (⟨"WordGroundsModel", "ringed", "()I"⟩, 10)]
theorem lw_r4 : ∀ q ∈ lw_privs_4, lw_okq q := List.forall_mem_cons.mpr ⟨lw_p48, List.forall_mem_cons.mpr ⟨lw_p49, List.forall_mem_cons.mpr ⟨lw_p50, List.forall_mem_cons.mpr ⟨lw_p51, List.forall_mem_cons.mpr ⟨lw_p52, List.forall_mem_cons.mpr ⟨lw_p53, List.forall_mem_cons.mpr ⟨lw_p54, List.forall_mem_cons.mpr ⟨lw_p55, List.forall_mem_cons.mpr ⟨lw_p56, fun _ h => absurd h List.not_mem_nil⟩⟩⟩⟩⟩⟩⟩⟩⟩
def lw_privs : List (MethodName × Nat) := lw_privs_1 ++ (lw_privs_2 ++ (lw_privs_3 ++ (lw_privs_4)))
def lw_tbl : List Cond := k2_sels lw_privs ++ tables_1
theorem lw_privs_ok : ∀ q ∈ lw_privs, lw_okq q := by
  show ∀ q ∈ lw_privs_1 ++ (lw_privs_2 ++ (lw_privs_3 ++ (lw_privs_4))), lw_okq q
  exact List.forall_mem_append.mpr ⟨lw_r1, List.forall_mem_append.mpr ⟨lw_r2, List.forall_mem_append.mpr ⟨lw_r3, lw_r4⟩⟩⟩
end
section
/-! ===== BEGIN words of one list among another's, by their places ===== -/
theorem goodIn_r {big : List Cond} (ws : List Cond) (ps : List Nat) (hp : ws = ps.filterMap (fun i => big[i]?)) (h : ws.all goodWord = true) : GoodIn big ws := by
  intro w hw
  have h1 := List.all_eq_true.mp h w hw
  rw [hp] at hw
  obtain ⟨i, -, hi⟩ := List.mem_filterMap.mp hw
  have hm : w ∈ big := by first | exact List.mem_of_getElem? hi | exact List.getElem?_mem hi
  exact ⟨hm, good_of_word h1⟩
theorem goodIn_app {big a b : List Cond} (ha : GoodIn big a) (hb : GoodIn big b) : GoodIn big (a ++ b) := fun w h => (List.mem_append.mp h).elim (ha w) (hb w)
theorem goodIn_ca {big a b : List Cond} {c : Cond} (ha : GoodIn big (c :: a)) (hb : GoodIn big b) : GoodIn big (c :: (a ++ b)) := fun w h => (List.mem_cons.mp h).elim (fun e => ha w (List.mem_cons.mpr (Or.inl e))) (fun h => (List.mem_append.mp h).elim (fun h => ha w (List.mem_cons.mpr (Or.inr h))) (hb w))
theorem goodIn_sub {big ws : List Cond} (hm : ∀ w ∈ ws, w ∈ big) (h : ws.all goodWord = true) : GoodIn big ws := fun w hw => ⟨hm w hw, good_of_word (List.all_eq_true.mp h w hw)⟩
/-! ===== END ===== -/

/-! ===== BEGIN printed: names, fields, word lists, decode rows ===== -/
def RX0 : String := "WordGrounds$Rings"
def TX0 : u_T := fun k => match k with
  | 0 => ("WordGrounds$Rings", "total", "I", false)
  | 1 => ("WordGrounds$Rings", "reach", "[I", true)
  | _ => ("WordGrounds$Rings", "inRings", "I", false)
def tyX0 : Nat → FieldType := fun k => match k with
  | 0 => .int
  | 1 => .array .int
  | _ => .int
abbrev wsX00 : List Cond := u_ws RX0 TX0 3
theorem nmX0 : ∀ a, a < 3 → ∀ b, b < 3 → a ≠ b → (TX0 a).2.1 ≠ (TX0 b).2.1 := by decide +kernel
theorem tyX0_ok : ∀ k, k < 3 → parseFieldDescriptor (TX0 k).2.2.1 = some (tyX0 k) := by decide +kernel
abbrev cX0_init : ByteArray := prog_2_method_1_code
def yX0_init : MethodName := ⟨RX0, "<init>", "()V"⟩
abbrev cX0_trace : ByteArray := prog_2_method_2_code
def yX0_trace : MethodName := ⟨RX0, "trace", "(LWordGrounds$Words;)V"⟩
abbrev cX0_ringOf : ByteArray := prog_2_method_3_code
def yX0_ringOf : MethodName := ⟨RX0, "ringOf", "(I)I"⟩
abbrev cX0_howMany : ByteArray := prog_2_method_4_code
def yX0_howMany : MethodName := ⟨RX0, "howMany", "()I"⟩
abbrev cX0_numbered : ByteArray := prog_2_method_5_code
def yX0_numbered : MethodName := ⟨RX0, "numbered", "(I)I"⟩
abbrev cX0_before : ByteArray := prog_2_method_6_code
def yX0_before : MethodName := ⟨RX0, "before", "()I"⟩
abbrev cX0_behind : ByteArray := prog_2_method_7_code
def yX0_behind : MethodName := ⟨RX0, "behind", "()I"⟩
def RX1 : String := "WordGrounds$Tellings"
def TX1 : u_T := fun k => match k with
  | 0 => ("WordGrounds$Tellings", "must", "I", false)
  | 1 => ("WordGrounds$Tellings", "may", "I", false)
  | _ => ("WordGrounds$Tellings", "circleFree", "[J", true)
def tyX1 : Nat → FieldType := fun k => match k with
  | 0 => .int
  | 1 => .int
  | _ => .array .long
abbrev wsX10 : List Cond := u_ws RX1 TX1 3
theorem nmX1 : ∀ a, a < 3 → ∀ b, b < 3 → a ≠ b → (TX1 a).2.1 ≠ (TX1 b).2.1 := by decide +kernel
theorem tyX1_ok : ∀ k, k < 3 → parseFieldDescriptor (TX1 k).2.2.1 = some (tyX1 k) := by decide +kernel
abbrev cX1_init : ByteArray := prog_3_method_1_code
def yX1_init : MethodName := ⟨RX1, "<init>", "()V"⟩
abbrev cX1_find : ByteArray := prog_3_method_2_code
def yX1_find : MethodName := ⟨RX1, "find", "(LWordGrounds$Words;LWordGrounds$Rings;)V"⟩
abbrev cX1_isFreeWithoutOne : ByteArray := prog_3_method_3_code
def yX1_isFreeWithoutOne : MethodName := ⟨RX1, "isFreeWithoutOne", "(LWordGrounds$Words;I)Z"⟩
abbrev cX1_nextSubset : ByteArray := prog_3_method_4_code
def yX1_nextSubset : MethodName := ⟨RX1, "nextSubset", "(II)I"⟩
abbrev cX1_mark : ByteArray := prog_3_method_5_code
def yX1_mark : MethodName := ⟨RX1, "mark", "(IZ)V"⟩
abbrev cX1_isFree : ByteArray := prog_3_method_6_code
def yX1_isFree : MethodName := ⟨RX1, "isFree", "(I)Z"⟩
abbrev cX1_cheapest : ByteArray := prog_3_method_7_code
def yX1_cheapest : MethodName := ⟨RX1, "cheapest", "(LWordGrounds$Words;I)I"⟩
abbrev cX1_isLeast : ByteArray := prog_3_method_8_code
def yX1_isLeast : MethodName := ⟨RX1, "isLeast", "(I)Z"⟩
abbrev cX1_leastWith : ByteArray := prog_3_method_9_code
def yX1_leastWith : MethodName := ⟨RX1, "leastWith", "(I)I"⟩
abbrev cX1_greatestLeast : ByteArray := prog_3_method_10_code
def yX1_greatestLeast : MethodName := ⟨RX1, "greatestLeast", "()I"⟩
def RX2 : String := "WordGrounds$Text"
def TX2 : u_T := fun k => match k with
  | 0 => ("WordGrounds$Text", "signs", "[I", true)
  | _ => ("WordGrounds$Text", "length", "I", false)
def tyX2 : Nat → FieldType := fun k => match k with
  | 0 => .array .int
  | _ => .int
abbrev wsX20 : List Cond := u_ws RX2 TX2 2
theorem nmX2 : ∀ a, a < 2 → ∀ b, b < 2 → a ≠ b → (TX2 a).2.1 ≠ (TX2 b).2.1 := by decide +kernel
theorem tyX2_ok : ∀ k, k < 2 → parseFieldDescriptor (TX2 k).2.2.1 = some (tyX2 k) := by decide +kernel
abbrev cX2_init : ByteArray := prog_4_method_1_code
def yX2_init : MethodName := ⟨RX2, "<init>", "()V"⟩
abbrev cX2_append : ByteArray := prog_4_method_2_code
def yX2_append : MethodName := ⟨RX2, "append", "(I)V"⟩
abbrev cX2_faultPlace : ByteArray := prog_4_method_3_code
def yX2_faultPlace : MethodName := ⟨RX2, "faultPlace", "(I)I"⟩
abbrev cX2_toldWord : ByteArray := prog_4_method_4_code
def yX2_toldWord : MethodName := ⟨RX2, "toldWord", "()I"⟩
abbrev cX2_tellsBare : ByteArray := prog_4_method_5_code
def yX2_tellsBare : MethodName := ⟨RX2, "tellsBare", "()Z"⟩
abbrev cX2_toldSet : ByteArray := prog_4_method_6_code
def yX2_toldSet : MethodName := ⟨RX2, "toldSet", "()I"⟩
abbrev cX2_wordBit : ByteArray := prog_4_method_7_code
def yX2_wordBit : MethodName := ⟨RX2, "wordBit", "(II)I"⟩
def RX3 : String := "WordGrounds$Words"
def TX3 : u_T := fun k => match k with
  | 0 => ("WordGrounds$Words", "total", "I", false)
  | 1 => ("WordGrounds$Words", "known", "I", false)
  | 2 => ("WordGrounds$Words", "defined", "I", false)
  | 3 => ("WordGrounds$Words", "costs", "[I", true)
  | _ => ("WordGrounds$Words", "definitions", "[I", true)
def tyX3 : Nat → FieldType := fun k => match k with
  | 0 => .int
  | 1 => .int
  | 2 => .int
  | 3 => .array .int
  | _ => .array .int
abbrev wsX30 : List Cond := u_ws RX3 TX3 5
theorem nmX3 : ∀ a, a < 5 → ∀ b, b < 5 → a ≠ b → (TX3 a).2.1 ≠ (TX3 b).2.1 := by decide +kernel
theorem tyX3_ok : ∀ k, k < 5 → parseFieldDescriptor (TX3 k).2.2.1 = some (tyX3 k) := by decide +kernel
abbrev cX3_init : ByteArray := prog_5_method_1_code
def yX3_init : MethodName := ⟨RX3, "<init>", "()V"⟩
abbrev cX3_all : ByteArray := prog_5_method_2_code
def yX3_all : MethodName := ⟨RX3, "all", "()I"⟩
abbrev cX3_has : ByteArray := prog_5_method_3_code
def yX3_has : MethodName := ⟨RX3, "has", "(I)Z"⟩
abbrev cX3_hasAll : ByteArray := prog_5_method_4_code
def yX3_hasAll : MethodName := ⟨RX3, "hasAll", "(I)Z"⟩
abbrev cX3_isBare : ByteArray := prog_5_method_5_code
def yX3_isBare : MethodName := ⟨RX3, "isBare", "(I)Z"⟩
abbrev cX3_makeBare : ByteArray := prog_5_method_6_code
def yX3_makeBare : MethodName := ⟨RX3, "makeBare", "(I)V"⟩
abbrev cX3_setDefinition : ByteArray := prog_5_method_7_code
def yX3_setDefinition : MethodName := ⟨RX3, "setDefinition", "(II)V"⟩
abbrev cX3_resize : ByteArray := prog_5_method_8_code
def yX3_resize : MethodName := ⟨RX3, "resize", "(I)V"⟩
abbrev cX3_copyFrom : ByteArray := prog_5_method_9_code
def yX3_copyFrom : MethodName := ⟨RX3, "copyFrom", "(LWordGrounds$Words;)V"⟩
abbrev cX3_usersOf : ByteArray := prog_5_method_10_code
def yX3_usersOf : MethodName := ⟨RX3, "usersOf", "(I)I"⟩
abbrev cX3_used : ByteArray := prog_5_method_11_code
def yX3_used : MethodName := ⟨RX3, "used", "()I"⟩
abbrev cX3_howOftenUsed : ByteArray := prog_5_method_12_code
def yX3_howOftenUsed : MethodName := ⟨RX3, "howOftenUsed", "()I"⟩
abbrev cX3_costOf : ByteArray := prog_5_method_13_code
def yX3_costOf : MethodName := ⟨RX3, "costOf", "(I)I"⟩
abbrev cX3_nextDay : ByteArray := prog_5_method_14_code
def yX3_nextDay : MethodName := ⟨RX3, "nextDay", "(I)I"⟩
abbrev cX3_groundedBy : ByteArray := prog_5_method_15_code
def yX3_groundedBy : MethodName := ⟨RX3, "groundedBy", "(I)I"⟩
abbrev cX3_daysTill : ByteArray := prog_5_method_16_code
def yX3_daysTill : MethodName := ⟨RX3, "daysTill", "(II)I"⟩
abbrev cX3_stepsBetween : ByteArray := prog_5_method_17_code
def yX3_stepsBetween : MethodName := ⟨RX3, "stepsBetween", "(II)I"⟩
abbrev cX3_usedByAny : ByteArray := prog_5_method_18_code
def yX3_usedByAny : MethodName := ⟨RX3, "usedByAny", "(I)I"⟩
def RX4 : String := "WordGrounds"
def TX4 : u_T := fun k => match k with
  | 0 => ("WordGrounds", "words", "LWordGrounds$Words;", true)
  | 1 => ("WordGrounds", "images", "[LWordGrounds$Words;", true)
  | 2 => ("WordGrounds", "text", "LWordGrounds$Text;", true)
  | 3 => ("WordGrounds", "rings", "LWordGrounds$Rings;", true)
  | 4 => ("WordGrounds", "tellings", "LWordGrounds$Tellings;", true)
  | 5 => ("WordGrounds", "keptImages", "I", false)
  | 6 => ("WordGrounds", "toldFault", "I", false)
  | _ => ("WordGrounds", "tellingsStand", "Z", false)
def tyX4 : Nat → FieldType := fun k => match k with
  | 0 => .object "WordGrounds$Words"
  | 1 => .array (.object "WordGrounds$Words")
  | 2 => .object "WordGrounds$Text"
  | 3 => .object "WordGrounds$Rings"
  | 4 => .object "WordGrounds$Tellings"
  | 5 => .int
  | 6 => .int
  | _ => .boolean
abbrev wsX40 : List Cond := u_ws RX4 TX4 8
theorem nmX4 : ∀ a, a < 8 → ∀ b, b < 8 → a ≠ b → (TX4 a).2.1 ≠ (TX4 b).2.1 := by decide +kernel
theorem tyX4_ok : ∀ k, k < 8 → parseFieldDescriptor (TX4 k).2.2.1 = some (tyX4 k) := by decide +kernel
abbrev cX4_init : ByteArray := prog_1_method_1_code
def yX4_init : MethodName := ⟨RX4, "<init>", "()V"⟩
abbrev cX4_size : ByteArray := prog_1_method_2_code
def yX4_size : MethodName := ⟨RX4, "size", "(I)I"⟩
abbrev cX4_say : ByteArray := prog_1_method_3_code
def yX4_say : MethodName := ⟨RX4, "say", "(I)I"⟩
abbrev cX4_wipe : ByteArray := prog_1_method_4_code
def yX4_wipe : MethodName := ⟨RX4, "wipe", "()I"⟩
abbrev cX4_define : ByteArray := prog_1_method_5_code
def yX4_define : MethodName := ⟨RX4, "define", "()I"⟩
abbrev cX4_fault : ByteArray := prog_1_method_6_code
def yX4_fault : MethodName := ⟨RX4, "fault", "()I"⟩
abbrev cX4_uses : ByteArray := prog_1_method_7_code
def yX4_uses : MethodName := ⟨RX4, "uses", "(I)I"⟩
abbrev cX4_users : ByteArray := prog_1_method_8_code
def yX4_users : MethodName := ⟨RX4, "users", "(I)I"⟩
abbrev cX4_cost : ByteArray := prog_1_method_9_code
def yX4_cost : MethodName := ⟨RX4, "cost", "(II)I"⟩
abbrev cX4_grounds : ByteArray := prog_1_method_10_code
def yX4_grounds : MethodName := ⟨RX4, "grounds", "(I)I"⟩
abbrev cX4_day : ByteArray := prog_1_method_11_code
def yX4_day : MethodName := ⟨RX4, "day", "(II)I"⟩
abbrev cX4_learned : ByteArray := prog_1_method_12_code
def yX4_learned : MethodName := ⟨RX4, "learned", "(II)I"⟩
abbrev cX4_know : ByteArray := prog_1_method_13_code
def yX4_know : MethodName := ⟨RX4, "know", "(I)I"⟩
abbrev cX4_plan : ByteArray := prog_1_method_14_code
def yX4_plan : MethodName := ⟨RX4, "plan", "(I)I"⟩
abbrev cX4_saves : ByteArray := prog_1_method_15_code
def yX4_saves : MethodName := ⟨RX4, "saves", "(I)I"⟩
abbrev cX4_least : ByteArray := prog_1_method_16_code
def yX4_least : MethodName := ⟨RX4, "least", "(I)I"⟩
abbrev cX4_way : ByteArray := prog_1_method_17_code
def yX4_way : MethodName := ⟨RX4, "way", "(II)I"⟩
abbrev cX4_ring : ByteArray := prog_1_method_18_code
def yX4_ring : MethodName := ⟨RX4, "ring", "(I)I"⟩
abbrev cX4_lie : ByteArray := prog_1_method_19_code
def yX4_lie : MethodName := ⟨RX4, "lie", "(I)I"⟩
abbrev cX4_image : ByteArray := prog_1_method_20_code
def yX4_image : MethodName := ⟨RX4, "image", "(I)I"⟩
abbrev cX4_restore : ByteArray := prog_1_method_21_code
def yX4_restore : MethodName := ⟨RX4, "restore", "(I)I"⟩
abbrev cX4_count : ByteArray := prog_1_method_22_code
def yX4_count : MethodName := ⟨RX4, "count", "(I)I"⟩
abbrev cX4_currentRings : ByteArray := prog_1_method_23_code
def yX4_currentRings : MethodName := ⟨RX4, "currentRings", "()LWordGrounds$Rings;"⟩
abbrev cX4_currentTellings : ByteArray := prog_1_method_24_code
def yX4_currentTellings : MethodName := ⟨RX4, "currentTellings", "()LWordGrounds$Tellings;"⟩
def RX5 : String := "WordGroundsModel"
def TX5 : u_T := fun k => match k with
  | 0 => ("WordGroundsModel", "size", "I", false)
  | 1 => ("WordGroundsModel", "definitions", "[I", true)
  | 2 => ("WordGroundsModel", "costs", "[I", true)
  | 3 => ("WordGroundsModel", "known", "I", false)
  | 4 => ("WordGroundsModel", "text", "[I", true)
  | 5 => ("WordGroundsModel", "signs", "I", false)
  | 6 => ("WordGroundsModel", "fault", "I", false)
  | 7 => ("WordGroundsModel", "isAll", "[Z", true)
  | 8 => ("WordGroundsModel", "image", "[I", true)
  | _ => ("WordGroundsModel", "isKept", "[Z", true)
def tyX5 : Nat → FieldType := fun k => match k with
  | 0 => .int
  | 1 => .array .int
  | 2 => .array .int
  | 3 => .int
  | 4 => .array .int
  | 5 => .int
  | 6 => .int
  | 7 => .array .boolean
  | 8 => .array .int
  | _ => .array .boolean
abbrev wsX50 : List Cond := u_ws RX5 TX5 10
theorem nmX5 : ∀ a, a < 10 → ∀ b, b < 10 → a ≠ b → (TX5 a).2.1 ≠ (TX5 b).2.1 := by decide +kernel
theorem tyX5_ok : ∀ k, k < 10 → parseFieldDescriptor (TX5 k).2.2.1 = some (tyX5 k) := by decide +kernel
abbrev cX5_init : ByteArray := prog_7_method_1_code
def yX5_init : MethodName := ⟨RX5, "<init>", "()V"⟩
abbrev cX5_in : ByteArray := prog_7_method_2_code
def yX5_in : MethodName := ⟨RX5, "in", "(III)Z"⟩
abbrev cX5_isWord : ByteArray := prog_7_method_3_code
def yX5_isWord : MethodName := ⟨RX5, "isWord", "(I)Z"⟩
abbrev cX5_all : ByteArray := prog_7_method_4_code
def yX5_all : MethodName := ⟨RX5, "all", "()I"⟩
abbrev cX5_isSet : ByteArray := prog_7_method_5_code
def yX5_isSet : MethodName := ⟨RX5, "isSet", "(I)Z"⟩
abbrev cX5_has : ByteArray := prog_7_method_6_code
def yX5_has : MethodName := ⟨RX5, "has", "(II)Z"⟩
abbrev cX5_bits : ByteArray := prog_7_method_7_code
def yX5_bits : MethodName := ⟨RX5, "bits", "(I)I"⟩
abbrev cX5_size : ByteArray := prog_7_method_8_code
def yX5_size : MethodName := ⟨RX5, "size", "(I)I"⟩
abbrev cX5_say : ByteArray := prog_7_method_9_code
def yX5_say : MethodName := ⟨RX5, "say", "(I)I"⟩
abbrev cX5_wipe : ByteArray := prog_7_method_10_code
def yX5_wipe : MethodName := ⟨RX5, "wipe", "()I"⟩
abbrev cX5_toldUpTo : ByteArray := prog_7_method_11_code
def yX5_toldUpTo : MethodName := ⟨RX5, "toldUpTo", "(I)I"⟩
abbrev cX5_canStand : ByteArray := prog_7_method_12_code
def yX5_canStand : MethodName := ⟨RX5, "canStand", "(I)Z"⟩
abbrev cX5_faultNow : ByteArray := prog_7_method_13_code
def yX5_faultNow : MethodName := ⟨RX5, "faultNow", "()I"⟩
abbrev cX5_define : ByteArray := prog_7_method_14_code
def yX5_define : MethodName := ⟨RX5, "define", "()I"⟩
abbrev cX5_fault : ByteArray := prog_7_method_15_code
def yX5_fault : MethodName := ⟨RX5, "fault", "()I"⟩
abbrev cX5_uses : ByteArray := prog_7_method_16_code
def yX5_uses : MethodName := ⟨RX5, "uses", "(I)I"⟩
abbrev cX5_isUsed : ByteArray := prog_7_method_17_code
def yX5_isUsed : MethodName := ⟨RX5, "isUsed", "(II)Z"⟩
abbrev cX5_usersOf : ByteArray := prog_7_method_18_code
def yX5_usersOf : MethodName := ⟨RX5, "usersOf", "(I)I"⟩
abbrev cX5_users : ByteArray := prog_7_method_19_code
def yX5_users : MethodName := ⟨RX5, "users", "(I)I"⟩
abbrev cX5_cost : ByteArray := prog_7_method_20_code
def yX5_cost : MethodName := ⟨RX5, "cost", "(II)I"⟩
abbrev cX5_after : ByteArray := prog_7_method_21_code
def yX5_after : MethodName := ⟨RX5, "after", "(I)I"⟩
abbrev cX5_knownOn : ByteArray := prog_7_method_22_code
def yX5_knownOn : MethodName := ⟨RX5, "knownOn", "(II)I"⟩
abbrev cX5_grounds : ByteArray := prog_7_method_23_code
def yX5_grounds : MethodName := ⟨RX5, "grounds", "(I)I"⟩
abbrev cX5_day : ByteArray := prog_7_method_24_code
def yX5_day : MethodName := ⟨RX5, "day", "(II)I"⟩
abbrev cX5_learned : ByteArray := prog_7_method_25_code
def yX5_learned : MethodName := ⟨RX5, "learned", "(II)I"⟩
abbrev cX5_know : ByteArray := prog_7_method_26_code
def yX5_know : MethodName := ⟨RX5, "know", "(I)I"⟩
abbrev cX5_costOf : ByteArray := prog_7_method_27_code
def yX5_costOf : MethodName := ⟨RX5, "costOf", "(I)I"⟩
abbrev cX5_isBetter : ByteArray := prog_7_method_28_code
def yX5_isBetter : MethodName := ⟨RX5, "isBetter", "(II)Z"⟩
abbrev cX5_planFor : ByteArray := prog_7_method_29_code
def yX5_planFor : MethodName := ⟨RX5, "planFor", "(I)I"⟩
abbrev cX5_plan : ByteArray := prog_7_method_30_code
def yX5_plan : MethodName := ⟨RX5, "plan", "(I)I"⟩
abbrev cX5_saves : ByteArray := prog_7_method_31_code
def yX5_saves : MethodName := ⟨RX5, "saves", "(I)I"⟩
abbrev cX5_isLeast : ByteArray := prog_7_method_32_code
def yX5_isLeast : MethodName := ⟨RX5, "isLeast", "(I)Z"⟩
abbrev cX5_least : ByteArray := prog_7_method_33_code
def yX5_least : MethodName := ⟨RX5, "least", "(I)I"⟩
abbrev cX5_reached : ByteArray := prog_7_method_34_code
def yX5_reached : MethodName := ⟨RX5, "reached", "(II)I"⟩
abbrev cX5_wayOf : ByteArray := prog_7_method_35_code
def yX5_wayOf : MethodName := ⟨RX5, "wayOf", "(II)I"⟩
abbrev cX5_way : ByteArray := prog_7_method_36_code
def yX5_way : MethodName := ⟨RX5, "way", "(II)I"⟩
abbrev cX5_ringOf : ByteArray := prog_7_method_37_code
def yX5_ringOf : MethodName := ⟨RX5, "ringOf", "(I)I"⟩
abbrev cX5_ring : ByteArray := prog_7_method_38_code
def yX5_ring : MethodName := ⟨RX5, "ring", "(I)I"⟩
abbrev cX5_ringed : ByteArray := prog_7_method_39_code
def yX5_ringed : MethodName := ⟨RX5, "ringed", "()I"⟩
abbrev cX5_lies : ByteArray := prog_7_method_40_code
def yX5_lies : MethodName := ⟨RX5, "lies", "(II)Z"⟩
abbrev cX5_lie : ByteArray := prog_7_method_41_code
def yX5_lie : MethodName := ⟨RX5, "lie", "(I)I"⟩
abbrev cX5_image : ByteArray := prog_7_method_42_code
def yX5_image : MethodName := ⟨RX5, "image", "(I)I"⟩
abbrev cX5_restore : ByteArray := prog_7_method_43_code
def yX5_restore : MethodName := ⟨RX5, "restore", "(I)I"⟩
abbrev cX5_count : ByteArray := prog_7_method_44_code
def yX5_count : MethodName := ⟨RX5, "count", "(I)I"⟩
def RJ6 : String := "java/lang/Integer"
def TJ6 : u_T := fun k => match k with
  | _ => ("", "", "", false)
def tyJ6 : Nat → FieldType := fun k => match k with
  | _ => .int
abbrev wsJ60 : List Cond := u_ws RJ6 TJ6 0
theorem nmJ6 : ∀ a, a < 0 → ∀ b, b < 0 → a ≠ b → (TJ6 a).2.1 ≠ (TJ6 b).2.1 := by decide +kernel
theorem tyJ6_ok : ∀ k, k < 0 → parseFieldDescriptor (TJ6 k).2.2.1 = some (tyJ6 k) := by decide +kernel
abbrev cJ6_bitCount_0f7a4 : ByteArray := prog_8_method_49_code
def yJ6_bitCount_0f7a4 : MethodName := ⟨RJ6, "bitCount", "(I)I"⟩
def RL : String := "WordGroundsLaw"
abbrev cL_law : ByteArray := code
def yL_law : MethodName := ⟨RL, "law", "([I)Z"⟩
def wsX0_init : List Cond := .code yX0_init cX0_init 1 none :: ([.methodLink RX0 3 objectInit, .instanceMethod objectInit, .code objectInit ⟨#[0xb1]⟩ 1 none, .fieldLink RX0 9 "WordGrounds$Rings" "total" "I", .arrayClass .int, .fieldLink RX0 15 "WordGrounds$Rings" "reach" "[I", .fieldLink RX0 19 "WordGrounds$Rings" "inRings" "I"] ++ wsX00)
def wsX0_trace : List Cond := .code yX0_trace cX0_trace 4 none :: ([.fieldLink RX0 9 "WordGrounds$Rings" "total" "I", .fieldLink RX0 15 "WordGrounds$Rings" "reach" "[I", .fieldLink RX0 19 "WordGrounds$Rings" "inRings" "I"] ++ wsX30 ++ wsX00)
def wsX0_ringOf : List Cond := .code yX0_ringOf cX0_ringOf 4 (some .int) :: ([.fieldLink RX0 9 "WordGrounds$Rings" "total" "I", .fieldLink RX0 15 "WordGrounds$Rings" "reach" "[I"] ++ wsX00)
def wsX0_howMany : List Cond := .code yX0_howMany cX0_howMany 4 (some .int) :: ([.fieldLink RX0 19 "WordGrounds$Rings" "inRings" "I", .fieldLink RX0 9 "WordGrounds$Rings" "total" "I", .methodLink RX0 28 yX0_ringOf, .instanceMethod yX0_ringOf, .selects RX0 yX0_ringOf yX0_ringOf, .initialized RX0, .code yX0_ringOf cX0_ringOf 4 (some .int), .fieldLink RX0 15 "WordGrounds$Rings" "reach" "[I"] ++ wsX00)
def wsX0_numbered : List Cond := .code yX0_numbered cX0_numbered 6 (some .int) :: ([.fieldLink RX0 19 "WordGrounds$Rings" "inRings" "I", .fieldLink RX0 9 "WordGrounds$Rings" "total" "I", .methodLink RX0 28 yX0_ringOf, .instanceMethod yX0_ringOf, .selects RX0 yX0_ringOf yX0_ringOf, .initialized RX0, .code yX0_ringOf cX0_ringOf 4 (some .int), .fieldLink RX0 15 "WordGrounds$Rings" "reach" "[I"] ++ wsX00)
def wsX0_before : List Cond := .code yX0_before cX0_before 3 (some .int) :: ([.fieldLink RX0 9 "WordGrounds$Rings" "total" "I", .fieldLink RX0 19 "WordGrounds$Rings" "inRings" "I", .fieldLink RX0 15 "WordGrounds$Rings" "reach" "[I"] ++ wsX00)
def wsX0_behind : List Cond := .code yX0_behind cX0_behind 3 (some .int) :: ([.fieldLink RX0 9 "WordGrounds$Rings" "total" "I", .fieldLink RX0 15 "WordGrounds$Rings" "reach" "[I", .fieldLink RX0 19 "WordGrounds$Rings" "inRings" "I"] ++ wsX00)
def wsX1_init : List Cond := .code yX1_init cX1_init 1 none :: ([.methodLink RX1 3 objectInit, .instanceMethod objectInit, .code objectInit ⟨#[0xb1]⟩ 1 none, .fieldLink RX1 9 "WordGrounds$Tellings" "must" "I", .fieldLink RX1 15 "WordGrounds$Tellings" "may" "I", .arrayClass .long, .fieldLink RX1 18 "WordGrounds$Tellings" "circleFree" "[J"] ++ wsX10)
def wsX3_all : List Cond := .code yX3_all cX3_all 1 (some .int) :: ([.fieldLink RX3 9 "WordGrounds$Words" "total" "I"] ++ wsX30)
def wsJ6_bitCount_0f7a4 : List Cond := .code yJ6_bitCount_0f7a4 cJ6_bitCount_0f7a4 1 (some .int) :: ([.constant RJ6 265 (1431655765), .constant RJ6 266 (858993459), .constant RJ6 267 (252645135)])
def wsX1_isFree : List Cond := .code yX1_isFree cX1_isFree 3 (some .boolean) :: ([.fieldLink RX1 18 "WordGrounds$Tellings" "circleFree" "[J"] ++ wsX10)
def wsX1_isFreeWithoutOne : List Cond := .code yX1_isFreeWithoutOne cX1_isFreeWithoutOne 4 (some .boolean) :: ([.methodLink RX1 61 yX1_isFree, .instanceMethod yX1_isFree, .selects RX1 yX1_isFree yX1_isFree, .initialized RX1, .code yX1_isFree cX1_isFree 3 (some .boolean), .fieldLink RX1 18 "WordGrounds$Tellings" "circleFree" "[J"] ++ wsX30 ++ wsX10)
def wsX1_mark : List Cond := .code yX1_mark cX1_mark 6 none :: ([.fieldLink RX1 18 "WordGrounds$Tellings" "circleFree" "[J", .constantLong RX1 65 (-1)] ++ wsX10)
def wsX1_nextSubset : List Cond := .code yX1_nextSubset cX1_nextSubset 2 (some .int) :: ([])
def wsX1_find_r1 : List Cond := [Cond.fieldLink RX1 9 "WordGrounds$Tellings" "must" "I", Cond.fieldLink RX1 15 "WordGrounds$Tellings" "may" "I", Cond.instanceMethod yX3_all, Cond.initialized RX3, Cond.selects RX3 yX3_all yX3_all, Cond.code yX3_all cX3_all 1 (some .int), Cond.fieldLink RX3 9 "WordGrounds$Words" "total" "I", Cond.methodLink RX1 36 yJ6_bitCount_0f7a4, Cond.static yJ6_bitCount_0f7a4, Cond.initialized RJ6, Cond.code yJ6_bitCount_0f7a4 cJ6_bitCount_0f7a4 1 (some .int), Cond.constant RJ6 265 (1431655765), Cond.constant RJ6 266 (858993459), Cond.constant RJ6 267 (252645135), Cond.methodLink RX1 42 yX1_isFreeWithoutOne, Cond.instanceMethod yX1_isFreeWithoutOne, Cond.selects RX1 yX1_isFreeWithoutOne yX1_isFreeWithoutOne, Cond.initialized RX1, Cond.code yX1_isFreeWithoutOne cX1_isFreeWithoutOne 4 (some .boolean), Cond.methodLink RX1 61 yX1_isFree, Cond.instanceMethod yX1_isFree, Cond.selects RX1 yX1_isFree yX1_isFree, Cond.code yX1_isFree cX1_isFree 3 (some .boolean), Cond.fieldLink RX1 18 "WordGrounds$Tellings" "circleFree" "[J"]
def wsX1_find_r2 : List Cond := [Cond.methodLink RX1 46 yX1_mark, Cond.instanceMethod yX1_mark, Cond.selects RX1 yX1_mark yX1_mark, Cond.code yX1_mark cX1_mark 6 none, Cond.constantLong RX1 65 (-1), Cond.methodLink RX1 50 yX1_nextSubset, Cond.static yX1_nextSubset, Cond.code yX1_nextSubset cX1_nextSubset 2 (some .int)]
def wsX1_find : List Cond := .code yX1_find cX1_find 6 none :: ((wsX1_find_r1 ++ wsX1_find_r2) ++ wsX30 ++ wsX10 ++ wsX00)
def wsX3_costOf : List Cond := .code yX3_costOf cX3_costOf 4 (some .int) :: ([.fieldLink RX3 9 "WordGrounds$Words" "total" "I", .fieldLink RX3 21 "WordGrounds$Words" "costs" "[I"] ++ wsX30)
def wsX1_cheapest : List Cond := .code yX1_cheapest cX1_cheapest 11 (some .int) :: ([.fieldLink RX1 15 "WordGrounds$Tellings" "may" "I", .fieldLink RX1 9 "WordGrounds$Tellings" "must" "I", .instanceMethod yX3_costOf, .initialized RX3, .selects RX3 yX3_costOf yX3_costOf, .code yX3_costOf cX3_costOf 4 (some .int), .fieldLink RX3 9 "WordGrounds$Words" "total" "I", .fieldLink RX3 21 "WordGrounds$Words" "costs" "[I", .methodLink RX1 36 yJ6_bitCount_0f7a4, .static yJ6_bitCount_0f7a4, .initialized RJ6, .code yJ6_bitCount_0f7a4 cJ6_bitCount_0f7a4 1 (some .int), .constant RJ6 265 (1431655765), .constant RJ6 266 (858993459), .constant RJ6 267 (252645135), .methodLink RX1 61 yX1_isFree, .instanceMethod yX1_isFree, .selects RX1 yX1_isFree yX1_isFree, .initialized RX1, .code yX1_isFree cX1_isFree 3 (some .boolean), .fieldLink RX1 18 "WordGrounds$Tellings" "circleFree" "[J", .methodLink RX1 50 yX1_nextSubset, .static yX1_nextSubset, .code yX1_nextSubset cX1_nextSubset 2 (some .int)] ++ wsX10 ++ wsX30)
def wsX1_isLeast : List Cond := .code yX1_isLeast cX1_isLeast 4 (some .boolean) :: ([.fieldLink RX1 15 "WordGrounds$Tellings" "may" "I", .methodLink RX1 61 yX1_isFree, .instanceMethod yX1_isFree, .selects RX1 yX1_isFree yX1_isFree, .initialized RX1, .code yX1_isFree cX1_isFree 3 (some .boolean), .fieldLink RX1 18 "WordGrounds$Tellings" "circleFree" "[J"] ++ wsX10)
def wsX1_leastWith : List Cond := .code yX1_leastWith cX1_leastWith 6 (some .int) :: ([.fieldLink RX1 15 "WordGrounds$Tellings" "may" "I", .fieldLink RX1 9 "WordGrounds$Tellings" "must" "I", .methodLink RX1 36 yJ6_bitCount_0f7a4, .static yJ6_bitCount_0f7a4, .initialized RJ6, .code yJ6_bitCount_0f7a4 cJ6_bitCount_0f7a4 1 (some .int), .constant RJ6 265 (1431655765), .constant RJ6 266 (858993459), .constant RJ6 267 (252645135), .methodLink RX1 70 yX1_isLeast, .instanceMethod yX1_isLeast, .selects RX1 yX1_isLeast yX1_isLeast, .initialized RX1, .code yX1_isLeast cX1_isLeast 4 (some .boolean), .methodLink RX1 61 yX1_isFree, .instanceMethod yX1_isFree, .selects RX1 yX1_isFree yX1_isFree, .code yX1_isFree cX1_isFree 3 (some .boolean), .fieldLink RX1 18 "WordGrounds$Tellings" "circleFree" "[J", .methodLink RX1 50 yX1_nextSubset, .static yX1_nextSubset, .code yX1_nextSubset cX1_nextSubset 2 (some .int)] ++ wsX10)
def wsX1_greatestLeast : List Cond := .code yX1_greatestLeast cX1_greatestLeast 6 (some .int) :: ([.fieldLink RX1 15 "WordGrounds$Tellings" "may" "I", .fieldLink RX1 9 "WordGrounds$Tellings" "must" "I", .methodLink RX1 36 yJ6_bitCount_0f7a4, .static yJ6_bitCount_0f7a4, .initialized RJ6, .code yJ6_bitCount_0f7a4 cJ6_bitCount_0f7a4 1 (some .int), .constant RJ6 265 (1431655765), .constant RJ6 266 (858993459), .constant RJ6 267 (252645135), .methodLink RX1 70 yX1_isLeast, .instanceMethod yX1_isLeast, .selects RX1 yX1_isLeast yX1_isLeast, .initialized RX1, .code yX1_isLeast cX1_isLeast 4 (some .boolean), .methodLink RX1 61 yX1_isFree, .instanceMethod yX1_isFree, .selects RX1 yX1_isFree yX1_isFree, .code yX1_isFree cX1_isFree 3 (some .boolean), .fieldLink RX1 18 "WordGrounds$Tellings" "circleFree" "[J", .methodLink RX1 50 yX1_nextSubset, .static yX1_nextSubset, .code yX1_nextSubset cX1_nextSubset 2 (some .int)] ++ wsX10)
def wsX2_init : List Cond := .code yX2_init cX2_init 1 none :: ([.methodLink RX2 3 objectInit, .instanceMethod objectInit, .code objectInit ⟨#[0xb1]⟩ 1 none, .arrayClass .int, .fieldLink RX2 9 "WordGrounds$Text" "signs" "[I", .fieldLink RX2 15 "WordGrounds$Text" "length" "I"] ++ wsX20)
def wsX2_append : List Cond := .code yX2_append cX2_append 2 none :: ([.fieldLink RX2 15 "WordGrounds$Text" "length" "I", .fieldLink RX2 9 "WordGrounds$Text" "signs" "[I"] ++ wsX20)
def wsX2_wordBit : List Cond := .code yX2_wordBit cX2_wordBit 3 (some .int) :: ([])
def wsX2_tellsBare : List Cond := .code yX2_tellsBare cX2_tellsBare 1 (some .boolean) :: ([.fieldLink RX2 9 "WordGrounds$Text" "signs" "[I"] ++ wsX20)
def wsX2_faultPlace : List Cond := .code yX2_faultPlace cX2_faultPlace 5 (some .int) :: ([.fieldLink RX2 15 "WordGrounds$Text" "length" "I", .fieldLink RX2 9 "WordGrounds$Text" "signs" "[I", .methodLink RX2 19 yX2_wordBit, .static yX2_wordBit, .initialized RX2, .code yX2_wordBit cX2_wordBit 3 (some .int), .methodLink RX2 23 yX2_tellsBare, .instanceMethod yX2_tellsBare, .selects RX2 yX2_tellsBare yX2_tellsBare, .code yX2_tellsBare cX2_tellsBare 1 (some .boolean)] ++ wsX20)
def wsX2_toldWord : List Cond := .code yX2_toldWord cX2_toldWord 1 (some .int) :: ([.fieldLink RX2 9 "WordGrounds$Text" "signs" "[I"] ++ wsX20)
def wsX2_toldSet : List Cond := .code yX2_toldSet cX2_toldSet 3 (some .int) :: ([.fieldLink RX2 15 "WordGrounds$Text" "length" "I", .fieldLink RX2 9 "WordGrounds$Text" "signs" "[I", .methodLink RX2 19 yX2_wordBit, .static yX2_wordBit, .initialized RX2, .code yX2_wordBit cX2_wordBit 3 (some .int)] ++ wsX20)
def wsX3_init : List Cond := .code yX3_init cX3_init 2 none :: ([.methodLink RX3 3 objectInit, .instanceMethod objectInit, .code objectInit ⟨#[0xb1]⟩ 1 none, .fieldLink RX3 9 "WordGrounds$Words" "total" "I", .fieldLink RX3 15 "WordGrounds$Words" "known" "I", .fieldLink RX3 18 "WordGrounds$Words" "defined" "I", .arrayClass .int, .fieldLink RX3 21 "WordGrounds$Words" "costs" "[I", .fieldLink RX3 25 "WordGrounds$Words" "definitions" "[I"] ++ wsX30)
def wsX3_has : List Cond := .code yX3_has cX3_has 2 (some .boolean) :: ([.fieldLink RX3 9 "WordGrounds$Words" "total" "I"] ++ wsX30)
def wsX3_hasAll : List Cond := .code yX3_hasAll cX3_hasAll 2 (some .boolean) :: ([.methodLink RX3 28 yX3_all, .instanceMethod yX3_all, .selects RX3 yX3_all yX3_all, .initialized RX3, .code yX3_all cX3_all 1 (some .int), .fieldLink RX3 9 "WordGrounds$Words" "total" "I"] ++ wsX30)
def wsX3_isBare : List Cond := .code yX3_isBare cX3_isBare 2 (some .boolean) :: ([.fieldLink RX3 18 "WordGrounds$Words" "defined" "I"] ++ wsX30)
def wsX3_makeBare : List Cond := .code yX3_makeBare cX3_makeBare 2 none :: ([.fieldLink RX3 25 "WordGrounds$Words" "definitions" "[I", .fieldLink RX3 18 "WordGrounds$Words" "defined" "I"] ++ wsX30)
def wsX3_setDefinition : List Cond := .code yX3_setDefinition cX3_setDefinition 3 none :: ([.fieldLink RX3 25 "WordGrounds$Words" "definitions" "[I", .fieldLink RX3 18 "WordGrounds$Words" "defined" "I"] ++ wsX30)
def wsX3_resize : List Cond := .code yX3_resize cX3_resize 3 none :: ([.fieldLink RX3 9 "WordGrounds$Words" "total" "I", .fieldLink RX3 15 "WordGrounds$Words" "known" "I", .fieldLink RX3 25 "WordGrounds$Words" "definitions" "[I", .fieldLink RX3 21 "WordGrounds$Words" "costs" "[I", .methodLink RX3 28 yX3_all, .instanceMethod yX3_all, .selects RX3 yX3_all yX3_all, .initialized RX3, .code yX3_all cX3_all 1 (some .int), .methodLink RX3 32 yX3_makeBare, .instanceMethod yX3_makeBare, .selects RX3 yX3_makeBare yX3_makeBare, .code yX3_makeBare cX3_makeBare 2 none, .fieldLink RX3 18 "WordGrounds$Words" "defined" "I"] ++ wsX30)
def wsX3_copyFrom : List Cond := .code yX3_copyFrom cX3_copyFrom 3 none :: ([.fieldLink RX3 9 "WordGrounds$Words" "total" "I", .fieldLink RX3 15 "WordGrounds$Words" "known" "I", .fieldLink RX3 18 "WordGrounds$Words" "defined" "I", .fieldLink RX3 21 "WordGrounds$Words" "costs" "[I", .fieldLink RX3 25 "WordGrounds$Words" "definitions" "[I"] ++ wsX30)
def wsX3_usersOf : List Cond := .code yX3_usersOf cX3_usersOf 4 (some .int) :: ([.fieldLink RX3 9 "WordGrounds$Words" "total" "I", .fieldLink RX3 25 "WordGrounds$Words" "definitions" "[I"] ++ wsX30)
def wsX3_used : List Cond := .code yX3_used cX3_used 3 (some .int) :: ([.fieldLink RX3 9 "WordGrounds$Words" "total" "I", .fieldLink RX3 25 "WordGrounds$Words" "definitions" "[I"] ++ wsX30)
def wsX3_howOftenUsed : List Cond := .code yX3_howOftenUsed cX3_howOftenUsed 3 (some .int) :: ([.fieldLink RX3 9 "WordGrounds$Words" "total" "I", .fieldLink RX3 25 "WordGrounds$Words" "definitions" "[I", .methodLink RX3 36 yJ6_bitCount_0f7a4, .static yJ6_bitCount_0f7a4, .initialized RJ6, .code yJ6_bitCount_0f7a4 cJ6_bitCount_0f7a4 1 (some .int), .constant RJ6 265 (1431655765), .constant RJ6 266 (858993459), .constant RJ6 267 (252645135)] ++ wsX30)
def wsX3_nextDay : List Cond := .code yX3_nextDay cX3_nextDay 4 (some .int) :: ([.fieldLink RX3 9 "WordGrounds$Words" "total" "I", .fieldLink RX3 25 "WordGrounds$Words" "definitions" "[I", .methodLink RX3 42 yX3_isBare, .instanceMethod yX3_isBare, .selects RX3 yX3_isBare yX3_isBare, .initialized RX3, .code yX3_isBare cX3_isBare 2 (some .boolean), .fieldLink RX3 18 "WordGrounds$Words" "defined" "I"] ++ wsX30)
def wsX3_groundedBy : List Cond := .code yX3_groundedBy cX3_groundedBy 4 (some .int) :: ([.fieldLink RX3 9 "WordGrounds$Words" "total" "I", .methodLink RX3 46 yX3_nextDay, .instanceMethod yX3_nextDay, .selects RX3 yX3_nextDay yX3_nextDay, .initialized RX3, .code yX3_nextDay cX3_nextDay 4 (some .int), .fieldLink RX3 25 "WordGrounds$Words" "definitions" "[I", .methodLink RX3 42 yX3_isBare, .instanceMethod yX3_isBare, .selects RX3 yX3_isBare yX3_isBare, .code yX3_isBare cX3_isBare 2 (some .boolean), .fieldLink RX3 18 "WordGrounds$Words" "defined" "I"] ++ wsX30)
def wsX3_daysTill : List Cond := .code yX3_daysTill cX3_daysTill 5 (some .int) :: ([.fieldLink RX3 9 "WordGrounds$Words" "total" "I", .methodLink RX3 46 yX3_nextDay, .instanceMethod yX3_nextDay, .selects RX3 yX3_nextDay yX3_nextDay, .initialized RX3, .code yX3_nextDay cX3_nextDay 4 (some .int), .fieldLink RX3 25 "WordGrounds$Words" "definitions" "[I", .methodLink RX3 42 yX3_isBare, .instanceMethod yX3_isBare, .selects RX3 yX3_isBare yX3_isBare, .code yX3_isBare cX3_isBare 2 (some .boolean), .fieldLink RX3 18 "WordGrounds$Words" "defined" "I"] ++ wsX30)
def wsX3_usedByAny : List Cond := .code yX3_usedByAny cX3_usedByAny 4 (some .int) :: ([.fieldLink RX3 9 "WordGrounds$Words" "total" "I", .fieldLink RX3 25 "WordGrounds$Words" "definitions" "[I"] ++ wsX30)
def wsX3_stepsBetween : List Cond := .code yX3_stepsBetween cX3_stepsBetween 5 (some .int) :: ([.fieldLink RX3 25 "WordGrounds$Words" "definitions" "[I", .fieldLink RX3 9 "WordGrounds$Words" "total" "I", .methodLink RX3 49 yX3_usedByAny, .instanceMethod yX3_usedByAny, .selects RX3 yX3_usedByAny yX3_usedByAny, .initialized RX3, .code yX3_usedByAny cX3_usedByAny 4 (some .int)] ++ wsX30)
def wsX4_init_r1 : List Cond := [Cond.methodLink RX4 1 objectInit, Cond.instanceMethod objectInit, Cond.code objectInit ⟨#[0xb1]⟩ 1 none, Cond.classLink RX4 7 RX3, Cond.instantiable RX3 5, Cond.initialized RX3, Cond.fieldLink RX4 10 "WordGrounds" "words" "LWordGrounds$Words;", Cond.fieldLink RX4 16 "WordGrounds" "images" "[LWordGrounds$Words;", Cond.classLink RX4 20 RX2, Cond.instantiable RX2 2, Cond.initialized RX2, Cond.fieldLink RX4 23 "WordGrounds" "text" "LWordGrounds$Text;", Cond.classLink RX4 27 RX0, Cond.instantiable RX0 3, Cond.initialized RX0, Cond.fieldLink RX4 30 "WordGrounds" "rings" "LWordGrounds$Rings;", Cond.classLink RX4 34 RX1, Cond.instantiable RX1 3, Cond.initialized RX1, Cond.fieldLink RX4 37 "WordGrounds" "tellings" "LWordGrounds$Tellings;", Cond.fieldLink RX4 41 "WordGrounds" "keptImages" "I", Cond.fieldLink RX4 45 "WordGrounds" "toldFault" "I", Cond.fieldLink RX4 48 "WordGrounds" "tellingsStand" "Z", Cond.instanceMethod yX3_init]
def wsX4_init_r2 : List Cond := [Cond.code yX3_init cX3_init 2 none, Cond.methodLink RX3 3 objectInit, Cond.fieldLink RX3 9 "WordGrounds$Words" "total" "I", Cond.fieldLink RX3 15 "WordGrounds$Words" "known" "I", Cond.fieldLink RX3 18 "WordGrounds$Words" "defined" "I", Cond.arrayClass .int, Cond.fieldLink RX3 21 "WordGrounds$Words" "costs" "[I", Cond.fieldLink RX3 25 "WordGrounds$Words" "definitions" "[I", Cond.instanceMethod yX2_init, Cond.code yX2_init cX2_init 1 none, Cond.methodLink RX2 3 objectInit, Cond.fieldLink RX2 9 "WordGrounds$Text" "signs" "[I", Cond.fieldLink RX2 15 "WordGrounds$Text" "length" "I", Cond.instanceMethod yX0_init, Cond.code yX0_init cX0_init 1 none, Cond.methodLink RX0 3 objectInit, Cond.fieldLink RX0 9 "WordGrounds$Rings" "total" "I", Cond.fieldLink RX0 15 "WordGrounds$Rings" "reach" "[I", Cond.fieldLink RX0 19 "WordGrounds$Rings" "inRings" "I", Cond.instanceMethod yX1_init, Cond.code yX1_init cX1_init 1 none, Cond.methodLink RX1 3 objectInit, Cond.fieldLink RX1 9 "WordGrounds$Tellings" "must" "I", Cond.fieldLink RX1 15 "WordGrounds$Tellings" "may" "I"]
def wsX4_init_r3 : List Cond := [Cond.arrayClass .long, Cond.fieldLink RX1 18 "WordGrounds$Tellings" "circleFree" "[J"]
def wsX4_init : List Cond := .code yX4_init cX4_init 1 none :: ((wsX4_init_r1 ++ (wsX4_init_r2 ++ wsX4_init_r3)) ++ wsX30 ++ wsX40 ++ wsX20 ++ wsX00 ++ wsX10)
def wsX4_size : List Cond := .code yX4_size cX4_size 3 (some .int) :: ([.fieldLink RX4 10 "WordGrounds" "words" "LWordGrounds$Words;", .fieldLink RX4 48 "WordGrounds" "tellingsStand" "Z", .instanceMethod yX3_resize, .initialized RX3, .selects RX3 yX3_resize yX3_resize, .code yX3_resize cX3_resize 3 none, .fieldLink RX3 9 "WordGrounds$Words" "total" "I", .fieldLink RX3 15 "WordGrounds$Words" "known" "I", .fieldLink RX3 25 "WordGrounds$Words" "definitions" "[I", .fieldLink RX3 21 "WordGrounds$Words" "costs" "[I", .methodLink RX3 28 yX3_all, .instanceMethod yX3_all, .selects RX3 yX3_all yX3_all, .code yX3_all cX3_all 1 (some .int), .methodLink RX3 32 yX3_makeBare, .instanceMethod yX3_makeBare, .selects RX3 yX3_makeBare yX3_makeBare, .code yX3_makeBare cX3_makeBare 2 none, .fieldLink RX3 18 "WordGrounds$Words" "defined" "I"] ++ wsX40 ++ wsX30)
def wsX4_say : List Cond := .code yX4_say cX4_say 2 (some .int) :: ([.fieldLink RX4 23 "WordGrounds" "text" "LWordGrounds$Text;", .instanceMethod yX2_append, .initialized RX2, .selects RX2 yX2_append yX2_append, .code yX2_append cX2_append 2 none, .fieldLink RX2 15 "WordGrounds$Text" "length" "I", .fieldLink RX2 9 "WordGrounds$Text" "signs" "[I"] ++ wsX40 ++ wsX20)
def wsX4_wipe : List Cond := .code yX4_wipe cX4_wipe 2 (some .int) :: ([.fieldLink RX4 23 "WordGrounds" "text" "LWordGrounds$Text;"] ++ wsX40 ++ wsX20)
def wsX4_define_r1 : List Cond := [Cond.fieldLink RX4 23 "WordGrounds" "text" "LWordGrounds$Text;", Cond.fieldLink RX4 10 "WordGrounds" "words" "LWordGrounds$Words;", Cond.fieldLink RX4 45 "WordGrounds" "toldFault" "I", Cond.fieldLink RX4 48 "WordGrounds" "tellingsStand" "Z", Cond.instanceMethod yX2_faultPlace, Cond.initialized RX2, Cond.selects RX2 yX2_faultPlace yX2_faultPlace, Cond.code yX2_faultPlace cX2_faultPlace 5 (some .int), Cond.fieldLink RX2 15 "WordGrounds$Text" "length" "I", Cond.fieldLink RX2 9 "WordGrounds$Text" "signs" "[I", Cond.methodLink RX2 19 yX2_wordBit, Cond.static yX2_wordBit, Cond.code yX2_wordBit cX2_wordBit 3 (some .int), Cond.methodLink RX2 23 yX2_tellsBare, Cond.instanceMethod yX2_tellsBare, Cond.selects RX2 yX2_tellsBare yX2_tellsBare, Cond.code yX2_tellsBare cX2_tellsBare 1 (some .boolean), Cond.instanceMethod yX2_toldWord, Cond.selects RX2 yX2_toldWord yX2_toldWord, Cond.code yX2_toldWord cX2_toldWord 1 (some .int), Cond.instanceMethod yX3_makeBare, Cond.initialized RX3, Cond.selects RX3 yX3_makeBare yX3_makeBare, Cond.code yX3_makeBare cX3_makeBare 2 none]
def wsX4_define_r2 : List Cond := [Cond.fieldLink RX3 25 "WordGrounds$Words" "definitions" "[I", Cond.fieldLink RX3 18 "WordGrounds$Words" "defined" "I", Cond.instanceMethod yX2_toldSet, Cond.selects RX2 yX2_toldSet yX2_toldSet, Cond.code yX2_toldSet cX2_toldSet 3 (some .int), Cond.instanceMethod yX3_setDefinition, Cond.selects RX3 yX3_setDefinition yX3_setDefinition, Cond.code yX3_setDefinition cX3_setDefinition 3 none, Cond.instanceMethod yX3_isBare, Cond.selects RX3 yX3_isBare yX3_isBare, Cond.code yX3_isBare cX3_isBare 2 (some .boolean), Cond.methodLink RX4 95 yJ6_bitCount_0f7a4, Cond.static yJ6_bitCount_0f7a4, Cond.initialized RJ6, Cond.code yJ6_bitCount_0f7a4 cJ6_bitCount_0f7a4 1 (some .int), Cond.constant RJ6 265 (1431655765), Cond.constant RJ6 266 (858993459), Cond.constant RJ6 267 (252645135)]
def wsX4_define : List Cond := .code yX4_define cX4_define 3 (some .int) :: ((wsX4_define_r1 ++ wsX4_define_r2) ++ wsX40 ++ wsX30 ++ wsX20)
def wsX4_fault : List Cond := .code yX4_fault cX4_fault 1 (some .int) :: ([.fieldLink RX4 23 "WordGrounds" "text" "LWordGrounds$Text;", .fieldLink RX4 10 "WordGrounds" "words" "LWordGrounds$Words;", .instanceMethod yX2_faultPlace, .initialized RX2, .selects RX2 yX2_faultPlace yX2_faultPlace, .code yX2_faultPlace cX2_faultPlace 5 (some .int), .fieldLink RX2 15 "WordGrounds$Text" "length" "I", .fieldLink RX2 9 "WordGrounds$Text" "signs" "[I", .methodLink RX2 19 yX2_wordBit, .static yX2_wordBit, .code yX2_wordBit cX2_wordBit 3 (some .int), .methodLink RX2 23 yX2_tellsBare, .instanceMethod yX2_tellsBare, .selects RX2 yX2_tellsBare yX2_tellsBare, .code yX2_tellsBare cX2_tellsBare 1 (some .boolean)] ++ wsX40 ++ wsX30 ++ wsX20)
def wsX4_uses : List Cond := .code yX4_uses cX4_uses 2 (some .int) :: ([.fieldLink RX4 10 "WordGrounds" "words" "LWordGrounds$Words;", .instanceMethod yX3_has, .initialized RX3, .selects RX3 yX3_has yX3_has, .code yX3_has cX3_has 2 (some .boolean), .fieldLink RX3 9 "WordGrounds$Words" "total" "I", .instanceMethod yX3_isBare, .selects RX3 yX3_isBare yX3_isBare, .code yX3_isBare cX3_isBare 2 (some .boolean), .fieldLink RX3 18 "WordGrounds$Words" "defined" "I"] ++ wsX40 ++ wsX30)
def wsX4_users : List Cond := .code yX4_users cX4_users 2 (some .int) :: ([.fieldLink RX4 10 "WordGrounds" "words" "LWordGrounds$Words;", .instanceMethod yX3_has, .initialized RX3, .selects RX3 yX3_has yX3_has, .code yX3_has cX3_has 2 (some .boolean), .fieldLink RX3 9 "WordGrounds$Words" "total" "I", .instanceMethod yX3_usersOf, .selects RX3 yX3_usersOf yX3_usersOf, .code yX3_usersOf cX3_usersOf 4 (some .int), .fieldLink RX3 25 "WordGrounds$Words" "definitions" "[I"] ++ wsX40 ++ wsX30)
def wsX4_cost : List Cond := .code yX4_cost cX4_cost 4 (some .int) :: ([.fieldLink RX4 10 "WordGrounds" "words" "LWordGrounds$Words;", .instanceMethod yX3_has, .initialized RX3, .selects RX3 yX3_has yX3_has, .code yX3_has cX3_has 2 (some .boolean), .fieldLink RX3 9 "WordGrounds$Words" "total" "I"] ++ wsX40 ++ wsX30)
def wsX4_grounds : List Cond := .code yX4_grounds cX4_grounds 2 (some .int) :: ([.fieldLink RX4 10 "WordGrounds" "words" "LWordGrounds$Words;", .instanceMethod yX3_hasAll, .initialized RX3, .selects RX3 yX3_hasAll yX3_hasAll, .code yX3_hasAll cX3_hasAll 2 (some .boolean), .methodLink RX3 28 yX3_all, .instanceMethod yX3_all, .selects RX3 yX3_all yX3_all, .code yX3_all cX3_all 1 (some .int), .fieldLink RX3 9 "WordGrounds$Words" "total" "I", .instanceMethod yX3_groundedBy, .selects RX3 yX3_groundedBy yX3_groundedBy, .code yX3_groundedBy cX3_groundedBy 4 (some .int), .methodLink RX3 46 yX3_nextDay, .instanceMethod yX3_nextDay, .selects RX3 yX3_nextDay yX3_nextDay, .code yX3_nextDay cX3_nextDay 4 (some .int), .fieldLink RX3 25 "WordGrounds$Words" "definitions" "[I", .methodLink RX3 42 yX3_isBare, .instanceMethod yX3_isBare, .selects RX3 yX3_isBare yX3_isBare, .code yX3_isBare cX3_isBare 2 (some .boolean), .fieldLink RX3 18 "WordGrounds$Words" "defined" "I"] ++ wsX40 ++ wsX30)
def wsX4_day_r1 : List Cond := [Cond.fieldLink RX4 10 "WordGrounds" "words" "LWordGrounds$Words;", Cond.instanceMethod yX3_has, Cond.initialized RX3, Cond.selects RX3 yX3_has yX3_has, Cond.code yX3_has cX3_has 2 (some .boolean), Cond.fieldLink RX3 9 "WordGrounds$Words" "total" "I", Cond.instanceMethod yX3_hasAll, Cond.selects RX3 yX3_hasAll yX3_hasAll, Cond.code yX3_hasAll cX3_hasAll 2 (some .boolean), Cond.methodLink RX3 28 yX3_all, Cond.instanceMethod yX3_all, Cond.selects RX3 yX3_all yX3_all, Cond.code yX3_all cX3_all 1 (some .int), Cond.instanceMethod yX3_daysTill, Cond.selects RX3 yX3_daysTill yX3_daysTill, Cond.code yX3_daysTill cX3_daysTill 5 (some .int), Cond.methodLink RX3 46 yX3_nextDay, Cond.instanceMethod yX3_nextDay, Cond.selects RX3 yX3_nextDay yX3_nextDay, Cond.code yX3_nextDay cX3_nextDay 4 (some .int), Cond.fieldLink RX3 25 "WordGrounds$Words" "definitions" "[I", Cond.methodLink RX3 42 yX3_isBare, Cond.instanceMethod yX3_isBare, Cond.selects RX3 yX3_isBare yX3_isBare]
def wsX4_day_r2 : List Cond := [Cond.code yX3_isBare cX3_isBare 2 (some .boolean), Cond.fieldLink RX3 18 "WordGrounds$Words" "defined" "I"]
def wsX4_day : List Cond := .code yX4_day cX4_day 3 (some .int) :: ((wsX4_day_r1 ++ wsX4_day_r2) ++ wsX40 ++ wsX30)
def wsX4_learned : List Cond := .code yX4_learned cX4_learned 5 (some .int) :: ([.fieldLink RX4 10 "WordGrounds" "words" "LWordGrounds$Words;", .instanceMethod yX3_hasAll, .initialized RX3, .selects RX3 yX3_hasAll yX3_hasAll, .code yX3_hasAll cX3_hasAll 2 (some .boolean), .methodLink RX3 28 yX3_all, .instanceMethod yX3_all, .selects RX3 yX3_all yX3_all, .code yX3_all cX3_all 1 (some .int), .fieldLink RX3 9 "WordGrounds$Words" "total" "I", .instanceMethod yX3_nextDay, .selects RX3 yX3_nextDay yX3_nextDay, .code yX3_nextDay cX3_nextDay 4 (some .int), .fieldLink RX3 25 "WordGrounds$Words" "definitions" "[I", .methodLink RX3 42 yX3_isBare, .instanceMethod yX3_isBare, .selects RX3 yX3_isBare yX3_isBare, .code yX3_isBare cX3_isBare 2 (some .boolean), .fieldLink RX3 18 "WordGrounds$Words" "defined" "I"] ++ wsX40 ++ wsX30)
def wsX4_know : List Cond := .code yX4_know cX4_know 3 (some .int) :: ([.fieldLink RX4 10 "WordGrounds" "words" "LWordGrounds$Words;", .instanceMethod yX3_hasAll, .initialized RX3, .selects RX3 yX3_hasAll yX3_hasAll, .code yX3_hasAll cX3_hasAll 2 (some .boolean), .methodLink RX3 28 yX3_all, .instanceMethod yX3_all, .selects RX3 yX3_all yX3_all, .code yX3_all cX3_all 1 (some .int), .fieldLink RX3 9 "WordGrounds$Words" "total" "I"] ++ wsX40 ++ wsX30)
def wsX4_currentRings : List Cond := .code yX4_currentRings cX4_currentRings 1 (some (.object "WordGrounds$Rings")) :: ([.fieldLink RX4 30 "WordGrounds" "rings" "LWordGrounds$Rings;", .fieldLink RX4 10 "WordGrounds" "words" "LWordGrounds$Words;", .instanceMethod yX0_trace, .initialized RX0, .selects RX0 yX0_trace yX0_trace, .code yX0_trace cX0_trace 4 none, .fieldLink RX0 9 "WordGrounds$Rings" "total" "I", .fieldLink RX0 15 "WordGrounds$Rings" "reach" "[I", .fieldLink RX0 19 "WordGrounds$Rings" "inRings" "I"] ++ wsX40 ++ wsX30 ++ wsX00)
def wsX4_currentTellings_r1 : List Cond := [Cond.fieldLink RX4 48 "WordGrounds" "tellingsStand" "Z", Cond.fieldLink RX4 37 "WordGrounds" "tellings" "LWordGrounds$Tellings;", Cond.fieldLink RX4 10 "WordGrounds" "words" "LWordGrounds$Words;", Cond.methodLink RX4 148 yX4_currentRings, Cond.instanceMethod yX4_currentRings, Cond.selects RX4 yX4_currentRings yX4_currentRings, Cond.initialized RX4, Cond.code yX4_currentRings cX4_currentRings 1 (some (.object "WordGrounds$Rings")), Cond.fieldLink RX4 30 "WordGrounds" "rings" "LWordGrounds$Rings;", Cond.instanceMethod yX0_trace, Cond.initialized RX0, Cond.selects RX0 yX0_trace yX0_trace, Cond.code yX0_trace cX0_trace 4 none, Cond.fieldLink RX0 9 "WordGrounds$Rings" "total" "I", Cond.fieldLink RX0 15 "WordGrounds$Rings" "reach" "[I", Cond.fieldLink RX0 19 "WordGrounds$Rings" "inRings" "I", Cond.instanceMethod yX1_find, Cond.initialized RX1, Cond.selects RX1 yX1_find yX1_find, Cond.code yX1_find cX1_find 6 none, Cond.fieldLink RX1 9 "WordGrounds$Tellings" "must" "I", Cond.fieldLink RX1 15 "WordGrounds$Tellings" "may" "I", Cond.instanceMethod yX3_all, Cond.initialized RX3]
def wsX4_currentTellings_r2 : List Cond := [Cond.selects RX3 yX3_all yX3_all, Cond.code yX3_all cX3_all 1 (some .int), Cond.fieldLink RX3 9 "WordGrounds$Words" "total" "I", Cond.methodLink RX1 36 yJ6_bitCount_0f7a4, Cond.static yJ6_bitCount_0f7a4, Cond.initialized RJ6, Cond.code yJ6_bitCount_0f7a4 cJ6_bitCount_0f7a4 1 (some .int), Cond.constant RJ6 265 (1431655765), Cond.constant RJ6 266 (858993459), Cond.constant RJ6 267 (252645135), Cond.methodLink RX1 42 yX1_isFreeWithoutOne, Cond.instanceMethod yX1_isFreeWithoutOne, Cond.selects RX1 yX1_isFreeWithoutOne yX1_isFreeWithoutOne, Cond.code yX1_isFreeWithoutOne cX1_isFreeWithoutOne 4 (some .boolean), Cond.methodLink RX1 61 yX1_isFree, Cond.instanceMethod yX1_isFree, Cond.selects RX1 yX1_isFree yX1_isFree, Cond.code yX1_isFree cX1_isFree 3 (some .boolean), Cond.fieldLink RX1 18 "WordGrounds$Tellings" "circleFree" "[J", Cond.methodLink RX1 46 yX1_mark, Cond.instanceMethod yX1_mark, Cond.selects RX1 yX1_mark yX1_mark, Cond.code yX1_mark cX1_mark 6 none, Cond.constantLong RX1 65 (-1)]
def wsX4_currentTellings_r3 : List Cond := [Cond.methodLink RX1 50 yX1_nextSubset, Cond.static yX1_nextSubset, Cond.code yX1_nextSubset cX1_nextSubset 2 (some .int)]
def wsX4_currentTellings : List Cond := .code yX4_currentTellings cX4_currentTellings 1 (some (.object "WordGrounds$Tellings")) :: ((wsX4_currentTellings_r1 ++ (wsX4_currentTellings_r2 ++ wsX4_currentTellings_r3)) ++ wsX40 ++ wsX30 ++ wsX00 ++ wsX10)
def wsX4_plan_r1 : List Cond := [Cond.fieldLink RX4 10 "WordGrounds" "words" "LWordGrounds$Words;", Cond.methodLink RX4 125 yX4_currentTellings, Cond.instanceMethod yX4_currentTellings, Cond.selects RX4 yX4_currentTellings yX4_currentTellings, Cond.initialized RX4, Cond.code yX4_currentTellings cX4_currentTellings 1 (some (.object "WordGrounds$Tellings")), Cond.fieldLink RX4 48 "WordGrounds" "tellingsStand" "Z", Cond.fieldLink RX4 37 "WordGrounds" "tellings" "LWordGrounds$Tellings;", Cond.methodLink RX4 148 yX4_currentRings, Cond.instanceMethod yX4_currentRings, Cond.selects RX4 yX4_currentRings yX4_currentRings, Cond.code yX4_currentRings cX4_currentRings 1 (some (.object "WordGrounds$Rings")), Cond.fieldLink RX4 30 "WordGrounds" "rings" "LWordGrounds$Rings;", Cond.instanceMethod yX0_trace, Cond.initialized RX0, Cond.selects RX0 yX0_trace yX0_trace, Cond.code yX0_trace cX0_trace 4 none, Cond.fieldLink RX0 9 "WordGrounds$Rings" "total" "I", Cond.fieldLink RX0 15 "WordGrounds$Rings" "reach" "[I", Cond.fieldLink RX0 19 "WordGrounds$Rings" "inRings" "I", Cond.instanceMethod yX1_find, Cond.initialized RX1, Cond.selects RX1 yX1_find yX1_find, Cond.code yX1_find cX1_find 6 none]
def wsX4_plan_r2 : List Cond := [Cond.fieldLink RX1 9 "WordGrounds$Tellings" "must" "I", Cond.fieldLink RX1 15 "WordGrounds$Tellings" "may" "I", Cond.instanceMethod yX3_all, Cond.initialized RX3, Cond.selects RX3 yX3_all yX3_all, Cond.code yX3_all cX3_all 1 (some .int), Cond.fieldLink RX3 9 "WordGrounds$Words" "total" "I", Cond.methodLink RX1 36 yJ6_bitCount_0f7a4, Cond.static yJ6_bitCount_0f7a4, Cond.initialized RJ6, Cond.code yJ6_bitCount_0f7a4 cJ6_bitCount_0f7a4 1 (some .int), Cond.constant RJ6 265 (1431655765), Cond.constant RJ6 266 (858993459), Cond.constant RJ6 267 (252645135), Cond.methodLink RX1 42 yX1_isFreeWithoutOne, Cond.instanceMethod yX1_isFreeWithoutOne, Cond.selects RX1 yX1_isFreeWithoutOne yX1_isFreeWithoutOne, Cond.code yX1_isFreeWithoutOne cX1_isFreeWithoutOne 4 (some .boolean), Cond.methodLink RX1 61 yX1_isFree, Cond.instanceMethod yX1_isFree, Cond.selects RX1 yX1_isFree yX1_isFree, Cond.code yX1_isFree cX1_isFree 3 (some .boolean), Cond.fieldLink RX1 18 "WordGrounds$Tellings" "circleFree" "[J", Cond.methodLink RX1 46 yX1_mark]
def wsX4_plan_r3 : List Cond := [Cond.instanceMethod yX1_mark, Cond.selects RX1 yX1_mark yX1_mark, Cond.code yX1_mark cX1_mark 6 none, Cond.constantLong RX1 65 (-1), Cond.methodLink RX1 50 yX1_nextSubset, Cond.static yX1_nextSubset, Cond.code yX1_nextSubset cX1_nextSubset 2 (some .int), Cond.instanceMethod yX1_cheapest, Cond.selects RX1 yX1_cheapest yX1_cheapest, Cond.code yX1_cheapest cX1_cheapest 11 (some .int), Cond.instanceMethod yX3_costOf, Cond.selects RX3 yX3_costOf yX3_costOf, Cond.code yX3_costOf cX3_costOf 4 (some .int), Cond.fieldLink RX3 21 "WordGrounds$Words" "costs" "[I", Cond.methodLink RX4 95 yJ6_bitCount_0f7a4, Cond.instanceMethod yX3_daysTill, Cond.selects RX3 yX3_daysTill yX3_daysTill, Cond.code yX3_daysTill cX3_daysTill 5 (some .int), Cond.methodLink RX3 46 yX3_nextDay, Cond.instanceMethod yX3_nextDay, Cond.selects RX3 yX3_nextDay yX3_nextDay, Cond.code yX3_nextDay cX3_nextDay 4 (some .int), Cond.fieldLink RX3 25 "WordGrounds$Words" "definitions" "[I", Cond.methodLink RX3 42 yX3_isBare]
def wsX4_plan_r4 : List Cond := [Cond.instanceMethod yX3_isBare, Cond.selects RX3 yX3_isBare yX3_isBare, Cond.code yX3_isBare cX3_isBare 2 (some .boolean), Cond.fieldLink RX3 18 "WordGrounds$Words" "defined" "I"]
def wsX4_plan : List Cond := .code yX4_plan cX4_plan 3 (some .int) :: ((wsX4_plan_r1 ++ (wsX4_plan_r2 ++ (wsX4_plan_r3 ++ wsX4_plan_r4))) ++ wsX40 ++ wsX30 ++ wsX00 ++ wsX10)
def wsX4_saves_r1 : List Cond := [Cond.fieldLink RX4 10 "WordGrounds" "words" "LWordGrounds$Words;", Cond.instanceMethod yX3_has, Cond.initialized RX3, Cond.selects RX3 yX3_has yX3_has, Cond.code yX3_has cX3_has 2 (some .boolean), Cond.fieldLink RX3 9 "WordGrounds$Words" "total" "I", Cond.methodLink RX4 125 yX4_currentTellings, Cond.instanceMethod yX4_currentTellings, Cond.selects RX4 yX4_currentTellings yX4_currentTellings, Cond.initialized RX4, Cond.code yX4_currentTellings cX4_currentTellings 1 (some (.object "WordGrounds$Tellings")), Cond.fieldLink RX4 48 "WordGrounds" "tellingsStand" "Z", Cond.fieldLink RX4 37 "WordGrounds" "tellings" "LWordGrounds$Tellings;", Cond.methodLink RX4 148 yX4_currentRings, Cond.instanceMethod yX4_currentRings, Cond.selects RX4 yX4_currentRings yX4_currentRings, Cond.code yX4_currentRings cX4_currentRings 1 (some (.object "WordGrounds$Rings")), Cond.fieldLink RX4 30 "WordGrounds" "rings" "LWordGrounds$Rings;", Cond.instanceMethod yX0_trace, Cond.initialized RX0, Cond.selects RX0 yX0_trace yX0_trace, Cond.code yX0_trace cX0_trace 4 none, Cond.fieldLink RX0 9 "WordGrounds$Rings" "total" "I", Cond.fieldLink RX0 15 "WordGrounds$Rings" "reach" "[I"]
def wsX4_saves_r2 : List Cond := [Cond.fieldLink RX0 19 "WordGrounds$Rings" "inRings" "I", Cond.instanceMethod yX1_find, Cond.initialized RX1, Cond.selects RX1 yX1_find yX1_find, Cond.code yX1_find cX1_find 6 none, Cond.fieldLink RX1 9 "WordGrounds$Tellings" "must" "I", Cond.fieldLink RX1 15 "WordGrounds$Tellings" "may" "I", Cond.instanceMethod yX3_all, Cond.selects RX3 yX3_all yX3_all, Cond.code yX3_all cX3_all 1 (some .int), Cond.methodLink RX1 36 yJ6_bitCount_0f7a4, Cond.static yJ6_bitCount_0f7a4, Cond.initialized RJ6, Cond.code yJ6_bitCount_0f7a4 cJ6_bitCount_0f7a4 1 (some .int), Cond.constant RJ6 265 (1431655765), Cond.constant RJ6 266 (858993459), Cond.constant RJ6 267 (252645135), Cond.methodLink RX1 42 yX1_isFreeWithoutOne, Cond.instanceMethod yX1_isFreeWithoutOne, Cond.selects RX1 yX1_isFreeWithoutOne yX1_isFreeWithoutOne, Cond.code yX1_isFreeWithoutOne cX1_isFreeWithoutOne 4 (some .boolean), Cond.methodLink RX1 61 yX1_isFree, Cond.instanceMethod yX1_isFree, Cond.selects RX1 yX1_isFree yX1_isFree]
def wsX4_saves_r3 : List Cond := [Cond.code yX1_isFree cX1_isFree 3 (some .boolean), Cond.fieldLink RX1 18 "WordGrounds$Tellings" "circleFree" "[J", Cond.methodLink RX1 46 yX1_mark, Cond.instanceMethod yX1_mark, Cond.selects RX1 yX1_mark yX1_mark, Cond.code yX1_mark cX1_mark 6 none, Cond.constantLong RX1 65 (-1), Cond.methodLink RX1 50 yX1_nextSubset, Cond.static yX1_nextSubset, Cond.code yX1_nextSubset cX1_nextSubset 2 (some .int), Cond.instanceMethod yX1_cheapest, Cond.selects RX1 yX1_cheapest yX1_cheapest, Cond.code yX1_cheapest cX1_cheapest 11 (some .int), Cond.instanceMethod yX3_costOf, Cond.selects RX3 yX3_costOf yX3_costOf, Cond.code yX3_costOf cX3_costOf 4 (some .int), Cond.fieldLink RX3 21 "WordGrounds$Words" "costs" "[I"]
def wsX4_saves : List Cond := .code yX4_saves cX4_saves 5 (some .int) :: ((wsX4_saves_r1 ++ (wsX4_saves_r2 ++ wsX4_saves_r3)) ++ wsX40 ++ wsX30 ++ wsX00 ++ wsX10)
def wsX4_least_r1 : List Cond := [Cond.fieldLink RX4 10 "WordGrounds" "words" "LWordGrounds$Words;", Cond.instanceMethod yX3_has, Cond.initialized RX3, Cond.selects RX3 yX3_has yX3_has, Cond.code yX3_has cX3_has 2 (some .boolean), Cond.fieldLink RX3 9 "WordGrounds$Words" "total" "I", Cond.methodLink RX4 125 yX4_currentTellings, Cond.instanceMethod yX4_currentTellings, Cond.selects RX4 yX4_currentTellings yX4_currentTellings, Cond.initialized RX4, Cond.code yX4_currentTellings cX4_currentTellings 1 (some (.object "WordGrounds$Tellings")), Cond.fieldLink RX4 48 "WordGrounds" "tellingsStand" "Z", Cond.fieldLink RX4 37 "WordGrounds" "tellings" "LWordGrounds$Tellings;", Cond.methodLink RX4 148 yX4_currentRings, Cond.instanceMethod yX4_currentRings, Cond.selects RX4 yX4_currentRings yX4_currentRings, Cond.code yX4_currentRings cX4_currentRings 1 (some (.object "WordGrounds$Rings")), Cond.fieldLink RX4 30 "WordGrounds" "rings" "LWordGrounds$Rings;", Cond.instanceMethod yX0_trace, Cond.initialized RX0, Cond.selects RX0 yX0_trace yX0_trace, Cond.code yX0_trace cX0_trace 4 none, Cond.fieldLink RX0 9 "WordGrounds$Rings" "total" "I", Cond.fieldLink RX0 15 "WordGrounds$Rings" "reach" "[I"]
def wsX4_least_r2 : List Cond := [Cond.fieldLink RX0 19 "WordGrounds$Rings" "inRings" "I", Cond.instanceMethod yX1_find, Cond.initialized RX1, Cond.selects RX1 yX1_find yX1_find, Cond.code yX1_find cX1_find 6 none, Cond.fieldLink RX1 9 "WordGrounds$Tellings" "must" "I", Cond.fieldLink RX1 15 "WordGrounds$Tellings" "may" "I", Cond.instanceMethod yX3_all, Cond.selects RX3 yX3_all yX3_all, Cond.code yX3_all cX3_all 1 (some .int), Cond.methodLink RX1 36 yJ6_bitCount_0f7a4, Cond.static yJ6_bitCount_0f7a4, Cond.initialized RJ6, Cond.code yJ6_bitCount_0f7a4 cJ6_bitCount_0f7a4 1 (some .int), Cond.constant RJ6 265 (1431655765), Cond.constant RJ6 266 (858993459), Cond.constant RJ6 267 (252645135), Cond.methodLink RX1 42 yX1_isFreeWithoutOne, Cond.instanceMethod yX1_isFreeWithoutOne, Cond.selects RX1 yX1_isFreeWithoutOne yX1_isFreeWithoutOne, Cond.code yX1_isFreeWithoutOne cX1_isFreeWithoutOne 4 (some .boolean), Cond.methodLink RX1 61 yX1_isFree, Cond.instanceMethod yX1_isFree, Cond.selects RX1 yX1_isFree yX1_isFree]
def wsX4_least_r3 : List Cond := [Cond.code yX1_isFree cX1_isFree 3 (some .boolean), Cond.fieldLink RX1 18 "WordGrounds$Tellings" "circleFree" "[J", Cond.methodLink RX1 46 yX1_mark, Cond.instanceMethod yX1_mark, Cond.selects RX1 yX1_mark yX1_mark, Cond.code yX1_mark cX1_mark 6 none, Cond.constantLong RX1 65 (-1), Cond.methodLink RX1 50 yX1_nextSubset, Cond.static yX1_nextSubset, Cond.code yX1_nextSubset cX1_nextSubset 2 (some .int), Cond.instanceMethod yX1_greatestLeast, Cond.selects RX1 yX1_greatestLeast yX1_greatestLeast, Cond.code yX1_greatestLeast cX1_greatestLeast 6 (some .int), Cond.methodLink RX1 70 yX1_isLeast, Cond.instanceMethod yX1_isLeast, Cond.selects RX1 yX1_isLeast yX1_isLeast, Cond.code yX1_isLeast cX1_isLeast 4 (some .boolean), Cond.instanceMethod yX1_leastWith, Cond.selects RX1 yX1_leastWith yX1_leastWith, Cond.code yX1_leastWith cX1_leastWith 6 (some .int)]
def wsX4_least : List Cond := .code yX4_least cX4_least 3 (some .int) :: ((wsX4_least_r1 ++ (wsX4_least_r2 ++ wsX4_least_r3)) ++ wsX40 ++ wsX30 ++ wsX00 ++ wsX10)
def wsX4_way : List Cond := .code yX4_way cX4_way 3 (some .int) :: ([.fieldLink RX4 10 "WordGrounds" "words" "LWordGrounds$Words;", .instanceMethod yX3_has, .initialized RX3, .selects RX3 yX3_has yX3_has, .code yX3_has cX3_has 2 (some .boolean), .fieldLink RX3 9 "WordGrounds$Words" "total" "I", .instanceMethod yX3_stepsBetween, .selects RX3 yX3_stepsBetween yX3_stepsBetween, .code yX3_stepsBetween cX3_stepsBetween 5 (some .int), .fieldLink RX3 25 "WordGrounds$Words" "definitions" "[I", .methodLink RX3 49 yX3_usedByAny, .instanceMethod yX3_usedByAny, .selects RX3 yX3_usedByAny yX3_usedByAny, .code yX3_usedByAny cX3_usedByAny 4 (some .int)] ++ wsX40 ++ wsX30)
def wsX4_ring : List Cond := .code yX4_ring cX4_ring 3 (some .int) :: ([.methodLink RX4 148 yX4_currentRings, .instanceMethod yX4_currentRings, .selects RX4 yX4_currentRings yX4_currentRings, .initialized RX4, .code yX4_currentRings cX4_currentRings 1 (some (.object "WordGrounds$Rings")), .fieldLink RX4 30 "WordGrounds" "rings" "LWordGrounds$Rings;", .fieldLink RX4 10 "WordGrounds" "words" "LWordGrounds$Words;", .instanceMethod yX0_trace, .initialized RX0, .selects RX0 yX0_trace yX0_trace, .code yX0_trace cX0_trace 4 none, .fieldLink RX0 9 "WordGrounds$Rings" "total" "I", .fieldLink RX0 15 "WordGrounds$Rings" "reach" "[I", .fieldLink RX0 19 "WordGrounds$Rings" "inRings" "I", .instanceMethod yX0_howMany, .selects RX0 yX0_howMany yX0_howMany, .code yX0_howMany cX0_howMany 4 (some .int), .methodLink RX0 28 yX0_ringOf, .instanceMethod yX0_ringOf, .selects RX0 yX0_ringOf yX0_ringOf, .code yX0_ringOf cX0_ringOf 4 (some .int), .instanceMethod yX0_numbered, .selects RX0 yX0_numbered yX0_numbered, .code yX0_numbered cX0_numbered 6 (some .int)] ++ wsX40 ++ wsX30 ++ wsX00)
def wsX4_lie_r1 : List Cond := [Cond.fieldLink RX4 10 "WordGrounds" "words" "LWordGrounds$Words;", Cond.methodLink RX4 148 yX4_currentRings, Cond.instanceMethod yX4_currentRings, Cond.selects RX4 yX4_currentRings yX4_currentRings, Cond.initialized RX4, Cond.code yX4_currentRings cX4_currentRings 1 (some (.object "WordGrounds$Rings")), Cond.fieldLink RX4 30 "WordGrounds" "rings" "LWordGrounds$Rings;", Cond.instanceMethod yX0_trace, Cond.initialized RX0, Cond.selects RX0 yX0_trace yX0_trace, Cond.code yX0_trace cX0_trace 4 none, Cond.fieldLink RX0 9 "WordGrounds$Rings" "total" "I", Cond.fieldLink RX0 15 "WordGrounds$Rings" "reach" "[I", Cond.fieldLink RX0 19 "WordGrounds$Rings" "inRings" "I", Cond.instanceMethod yX0_before, Cond.selects RX0 yX0_before yX0_before, Cond.code yX0_before cX0_before 3 (some .int), Cond.instanceMethod yX0_behind, Cond.selects RX0 yX0_behind yX0_behind, Cond.code yX0_behind cX0_behind 3 (some .int), Cond.instanceMethod yX3_all, Cond.initialized RX3, Cond.selects RX3 yX3_all yX3_all, Cond.code yX3_all cX3_all 1 (some .int)]
def wsX4_lie_r2 : List Cond := [Cond.fieldLink RX3 9 "WordGrounds$Words" "total" "I", Cond.instanceMethod yX3_used, Cond.selects RX3 yX3_used yX3_used, Cond.code yX3_used cX3_used 3 (some .int), Cond.fieldLink RX3 25 "WordGrounds$Words" "definitions" "[I"]
def wsX4_lie : List Cond := .code yX4_lie cX4_lie 2 (some .int) :: ((wsX4_lie_r1 ++ wsX4_lie_r2) ++ wsX00 ++ wsX40 ++ wsX30)
def wsX4_image : List Cond := .code yX4_image cX4_image 2 (some .int) :: ([.fieldLink RX4 16 "WordGrounds" "images" "[LWordGrounds$Words;", .fieldLink RX4 10 "WordGrounds" "words" "LWordGrounds$Words;", .fieldLink RX4 41 "WordGrounds" "keptImages" "I", .instanceMethod yX3_copyFrom, .initialized RX3, .selects RX3 yX3_copyFrom yX3_copyFrom, .code yX3_copyFrom cX3_copyFrom 3 none, .fieldLink RX3 9 "WordGrounds$Words" "total" "I", .fieldLink RX3 15 "WordGrounds$Words" "known" "I", .fieldLink RX3 18 "WordGrounds$Words" "defined" "I", .fieldLink RX3 21 "WordGrounds$Words" "costs" "[I", .fieldLink RX3 25 "WordGrounds$Words" "definitions" "[I"] ++ wsX40 ++ wsX30)
def wsX4_restore : List Cond := .code yX4_restore cX4_restore 2 (some .int) :: ([.fieldLink RX4 41 "WordGrounds" "keptImages" "I", .fieldLink RX4 10 "WordGrounds" "words" "LWordGrounds$Words;", .fieldLink RX4 16 "WordGrounds" "images" "[LWordGrounds$Words;", .fieldLink RX4 48 "WordGrounds" "tellingsStand" "Z", .instanceMethod yX3_copyFrom, .initialized RX3, .selects RX3 yX3_copyFrom yX3_copyFrom, .code yX3_copyFrom cX3_copyFrom 3 none, .fieldLink RX3 9 "WordGrounds$Words" "total" "I", .fieldLink RX3 15 "WordGrounds$Words" "known" "I", .fieldLink RX3 18 "WordGrounds$Words" "defined" "I", .fieldLink RX3 21 "WordGrounds$Words" "costs" "[I", .fieldLink RX3 25 "WordGrounds$Words" "definitions" "[I"] ++ wsX40 ++ wsX30)
def wsX4_count : List Cond := .code yX4_count cX4_count 2 (some .int) :: ([.fieldLink RX4 10 "WordGrounds" "words" "LWordGrounds$Words;", .fieldLink RX4 23 "WordGrounds" "text" "LWordGrounds$Text;", .fieldLink RX4 45 "WordGrounds" "toldFault" "I", .fieldLink RX4 41 "WordGrounds" "keptImages" "I", .methodLink RX4 95 yJ6_bitCount_0f7a4, .static yJ6_bitCount_0f7a4, .initialized RJ6, .code yJ6_bitCount_0f7a4 cJ6_bitCount_0f7a4 1 (some .int), .constant RJ6 265 (1431655765), .constant RJ6 266 (858993459), .constant RJ6 267 (252645135), .instanceMethod yX3_howOftenUsed, .initialized RX3, .selects RX3 yX3_howOftenUsed yX3_howOftenUsed, .code yX3_howOftenUsed cX3_howOftenUsed 3 (some .int), .fieldLink RX3 9 "WordGrounds$Words" "total" "I", .fieldLink RX3 25 "WordGrounds$Words" "definitions" "[I", .methodLink RX3 36 yJ6_bitCount_0f7a4, .instanceMethod yX3_has, .selects RX3 yX3_has yX3_has, .code yX3_has cX3_has 2 (some .boolean)] ++ wsX40 ++ wsX30 ++ wsX20)
def wsX5_init : List Cond := .code yX5_init cX5_init 2 none :: ([.methodLink RX5 1 objectInit, .instanceMethod objectInit, .code objectInit ⟨#[0xb1]⟩ 1 none, .fieldLink RX5 7 "WordGroundsModel" "size" "I", .arrayClass .int, .fieldLink RX5 13 "WordGroundsModel" "definitions" "[I", .fieldLink RX5 17 "WordGroundsModel" "costs" "[I", .fieldLink RX5 20 "WordGroundsModel" "text" "[I", .fieldLink RX5 23 "WordGroundsModel" "fault" "I", .arrayClass .boolean, .fieldLink RX5 26 "WordGroundsModel" "isAll" "[Z", .fieldLink RX5 30 "WordGroundsModel" "image" "[I", .fieldLink RX5 33 "WordGroundsModel" "isKept" "[Z"] ++ wsX50)
def wsX5_in : List Cond := .code yX5_in cX5_in 3 (some .boolean) :: ([])
def wsX5_isWord : List Cond := .code yX5_isWord cX5_isWord 2 (some .boolean) :: ([.fieldLink RX5 7 "WordGroundsModel" "size" "I", .methodLink RX5 36 yX5_in, .static yX5_in, .initialized RX5, .code yX5_in cX5_in 3 (some .boolean)] ++ wsX50)
def wsX5_all : List Cond := .code yX5_all cX5_all 1 (some .int) :: ([.fieldLink RX5 7 "WordGroundsModel" "size" "I"] ++ wsX50)
def wsX5_isSet : List Cond := .code yX5_isSet cX5_isSet 2 (some .boolean) :: ([.methodLink RX5 40 yX5_all, .instanceMethod yX5_all, .selects RX5 yX5_all yX5_all, .initialized RX5, .code yX5_all cX5_all 1 (some .int), .fieldLink RX5 7 "WordGroundsModel" "size" "I", .methodLink RX5 36 yX5_in, .static yX5_in, .code yX5_in cX5_in 3 (some .boolean)] ++ wsX50)
def wsX5_has : List Cond := .code yX5_has cX5_has 2 (some .boolean) :: ([])
def wsX5_bits : List Cond := .code yX5_bits cX5_bits 3 (some .int) :: ([])
def wsX5_size : List Cond := .code yX5_size cX5_size 4 (some .int) :: ([.fieldLink RX5 7 "WordGroundsModel" "size" "I", .fieldLink RX5 13 "WordGroundsModel" "definitions" "[I", .fieldLink RX5 17 "WordGroundsModel" "costs" "[I", .fieldLink RX5 44 "WordGroundsModel" "known" "I", .methodLink RX5 36 yX5_in, .static yX5_in, .initialized RX5, .code yX5_in cX5_in 3 (some .boolean), .methodLink RX5 40 yX5_all, .instanceMethod yX5_all, .selects RX5 yX5_all yX5_all, .code yX5_all cX5_all 1 (some .int)] ++ wsX50)
def wsX5_say : List Cond := .code yX5_say cX5_say 2 (some .int) :: ([.fieldLink RX5 47 "WordGroundsModel" "signs" "I", .fieldLink RX5 20 "WordGroundsModel" "text" "[I", .methodLink RX5 36 yX5_in, .static yX5_in, .initialized RX5, .code yX5_in cX5_in 3 (some .boolean)] ++ wsX50)
def wsX5_wipe : List Cond := .code yX5_wipe cX5_wipe 2 (some .int) :: ([.fieldLink RX5 47 "WordGroundsModel" "signs" "I"] ++ wsX50)
def wsX5_toldUpTo : List Cond := .code yX5_toldUpTo cX5_toldUpTo 4 (some .int) :: ([.fieldLink RX5 20 "WordGroundsModel" "text" "[I"] ++ wsX50)
def wsX5_canStand : List Cond := .code yX5_canStand cX5_canStand 3 (some .boolean) :: ([.fieldLink RX5 20 "WordGroundsModel" "text" "[I", .methodLink RX5 50 yX5_isWord, .instanceMethod yX5_isWord, .selects RX5 yX5_isWord yX5_isWord, .initialized RX5, .code yX5_isWord cX5_isWord 2 (some .boolean), .fieldLink RX5 7 "WordGroundsModel" "size" "I", .methodLink RX5 36 yX5_in, .static yX5_in, .code yX5_in cX5_in 3 (some .boolean), .methodLink RX5 54 yX5_toldUpTo, .instanceMethod yX5_toldUpTo, .selects RX5 yX5_toldUpTo yX5_toldUpTo, .code yX5_toldUpTo cX5_toldUpTo 4 (some .int), .methodLink RX5 58 yX5_has, .static yX5_has, .code yX5_has cX5_has 2 (some .boolean)] ++ wsX50)
def wsX5_faultNow : List Cond := .code yX5_faultNow cX5_faultNow 2 (some .int) :: ([.fieldLink RX5 47 "WordGroundsModel" "signs" "I", .methodLink RX5 62 yX5_canStand, .instanceMethod yX5_canStand, .selects RX5 yX5_canStand yX5_canStand, .initialized RX5, .code yX5_canStand cX5_canStand 3 (some .boolean), .fieldLink RX5 20 "WordGroundsModel" "text" "[I", .methodLink RX5 50 yX5_isWord, .instanceMethod yX5_isWord, .selects RX5 yX5_isWord yX5_isWord, .code yX5_isWord cX5_isWord 2 (some .boolean), .fieldLink RX5 7 "WordGroundsModel" "size" "I", .methodLink RX5 36 yX5_in, .static yX5_in, .code yX5_in cX5_in 3 (some .boolean), .methodLink RX5 54 yX5_toldUpTo, .instanceMethod yX5_toldUpTo, .selects RX5 yX5_toldUpTo yX5_toldUpTo, .code yX5_toldUpTo cX5_toldUpTo 4 (some .int), .methodLink RX5 58 yX5_has, .static yX5_has, .code yX5_has cX5_has 2 (some .boolean)] ++ wsX50)
def wsX5_define_r1 : List Cond := [Cond.fieldLink RX5 23 "WordGroundsModel" "fault" "I", Cond.fieldLink RX5 20 "WordGroundsModel" "text" "[I", Cond.fieldLink RX5 13 "WordGroundsModel" "definitions" "[I", Cond.fieldLink RX5 47 "WordGroundsModel" "signs" "I", Cond.methodLink RX5 65 yX5_faultNow, Cond.instanceMethod yX5_faultNow, Cond.selects RX5 yX5_faultNow yX5_faultNow, Cond.initialized RX5, Cond.code yX5_faultNow cX5_faultNow 2 (some .int), Cond.methodLink RX5 62 yX5_canStand, Cond.instanceMethod yX5_canStand, Cond.selects RX5 yX5_canStand yX5_canStand, Cond.code yX5_canStand cX5_canStand 3 (some .boolean), Cond.methodLink RX5 50 yX5_isWord, Cond.instanceMethod yX5_isWord, Cond.selects RX5 yX5_isWord yX5_isWord, Cond.code yX5_isWord cX5_isWord 2 (some .boolean), Cond.fieldLink RX5 7 "WordGroundsModel" "size" "I", Cond.methodLink RX5 36 yX5_in, Cond.static yX5_in, Cond.code yX5_in cX5_in 3 (some .boolean), Cond.methodLink RX5 54 yX5_toldUpTo, Cond.instanceMethod yX5_toldUpTo, Cond.selects RX5 yX5_toldUpTo yX5_toldUpTo]
def wsX5_define_r2 : List Cond := [Cond.code yX5_toldUpTo cX5_toldUpTo 4 (some .int), Cond.methodLink RX5 58 yX5_has, Cond.static yX5_has, Cond.code yX5_has cX5_has 2 (some .boolean), Cond.methodLink RX5 68 yX5_bits, Cond.static yX5_bits, Cond.code yX5_bits cX5_bits 3 (some .int)]
def wsX5_define : List Cond := .code yX5_define cX5_define 3 (some .int) :: ((wsX5_define_r1 ++ wsX5_define_r2) ++ wsX50)
def wsX5_fault_r1 : List Cond := [Cond.methodLink RX5 65 yX5_faultNow, Cond.instanceMethod yX5_faultNow, Cond.selects RX5 yX5_faultNow yX5_faultNow, Cond.initialized RX5, Cond.code yX5_faultNow cX5_faultNow 2 (some .int), Cond.fieldLink RX5 47 "WordGroundsModel" "signs" "I", Cond.methodLink RX5 62 yX5_canStand, Cond.instanceMethod yX5_canStand, Cond.selects RX5 yX5_canStand yX5_canStand, Cond.code yX5_canStand cX5_canStand 3 (some .boolean), Cond.fieldLink RX5 20 "WordGroundsModel" "text" "[I", Cond.methodLink RX5 50 yX5_isWord, Cond.instanceMethod yX5_isWord, Cond.selects RX5 yX5_isWord yX5_isWord, Cond.code yX5_isWord cX5_isWord 2 (some .boolean), Cond.fieldLink RX5 7 "WordGroundsModel" "size" "I", Cond.methodLink RX5 36 yX5_in, Cond.static yX5_in, Cond.code yX5_in cX5_in 3 (some .boolean), Cond.methodLink RX5 54 yX5_toldUpTo, Cond.instanceMethod yX5_toldUpTo, Cond.selects RX5 yX5_toldUpTo yX5_toldUpTo, Cond.code yX5_toldUpTo cX5_toldUpTo 4 (some .int), Cond.methodLink RX5 58 yX5_has]
def wsX5_fault_r2 : List Cond := [Cond.static yX5_has, Cond.code yX5_has cX5_has 2 (some .boolean)]
def wsX5_fault : List Cond := .code yX5_fault cX5_fault 1 (some .int) :: ((wsX5_fault_r1 ++ wsX5_fault_r2) ++ wsX50)
def wsX5_uses : List Cond := .code yX5_uses cX5_uses 2 (some .int) :: ([.fieldLink RX5 13 "WordGroundsModel" "definitions" "[I", .methodLink RX5 50 yX5_isWord, .instanceMethod yX5_isWord, .selects RX5 yX5_isWord yX5_isWord, .initialized RX5, .code yX5_isWord cX5_isWord 2 (some .boolean), .fieldLink RX5 7 "WordGroundsModel" "size" "I", .methodLink RX5 36 yX5_in, .static yX5_in, .code yX5_in cX5_in 3 (some .boolean)] ++ wsX50)
def wsX5_isUsed : List Cond := .code yX5_isUsed cX5_isUsed 3 (some .boolean) :: ([.fieldLink RX5 13 "WordGroundsModel" "definitions" "[I", .methodLink RX5 58 yX5_has, .static yX5_has, .initialized RX5, .code yX5_has cX5_has 2 (some .boolean)] ++ wsX50)
def wsX5_usersOf : List Cond := .code yX5_usersOf cX5_usersOf 4 (some .int) :: ([.fieldLink RX5 7 "WordGroundsModel" "size" "I", .methodLink RX5 71 yX5_isUsed, .instanceMethod yX5_isUsed, .selects RX5 yX5_isUsed yX5_isUsed, .initialized RX5, .code yX5_isUsed cX5_isUsed 3 (some .boolean), .fieldLink RX5 13 "WordGroundsModel" "definitions" "[I", .methodLink RX5 58 yX5_has, .static yX5_has, .code yX5_has cX5_has 2 (some .boolean)] ++ wsX50)
def wsX5_users : List Cond := .code yX5_users cX5_users 2 (some .int) :: ([.methodLink RX5 50 yX5_isWord, .instanceMethod yX5_isWord, .selects RX5 yX5_isWord yX5_isWord, .initialized RX5, .code yX5_isWord cX5_isWord 2 (some .boolean), .fieldLink RX5 7 "WordGroundsModel" "size" "I", .methodLink RX5 36 yX5_in, .static yX5_in, .code yX5_in cX5_in 3 (some .boolean), .methodLink RX5 74 yX5_usersOf, .instanceMethod yX5_usersOf, .selects RX5 yX5_usersOf yX5_usersOf, .code yX5_usersOf cX5_usersOf 4 (some .int), .methodLink RX5 71 yX5_isUsed, .instanceMethod yX5_isUsed, .selects RX5 yX5_isUsed yX5_isUsed, .code yX5_isUsed cX5_isUsed 3 (some .boolean), .fieldLink RX5 13 "WordGroundsModel" "definitions" "[I", .methodLink RX5 58 yX5_has, .static yX5_has, .code yX5_has cX5_has 2 (some .boolean)] ++ wsX50)
def wsX5_cost : List Cond := .code yX5_cost cX5_cost 4 (some .int) :: ([.fieldLink RX5 17 "WordGroundsModel" "costs" "[I", .methodLink RX5 50 yX5_isWord, .instanceMethod yX5_isWord, .selects RX5 yX5_isWord yX5_isWord, .initialized RX5, .code yX5_isWord cX5_isWord 2 (some .boolean), .fieldLink RX5 7 "WordGroundsModel" "size" "I", .methodLink RX5 36 yX5_in, .static yX5_in, .code yX5_in cX5_in 3 (some .boolean)] ++ wsX50)
def wsX5_after : List Cond := .code yX5_after cX5_after 4 (some .int) :: ([.fieldLink RX5 7 "WordGroundsModel" "size" "I", .fieldLink RX5 13 "WordGroundsModel" "definitions" "[I"] ++ wsX50)
def wsX5_knownOn : List Cond := .code yX5_knownOn cX5_knownOn 5 (some .int) :: ([.methodLink RX5 77 yX5_after, .instanceMethod yX5_after, .selects RX5 yX5_after yX5_after, .initialized RX5, .code yX5_after cX5_after 4 (some .int), .fieldLink RX5 7 "WordGroundsModel" "size" "I", .fieldLink RX5 13 "WordGroundsModel" "definitions" "[I"] ++ wsX50)
def wsX5_grounds : List Cond := .code yX5_grounds cX5_grounds 2 (some .int) :: ([.methodLink RX5 80 yX5_isSet, .instanceMethod yX5_isSet, .selects RX5 yX5_isSet yX5_isSet, .initialized RX5, .code yX5_isSet cX5_isSet 2 (some .boolean), .methodLink RX5 40 yX5_all, .instanceMethod yX5_all, .selects RX5 yX5_all yX5_all, .code yX5_all cX5_all 1 (some .int), .fieldLink RX5 7 "WordGroundsModel" "size" "I", .methodLink RX5 36 yX5_in, .static yX5_in, .code yX5_in cX5_in 3 (some .boolean), .methodLink RX5 83 yX5_knownOn, .instanceMethod yX5_knownOn, .selects RX5 yX5_knownOn yX5_knownOn, .code yX5_knownOn cX5_knownOn 5 (some .int), .methodLink RX5 77 yX5_after, .instanceMethod yX5_after, .selects RX5 yX5_after yX5_after, .code yX5_after cX5_after 4 (some .int), .fieldLink RX5 13 "WordGroundsModel" "definitions" "[I"] ++ wsX50)
def wsX5_day_r1 : List Cond := [Cond.methodLink RX5 50 yX5_isWord, Cond.instanceMethod yX5_isWord, Cond.selects RX5 yX5_isWord yX5_isWord, Cond.initialized RX5, Cond.code yX5_isWord cX5_isWord 2 (some .boolean), Cond.fieldLink RX5 7 "WordGroundsModel" "size" "I", Cond.methodLink RX5 36 yX5_in, Cond.static yX5_in, Cond.code yX5_in cX5_in 3 (some .boolean), Cond.methodLink RX5 80 yX5_isSet, Cond.instanceMethod yX5_isSet, Cond.selects RX5 yX5_isSet yX5_isSet, Cond.code yX5_isSet cX5_isSet 2 (some .boolean), Cond.methodLink RX5 40 yX5_all, Cond.instanceMethod yX5_all, Cond.selects RX5 yX5_all yX5_all, Cond.code yX5_all cX5_all 1 (some .int), Cond.methodLink RX5 83 yX5_knownOn, Cond.instanceMethod yX5_knownOn, Cond.selects RX5 yX5_knownOn yX5_knownOn, Cond.code yX5_knownOn cX5_knownOn 5 (some .int), Cond.methodLink RX5 77 yX5_after, Cond.instanceMethod yX5_after, Cond.selects RX5 yX5_after yX5_after]
def wsX5_day_r2 : List Cond := [Cond.code yX5_after cX5_after 4 (some .int), Cond.fieldLink RX5 13 "WordGroundsModel" "definitions" "[I", Cond.methodLink RX5 58 yX5_has, Cond.static yX5_has, Cond.code yX5_has cX5_has 2 (some .boolean)]
def wsX5_day : List Cond := .code yX5_day cX5_day 5 (some .int) :: ((wsX5_day_r1 ++ wsX5_day_r2) ++ wsX50)
def wsX5_learned : List Cond := .code yX5_learned cX5_learned 3 (some .int) :: ([.methodLink RX5 80 yX5_isSet, .instanceMethod yX5_isSet, .selects RX5 yX5_isSet yX5_isSet, .initialized RX5, .code yX5_isSet cX5_isSet 2 (some .boolean), .methodLink RX5 40 yX5_all, .instanceMethod yX5_all, .selects RX5 yX5_all yX5_all, .code yX5_all cX5_all 1 (some .int), .fieldLink RX5 7 "WordGroundsModel" "size" "I", .methodLink RX5 36 yX5_in, .static yX5_in, .code yX5_in cX5_in 3 (some .boolean), .methodLink RX5 83 yX5_knownOn, .instanceMethod yX5_knownOn, .selects RX5 yX5_knownOn yX5_knownOn, .code yX5_knownOn cX5_knownOn 5 (some .int), .methodLink RX5 77 yX5_after, .instanceMethod yX5_after, .selects RX5 yX5_after yX5_after, .code yX5_after cX5_after 4 (some .int), .fieldLink RX5 13 "WordGroundsModel" "definitions" "[I"] ++ wsX50)
def wsX5_know : List Cond := .code yX5_know cX5_know 3 (some .int) :: ([.fieldLink RX5 44 "WordGroundsModel" "known" "I", .methodLink RX5 80 yX5_isSet, .instanceMethod yX5_isSet, .selects RX5 yX5_isSet yX5_isSet, .initialized RX5, .code yX5_isSet cX5_isSet 2 (some .boolean), .methodLink RX5 40 yX5_all, .instanceMethod yX5_all, .selects RX5 yX5_all yX5_all, .code yX5_all cX5_all 1 (some .int), .fieldLink RX5 7 "WordGroundsModel" "size" "I", .methodLink RX5 36 yX5_in, .static yX5_in, .code yX5_in cX5_in 3 (some .boolean)] ++ wsX50)
def wsX5_costOf : List Cond := .code yX5_costOf cX5_costOf 4 (some .int) :: ([.fieldLink RX5 7 "WordGroundsModel" "size" "I", .fieldLink RX5 17 "WordGroundsModel" "costs" "[I", .methodLink RX5 58 yX5_has, .static yX5_has, .initialized RX5, .code yX5_has cX5_has 2 (some .boolean)] ++ wsX50)
def wsX5_isBetter : List Cond := .code yX5_isBetter cX5_isBetter 3 (some .boolean) :: ([.methodLink RX5 87 yX5_costOf, .instanceMethod yX5_costOf, .selects RX5 yX5_costOf yX5_costOf, .initialized RX5, .code yX5_costOf cX5_costOf 4 (some .int), .fieldLink RX5 7 "WordGroundsModel" "size" "I", .fieldLink RX5 17 "WordGroundsModel" "costs" "[I", .methodLink RX5 58 yX5_has, .static yX5_has, .code yX5_has cX5_has 2 (some .boolean), .methodLink RX5 68 yX5_bits, .static yX5_bits, .code yX5_bits cX5_bits 3 (some .int)] ++ wsX50)
def wsX5_planFor_r1 : List Cond := [Cond.methodLink RX5 40 yX5_all, Cond.instanceMethod yX5_all, Cond.selects RX5 yX5_all yX5_all, Cond.initialized RX5, Cond.code yX5_all cX5_all 1 (some .int), Cond.fieldLink RX5 7 "WordGroundsModel" "size" "I", Cond.methodLink RX5 90 yX5_isBetter, Cond.instanceMethod yX5_isBetter, Cond.selects RX5 yX5_isBetter yX5_isBetter, Cond.code yX5_isBetter cX5_isBetter 3 (some .boolean), Cond.methodLink RX5 87 yX5_costOf, Cond.instanceMethod yX5_costOf, Cond.selects RX5 yX5_costOf yX5_costOf, Cond.code yX5_costOf cX5_costOf 4 (some .int), Cond.fieldLink RX5 17 "WordGroundsModel" "costs" "[I", Cond.methodLink RX5 58 yX5_has, Cond.static yX5_has, Cond.code yX5_has cX5_has 2 (some .boolean), Cond.methodLink RX5 68 yX5_bits, Cond.static yX5_bits, Cond.code yX5_bits cX5_bits 3 (some .int), Cond.methodLink RX5 83 yX5_knownOn, Cond.instanceMethod yX5_knownOn, Cond.selects RX5 yX5_knownOn yX5_knownOn]
def wsX5_planFor_r2 : List Cond := [Cond.code yX5_knownOn cX5_knownOn 5 (some .int), Cond.methodLink RX5 77 yX5_after, Cond.instanceMethod yX5_after, Cond.selects RX5 yX5_after yX5_after, Cond.code yX5_after cX5_after 4 (some .int), Cond.fieldLink RX5 13 "WordGroundsModel" "definitions" "[I"]
def wsX5_planFor : List Cond := .code yX5_planFor cX5_planFor 4 (some .int) :: ((wsX5_planFor_r1 ++ wsX5_planFor_r2) ++ wsX50)
def wsX5_plan_r1 : List Cond := [Cond.fieldLink RX5 44 "WordGroundsModel" "known" "I", Cond.methodLink RX5 36 yX5_in, Cond.static yX5_in, Cond.initialized RX5, Cond.code yX5_in cX5_in 3 (some .boolean), Cond.methodLink RX5 93 yX5_planFor, Cond.instanceMethod yX5_planFor, Cond.selects RX5 yX5_planFor yX5_planFor, Cond.code yX5_planFor cX5_planFor 4 (some .int), Cond.methodLink RX5 40 yX5_all, Cond.instanceMethod yX5_all, Cond.selects RX5 yX5_all yX5_all, Cond.code yX5_all cX5_all 1 (some .int), Cond.fieldLink RX5 7 "WordGroundsModel" "size" "I", Cond.methodLink RX5 90 yX5_isBetter, Cond.instanceMethod yX5_isBetter, Cond.selects RX5 yX5_isBetter yX5_isBetter, Cond.code yX5_isBetter cX5_isBetter 3 (some .boolean), Cond.methodLink RX5 87 yX5_costOf, Cond.instanceMethod yX5_costOf, Cond.selects RX5 yX5_costOf yX5_costOf, Cond.code yX5_costOf cX5_costOf 4 (some .int), Cond.fieldLink RX5 17 "WordGroundsModel" "costs" "[I", Cond.methodLink RX5 58 yX5_has]
def wsX5_plan_r2 : List Cond := [Cond.static yX5_has, Cond.code yX5_has cX5_has 2 (some .boolean), Cond.methodLink RX5 68 yX5_bits, Cond.static yX5_bits, Cond.code yX5_bits cX5_bits 3 (some .int), Cond.methodLink RX5 83 yX5_knownOn, Cond.instanceMethod yX5_knownOn, Cond.selects RX5 yX5_knownOn yX5_knownOn, Cond.code yX5_knownOn cX5_knownOn 5 (some .int), Cond.methodLink RX5 77 yX5_after, Cond.instanceMethod yX5_after, Cond.selects RX5 yX5_after yX5_after, Cond.code yX5_after cX5_after 4 (some .int), Cond.fieldLink RX5 13 "WordGroundsModel" "definitions" "[I"]
def wsX5_plan : List Cond := .code yX5_plan cX5_plan 4 (some .int) :: ((wsX5_plan_r1 ++ wsX5_plan_r2) ++ wsX50)
def wsX5_saves_r1 : List Cond := [Cond.fieldLink RX5 44 "WordGroundsModel" "known" "I", Cond.methodLink RX5 50 yX5_isWord, Cond.instanceMethod yX5_isWord, Cond.selects RX5 yX5_isWord yX5_isWord, Cond.initialized RX5, Cond.code yX5_isWord cX5_isWord 2 (some .boolean), Cond.fieldLink RX5 7 "WordGroundsModel" "size" "I", Cond.methodLink RX5 36 yX5_in, Cond.static yX5_in, Cond.code yX5_in cX5_in 3 (some .boolean), Cond.methodLink RX5 93 yX5_planFor, Cond.instanceMethod yX5_planFor, Cond.selects RX5 yX5_planFor yX5_planFor, Cond.code yX5_planFor cX5_planFor 4 (some .int), Cond.methodLink RX5 40 yX5_all, Cond.instanceMethod yX5_all, Cond.selects RX5 yX5_all yX5_all, Cond.code yX5_all cX5_all 1 (some .int), Cond.methodLink RX5 90 yX5_isBetter, Cond.instanceMethod yX5_isBetter, Cond.selects RX5 yX5_isBetter yX5_isBetter, Cond.code yX5_isBetter cX5_isBetter 3 (some .boolean), Cond.methodLink RX5 87 yX5_costOf, Cond.instanceMethod yX5_costOf]
def wsX5_saves_r2 : List Cond := [Cond.selects RX5 yX5_costOf yX5_costOf, Cond.code yX5_costOf cX5_costOf 4 (some .int), Cond.fieldLink RX5 17 "WordGroundsModel" "costs" "[I", Cond.methodLink RX5 58 yX5_has, Cond.static yX5_has, Cond.code yX5_has cX5_has 2 (some .boolean), Cond.methodLink RX5 68 yX5_bits, Cond.static yX5_bits, Cond.code yX5_bits cX5_bits 3 (some .int), Cond.methodLink RX5 83 yX5_knownOn, Cond.instanceMethod yX5_knownOn, Cond.selects RX5 yX5_knownOn yX5_knownOn, Cond.code yX5_knownOn cX5_knownOn 5 (some .int), Cond.methodLink RX5 77 yX5_after, Cond.instanceMethod yX5_after, Cond.selects RX5 yX5_after yX5_after, Cond.code yX5_after cX5_after 4 (some .int), Cond.fieldLink RX5 13 "WordGroundsModel" "definitions" "[I"]
def wsX5_saves : List Cond := .code yX5_saves cX5_saves 2 (some .int) :: ((wsX5_saves_r1 ++ wsX5_saves_r2) ++ wsX50)
def wsX5_isLeast : List Cond := .code yX5_isLeast cX5_isLeast 4 (some .boolean) :: ([.fieldLink RX5 26 "WordGroundsModel" "isAll" "[Z", .fieldLink RX5 7 "WordGroundsModel" "size" "I", .methodLink RX5 58 yX5_has, .static yX5_has, .initialized RX5, .code yX5_has cX5_has 2 (some .boolean)] ++ wsX50)
def wsX5_least_r1 : List Cond := [Cond.fieldLink RX5 7 "WordGroundsModel" "size" "I", Cond.fieldLink RX5 26 "WordGroundsModel" "isAll" "[Z", Cond.methodLink RX5 36 yX5_in, Cond.static yX5_in, Cond.initialized RX5, Cond.code yX5_in cX5_in 3 (some .boolean), Cond.methodLink RX5 40 yX5_all, Cond.instanceMethod yX5_all, Cond.selects RX5 yX5_all yX5_all, Cond.code yX5_all cX5_all 1 (some .int), Cond.methodLink RX5 83 yX5_knownOn, Cond.instanceMethod yX5_knownOn, Cond.selects RX5 yX5_knownOn yX5_knownOn, Cond.code yX5_knownOn cX5_knownOn 5 (some .int), Cond.methodLink RX5 77 yX5_after, Cond.instanceMethod yX5_after, Cond.selects RX5 yX5_after yX5_after, Cond.code yX5_after cX5_after 4 (some .int), Cond.fieldLink RX5 13 "WordGroundsModel" "definitions" "[I", Cond.methodLink RX5 96 yX5_isLeast, Cond.instanceMethod yX5_isLeast, Cond.selects RX5 yX5_isLeast yX5_isLeast, Cond.code yX5_isLeast cX5_isLeast 4 (some .boolean), Cond.methodLink RX5 58 yX5_has]
def wsX5_least_r2 : List Cond := [Cond.static yX5_has, Cond.code yX5_has cX5_has 2 (some .boolean), Cond.methodLink RX5 68 yX5_bits, Cond.static yX5_bits, Cond.code yX5_bits cX5_bits 3 (some .int)]
def wsX5_least : List Cond := .code yX5_least cX5_least 6 (some .int) :: ((wsX5_least_r1 ++ wsX5_least_r2) ++ wsX50)
def wsX5_reached : List Cond := .code yX5_reached cX5_reached 7 (some .int) :: ([.fieldLink RX5 7 "WordGroundsModel" "size" "I", .fieldLink RX5 13 "WordGroundsModel" "definitions" "[I", .methodLink RX5 58 yX5_has, .static yX5_has, .initialized RX5, .code yX5_has cX5_has 2 (some .boolean)] ++ wsX50)
def wsX5_wayOf : List Cond := .code yX5_wayOf cX5_wayOf 4 (some .int) :: ([.fieldLink RX5 7 "WordGroundsModel" "size" "I", .methodLink RX5 99 yX5_reached, .instanceMethod yX5_reached, .selects RX5 yX5_reached yX5_reached, .initialized RX5, .code yX5_reached cX5_reached 7 (some .int), .fieldLink RX5 13 "WordGroundsModel" "definitions" "[I", .methodLink RX5 58 yX5_has, .static yX5_has, .code yX5_has cX5_has 2 (some .boolean)] ++ wsX50)
def wsX5_way : List Cond := .code yX5_way cX5_way 3 (some .int) :: ([.methodLink RX5 50 yX5_isWord, .instanceMethod yX5_isWord, .selects RX5 yX5_isWord yX5_isWord, .initialized RX5, .code yX5_isWord cX5_isWord 2 (some .boolean), .fieldLink RX5 7 "WordGroundsModel" "size" "I", .methodLink RX5 36 yX5_in, .static yX5_in, .code yX5_in cX5_in 3 (some .boolean), .methodLink RX5 102 yX5_wayOf, .instanceMethod yX5_wayOf, .selects RX5 yX5_wayOf yX5_wayOf, .code yX5_wayOf cX5_wayOf 4 (some .int), .methodLink RX5 99 yX5_reached, .instanceMethod yX5_reached, .selects RX5 yX5_reached yX5_reached, .code yX5_reached cX5_reached 7 (some .int), .fieldLink RX5 13 "WordGroundsModel" "definitions" "[I", .methodLink RX5 58 yX5_has, .static yX5_has, .code yX5_has cX5_has 2 (some .boolean)] ++ wsX50)
def wsX5_ringOf : List Cond := .code yX5_ringOf cX5_ringOf 4 (some .int) :: ([.fieldLink RX5 7 "WordGroundsModel" "size" "I", .methodLink RX5 102 yX5_wayOf, .instanceMethod yX5_wayOf, .selects RX5 yX5_wayOf yX5_wayOf, .initialized RX5, .code yX5_wayOf cX5_wayOf 4 (some .int), .methodLink RX5 99 yX5_reached, .instanceMethod yX5_reached, .selects RX5 yX5_reached yX5_reached, .code yX5_reached cX5_reached 7 (some .int), .fieldLink RX5 13 "WordGroundsModel" "definitions" "[I", .methodLink RX5 58 yX5_has, .static yX5_has, .code yX5_has cX5_has 2 (some .boolean)] ++ wsX50)
def wsX5_ring : List Cond := .code yX5_ring cX5_ring 6 (some .int) :: ([.fieldLink RX5 7 "WordGroundsModel" "size" "I", .methodLink RX5 105 yX5_ringOf, .instanceMethod yX5_ringOf, .selects RX5 yX5_ringOf yX5_ringOf, .initialized RX5, .code yX5_ringOf cX5_ringOf 4 (some .int), .methodLink RX5 102 yX5_wayOf, .instanceMethod yX5_wayOf, .selects RX5 yX5_wayOf yX5_wayOf, .code yX5_wayOf cX5_wayOf 4 (some .int), .methodLink RX5 99 yX5_reached, .instanceMethod yX5_reached, .selects RX5 yX5_reached yX5_reached, .code yX5_reached cX5_reached 7 (some .int), .fieldLink RX5 13 "WordGroundsModel" "definitions" "[I", .methodLink RX5 58 yX5_has, .static yX5_has, .code yX5_has cX5_has 2 (some .boolean)] ++ wsX50)
def wsX5_ringed : List Cond := .code yX5_ringed cX5_ringed 3 (some .int) :: ([.fieldLink RX5 7 "WordGroundsModel" "size" "I", .methodLink RX5 105 yX5_ringOf, .instanceMethod yX5_ringOf, .selects RX5 yX5_ringOf yX5_ringOf, .initialized RX5, .code yX5_ringOf cX5_ringOf 4 (some .int), .methodLink RX5 102 yX5_wayOf, .instanceMethod yX5_wayOf, .selects RX5 yX5_wayOf yX5_wayOf, .code yX5_wayOf cX5_wayOf 4 (some .int), .methodLink RX5 99 yX5_reached, .instanceMethod yX5_reached, .selects RX5 yX5_reached yX5_reached, .code yX5_reached cX5_reached 7 (some .int), .fieldLink RX5 13 "WordGroundsModel" "definitions" "[I", .methodLink RX5 58 yX5_has, .static yX5_has, .code yX5_has cX5_has 2 (some .boolean)] ++ wsX50)
def wsX5_lies : List Cond := .code yX5_lies cX5_lies 6 (some .boolean) :: ([.fieldLink RX5 7 "WordGroundsModel" "size" "I", .methodLink RX5 108 yX5_ringed, .instanceMethod yX5_ringed, .selects RX5 yX5_ringed yX5_ringed, .initialized RX5, .code yX5_ringed cX5_ringed 3 (some .int), .methodLink RX5 105 yX5_ringOf, .instanceMethod yX5_ringOf, .selects RX5 yX5_ringOf yX5_ringOf, .code yX5_ringOf cX5_ringOf 4 (some .int), .methodLink RX5 102 yX5_wayOf, .instanceMethod yX5_wayOf, .selects RX5 yX5_wayOf yX5_wayOf, .code yX5_wayOf cX5_wayOf 4 (some .int), .methodLink RX5 99 yX5_reached, .instanceMethod yX5_reached, .selects RX5 yX5_reached yX5_reached, .code yX5_reached cX5_reached 7 (some .int), .fieldLink RX5 13 "WordGroundsModel" "definitions" "[I", .methodLink RX5 58 yX5_has, .static yX5_has, .code yX5_has cX5_has 2 (some .boolean)] ++ wsX50)
def wsX5_lie_r1 : List Cond := [Cond.fieldLink RX5 7 "WordGroundsModel" "size" "I", Cond.fieldLink RX5 13 "WordGroundsModel" "definitions" "[I", Cond.methodLink RX5 36 yX5_in, Cond.static yX5_in, Cond.initialized RX5, Cond.code yX5_in cX5_in 3 (some .boolean), Cond.methodLink RX5 105 yX5_ringOf, Cond.instanceMethod yX5_ringOf, Cond.selects RX5 yX5_ringOf yX5_ringOf, Cond.code yX5_ringOf cX5_ringOf 4 (some .int), Cond.methodLink RX5 102 yX5_wayOf, Cond.instanceMethod yX5_wayOf, Cond.selects RX5 yX5_wayOf yX5_wayOf, Cond.code yX5_wayOf cX5_wayOf 4 (some .int), Cond.methodLink RX5 99 yX5_reached, Cond.instanceMethod yX5_reached, Cond.selects RX5 yX5_reached yX5_reached, Cond.code yX5_reached cX5_reached 7 (some .int), Cond.methodLink RX5 58 yX5_has, Cond.static yX5_has, Cond.code yX5_has cX5_has 2 (some .boolean), Cond.methodLink RX5 74 yX5_usersOf, Cond.instanceMethod yX5_usersOf, Cond.selects RX5 yX5_usersOf yX5_usersOf]
def wsX5_lie_r2 : List Cond := [Cond.code yX5_usersOf cX5_usersOf 4 (some .int), Cond.methodLink RX5 71 yX5_isUsed, Cond.instanceMethod yX5_isUsed, Cond.selects RX5 yX5_isUsed yX5_isUsed, Cond.code yX5_isUsed cX5_isUsed 3 (some .boolean), Cond.methodLink RX5 111 yX5_lies, Cond.instanceMethod yX5_lies, Cond.selects RX5 yX5_lies yX5_lies, Cond.code yX5_lies cX5_lies 6 (some .boolean), Cond.methodLink RX5 108 yX5_ringed, Cond.instanceMethod yX5_ringed, Cond.selects RX5 yX5_ringed yX5_ringed, Cond.code yX5_ringed cX5_ringed 3 (some .int)]
def wsX5_lie : List Cond := .code yX5_lie cX5_lie 5 (some .int) :: ((wsX5_lie_r1 ++ wsX5_lie_r2) ++ wsX50)
def wsX5_image : List Cond := .code yX5_image cX5_image 3 (some .int) :: ([.fieldLink RX5 30 "WordGroundsModel" "image" "[I", .fieldLink RX5 7 "WordGroundsModel" "size" "I", .fieldLink RX5 44 "WordGroundsModel" "known" "I", .fieldLink RX5 13 "WordGroundsModel" "definitions" "[I", .fieldLink RX5 17 "WordGroundsModel" "costs" "[I", .fieldLink RX5 33 "WordGroundsModel" "isKept" "[Z", .methodLink RX5 36 yX5_in, .static yX5_in, .initialized RX5, .code yX5_in cX5_in 3 (some .boolean)] ++ wsX50)
def wsX5_restore : List Cond := .code yX5_restore cX5_restore 3 (some .int) :: ([.fieldLink RX5 33 "WordGroundsModel" "isKept" "[Z", .fieldLink RX5 30 "WordGroundsModel" "image" "[I", .fieldLink RX5 7 "WordGroundsModel" "size" "I", .fieldLink RX5 44 "WordGroundsModel" "known" "I", .fieldLink RX5 13 "WordGroundsModel" "definitions" "[I", .fieldLink RX5 17 "WordGroundsModel" "costs" "[I", .methodLink RX5 36 yX5_in, .static yX5_in, .initialized RX5, .code yX5_in cX5_in 3 (some .boolean)] ++ wsX50)
def wsX5_count : List Cond := .code yX5_count cX5_count 5 (some .int) :: ([.fieldLink RX5 7 "WordGroundsModel" "size" "I", .fieldLink RX5 17 "WordGroundsModel" "costs" "[I", .fieldLink RX5 13 "WordGroundsModel" "definitions" "[I", .fieldLink RX5 44 "WordGroundsModel" "known" "I", .fieldLink RX5 47 "WordGroundsModel" "signs" "I", .fieldLink RX5 23 "WordGroundsModel" "fault" "I", .fieldLink RX5 33 "WordGroundsModel" "isKept" "[Z", .methodLink RX5 36 yX5_in, .static yX5_in, .initialized RX5, .code yX5_in cX5_in 3 (some .boolean), .methodLink RX5 68 yX5_bits, .static yX5_bits, .code yX5_bits cX5_bits 3 (some .int)] ++ wsX50)
def wsL_law_r1 : List Cond := [Cond.classLink RL 7 RX4, Cond.instantiable RX4 8, Cond.initialized RX4, Cond.classLink RL 10 RX5, Cond.instantiable RX5 10, Cond.initialized RX5, Cond.methodLink RL 9 yX4_init, Cond.instanceMethod yX4_init, Cond.code yX4_init cX4_init 1 none, Cond.methodLink RX4 1 objectInit, Cond.instanceMethod objectInit, Cond.code objectInit ⟨#[0xb1]⟩ 1 none, Cond.classLink RX4 7 RX3, Cond.instantiable RX3 5, Cond.initialized RX3, Cond.fieldLink RX4 10 "WordGrounds" "words" "LWordGrounds$Words;", Cond.fieldLink RX4 16 "WordGrounds" "images" "[LWordGrounds$Words;", Cond.classLink RX4 20 RX2, Cond.instantiable RX2 2, Cond.initialized RX2, Cond.fieldLink RX4 23 "WordGrounds" "text" "LWordGrounds$Text;", Cond.classLink RX4 27 RX0, Cond.instantiable RX0 3, Cond.initialized RX0]
def wsL_law_r2 : List Cond := [Cond.fieldLink RX4 30 "WordGrounds" "rings" "LWordGrounds$Rings;", Cond.classLink RX4 34 RX1, Cond.instantiable RX1 3, Cond.initialized RX1, Cond.fieldLink RX4 37 "WordGrounds" "tellings" "LWordGrounds$Tellings;", Cond.fieldLink RX4 41 "WordGrounds" "keptImages" "I", Cond.fieldLink RX4 45 "WordGrounds" "toldFault" "I", Cond.fieldLink RX4 48 "WordGrounds" "tellingsStand" "Z", Cond.instanceMethod yX3_init, Cond.code yX3_init cX3_init 2 none, Cond.methodLink RX3 3 objectInit, Cond.fieldLink RX3 9 "WordGrounds$Words" "total" "I", Cond.fieldLink RX3 15 "WordGrounds$Words" "known" "I", Cond.fieldLink RX3 18 "WordGrounds$Words" "defined" "I", Cond.arrayClass .int, Cond.fieldLink RX3 21 "WordGrounds$Words" "costs" "[I", Cond.fieldLink RX3 25 "WordGrounds$Words" "definitions" "[I", Cond.instanceMethod yX2_init, Cond.code yX2_init cX2_init 1 none, Cond.methodLink RX2 3 objectInit, Cond.fieldLink RX2 9 "WordGrounds$Text" "signs" "[I", Cond.fieldLink RX2 15 "WordGrounds$Text" "length" "I", Cond.instanceMethod yX0_init, Cond.code yX0_init cX0_init 1 none]
def wsL_law_r3 : List Cond := [Cond.methodLink RX0 3 objectInit, Cond.fieldLink RX0 9 "WordGrounds$Rings" "total" "I", Cond.fieldLink RX0 15 "WordGrounds$Rings" "reach" "[I", Cond.fieldLink RX0 19 "WordGrounds$Rings" "inRings" "I", Cond.instanceMethod yX1_init, Cond.code yX1_init cX1_init 1 none, Cond.methodLink RX1 3 objectInit, Cond.fieldLink RX1 9 "WordGrounds$Tellings" "must" "I", Cond.fieldLink RX1 15 "WordGrounds$Tellings" "may" "I", Cond.arrayClass .long, Cond.fieldLink RX1 18 "WordGrounds$Tellings" "circleFree" "[J", Cond.methodLink RL 12 yX5_init, Cond.instanceMethod yX5_init, Cond.code yX5_init cX5_init 2 none, Cond.methodLink RX5 1 objectInit, Cond.fieldLink RX5 7 "WordGroundsModel" "size" "I", Cond.fieldLink RX5 13 "WordGroundsModel" "definitions" "[I", Cond.fieldLink RX5 17 "WordGroundsModel" "costs" "[I", Cond.fieldLink RX5 20 "WordGroundsModel" "text" "[I", Cond.fieldLink RX5 23 "WordGroundsModel" "fault" "I", Cond.arrayClass .boolean, Cond.fieldLink RX5 26 "WordGroundsModel" "isAll" "[Z", Cond.fieldLink RX5 30 "WordGroundsModel" "image" "[I", Cond.fieldLink RX5 33 "WordGroundsModel" "isKept" "[Z"]
def wsL_law_r4 : List Cond := [Cond.methodLink RL 13 yX4_size, Cond.instanceMethod yX4_size, Cond.selects RX4 yX4_size yX4_size, Cond.code yX4_size cX4_size 3 (some .int), Cond.instanceMethod yX3_resize, Cond.selects RX3 yX3_resize yX3_resize, Cond.code yX3_resize cX3_resize 3 none, Cond.methodLink RX3 28 yX3_all, Cond.instanceMethod yX3_all, Cond.selects RX3 yX3_all yX3_all, Cond.code yX3_all cX3_all 1 (some .int), Cond.methodLink RX3 32 yX3_makeBare, Cond.instanceMethod yX3_makeBare, Cond.selects RX3 yX3_makeBare yX3_makeBare, Cond.code yX3_makeBare cX3_makeBare 2 none, Cond.methodLink RL 17 yX5_size, Cond.instanceMethod yX5_size, Cond.selects RX5 yX5_size yX5_size, Cond.code yX5_size cX5_size 4 (some .int), Cond.fieldLink RX5 44 "WordGroundsModel" "known" "I", Cond.methodLink RX5 36 yX5_in, Cond.static yX5_in, Cond.code yX5_in cX5_in 3 (some .boolean), Cond.methodLink RX5 40 yX5_all]
def wsL_law_r5 : List Cond := [Cond.instanceMethod yX5_all, Cond.selects RX5 yX5_all yX5_all, Cond.code yX5_all cX5_all 1 (some .int), Cond.methodLink RL 18 yX4_say, Cond.instanceMethod yX4_say, Cond.selects RX4 yX4_say yX4_say, Cond.code yX4_say cX4_say 2 (some .int), Cond.instanceMethod yX2_append, Cond.selects RX2 yX2_append yX2_append, Cond.code yX2_append cX2_append 2 none, Cond.methodLink RL 21 yX5_say, Cond.instanceMethod yX5_say, Cond.selects RX5 yX5_say yX5_say, Cond.code yX5_say cX5_say 2 (some .int), Cond.fieldLink RX5 47 "WordGroundsModel" "signs" "I", Cond.methodLink RL 22 yX4_wipe, Cond.instanceMethod yX4_wipe, Cond.selects RX4 yX4_wipe yX4_wipe, Cond.code yX4_wipe cX4_wipe 2 (some .int), Cond.methodLink RL 26 yX5_wipe, Cond.instanceMethod yX5_wipe, Cond.selects RX5 yX5_wipe yX5_wipe, Cond.code yX5_wipe cX5_wipe 2 (some .int), Cond.methodLink RL 27 yX4_define]
def wsL_law_r6 : List Cond := [Cond.instanceMethod yX4_define, Cond.selects RX4 yX4_define yX4_define, Cond.code yX4_define cX4_define 3 (some .int), Cond.instanceMethod yX2_faultPlace, Cond.selects RX2 yX2_faultPlace yX2_faultPlace, Cond.code yX2_faultPlace cX2_faultPlace 5 (some .int), Cond.methodLink RX2 19 yX2_wordBit, Cond.static yX2_wordBit, Cond.code yX2_wordBit cX2_wordBit 3 (some .int), Cond.methodLink RX2 23 yX2_tellsBare, Cond.instanceMethod yX2_tellsBare, Cond.selects RX2 yX2_tellsBare yX2_tellsBare, Cond.code yX2_tellsBare cX2_tellsBare 1 (some .boolean), Cond.instanceMethod yX2_toldWord, Cond.selects RX2 yX2_toldWord yX2_toldWord, Cond.code yX2_toldWord cX2_toldWord 1 (some .int), Cond.instanceMethod yX2_toldSet, Cond.selects RX2 yX2_toldSet yX2_toldSet, Cond.code yX2_toldSet cX2_toldSet 3 (some .int), Cond.instanceMethod yX3_setDefinition, Cond.selects RX3 yX3_setDefinition yX3_setDefinition, Cond.code yX3_setDefinition cX3_setDefinition 3 none, Cond.instanceMethod yX3_isBare, Cond.selects RX3 yX3_isBare yX3_isBare]
def wsL_law_r7 : List Cond := [Cond.code yX3_isBare cX3_isBare 2 (some .boolean), Cond.methodLink RX4 95 yJ6_bitCount_0f7a4, Cond.static yJ6_bitCount_0f7a4, Cond.initialized RJ6, Cond.code yJ6_bitCount_0f7a4 cJ6_bitCount_0f7a4 1 (some .int), Cond.constant RJ6 265 (1431655765), Cond.constant RJ6 266 (858993459), Cond.constant RJ6 267 (252645135), Cond.methodLink RL 30 yX5_define, Cond.instanceMethod yX5_define, Cond.selects RX5 yX5_define yX5_define, Cond.code yX5_define cX5_define 3 (some .int), Cond.methodLink RX5 65 yX5_faultNow, Cond.instanceMethod yX5_faultNow, Cond.selects RX5 yX5_faultNow yX5_faultNow, Cond.code yX5_faultNow cX5_faultNow 2 (some .int), Cond.methodLink RX5 62 yX5_canStand, Cond.instanceMethod yX5_canStand, Cond.selects RX5 yX5_canStand yX5_canStand, Cond.code yX5_canStand cX5_canStand 3 (some .boolean), Cond.methodLink RX5 50 yX5_isWord, Cond.instanceMethod yX5_isWord, Cond.selects RX5 yX5_isWord yX5_isWord, Cond.code yX5_isWord cX5_isWord 2 (some .boolean)]
def wsL_law_r8 : List Cond := [Cond.methodLink RX5 54 yX5_toldUpTo, Cond.instanceMethod yX5_toldUpTo, Cond.selects RX5 yX5_toldUpTo yX5_toldUpTo, Cond.code yX5_toldUpTo cX5_toldUpTo 4 (some .int), Cond.methodLink RX5 58 yX5_has, Cond.static yX5_has, Cond.code yX5_has cX5_has 2 (some .boolean), Cond.methodLink RX5 68 yX5_bits, Cond.static yX5_bits, Cond.code yX5_bits cX5_bits 3 (some .int), Cond.methodLink RL 31 yX4_fault, Cond.instanceMethod yX4_fault, Cond.selects RX4 yX4_fault yX4_fault, Cond.code yX4_fault cX4_fault 1 (some .int), Cond.methodLink RL 34 yX5_fault, Cond.instanceMethod yX5_fault, Cond.selects RX5 yX5_fault yX5_fault, Cond.code yX5_fault cX5_fault 1 (some .int), Cond.methodLink RL 35 yX4_uses, Cond.instanceMethod yX4_uses, Cond.selects RX4 yX4_uses yX4_uses, Cond.code yX4_uses cX4_uses 2 (some .int), Cond.instanceMethod yX3_has, Cond.selects RX3 yX3_has yX3_has]
def wsL_law_r9 : List Cond := [Cond.code yX3_has cX3_has 2 (some .boolean), Cond.methodLink RL 38 yX5_uses, Cond.instanceMethod yX5_uses, Cond.selects RX5 yX5_uses yX5_uses, Cond.code yX5_uses cX5_uses 2 (some .int), Cond.methodLink RL 39 yX4_users, Cond.instanceMethod yX4_users, Cond.selects RX4 yX4_users yX4_users, Cond.code yX4_users cX4_users 2 (some .int), Cond.instanceMethod yX3_usersOf, Cond.selects RX3 yX3_usersOf yX3_usersOf, Cond.code yX3_usersOf cX3_usersOf 4 (some .int), Cond.methodLink RL 42 yX5_users, Cond.instanceMethod yX5_users, Cond.selects RX5 yX5_users yX5_users, Cond.code yX5_users cX5_users 2 (some .int), Cond.methodLink RX5 74 yX5_usersOf, Cond.instanceMethod yX5_usersOf, Cond.selects RX5 yX5_usersOf yX5_usersOf, Cond.code yX5_usersOf cX5_usersOf 4 (some .int), Cond.methodLink RX5 71 yX5_isUsed, Cond.instanceMethod yX5_isUsed, Cond.selects RX5 yX5_isUsed yX5_isUsed, Cond.code yX5_isUsed cX5_isUsed 3 (some .boolean)]
def wsL_law_r10 : List Cond := [Cond.methodLink RL 43 yX4_cost, Cond.instanceMethod yX4_cost, Cond.selects RX4 yX4_cost yX4_cost, Cond.code yX4_cost cX4_cost 4 (some .int), Cond.methodLink RL 47 yX5_cost, Cond.instanceMethod yX5_cost, Cond.selects RX5 yX5_cost yX5_cost, Cond.code yX5_cost cX5_cost 4 (some .int), Cond.methodLink RL 48 yX4_grounds, Cond.instanceMethod yX4_grounds, Cond.selects RX4 yX4_grounds yX4_grounds, Cond.code yX4_grounds cX4_grounds 2 (some .int), Cond.instanceMethod yX3_hasAll, Cond.selects RX3 yX3_hasAll yX3_hasAll, Cond.code yX3_hasAll cX3_hasAll 2 (some .boolean), Cond.instanceMethod yX3_groundedBy, Cond.selects RX3 yX3_groundedBy yX3_groundedBy, Cond.code yX3_groundedBy cX3_groundedBy 4 (some .int), Cond.methodLink RX3 46 yX3_nextDay, Cond.instanceMethod yX3_nextDay, Cond.selects RX3 yX3_nextDay yX3_nextDay, Cond.code yX3_nextDay cX3_nextDay 4 (some .int), Cond.methodLink RX3 42 yX3_isBare, Cond.methodLink RL 51 yX5_grounds]
def wsL_law_r11 : List Cond := [Cond.instanceMethod yX5_grounds, Cond.selects RX5 yX5_grounds yX5_grounds, Cond.code yX5_grounds cX5_grounds 2 (some .int), Cond.methodLink RX5 80 yX5_isSet, Cond.instanceMethod yX5_isSet, Cond.selects RX5 yX5_isSet yX5_isSet, Cond.code yX5_isSet cX5_isSet 2 (some .boolean), Cond.methodLink RX5 83 yX5_knownOn, Cond.instanceMethod yX5_knownOn, Cond.selects RX5 yX5_knownOn yX5_knownOn, Cond.code yX5_knownOn cX5_knownOn 5 (some .int), Cond.methodLink RX5 77 yX5_after, Cond.instanceMethod yX5_after, Cond.selects RX5 yX5_after yX5_after, Cond.code yX5_after cX5_after 4 (some .int), Cond.methodLink RL 52 yX4_day, Cond.instanceMethod yX4_day, Cond.selects RX4 yX4_day yX4_day, Cond.code yX4_day cX4_day 3 (some .int), Cond.instanceMethod yX3_daysTill, Cond.selects RX3 yX3_daysTill yX3_daysTill, Cond.code yX3_daysTill cX3_daysTill 5 (some .int), Cond.methodLink RL 55 yX5_day, Cond.instanceMethod yX5_day]
def wsL_law_r12 : List Cond := [Cond.selects RX5 yX5_day yX5_day, Cond.code yX5_day cX5_day 5 (some .int), Cond.methodLink RL 56 yX4_learned, Cond.instanceMethod yX4_learned, Cond.selects RX4 yX4_learned yX4_learned, Cond.code yX4_learned cX4_learned 5 (some .int), Cond.methodLink RL 59 yX5_learned, Cond.instanceMethod yX5_learned, Cond.selects RX5 yX5_learned yX5_learned, Cond.code yX5_learned cX5_learned 3 (some .int), Cond.methodLink RL 60 yX4_know, Cond.instanceMethod yX4_know, Cond.selects RX4 yX4_know yX4_know, Cond.code yX4_know cX4_know 3 (some .int), Cond.methodLink RL 63 yX5_know, Cond.instanceMethod yX5_know, Cond.selects RX5 yX5_know yX5_know, Cond.code yX5_know cX5_know 3 (some .int), Cond.methodLink RL 64 yX4_plan, Cond.instanceMethod yX4_plan, Cond.selects RX4 yX4_plan yX4_plan, Cond.code yX4_plan cX4_plan 3 (some .int), Cond.methodLink RX4 125 yX4_currentTellings, Cond.instanceMethod yX4_currentTellings]
def wsL_law_r13 : List Cond := [Cond.selects RX4 yX4_currentTellings yX4_currentTellings, Cond.code yX4_currentTellings cX4_currentTellings 1 (some (.object "WordGrounds$Tellings")), Cond.methodLink RX4 148 yX4_currentRings, Cond.instanceMethod yX4_currentRings, Cond.selects RX4 yX4_currentRings yX4_currentRings, Cond.code yX4_currentRings cX4_currentRings 1 (some (.object "WordGrounds$Rings")), Cond.instanceMethod yX0_trace, Cond.selects RX0 yX0_trace yX0_trace, Cond.code yX0_trace cX0_trace 4 none, Cond.instanceMethod yX1_find, Cond.selects RX1 yX1_find yX1_find, Cond.code yX1_find cX1_find 6 none, Cond.methodLink RX1 36 yJ6_bitCount_0f7a4, Cond.methodLink RX1 42 yX1_isFreeWithoutOne, Cond.instanceMethod yX1_isFreeWithoutOne, Cond.selects RX1 yX1_isFreeWithoutOne yX1_isFreeWithoutOne, Cond.code yX1_isFreeWithoutOne cX1_isFreeWithoutOne 4 (some .boolean), Cond.methodLink RX1 61 yX1_isFree, Cond.instanceMethod yX1_isFree, Cond.selects RX1 yX1_isFree yX1_isFree, Cond.code yX1_isFree cX1_isFree 3 (some .boolean), Cond.methodLink RX1 46 yX1_mark, Cond.instanceMethod yX1_mark, Cond.selects RX1 yX1_mark yX1_mark]
def wsL_law_r14 : List Cond := [Cond.code yX1_mark cX1_mark 6 none, Cond.constantLong RX1 65 (-1), Cond.methodLink RX1 50 yX1_nextSubset, Cond.static yX1_nextSubset, Cond.code yX1_nextSubset cX1_nextSubset 2 (some .int), Cond.instanceMethod yX1_cheapest, Cond.selects RX1 yX1_cheapest yX1_cheapest, Cond.code yX1_cheapest cX1_cheapest 11 (some .int), Cond.instanceMethod yX3_costOf, Cond.selects RX3 yX3_costOf yX3_costOf, Cond.code yX3_costOf cX3_costOf 4 (some .int), Cond.methodLink RL 67 yX5_plan, Cond.instanceMethod yX5_plan, Cond.selects RX5 yX5_plan yX5_plan, Cond.code yX5_plan cX5_plan 4 (some .int), Cond.methodLink RX5 93 yX5_planFor, Cond.instanceMethod yX5_planFor, Cond.selects RX5 yX5_planFor yX5_planFor, Cond.code yX5_planFor cX5_planFor 4 (some .int), Cond.methodLink RX5 90 yX5_isBetter, Cond.instanceMethod yX5_isBetter, Cond.selects RX5 yX5_isBetter yX5_isBetter, Cond.code yX5_isBetter cX5_isBetter 3 (some .boolean), Cond.methodLink RX5 87 yX5_costOf]
def wsL_law_r15 : List Cond := [Cond.instanceMethod yX5_costOf, Cond.selects RX5 yX5_costOf yX5_costOf, Cond.code yX5_costOf cX5_costOf 4 (some .int), Cond.methodLink RL 68 yX4_saves, Cond.instanceMethod yX4_saves, Cond.selects RX4 yX4_saves yX4_saves, Cond.code yX4_saves cX4_saves 5 (some .int), Cond.methodLink RL 71 yX5_saves, Cond.instanceMethod yX5_saves, Cond.selects RX5 yX5_saves yX5_saves, Cond.code yX5_saves cX5_saves 2 (some .int), Cond.methodLink RL 72 yX4_least, Cond.instanceMethod yX4_least, Cond.selects RX4 yX4_least yX4_least, Cond.code yX4_least cX4_least 3 (some .int), Cond.instanceMethod yX1_greatestLeast, Cond.selects RX1 yX1_greatestLeast yX1_greatestLeast, Cond.code yX1_greatestLeast cX1_greatestLeast 6 (some .int), Cond.methodLink RX1 70 yX1_isLeast, Cond.instanceMethod yX1_isLeast, Cond.selects RX1 yX1_isLeast yX1_isLeast, Cond.code yX1_isLeast cX1_isLeast 4 (some .boolean), Cond.instanceMethod yX1_leastWith, Cond.selects RX1 yX1_leastWith yX1_leastWith]
def wsL_law_r16 : List Cond := [Cond.code yX1_leastWith cX1_leastWith 6 (some .int), Cond.methodLink RL 75 yX5_least, Cond.instanceMethod yX5_least, Cond.selects RX5 yX5_least yX5_least, Cond.code yX5_least cX5_least 6 (some .int), Cond.methodLink RX5 96 yX5_isLeast, Cond.instanceMethod yX5_isLeast, Cond.selects RX5 yX5_isLeast yX5_isLeast, Cond.code yX5_isLeast cX5_isLeast 4 (some .boolean), Cond.methodLink RL 76 yX4_way, Cond.instanceMethod yX4_way, Cond.selects RX4 yX4_way yX4_way, Cond.code yX4_way cX4_way 3 (some .int), Cond.instanceMethod yX3_stepsBetween, Cond.selects RX3 yX3_stepsBetween yX3_stepsBetween, Cond.code yX3_stepsBetween cX3_stepsBetween 5 (some .int), Cond.methodLink RX3 49 yX3_usedByAny, Cond.instanceMethod yX3_usedByAny, Cond.selects RX3 yX3_usedByAny yX3_usedByAny, Cond.code yX3_usedByAny cX3_usedByAny 4 (some .int), Cond.methodLink RL 79 yX5_way, Cond.instanceMethod yX5_way, Cond.selects RX5 yX5_way yX5_way, Cond.code yX5_way cX5_way 3 (some .int)]
def wsL_law_r17 : List Cond := [Cond.methodLink RX5 102 yX5_wayOf, Cond.instanceMethod yX5_wayOf, Cond.selects RX5 yX5_wayOf yX5_wayOf, Cond.code yX5_wayOf cX5_wayOf 4 (some .int), Cond.methodLink RX5 99 yX5_reached, Cond.instanceMethod yX5_reached, Cond.selects RX5 yX5_reached yX5_reached, Cond.code yX5_reached cX5_reached 7 (some .int), Cond.methodLink RL 80 yX4_ring, Cond.instanceMethod yX4_ring, Cond.selects RX4 yX4_ring yX4_ring, Cond.code yX4_ring cX4_ring 3 (some .int), Cond.instanceMethod yX0_howMany, Cond.selects RX0 yX0_howMany yX0_howMany, Cond.code yX0_howMany cX0_howMany 4 (some .int), Cond.methodLink RX0 28 yX0_ringOf, Cond.instanceMethod yX0_ringOf, Cond.selects RX0 yX0_ringOf yX0_ringOf, Cond.code yX0_ringOf cX0_ringOf 4 (some .int), Cond.instanceMethod yX0_numbered, Cond.selects RX0 yX0_numbered yX0_numbered, Cond.code yX0_numbered cX0_numbered 6 (some .int), Cond.methodLink RL 83 yX5_ring, Cond.instanceMethod yX5_ring]
def wsL_law_r18 : List Cond := [Cond.selects RX5 yX5_ring yX5_ring, Cond.code yX5_ring cX5_ring 6 (some .int), Cond.methodLink RX5 105 yX5_ringOf, Cond.instanceMethod yX5_ringOf, Cond.selects RX5 yX5_ringOf yX5_ringOf, Cond.code yX5_ringOf cX5_ringOf 4 (some .int), Cond.methodLink RL 84 yX4_lie, Cond.instanceMethod yX4_lie, Cond.selects RX4 yX4_lie yX4_lie, Cond.code yX4_lie cX4_lie 2 (some .int), Cond.instanceMethod yX0_before, Cond.selects RX0 yX0_before yX0_before, Cond.code yX0_before cX0_before 3 (some .int), Cond.instanceMethod yX0_behind, Cond.selects RX0 yX0_behind yX0_behind, Cond.code yX0_behind cX0_behind 3 (some .int), Cond.instanceMethod yX3_used, Cond.selects RX3 yX3_used yX3_used, Cond.code yX3_used cX3_used 3 (some .int), Cond.methodLink RL 87 yX5_lie, Cond.instanceMethod yX5_lie, Cond.selects RX5 yX5_lie yX5_lie, Cond.code yX5_lie cX5_lie 5 (some .int), Cond.methodLink RX5 111 yX5_lies]
def wsL_law_r19 : List Cond := [Cond.instanceMethod yX5_lies, Cond.selects RX5 yX5_lies yX5_lies, Cond.code yX5_lies cX5_lies 6 (some .boolean), Cond.methodLink RX5 108 yX5_ringed, Cond.instanceMethod yX5_ringed, Cond.selects RX5 yX5_ringed yX5_ringed, Cond.code yX5_ringed cX5_ringed 3 (some .int), Cond.methodLink RL 88 yX4_image, Cond.instanceMethod yX4_image, Cond.selects RX4 yX4_image yX4_image, Cond.code yX4_image cX4_image 2 (some .int), Cond.instanceMethod yX3_copyFrom, Cond.selects RX3 yX3_copyFrom yX3_copyFrom, Cond.code yX3_copyFrom cX3_copyFrom 3 none, Cond.methodLink RL 91 yX5_image, Cond.instanceMethod yX5_image, Cond.selects RX5 yX5_image yX5_image, Cond.code yX5_image cX5_image 3 (some .int), Cond.methodLink RL 92 yX4_restore, Cond.instanceMethod yX4_restore, Cond.selects RX4 yX4_restore yX4_restore, Cond.code yX4_restore cX4_restore 2 (some .int), Cond.methodLink RL 95 yX5_restore, Cond.instanceMethod yX5_restore]
def wsL_law_r20 : List Cond := [Cond.selects RX5 yX5_restore yX5_restore, Cond.code yX5_restore cX5_restore 3 (some .int), Cond.methodLink RL 96 yX4_count, Cond.instanceMethod yX4_count, Cond.selects RX4 yX4_count yX4_count, Cond.code yX4_count cX4_count 2 (some .int), Cond.instanceMethod yX3_howOftenUsed, Cond.selects RX3 yX3_howOftenUsed yX3_howOftenUsed, Cond.code yX3_howOftenUsed cX3_howOftenUsed 3 (some .int), Cond.methodLink RX3 36 yJ6_bitCount_0f7a4, Cond.methodLink RL 99 yX5_count, Cond.instanceMethod yX5_count, Cond.selects RX5 yX5_count yX5_count, Cond.code yX5_count cX5_count 5 (some .int)]
def wsL_law : List Cond := (wsL_law_r1 ++ (wsL_law_r2 ++ (wsL_law_r3 ++ (wsL_law_r4 ++ (wsL_law_r5 ++ (wsL_law_r6 ++ (wsL_law_r7 ++ (wsL_law_r8 ++ (wsL_law_r9 ++ (wsL_law_r10 ++ (wsL_law_r11 ++ (wsL_law_r12 ++ (wsL_law_r13 ++ (wsL_law_r14 ++ (wsL_law_r15 ++ (wsL_law_r16 ++ (wsL_law_r17 ++ (wsL_law_r18 ++ (wsL_law_r19 ++ wsL_law_r20))))))))))))))))))) ++ wsX40 ++ wsX50 ++ wsX30 ++ wsX20 ++ wsX00 ++ wsX10 ++ ([] : List Cond)
set_option maxRecDepth 20000 in
set_option maxRecDepth 100000 in
theorem wsL_law_r1_in : ∀ w ∈ wsL_law_r1, w ∈ lw_tbl := fun w h => (goodIn_r wsL_law_r1 [65, 66, 58, 439, 440, 63, 67, 68, 69, 70, 71, 72, 73, 74, 59, 156, 157, 107, 108, 60, 158, 121, 122, 61] (by decide +kernel) (by decide +kernel) w h).1
set_option maxRecDepth 100000 in
theorem wsL_law_r2_in : ∀ w ∈ wsL_law_r2, w ∈ lw_tbl := fun w h => (goodIn_r wsL_law_r2 [159, 139, 140, 62, 160, 161, 162, 163, 76, 77, 78, 79, 83, 85, 105, 88, 90, 110, 111, 112, 113, 114, 124, 125] (by decide +kernel) (by decide +kernel) w h).1
set_option maxRecDepth 100000 in
theorem wsL_law_r3_in : ∀ w ∈ wsL_law_r3, w ∈ lw_tbl := fun w h => (goodIn_r wsL_law_r3 [126, 127, 128, 129, 142, 143, 144, 145, 146, 155, 147, 441, 442, 443, 444, 445, 446, 447, 449, 451, 476, 452, 453, 454] (by decide +kernel) (by decide +kernel) w h).1
set_option maxRecDepth 100000 in
theorem wsL_law_r4_in : ∀ w ∈ wsL_law_r4, w ∈ lw_tbl := fun w h => (goodIn_r wsL_law_r4 [181, 182, 183, 184, 187, 0, 188, 189, 191, 1, 192, 193, 195, 2, 196, 477, 478, 479, 480, 448, 481, 482, 483, 484] (by decide +kernel) (by decide +kernel) w h).1
set_option maxRecDepth 100000 in
theorem wsL_law_r5_in : ∀ w ∈ wsL_law_r5, w ∈ lw_tbl := fun w h => (goodIn_r wsL_law_r5 [486, 38, 487, 197, 198, 199, 200, 203, 3, 204, 488, 489, 490, 491, 450, 205, 206, 207, 208, 492, 493, 494, 495, 209] (by decide +kernel) (by decide +kernel) w h).1
set_option maxRecDepth 100000 in
theorem wsL_law_r6_in : ∀ w ∈ wsL_law_r6, w ∈ lw_tbl := fun w h => (goodIn_r wsL_law_r6 [210, 211, 212, 215, 4, 216, 217, 218, 219, 220, 222, 5, 223, 226, 6, 227, 232, 7, 233, 236, 8, 237, 240, 9] (by decide +kernel) (by decide +kernel) w h).1
set_option maxRecDepth 100000 in
theorem wsL_law_r7_in : ∀ w ∈ wsL_law_r7, w ∈ lw_tbl := fun w h => (goodIn_r wsL_law_r7 [241, 242, 243, 64, 244, 245, 246, 247, 496, 497, 498, 499, 500, 502, 39, 503, 504, 506, 40, 507, 508, 510, 41, 511] (by decide +kernel) (by decide +kernel) w h).1
set_option maxRecDepth 100000 in
theorem wsL_law_r8_in : ∀ w ∈ wsL_law_r8, w ∈ lw_tbl := fun w h => (goodIn_r wsL_law_r8 [512, 514, 42, 515, 516, 517, 518, 519, 520, 521, 248, 249, 250, 251, 522, 523, 524, 525, 252, 253, 254, 255, 258, 10] (by decide +kernel) (by decide +kernel) w h).1
set_option maxRecDepth 100000 in
theorem wsL_law_r9_in : ∀ w ∈ wsL_law_r9, w ∈ lw_tbl := fun w h => (goodIn_r wsL_law_r9 [259, 526, 527, 528, 529, 260, 261, 262, 263, 266, 11, 267, 530, 531, 532, 533, 534, 536, 43, 537, 538, 540, 44, 541] (by decide +kernel) (by decide +kernel) w h).1
set_option maxRecDepth 100000 in
theorem wsL_law_r10_in : ∀ w ∈ wsL_law_r10, w ∈ lw_tbl := fun w h => (goodIn_r wsL_law_r10 [268, 269, 270, 271, 542, 543, 544, 545, 272, 273, 274, 275, 278, 12, 279, 282, 13, 283, 284, 286, 14, 287, 288, 546] (by decide +kernel) (by decide +kernel) w h).1
set_option maxRecDepth 100000 in
theorem wsL_law_r11_in : ∀ w ∈ wsL_law_r11, w ∈ lw_tbl := fun w h => (goodIn_r wsL_law_r11 [547, 548, 549, 550, 552, 45, 553, 554, 556, 46, 557, 558, 560, 47, 561, 289, 290, 291, 292, 295, 15, 296, 562, 563] (by decide +kernel) (by decide +kernel) w h).1
set_option maxRecDepth 100000 in
theorem wsL_law_r12_in : ∀ w ∈ wsL_law_r12, w ∈ lw_tbl := fun w h => (goodIn_r wsL_law_r12 [564, 565, 297, 298, 299, 300, 566, 567, 568, 569, 302, 303, 304, 305, 570, 571, 572, 573, 306, 307, 308, 309, 310, 312] (by decide +kernel) (by decide +kernel) w h).1
set_option maxRecDepth 100000 in
theorem wsL_law_r13_in : ∀ w ∈ wsL_law_r13, w ∈ lw_tbl := fun w h => (goodIn_r wsL_law_r13 [16, 313, 314, 316, 17, 317, 320, 18, 321, 324, 19, 325, 327, 328, 330, 20, 331, 332, 334, 21, 335, 336, 338, 22] (by decide +kernel) (by decide +kernel) w h).1
set_option maxRecDepth 100000 in
theorem wsL_law_r14_in : ∀ w ∈ wsL_law_r14, w ∈ lw_tbl := fun w h => (goodIn_r wsL_law_r14 [339, 340, 341, 342, 343, 346, 23, 347, 350, 24, 351, 574, 575, 576, 577, 578, 580, 48, 581, 582, 584, 49, 585, 586] (by decide +kernel) (by decide +kernel) w h).1
set_option maxRecDepth 100000 in
theorem wsL_law_r15_in : ∀ w ∈ wsL_law_r15, w ∈ lw_tbl := fun w h => (goodIn_r wsL_law_r15 [588, 50, 589, 354, 355, 356, 357, 590, 591, 592, 593, 358, 359, 360, 361, 364, 25, 365, 366, 368, 26, 369, 372, 27] (by decide +kernel) (by decide +kernel) w h).1
set_option maxRecDepth 100000 in
theorem wsL_law_r16_in : ∀ w ∈ wsL_law_r16, w ∈ lw_tbl := fun w h => (goodIn_r wsL_law_r16 [373, 594, 595, 596, 597, 598, 600, 51, 601, 374, 375, 376, 377, 380, 28, 381, 382, 384, 29, 385, 602, 603, 604, 605] (by decide +kernel) (by decide +kernel) w h).1
set_option maxRecDepth 100000 in
theorem wsL_law_r17_in : ∀ w ∈ wsL_law_r17, w ∈ lw_tbl := fun w h => (goodIn_r wsL_law_r17 [606, 608, 52, 609, 610, 612, 53, 613, 386, 387, 388, 389, 392, 30, 393, 394, 396, 31, 397, 400, 32, 401, 614, 615] (by decide +kernel) (by decide +kernel) w h).1
set_option maxRecDepth 100000 in
theorem wsL_law_r18_in : ∀ w ∈ wsL_law_r18, w ∈ lw_tbl := fun w h => (goodIn_r wsL_law_r18 [616, 617, 618, 620, 54, 621, 402, 403, 404, 405, 408, 33, 409, 412, 34, 413, 416, 35, 417, 622, 623, 624, 625, 626] (by decide +kernel) (by decide +kernel) w h).1
set_option maxRecDepth 100000 in
theorem wsL_law_r19_in : ∀ w ∈ wsL_law_r19, w ∈ lw_tbl := fun w h => (goodIn_r wsL_law_r19 [628, 55, 629, 630, 632, 56, 633, 418, 419, 420, 421, 424, 36, 425, 634, 635, 636, 637, 426, 427, 428, 429, 638, 639] (by decide +kernel) (by decide +kernel) w h).1
set_option maxRecDepth 100000 in
theorem wsL_law_r20_in : ∀ w ∈ wsL_law_r20, w ∈ lw_tbl := fun w h => (goodIn_r wsL_law_r20 [640, 641, 430, 431, 432, 433, 436, 37, 437, 438, 642, 643, 644, 645] (by decide +kernel) (by decide +kernel) w h).1
theorem wsX40_in : ∀ w ∈ wsX40, w ∈ lw_tbl := fun w h => (goodIn_r wsX40 [164, 166, 168, 170, 172, 174, 176, 178] (by decide +kernel) (by decide +kernel) w h).1
theorem wsX50_in : ∀ w ∈ wsX50, w ∈ lw_tbl := fun w h => (goodIn_r wsX50 [455, 457, 459, 461, 463, 465, 467, 469, 471, 473] (by decide +kernel) (by decide +kernel) w h).1
theorem wsX30_in : ∀ w ∈ wsX30, w ∈ lw_tbl := fun w h => (goodIn_r wsX30 [94, 96, 98, 100, 102] (by decide +kernel) (by decide +kernel) w h).1
theorem wsX20_in : ∀ w ∈ wsX20, w ∈ lw_tbl := fun w h => (goodIn_r wsX20 [116, 118] (by decide +kernel) (by decide +kernel) w h).1
theorem wsX00_in : ∀ w ∈ wsX00, w ∈ lw_tbl := fun w h => (goodIn_r wsX00 [132, 134, 136] (by decide +kernel) (by decide +kernel) w h).1
theorem wsX10_in : ∀ w ∈ wsX10, w ∈ lw_tbl := fun w h => (goodIn_r wsX10 [148, 150, 152] (by decide +kernel) (by decide +kernel) w h).1
theorem mem_app {P : Cond → Prop} {a b : List Cond} (ha : ∀ w ∈ a, P w) (hb : ∀ w ∈ b, P w) : ∀ w ∈ a ++ b, P w := fun w h => (List.mem_append.mp h).elim (ha w) (hb w)
theorem wsL_law_in : ∀ w ∈ wsL_law, w ∈ lw_tbl := mem_app (mem_app (mem_app (mem_app (mem_app (mem_app (mem_app (mem_app wsL_law_r1_in (mem_app wsL_law_r2_in (mem_app wsL_law_r3_in (mem_app wsL_law_r4_in (mem_app wsL_law_r5_in (mem_app wsL_law_r6_in (mem_app wsL_law_r7_in (mem_app wsL_law_r8_in (mem_app wsL_law_r9_in (mem_app wsL_law_r10_in (mem_app wsL_law_r11_in (mem_app wsL_law_r12_in (mem_app wsL_law_r13_in (mem_app wsL_law_r14_in (mem_app wsL_law_r15_in (mem_app wsL_law_r16_in (mem_app wsL_law_r17_in (mem_app wsL_law_r18_in (mem_app wsL_law_r19_in (wsL_law_r20_in)))))))))))))))))))) wsX40_in) wsX50_in) wsX30_in) wsX20_in) wsX00_in) wsX10_in) (fun _ h => absurd h List.not_mem_nil)
theorem inlX0 : ∀ w ∈ wsX00, w ∈ wsL_law := fun _ h => List.mem_append_left _ (List.mem_append_left _ (List.mem_append_right _ h))
theorem inX0 : ∀ w ∈ wsX00, w ∈ lw_tbl := fun w h => wsL_law_in w (inlX0 w h)
theorem inlX1 : ∀ w ∈ wsX10, w ∈ wsL_law := fun _ h => List.mem_append_left _ (List.mem_append_right _ h)
theorem inX1 : ∀ w ∈ wsX10, w ∈ lw_tbl := fun w h => wsL_law_in w (inlX1 w h)
theorem inlX2 : ∀ w ∈ wsX20, w ∈ wsL_law := fun _ h => List.mem_append_left _ (List.mem_append_left _ (List.mem_append_left _ (List.mem_append_right _ h)))
theorem inX2 : ∀ w ∈ wsX20, w ∈ lw_tbl := fun w h => wsL_law_in w (inlX2 w h)
theorem inlX3 : ∀ w ∈ wsX30, w ∈ wsL_law := fun _ h => List.mem_append_left _ (List.mem_append_left _ (List.mem_append_left _ (List.mem_append_left _ (List.mem_append_right _ h))))
theorem inX3 : ∀ w ∈ wsX30, w ∈ lw_tbl := fun w h => wsL_law_in w (inlX3 w h)
theorem inlX4 : ∀ w ∈ wsX40, w ∈ wsL_law := fun _ h => List.mem_append_left _ (List.mem_append_left _ (List.mem_append_left _ (List.mem_append_left _ (List.mem_append_left _ (List.mem_append_left _ (List.mem_append_right _ h))))))
theorem inX4 : ∀ w ∈ wsX40, w ∈ lw_tbl := fun w h => wsL_law_in w (inlX4 w h)
theorem inlX5 : ∀ w ∈ wsX50, w ∈ wsL_law := fun _ h => List.mem_append_left _ (List.mem_append_left _ (List.mem_append_left _ (List.mem_append_left _ (List.mem_append_left _ (List.mem_append_right _ h)))))
theorem inX5 : ∀ w ∈ wsX50, w ∈ lw_tbl := fun w h => wsL_law_in w (inlX5 w h)
theorem inJ6 : ∀ w ∈ wsJ60, w ∈ lw_tbl := by decide +kernel
end
section
theorem dX0_init_0 : decode cX0_init 0 = .ok (.aload_n 0, 1) := by decide +kernel
theorem dX0_init_1 : decode cX0_init 1 = .ok (.invokespecial 3, 3) := by decide +kernel
theorem dX0_init_4 : decode cX0_init 4 = .ok (.aload_n 0, 1) := by decide +kernel
theorem dX0_init_5 : decode cX0_init 5 = .ok (.iconst 0, 1) := by decide +kernel
theorem dX0_init_6 : decode cX0_init 6 = .ok (.putfield 9, 3) := by decide +kernel
theorem dX0_init_9 : decode cX0_init 9 = .ok (.aload_n 0, 1) := by decide +kernel
theorem dX0_init_10 : decode cX0_init 10 = .ok (.bipush 14, 2) := by decide +kernel
theorem dX0_init_12 : decode cX0_init 12 = .ok (.newarray .int, 2) := by decide +kernel
theorem dX0_init_14 : decode cX0_init 14 = .ok (.putfield 15, 3) := by decide +kernel
theorem dX0_init_17 : decode cX0_init 17 = .ok (.aload_n 0, 1) := by decide +kernel
theorem dX0_init_18 : decode cX0_init 18 = .ok (.iconst 0, 1) := by decide +kernel
theorem dX0_init_19 : decode cX0_init 19 = .ok (.putfield 19, 3) := by decide +kernel
theorem dX0_init_22 : decode cX0_init 22 = .ok (.return_, 1) := by decide +kernel
theorem dX0_trace_0 : decode cX0_trace 0 = .ok (.aload_n 0, 1) := by decide +kernel
theorem dX0_trace_1 : decode cX0_trace 1 = .ok (.aload_n 1, 1) := by decide +kernel
theorem dX0_trace_2 : decode cX0_trace 2 = .ok (.getfield 22, 3) := by decide +kernel
theorem dX0_trace_5 : decode cX0_trace 5 = .ok (.putfield 9, 3) := by decide +kernel
theorem dX0_trace_8 : decode cX0_trace 8 = .ok (.iconst 0, 1) := by decide +kernel
theorem dX0_trace_9 : decode cX0_trace 9 = .ok (.istore_n 2, 1) := by decide +kernel
theorem dX0_trace_10 : decode cX0_trace 10 = .ok (.iload_n 2, 1) := by decide +kernel
theorem dX0_trace_11 : decode cX0_trace 11 = .ok (.aload_n 0, 1) := by decide +kernel
theorem dX0_trace_12 : decode cX0_trace 12 = .ok (.getfield 9, 3) := by decide +kernel
theorem dX0_trace_15 : decode cX0_trace 15 = .ok (.if_icmp .ge 21, 3) := by decide +kernel
theorem dX0_trace_18 : decode cX0_trace 18 = .ok (.aload_n 0, 1) := by decide +kernel
theorem dX0_trace_19 : decode cX0_trace 19 = .ok (.getfield 15, 3) := by decide +kernel
theorem dX0_trace_22 : decode cX0_trace 22 = .ok (.iload_n 2, 1) := by decide +kernel
theorem dX0_trace_23 : decode cX0_trace 23 = .ok (.aload_n 1, 1) := by decide +kernel
theorem dX0_trace_24 : decode cX0_trace 24 = .ok (.getfield 25, 3) := by decide +kernel
theorem dX0_trace_27 : decode cX0_trace 27 = .ok (.iload_n 2, 1) := by decide +kernel
theorem dX0_trace_28 : decode cX0_trace 28 = .ok (.iaload, 1) := by decide +kernel
theorem dX0_trace_29 : decode cX0_trace 29 = .ok (.iastore, 1) := by decide +kernel
theorem dX0_trace_30 : decode cX0_trace 30 = .ok (.iinc 2 1, 3) := by decide +kernel
theorem dX0_trace_33 : decode cX0_trace 33 = .ok (.goto (-23), 3) := by decide +kernel
theorem dX0_trace_36 : decode cX0_trace 36 = .ok (.iconst 0, 1) := by decide +kernel
theorem dX0_trace_37 : decode cX0_trace 37 = .ok (.istore_n 2, 1) := by decide +kernel
theorem dX0_trace_38 : decode cX0_trace 38 = .ok (.iload_n 2, 1) := by decide +kernel
theorem dX0_trace_39 : decode cX0_trace 39 = .ok (.aload_n 0, 1) := by decide +kernel
theorem dX0_trace_40 : decode cX0_trace 40 = .ok (.getfield 9, 3) := by decide +kernel
theorem dX0_trace_43 : decode cX0_trace 43 = .ok (.if_icmp .ge 53, 3) := by decide +kernel
theorem dX0_trace_46 : decode cX0_trace 46 = .ok (.iconst 0, 1) := by decide +kernel
theorem dX0_trace_47 : decode cX0_trace 47 = .ok (.istore_n 3, 1) := by decide +kernel
theorem dX0_trace_48 : decode cX0_trace 48 = .ok (.iload_n 3, 1) := by decide +kernel
theorem dX0_trace_49 : decode cX0_trace 49 = .ok (.aload_n 0, 1) := by decide +kernel
theorem dX0_trace_50 : decode cX0_trace 50 = .ok (.getfield 9, 3) := by decide +kernel
theorem dX0_trace_53 : decode cX0_trace 53 = .ok (.if_icmp .ge 37, 3) := by decide +kernel
theorem dX0_trace_56 : decode cX0_trace 56 = .ok (.aload_n 0, 1) := by decide +kernel
theorem dX0_trace_57 : decode cX0_trace 57 = .ok (.getfield 15, 3) := by decide +kernel
theorem dX0_trace_60 : decode cX0_trace 60 = .ok (.iload_n 3, 1) := by decide +kernel
theorem dX0_trace_61 : decode cX0_trace 61 = .ok (.iaload, 1) := by decide +kernel
theorem dX0_trace_62 : decode cX0_trace 62 = .ok (.iload_n 2, 1) := by decide +kernel
theorem dX0_trace_63 : decode cX0_trace 63 = .ok (.ishr, 1) := by decide +kernel
theorem dX0_trace_64 : decode cX0_trace 64 = .ok (.iconst 1, 1) := by decide +kernel
theorem dX0_trace_65 : decode cX0_trace 65 = .ok (.iand, 1) := by decide +kernel
theorem dX0_trace_66 : decode cX0_trace 66 = .ok (.ifCond .eq 18, 3) := by decide +kernel
theorem dX0_trace_69 : decode cX0_trace 69 = .ok (.aload_n 0, 1) := by decide +kernel
theorem dX0_trace_70 : decode cX0_trace 70 = .ok (.getfield 15, 3) := by decide +kernel
theorem dX0_trace_73 : decode cX0_trace 73 = .ok (.iload_n 3, 1) := by decide +kernel
theorem dX0_trace_74 : decode cX0_trace 74 = .ok (.dup2, 1) := by decide +kernel
theorem dX0_trace_75 : decode cX0_trace 75 = .ok (.iaload, 1) := by decide +kernel
theorem dX0_trace_76 : decode cX0_trace 76 = .ok (.aload_n 0, 1) := by decide +kernel
theorem dX0_trace_77 : decode cX0_trace 77 = .ok (.getfield 15, 3) := by decide +kernel
theorem dX0_trace_80 : decode cX0_trace 80 = .ok (.iload_n 2, 1) := by decide +kernel
theorem dX0_trace_81 : decode cX0_trace 81 = .ok (.iaload, 1) := by decide +kernel
theorem dX0_trace_82 : decode cX0_trace 82 = .ok (.ior, 1) := by decide +kernel
theorem dX0_trace_83 : decode cX0_trace 83 = .ok (.iastore, 1) := by decide +kernel
theorem dX0_trace_84 : decode cX0_trace 84 = .ok (.iinc 3 1, 3) := by decide +kernel
theorem dX0_trace_87 : decode cX0_trace 87 = .ok (.goto (-39), 3) := by decide +kernel
theorem dX0_trace_90 : decode cX0_trace 90 = .ok (.iinc 2 1, 3) := by decide +kernel
theorem dX0_trace_93 : decode cX0_trace 93 = .ok (.goto (-55), 3) := by decide +kernel
theorem dX0_trace_96 : decode cX0_trace 96 = .ok (.aload_n 0, 1) := by decide +kernel
theorem dX0_trace_97 : decode cX0_trace 97 = .ok (.iconst 0, 1) := by decide +kernel
theorem dX0_trace_98 : decode cX0_trace 98 = .ok (.putfield 19, 3) := by decide +kernel
theorem dX0_trace_101 : decode cX0_trace 101 = .ok (.iconst 0, 1) := by decide +kernel
theorem dX0_trace_102 : decode cX0_trace 102 = .ok (.istore_n 2, 1) := by decide +kernel
theorem dX0_trace_103 : decode cX0_trace 103 = .ok (.iload_n 2, 1) := by decide +kernel
theorem dX0_trace_104 : decode cX0_trace 104 = .ok (.aload_n 0, 1) := by decide +kernel
theorem dX0_trace_105 : decode cX0_trace 105 = .ok (.getfield 9, 3) := by decide +kernel
theorem dX0_trace_108 : decode cX0_trace 108 = .ok (.if_icmp .ge 28, 3) := by decide +kernel
theorem dX0_trace_111 : decode cX0_trace 111 = .ok (.aload_n 0, 1) := by decide +kernel
theorem dX0_trace_112 : decode cX0_trace 112 = .ok (.dup, 1) := by decide +kernel
theorem dX0_trace_113 : decode cX0_trace 113 = .ok (.getfield 19, 3) := by decide +kernel
theorem dX0_trace_116 : decode cX0_trace 116 = .ok (.aload_n 0, 1) := by decide +kernel
theorem dX0_trace_117 : decode cX0_trace 117 = .ok (.getfield 15, 3) := by decide +kernel
theorem dX0_trace_120 : decode cX0_trace 120 = .ok (.iload_n 2, 1) := by decide +kernel
theorem dX0_trace_121 : decode cX0_trace 121 = .ok (.iaload, 1) := by decide +kernel
theorem dX0_trace_122 : decode cX0_trace 122 = .ok (.iconst 1, 1) := by decide +kernel
theorem dX0_trace_123 : decode cX0_trace 123 = .ok (.iload_n 2, 1) := by decide +kernel
theorem dX0_trace_124 : decode cX0_trace 124 = .ok (.ishl, 1) := by decide +kernel
theorem dX0_trace_125 : decode cX0_trace 125 = .ok (.iand, 1) := by decide +kernel
theorem dX0_trace_126 : decode cX0_trace 126 = .ok (.ior, 1) := by decide +kernel
theorem dX0_trace_127 : decode cX0_trace 127 = .ok (.putfield 19, 3) := by decide +kernel
theorem dX0_trace_130 : decode cX0_trace 130 = .ok (.iinc 2 1, 3) := by decide +kernel
theorem dX0_trace_133 : decode cX0_trace 133 = .ok (.goto (-30), 3) := by decide +kernel
theorem dX0_trace_136 : decode cX0_trace 136 = .ok (.return_, 1) := by decide +kernel
theorem dX0_ringOf_0 : decode cX0_ringOf 0 = .ok (.iconst 0, 1) := by decide +kernel
theorem dX0_ringOf_1 : decode cX0_ringOf 1 = .ok (.istore_n 2, 1) := by decide +kernel
theorem dX0_ringOf_2 : decode cX0_ringOf 2 = .ok (.iconst 0, 1) := by decide +kernel
theorem dX0_ringOf_3 : decode cX0_ringOf 3 = .ok (.istore_n 3, 1) := by decide +kernel
theorem dX0_ringOf_4 : decode cX0_ringOf 4 = .ok (.iload_n 3, 1) := by decide +kernel
theorem dX0_ringOf_5 : decode cX0_ringOf 5 = .ok (.aload_n 0, 1) := by decide +kernel
theorem dX0_ringOf_6 : decode cX0_ringOf 6 = .ok (.getfield 9, 3) := by decide +kernel
theorem dX0_ringOf_9 : decode cX0_ringOf 9 = .ok (.if_icmp .ge 41, 3) := by decide +kernel
theorem dX0_ringOf_12 : decode cX0_ringOf 12 = .ok (.aload_n 0, 1) := by decide +kernel
theorem dX0_ringOf_13 : decode cX0_ringOf 13 = .ok (.getfield 15, 3) := by decide +kernel
theorem dX0_ringOf_16 : decode cX0_ringOf 16 = .ok (.iload_n 1, 1) := by decide +kernel
theorem dX0_ringOf_17 : decode cX0_ringOf 17 = .ok (.iaload, 1) := by decide +kernel
theorem dX0_ringOf_18 : decode cX0_ringOf 18 = .ok (.iload_n 3, 1) := by decide +kernel
theorem dX0_ringOf_19 : decode cX0_ringOf 19 = .ok (.ishr, 1) := by decide +kernel
theorem dX0_ringOf_20 : decode cX0_ringOf 20 = .ok (.iconst 1, 1) := by decide +kernel
theorem dX0_ringOf_21 : decode cX0_ringOf 21 = .ok (.iand, 1) := by decide +kernel
theorem dX0_ringOf_22 : decode cX0_ringOf 22 = .ok (.ifCond .eq 22, 3) := by decide +kernel
theorem dX0_ringOf_25 : decode cX0_ringOf 25 = .ok (.aload_n 0, 1) := by decide +kernel
theorem dX0_ringOf_26 : decode cX0_ringOf 26 = .ok (.getfield 15, 3) := by decide +kernel
theorem dX0_ringOf_29 : decode cX0_ringOf 29 = .ok (.iload_n 3, 1) := by decide +kernel
theorem dX0_ringOf_30 : decode cX0_ringOf 30 = .ok (.iaload, 1) := by decide +kernel
theorem dX0_ringOf_31 : decode cX0_ringOf 31 = .ok (.iload_n 1, 1) := by decide +kernel
theorem dX0_ringOf_32 : decode cX0_ringOf 32 = .ok (.ishr, 1) := by decide +kernel
theorem dX0_ringOf_33 : decode cX0_ringOf 33 = .ok (.iconst 1, 1) := by decide +kernel
theorem dX0_ringOf_34 : decode cX0_ringOf 34 = .ok (.iand, 1) := by decide +kernel
theorem dX0_ringOf_35 : decode cX0_ringOf 35 = .ok (.ifCond .eq 9, 3) := by decide +kernel
theorem dX0_ringOf_38 : decode cX0_ringOf 38 = .ok (.iload_n 2, 1) := by decide +kernel
theorem dX0_ringOf_39 : decode cX0_ringOf 39 = .ok (.iconst 1, 1) := by decide +kernel
theorem dX0_ringOf_40 : decode cX0_ringOf 40 = .ok (.iload_n 3, 1) := by decide +kernel
theorem dX0_ringOf_41 : decode cX0_ringOf 41 = .ok (.ishl, 1) := by decide +kernel
theorem dX0_ringOf_42 : decode cX0_ringOf 42 = .ok (.ior, 1) := by decide +kernel
theorem dX0_ringOf_43 : decode cX0_ringOf 43 = .ok (.istore_n 2, 1) := by decide +kernel
theorem dX0_ringOf_44 : decode cX0_ringOf 44 = .ok (.iinc 3 1, 3) := by decide +kernel
theorem dX0_ringOf_47 : decode cX0_ringOf 47 = .ok (.goto (-43), 3) := by decide +kernel
theorem dX0_ringOf_50 : decode cX0_ringOf 50 = .ok (.iload_n 2, 1) := by decide +kernel
theorem dX0_ringOf_51 : decode cX0_ringOf 51 = .ok (.ireturn, 1) := by decide +kernel
set_option maxRecDepth 20000 in
theorem ggX0_howMany_X0_ringOf : GoodIn wsX0_howMany wsX0_ringOf := goodIn_r _ [7, 2, 8, 9, 10, 11] (by decide +kernel) (by decide +kernel)
set_option maxRecDepth 20000 in
theorem gX0_howMany_X0_ringOf : GoodIn wsX0_howMany (wsV RX0 28 RX0 yX0_ringOf wsX0_ringOf) := goodIn_app (goodIn_of _ (by decide +kernel)) ggX0_howMany_X0_ringOf
theorem dX0_howMany_0 : decode cX0_howMany 0 = .ok (.iconst 0, 1) := by decide +kernel
theorem dX0_howMany_1 : decode cX0_howMany 1 = .ok (.istore_n 1, 1) := by decide +kernel
theorem dX0_howMany_2 : decode cX0_howMany 2 = .ok (.aload_n 0, 1) := by decide +kernel
theorem dX0_howMany_3 : decode cX0_howMany 3 = .ok (.getfield 19, 3) := by decide +kernel
theorem dX0_howMany_6 : decode cX0_howMany 6 = .ok (.istore_n 2, 1) := by decide +kernel
theorem dX0_howMany_7 : decode cX0_howMany 7 = .ok (.iconst 0, 1) := by decide +kernel
theorem dX0_howMany_8 : decode cX0_howMany 8 = .ok (.istore_n 3, 1) := by decide +kernel
theorem dX0_howMany_9 : decode cX0_howMany 9 = .ok (.iload_n 3, 1) := by decide +kernel
theorem dX0_howMany_10 : decode cX0_howMany 10 = .ok (.aload_n 0, 1) := by decide +kernel
theorem dX0_howMany_11 : decode cX0_howMany 11 = .ok (.getfield 9, 3) := by decide +kernel
theorem dX0_howMany_14 : decode cX0_howMany 14 = .ok (.if_icmp .ge 30, 3) := by decide +kernel
theorem dX0_howMany_17 : decode cX0_howMany 17 = .ok (.iload_n 2, 1) := by decide +kernel
theorem dX0_howMany_18 : decode cX0_howMany 18 = .ok (.iload_n 3, 1) := by decide +kernel
theorem dX0_howMany_19 : decode cX0_howMany 19 = .ok (.ishr, 1) := by decide +kernel
theorem dX0_howMany_20 : decode cX0_howMany 20 = .ok (.iconst 1, 1) := by decide +kernel
theorem dX0_howMany_21 : decode cX0_howMany 21 = .ok (.iand, 1) := by decide +kernel
theorem dX0_howMany_22 : decode cX0_howMany 22 = .ok (.ifCond .eq 16, 3) := by decide +kernel
theorem dX0_howMany_25 : decode cX0_howMany 25 = .ok (.iload_n 2, 1) := by decide +kernel
theorem dX0_howMany_26 : decode cX0_howMany 26 = .ok (.aload_n 0, 1) := by decide +kernel
theorem dX0_howMany_27 : decode cX0_howMany 27 = .ok (.iload_n 3, 1) := by decide +kernel
theorem dX0_howMany_28 : decode cX0_howMany 28 = .ok (.invokevirtual 28, 3) := by decide +kernel
theorem dX0_howMany_31 : decode cX0_howMany 31 = .ok (.iconst (-1), 1) := by decide +kernel
theorem dX0_howMany_32 : decode cX0_howMany 32 = .ok (.ixor, 1) := by decide +kernel
theorem dX0_howMany_33 : decode cX0_howMany 33 = .ok (.iand, 1) := by decide +kernel
theorem dX0_howMany_34 : decode cX0_howMany 34 = .ok (.istore_n 2, 1) := by decide +kernel
theorem dX0_howMany_35 : decode cX0_howMany 35 = .ok (.iinc 1 1, 3) := by decide +kernel
theorem dX0_howMany_38 : decode cX0_howMany 38 = .ok (.iinc 3 1, 3) := by decide +kernel
theorem dX0_howMany_41 : decode cX0_howMany 41 = .ok (.goto (-32), 3) := by decide +kernel
theorem dX0_howMany_44 : decode cX0_howMany 44 = .ok (.iload_n 1, 1) := by decide +kernel
theorem dX0_howMany_45 : decode cX0_howMany 45 = .ok (.ireturn, 1) := by decide +kernel
set_option maxRecDepth 20000 in
theorem ggX0_numbered_X0_ringOf : GoodIn wsX0_numbered wsX0_ringOf := goodIn_r _ [7, 2, 8, 9, 10, 11] (by decide +kernel) (by decide +kernel)
set_option maxRecDepth 20000 in
theorem gX0_numbered_X0_ringOf : GoodIn wsX0_numbered (wsV RX0 28 RX0 yX0_ringOf wsX0_ringOf) := goodIn_app (goodIn_of _ (by decide +kernel)) ggX0_numbered_X0_ringOf
theorem dX0_numbered_0 : decode cX0_numbered 0 = .ok (.iconst 0, 1) := by decide +kernel
theorem dX0_numbered_1 : decode cX0_numbered 1 = .ok (.istore_n 2, 1) := by decide +kernel
theorem dX0_numbered_2 : decode cX0_numbered 2 = .ok (.aload_n 0, 1) := by decide +kernel
theorem dX0_numbered_3 : decode cX0_numbered 3 = .ok (.getfield 19, 3) := by decide +kernel
theorem dX0_numbered_6 : decode cX0_numbered 6 = .ok (.istore_n 3, 1) := by decide +kernel
theorem dX0_numbered_7 : decode cX0_numbered 7 = .ok (.iconst 0, 1) := by decide +kernel
theorem dX0_numbered_8 : decode cX0_numbered 8 = .ok (.istore 4, 2) := by decide +kernel
theorem dX0_numbered_10 : decode cX0_numbered 10 = .ok (.iload 4, 2) := by decide +kernel
theorem dX0_numbered_12 : decode cX0_numbered 12 = .ok (.aload_n 0, 1) := by decide +kernel
theorem dX0_numbered_13 : decode cX0_numbered 13 = .ok (.getfield 9, 3) := by decide +kernel
theorem dX0_numbered_16 : decode cX0_numbered 16 = .ok (.if_icmp .ge 44, 3) := by decide +kernel
theorem dX0_numbered_19 : decode cX0_numbered 19 = .ok (.iload_n 3, 1) := by decide +kernel
theorem dX0_numbered_20 : decode cX0_numbered 20 = .ok (.iload 4, 2) := by decide +kernel
theorem dX0_numbered_22 : decode cX0_numbered 22 = .ok (.ishr, 1) := by decide +kernel
theorem dX0_numbered_23 : decode cX0_numbered 23 = .ok (.iconst 1, 1) := by decide +kernel
theorem dX0_numbered_24 : decode cX0_numbered 24 = .ok (.iand, 1) := by decide +kernel
theorem dX0_numbered_25 : decode cX0_numbered 25 = .ok (.ifCond .eq 29, 3) := by decide +kernel
theorem dX0_numbered_28 : decode cX0_numbered 28 = .ok (.aload_n 0, 1) := by decide +kernel
theorem dX0_numbered_29 : decode cX0_numbered 29 = .ok (.iload 4, 2) := by decide +kernel
theorem dX0_numbered_31 : decode cX0_numbered 31 = .ok (.invokevirtual 28, 3) := by decide +kernel
theorem dX0_numbered_34 : decode cX0_numbered 34 = .ok (.istore 5, 2) := by decide +kernel
theorem dX0_numbered_36 : decode cX0_numbered 36 = .ok (.iload_n 2, 1) := by decide +kernel
theorem dX0_numbered_37 : decode cX0_numbered 37 = .ok (.iload_n 1, 1) := by decide +kernel
theorem dX0_numbered_38 : decode cX0_numbered 38 = .ok (.if_icmp .ne 6, 3) := by decide +kernel
theorem dX0_numbered_41 : decode cX0_numbered 41 = .ok (.iload 5, 2) := by decide +kernel
theorem dX0_numbered_43 : decode cX0_numbered 43 = .ok (.ireturn, 1) := by decide +kernel
theorem dX0_numbered_44 : decode cX0_numbered 44 = .ok (.iload_n 3, 1) := by decide +kernel
theorem dX0_numbered_45 : decode cX0_numbered 45 = .ok (.iload 5, 2) := by decide +kernel
theorem dX0_numbered_47 : decode cX0_numbered 47 = .ok (.iconst (-1), 1) := by decide +kernel
theorem dX0_numbered_48 : decode cX0_numbered 48 = .ok (.ixor, 1) := by decide +kernel
theorem dX0_numbered_49 : decode cX0_numbered 49 = .ok (.iand, 1) := by decide +kernel
theorem dX0_numbered_50 : decode cX0_numbered 50 = .ok (.istore_n 3, 1) := by decide +kernel
theorem dX0_numbered_51 : decode cX0_numbered 51 = .ok (.iinc 2 1, 3) := by decide +kernel
theorem dX0_numbered_54 : decode cX0_numbered 54 = .ok (.iinc 4 1, 3) := by decide +kernel
theorem dX0_numbered_57 : decode cX0_numbered 57 = .ok (.goto (-47), 3) := by decide +kernel
theorem dX0_numbered_60 : decode cX0_numbered 60 = .ok (.bipush (-6), 2) := by decide +kernel
theorem dX0_numbered_62 : decode cX0_numbered 62 = .ok (.ireturn, 1) := by decide +kernel
theorem dX0_before_0 : decode cX0_before 0 = .ok (.iconst 0, 1) := by decide +kernel
theorem dX0_before_1 : decode cX0_before 1 = .ok (.istore_n 1, 1) := by decide +kernel
theorem dX0_before_2 : decode cX0_before 2 = .ok (.iconst 0, 1) := by decide +kernel
theorem dX0_before_3 : decode cX0_before 3 = .ok (.istore_n 2, 1) := by decide +kernel
theorem dX0_before_4 : decode cX0_before 4 = .ok (.iload_n 2, 1) := by decide +kernel
theorem dX0_before_5 : decode cX0_before 5 = .ok (.aload_n 0, 1) := by decide +kernel
theorem dX0_before_6 : decode cX0_before 6 = .ok (.getfield 9, 3) := by decide +kernel
theorem dX0_before_9 : decode cX0_before 9 = .ok (.if_icmp .ge 29, 3) := by decide +kernel
theorem dX0_before_12 : decode cX0_before 12 = .ok (.aload_n 0, 1) := by decide +kernel
theorem dX0_before_13 : decode cX0_before 13 = .ok (.getfield 19, 3) := by decide +kernel
theorem dX0_before_16 : decode cX0_before 16 = .ok (.iload_n 2, 1) := by decide +kernel
theorem dX0_before_17 : decode cX0_before 17 = .ok (.ishr, 1) := by decide +kernel
theorem dX0_before_18 : decode cX0_before 18 = .ok (.iconst 1, 1) := by decide +kernel
theorem dX0_before_19 : decode cX0_before 19 = .ok (.iand, 1) := by decide +kernel
theorem dX0_before_20 : decode cX0_before 20 = .ok (.ifCond .eq 12, 3) := by decide +kernel
theorem dX0_before_23 : decode cX0_before 23 = .ok (.iload_n 1, 1) := by decide +kernel
theorem dX0_before_24 : decode cX0_before 24 = .ok (.aload_n 0, 1) := by decide +kernel
theorem dX0_before_25 : decode cX0_before 25 = .ok (.getfield 15, 3) := by decide +kernel
theorem dX0_before_28 : decode cX0_before 28 = .ok (.iload_n 2, 1) := by decide +kernel
theorem dX0_before_29 : decode cX0_before 29 = .ok (.iaload, 1) := by decide +kernel
theorem dX0_before_30 : decode cX0_before 30 = .ok (.ior, 1) := by decide +kernel
theorem dX0_before_31 : decode cX0_before 31 = .ok (.istore_n 1, 1) := by decide +kernel
theorem dX0_before_32 : decode cX0_before 32 = .ok (.iinc 2 1, 3) := by decide +kernel
theorem dX0_before_35 : decode cX0_before 35 = .ok (.goto (-31), 3) := by decide +kernel
theorem dX0_before_38 : decode cX0_before 38 = .ok (.iload_n 1, 1) := by decide +kernel
theorem dX0_before_39 : decode cX0_before 39 = .ok (.aload_n 0, 1) := by decide +kernel
theorem dX0_before_40 : decode cX0_before 40 = .ok (.getfield 19, 3) := by decide +kernel
theorem dX0_before_43 : decode cX0_before 43 = .ok (.iconst (-1), 1) := by decide +kernel
theorem dX0_before_44 : decode cX0_before 44 = .ok (.ixor, 1) := by decide +kernel
theorem dX0_before_45 : decode cX0_before 45 = .ok (.iand, 1) := by decide +kernel
theorem dX0_before_46 : decode cX0_before 46 = .ok (.ireturn, 1) := by decide +kernel
theorem dX0_behind_0 : decode cX0_behind 0 = .ok (.iconst 0, 1) := by decide +kernel
theorem dX0_behind_1 : decode cX0_behind 1 = .ok (.istore_n 1, 1) := by decide +kernel
theorem dX0_behind_2 : decode cX0_behind 2 = .ok (.iconst 0, 1) := by decide +kernel
theorem dX0_behind_3 : decode cX0_behind 3 = .ok (.istore_n 2, 1) := by decide +kernel
theorem dX0_behind_4 : decode cX0_behind 4 = .ok (.iload_n 2, 1) := by decide +kernel
theorem dX0_behind_5 : decode cX0_behind 5 = .ok (.aload_n 0, 1) := by decide +kernel
theorem dX0_behind_6 : decode cX0_behind 6 = .ok (.getfield 9, 3) := by decide +kernel
theorem dX0_behind_9 : decode cX0_behind 9 = .ok (.if_icmp .ge 29, 3) := by decide +kernel
theorem dX0_behind_12 : decode cX0_behind 12 = .ok (.aload_n 0, 1) := by decide +kernel
theorem dX0_behind_13 : decode cX0_behind 13 = .ok (.getfield 15, 3) := by decide +kernel
theorem dX0_behind_16 : decode cX0_behind 16 = .ok (.iload_n 2, 1) := by decide +kernel
theorem dX0_behind_17 : decode cX0_behind 17 = .ok (.iaload, 1) := by decide +kernel
theorem dX0_behind_18 : decode cX0_behind 18 = .ok (.aload_n 0, 1) := by decide +kernel
theorem dX0_behind_19 : decode cX0_behind 19 = .ok (.getfield 19, 3) := by decide +kernel
theorem dX0_behind_22 : decode cX0_behind 22 = .ok (.iand, 1) := by decide +kernel
theorem dX0_behind_23 : decode cX0_behind 23 = .ok (.ifCond .eq 9, 3) := by decide +kernel
theorem dX0_behind_26 : decode cX0_behind 26 = .ok (.iload_n 1, 1) := by decide +kernel
theorem dX0_behind_27 : decode cX0_behind 27 = .ok (.iconst 1, 1) := by decide +kernel
theorem dX0_behind_28 : decode cX0_behind 28 = .ok (.iload_n 2, 1) := by decide +kernel
theorem dX0_behind_29 : decode cX0_behind 29 = .ok (.ishl, 1) := by decide +kernel
theorem dX0_behind_30 : decode cX0_behind 30 = .ok (.ior, 1) := by decide +kernel
theorem dX0_behind_31 : decode cX0_behind 31 = .ok (.istore_n 1, 1) := by decide +kernel
theorem dX0_behind_32 : decode cX0_behind 32 = .ok (.iinc 2 1, 3) := by decide +kernel
theorem dX0_behind_35 : decode cX0_behind 35 = .ok (.goto (-31), 3) := by decide +kernel
theorem dX0_behind_38 : decode cX0_behind 38 = .ok (.iload_n 1, 1) := by decide +kernel
theorem dX0_behind_39 : decode cX0_behind 39 = .ok (.aload_n 0, 1) := by decide +kernel
theorem dX0_behind_40 : decode cX0_behind 40 = .ok (.getfield 19, 3) := by decide +kernel
theorem dX0_behind_43 : decode cX0_behind 43 = .ok (.iconst (-1), 1) := by decide +kernel
theorem dX0_behind_44 : decode cX0_behind 44 = .ok (.ixor, 1) := by decide +kernel
theorem dX0_behind_45 : decode cX0_behind 45 = .ok (.iand, 1) := by decide +kernel
theorem dX0_behind_46 : decode cX0_behind 46 = .ok (.ireturn, 1) := by decide +kernel
theorem dX1_init_0 : decode cX1_init 0 = .ok (.aload_n 0, 1) := by decide +kernel
theorem dX1_init_1 : decode cX1_init 1 = .ok (.invokespecial 3, 3) := by decide +kernel
theorem dX1_init_4 : decode cX1_init 4 = .ok (.aload_n 0, 1) := by decide +kernel
theorem dX1_init_5 : decode cX1_init 5 = .ok (.iconst 0, 1) := by decide +kernel
theorem dX1_init_6 : decode cX1_init 6 = .ok (.putfield 9, 3) := by decide +kernel
theorem dX1_init_9 : decode cX1_init 9 = .ok (.aload_n 0, 1) := by decide +kernel
theorem dX1_init_10 : decode cX1_init 10 = .ok (.iconst 0, 1) := by decide +kernel
theorem dX1_init_11 : decode cX1_init 11 = .ok (.putfield 15, 3) := by decide +kernel
theorem dX1_init_14 : decode cX1_init 14 = .ok (.aload_n 0, 1) := by decide +kernel
theorem dX1_init_15 : decode cX1_init 15 = .ok (.sipush 256, 3) := by decide +kernel
theorem dX1_init_18 : decode cX1_init 18 = .ok (.newarray .long, 2) := by decide +kernel
theorem dX1_init_20 : decode cX1_init 20 = .ok (.putfield 18, 3) := by decide +kernel
theorem dX1_init_23 : decode cX1_init 23 = .ok (.return_, 1) := by decide +kernel
set_option maxRecDepth 20000 in
theorem ggX1_find_X3_all : GoodIn wsX1_find wsX3_all := goodIn_r _ [6, 7, 33, 34, 35, 36, 37] (by decide +kernel) (by decide +kernel)
set_option maxRecDepth 20000 in
theorem gX1_find_X3_all_n22 : GoodIn wsX1_find (wsX3_all) := ggX1_find_X3_all
set_option maxRecDepth 20000 in
theorem ggX1_find_J6_bitCount_0f7a4 : GoodIn wsX1_find wsJ6_bitCount_0f7a4 := goodIn_r _ [11, 12, 13, 14] (by decide +kernel) (by decide +kernel)
set_option maxRecDepth 20000 in
theorem gX1_find_J6_bitCount_0f7a4 : GoodIn wsX1_find (va_wsS RX1 36 yJ6_bitCount_0f7a4 wsJ6_bitCount_0f7a4) := goodIn_app (goodIn_of _ (by decide +kernel)) ggX1_find_J6_bitCount_0f7a4
set_option maxRecDepth 20000 in
theorem ggX1_find_X1_isFreeWithoutOne : GoodIn wsX1_find wsX1_isFreeWithoutOne := goodIn_r _ [19, 20, 21, 22, 18, 23, 24, 33, 34, 35, 36, 37, 38, 39, 40] (by decide +kernel) (by decide +kernel)
set_option maxRecDepth 20000 in
theorem gX1_find_X1_isFreeWithoutOne : GoodIn wsX1_find (wsV RX1 42 RX1 yX1_isFreeWithoutOne wsX1_isFreeWithoutOne) := goodIn_app (goodIn_of _ (by decide +kernel)) ggX1_find_X1_isFreeWithoutOne
set_option maxRecDepth 20000 in
theorem ggX1_find_X1_mark : GoodIn wsX1_find wsX1_mark := goodIn_r _ [28, 24, 29, 38, 39, 40] (by decide +kernel) (by decide +kernel)
set_option maxRecDepth 20000 in
theorem gX1_find_X1_mark : GoodIn wsX1_find (wsV RX1 46 RX1 yX1_mark wsX1_mark) := goodIn_app (goodIn_of _ (by decide +kernel)) ggX1_find_X1_mark
set_option maxRecDepth 20000 in
theorem ggX1_find_X1_nextSubset : GoodIn wsX1_find wsX1_nextSubset := goodIn_r _ [32] (by decide +kernel) (by decide +kernel)
set_option maxRecDepth 20000 in
theorem gX1_find_X1_nextSubset : GoodIn wsX1_find (va_wsS RX1 50 yX1_nextSubset wsX1_nextSubset) := goodIn_app (goodIn_of _ (by decide +kernel)) ggX1_find_X1_nextSubset
theorem dX1_find_0 : decode cX1_find 0 = .ok (.aload_n 0, 1) := by decide +kernel
theorem dX1_find_1 : decode cX1_find 1 = .ok (.aload_n 1, 1) := by decide +kernel
theorem dX1_find_2 : decode cX1_find 2 = .ok (.invokevirtual 22, 3) := by decide +kernel
theorem dX1_find_5 : decode cX1_find 5 = .ok (.aload_n 1, 1) := by decide +kernel
theorem dX1_find_6 : decode cX1_find 6 = .ok (.getfield 28, 3) := by decide +kernel
theorem dX1_find_9 : decode cX1_find 9 = .ok (.iconst (-1), 1) := by decide +kernel
theorem dX1_find_10 : decode cX1_find 10 = .ok (.ixor, 1) := by decide +kernel
theorem dX1_find_11 : decode cX1_find 11 = .ok (.iand, 1) := by decide +kernel
theorem dX1_find_12 : decode cX1_find 12 = .ok (.putfield 9, 3) := by decide +kernel
theorem dX1_find_15 : decode cX1_find 15 = .ok (.aload_n 0, 1) := by decide +kernel
theorem dX1_find_16 : decode cX1_find 16 = .ok (.aload_n 2, 1) := by decide +kernel
theorem dX1_find_17 : decode cX1_find 17 = .ok (.getfield 31, 3) := by decide +kernel
theorem dX1_find_20 : decode cX1_find 20 = .ok (.putfield 15, 3) := by decide +kernel
theorem dX1_find_23 : decode cX1_find 23 = .ok (.iconst 1, 1) := by decide +kernel
theorem dX1_find_24 : decode cX1_find 24 = .ok (.aload_n 0, 1) := by decide +kernel
theorem dX1_find_25 : decode cX1_find 25 = .ok (.getfield 15, 3) := by decide +kernel
theorem dX1_find_28 : decode cX1_find 28 = .ok (.invokestatic 36, 3) := by decide +kernel
theorem dX1_find_31 : decode cX1_find 31 = .ok (.ishl, 1) := by decide +kernel
theorem dX1_find_32 : decode cX1_find 32 = .ok (.istore_n 3, 1) := by decide +kernel
theorem dX1_find_33 : decode cX1_find 33 = .ok (.iconst 0, 1) := by decide +kernel
theorem dX1_find_34 : decode cX1_find 34 = .ok (.istore 4, 2) := by decide +kernel
theorem dX1_find_36 : decode cX1_find 36 = .ok (.iconst 0, 1) := by decide +kernel
theorem dX1_find_37 : decode cX1_find 37 = .ok (.istore 5, 2) := by decide +kernel
theorem dX1_find_39 : decode cX1_find 39 = .ok (.iload 5, 2) := by decide +kernel
theorem dX1_find_41 : decode cX1_find 41 = .ok (.iload_n 3, 1) := by decide +kernel
theorem dX1_find_42 : decode cX1_find 42 = .ok (.if_icmp .ge 46, 3) := by decide +kernel
theorem dX1_find_45 : decode cX1_find 45 = .ok (.aload_n 0, 1) := by decide +kernel
theorem dX1_find_46 : decode cX1_find 46 = .ok (.iload 4, 2) := by decide +kernel
theorem dX1_find_48 : decode cX1_find 48 = .ok (.iload 4, 2) := by decide +kernel
theorem dX1_find_50 : decode cX1_find 50 = .ok (.ifCond .eq 13, 3) := by decide +kernel
theorem dX1_find_53 : decode cX1_find 53 = .ok (.aload_n 0, 1) := by decide +kernel
theorem dX1_find_54 : decode cX1_find 54 = .ok (.aload_n 1, 1) := by decide +kernel
theorem dX1_find_55 : decode cX1_find 55 = .ok (.iload 4, 2) := by decide +kernel
theorem dX1_find_57 : decode cX1_find 57 = .ok (.invokevirtual 42, 3) := by decide +kernel
theorem dX1_find_60 : decode cX1_find 60 = .ok (.ifCond .eq 7, 3) := by decide +kernel
theorem dX1_find_63 : decode cX1_find 63 = .ok (.iconst 1, 1) := by decide +kernel
theorem dX1_find_64 : decode cX1_find 64 = .ok (.goto 4, 3) := by decide +kernel
theorem dX1_find_67 : decode cX1_find 67 = .ok (.iconst 0, 1) := by decide +kernel
theorem dX1_find_68 : decode cX1_find 68 = .ok (.invokevirtual 46, 3) := by decide +kernel
theorem dX1_find_71 : decode cX1_find 71 = .ok (.iload 4, 2) := by decide +kernel
theorem dX1_find_73 : decode cX1_find 73 = .ok (.aload_n 0, 1) := by decide +kernel
theorem dX1_find_74 : decode cX1_find 74 = .ok (.getfield 15, 3) := by decide +kernel
theorem dX1_find_77 : decode cX1_find 77 = .ok (.invokestatic 50, 3) := by decide +kernel
theorem dX1_find_80 : decode cX1_find 80 = .ok (.istore 4, 2) := by decide +kernel
theorem dX1_find_82 : decode cX1_find 82 = .ok (.iinc 5 1, 3) := by decide +kernel
theorem dX1_find_85 : decode cX1_find 85 = .ok (.goto (-46), 3) := by decide +kernel
theorem dX1_find_88 : decode cX1_find 88 = .ok (.return_, 1) := by decide +kernel
set_option maxRecDepth 20000 in
theorem ggX1_isFreeWithoutOne_X1_isFree : GoodIn wsX1_isFreeWithoutOne wsX1_isFree := goodIn_r _ [5, 6, 12, 13, 14] (by decide +kernel) (by decide +kernel)
set_option maxRecDepth 20000 in
theorem gX1_isFreeWithoutOne_X1_isFree : GoodIn wsX1_isFreeWithoutOne (wsV RX1 61 RX1 yX1_isFree wsX1_isFree) := goodIn_app (goodIn_of _ (by decide +kernel)) ggX1_isFreeWithoutOne_X1_isFree
theorem dX1_isFreeWithoutOne_0 : decode cX1_isFreeWithoutOne 0 = .ok (.iconst 0, 1) := by decide +kernel
theorem dX1_isFreeWithoutOne_1 : decode cX1_isFreeWithoutOne 1 = .ok (.istore_n 3, 1) := by decide +kernel
theorem dX1_isFreeWithoutOne_2 : decode cX1_isFreeWithoutOne 2 = .ok (.iload_n 3, 1) := by decide +kernel
theorem dX1_isFreeWithoutOne_3 : decode cX1_isFreeWithoutOne 3 = .ok (.aload_n 1, 1) := by decide +kernel
theorem dX1_isFreeWithoutOne_4 : decode cX1_isFreeWithoutOne 4 = .ok (.getfield 54, 3) := by decide +kernel
theorem dX1_isFreeWithoutOne_7 : decode cX1_isFreeWithoutOne 7 = .ok (.if_icmp .ge 40, 3) := by decide +kernel
theorem dX1_isFreeWithoutOne_10 : decode cX1_isFreeWithoutOne 10 = .ok (.iload_n 2, 1) := by decide +kernel
theorem dX1_isFreeWithoutOne_11 : decode cX1_isFreeWithoutOne 11 = .ok (.iload_n 3, 1) := by decide +kernel
theorem dX1_isFreeWithoutOne_12 : decode cX1_isFreeWithoutOne 12 = .ok (.ishr, 1) := by decide +kernel
theorem dX1_isFreeWithoutOne_13 : decode cX1_isFreeWithoutOne 13 = .ok (.iconst 1, 1) := by decide +kernel
theorem dX1_isFreeWithoutOne_14 : decode cX1_isFreeWithoutOne 14 = .ok (.iand, 1) := by decide +kernel
theorem dX1_isFreeWithoutOne_15 : decode cX1_isFreeWithoutOne 15 = .ok (.ifCond .eq 26, 3) := by decide +kernel
theorem dX1_isFreeWithoutOne_18 : decode cX1_isFreeWithoutOne 18 = .ok (.aload_n 1, 1) := by decide +kernel
theorem dX1_isFreeWithoutOne_19 : decode cX1_isFreeWithoutOne 19 = .ok (.getfield 57, 3) := by decide +kernel
theorem dX1_isFreeWithoutOne_22 : decode cX1_isFreeWithoutOne 22 = .ok (.iload_n 3, 1) := by decide +kernel
theorem dX1_isFreeWithoutOne_23 : decode cX1_isFreeWithoutOne 23 = .ok (.iaload, 1) := by decide +kernel
theorem dX1_isFreeWithoutOne_24 : decode cX1_isFreeWithoutOne 24 = .ok (.iload_n 2, 1) := by decide +kernel
theorem dX1_isFreeWithoutOne_25 : decode cX1_isFreeWithoutOne 25 = .ok (.iand, 1) := by decide +kernel
theorem dX1_isFreeWithoutOne_26 : decode cX1_isFreeWithoutOne 26 = .ok (.ifCond .ne 15, 3) := by decide +kernel
theorem dX1_isFreeWithoutOne_29 : decode cX1_isFreeWithoutOne 29 = .ok (.aload_n 0, 1) := by decide +kernel
theorem dX1_isFreeWithoutOne_30 : decode cX1_isFreeWithoutOne 30 = .ok (.iload_n 2, 1) := by decide +kernel
theorem dX1_isFreeWithoutOne_31 : decode cX1_isFreeWithoutOne 31 = .ok (.iconst 1, 1) := by decide +kernel
theorem dX1_isFreeWithoutOne_32 : decode cX1_isFreeWithoutOne 32 = .ok (.iload_n 3, 1) := by decide +kernel
theorem dX1_isFreeWithoutOne_33 : decode cX1_isFreeWithoutOne 33 = .ok (.ishl, 1) := by decide +kernel
theorem dX1_isFreeWithoutOne_34 : decode cX1_isFreeWithoutOne 34 = .ok (.iconst (-1), 1) := by decide +kernel
theorem dX1_isFreeWithoutOne_35 : decode cX1_isFreeWithoutOne 35 = .ok (.ixor, 1) := by decide +kernel
theorem dX1_isFreeWithoutOne_36 : decode cX1_isFreeWithoutOne 36 = .ok (.iand, 1) := by decide +kernel
theorem dX1_isFreeWithoutOne_37 : decode cX1_isFreeWithoutOne 37 = .ok (.invokevirtual 61, 3) := by decide +kernel
theorem dX1_isFreeWithoutOne_40 : decode cX1_isFreeWithoutOne 40 = .ok (.ireturn, 1) := by decide +kernel
theorem dX1_isFreeWithoutOne_41 : decode cX1_isFreeWithoutOne 41 = .ok (.iinc 3 1, 3) := by decide +kernel
theorem dX1_isFreeWithoutOne_44 : decode cX1_isFreeWithoutOne 44 = .ok (.goto (-42), 3) := by decide +kernel
theorem dX1_isFreeWithoutOne_47 : decode cX1_isFreeWithoutOne 47 = .ok (.iconst 0, 1) := by decide +kernel
theorem dX1_isFreeWithoutOne_48 : decode cX1_isFreeWithoutOne 48 = .ok (.ireturn, 1) := by decide +kernel
theorem dX1_nextSubset_0 : decode cX1_nextSubset 0 = .ok (.iload_n 0, 1) := by decide +kernel
theorem dX1_nextSubset_1 : decode cX1_nextSubset 1 = .ok (.iload_n 1, 1) := by decide +kernel
theorem dX1_nextSubset_2 : decode cX1_nextSubset 2 = .ok (.isub, 1) := by decide +kernel
theorem dX1_nextSubset_3 : decode cX1_nextSubset 3 = .ok (.iload_n 1, 1) := by decide +kernel
theorem dX1_nextSubset_4 : decode cX1_nextSubset 4 = .ok (.iand, 1) := by decide +kernel
theorem dX1_nextSubset_5 : decode cX1_nextSubset 5 = .ok (.ireturn, 1) := by decide +kernel
theorem dX1_mark_0 : decode cX1_mark 0 = .ok (.iload_n 1, 1) := by decide +kernel
theorem dX1_mark_1 : decode cX1_mark 1 = .ok (.bipush 64, 2) := by decide +kernel
theorem dX1_mark_3 : decode cX1_mark 3 = .ok (.idiv, 1) := by decide +kernel
theorem dX1_mark_4 : decode cX1_mark 4 = .ok (.istore_n 3, 1) := by decide +kernel
theorem dX1_mark_5 : decode cX1_mark 5 = .ok (.lconst 1, 1) := by decide +kernel
theorem dX1_mark_6 : decode cX1_mark 6 = .ok (.iload_n 1, 1) := by decide +kernel
theorem dX1_mark_7 : decode cX1_mark 7 = .ok (.bipush 64, 2) := by decide +kernel
theorem dX1_mark_9 : decode cX1_mark 9 = .ok (.irem, 1) := by decide +kernel
theorem dX1_mark_10 : decode cX1_mark 10 = .ok (.lshl, 1) := by decide +kernel
theorem dX1_mark_11 : decode cX1_mark 11 = .ok (.lstore 4, 2) := by decide +kernel
theorem dX1_mark_13 : decode cX1_mark 13 = .ok (.iload_n 3, 1) := by decide +kernel
theorem dX1_mark_14 : decode cX1_mark 14 = .ok (.ifCond .lt 47, 3) := by decide +kernel
theorem dX1_mark_17 : decode cX1_mark 17 = .ok (.iload_n 3, 1) := by decide +kernel
theorem dX1_mark_18 : decode cX1_mark 18 = .ok (.aload_n 0, 1) := by decide +kernel
theorem dX1_mark_19 : decode cX1_mark 19 = .ok (.getfield 18, 3) := by decide +kernel
theorem dX1_mark_22 : decode cX1_mark 22 = .ok (.arraylength, 1) := by decide +kernel
theorem dX1_mark_23 : decode cX1_mark 23 = .ok (.if_icmp .ge 38, 3) := by decide +kernel
theorem dX1_mark_26 : decode cX1_mark 26 = .ok (.aload_n 0, 1) := by decide +kernel
theorem dX1_mark_27 : decode cX1_mark 27 = .ok (.getfield 18, 3) := by decide +kernel
theorem dX1_mark_30 : decode cX1_mark 30 = .ok (.iload_n 3, 1) := by decide +kernel
theorem dX1_mark_31 : decode cX1_mark 31 = .ok (.iload_n 2, 1) := by decide +kernel
theorem dX1_mark_32 : decode cX1_mark 32 = .ok (.ifCond .eq 15, 3) := by decide +kernel
theorem dX1_mark_35 : decode cX1_mark 35 = .ok (.aload_n 0, 1) := by decide +kernel
theorem dX1_mark_36 : decode cX1_mark 36 = .ok (.getfield 18, 3) := by decide +kernel
theorem dX1_mark_39 : decode cX1_mark 39 = .ok (.iload_n 3, 1) := by decide +kernel
theorem dX1_mark_40 : decode cX1_mark 40 = .ok (.laload, 1) := by decide +kernel
theorem dX1_mark_41 : decode cX1_mark 41 = .ok (.lload 4, 2) := by decide +kernel
theorem dX1_mark_43 : decode cX1_mark 43 = .ok (.lor, 1) := by decide +kernel
theorem dX1_mark_44 : decode cX1_mark 44 = .ok (.goto 16, 3) := by decide +kernel
theorem dX1_mark_47 : decode cX1_mark 47 = .ok (.aload_n 0, 1) := by decide +kernel
theorem dX1_mark_48 : decode cX1_mark 48 = .ok (.getfield 18, 3) := by decide +kernel
theorem dX1_mark_51 : decode cX1_mark 51 = .ok (.iload_n 3, 1) := by decide +kernel
theorem dX1_mark_52 : decode cX1_mark 52 = .ok (.laload, 1) := by decide +kernel
theorem dX1_mark_53 : decode cX1_mark 53 = .ok (.lload 4, 2) := by decide +kernel
theorem dX1_mark_55 : decode cX1_mark 55 = .ok (.ldc2_w 65, 3) := by decide +kernel
theorem dX1_mark_58 : decode cX1_mark 58 = .ok (.lxor, 1) := by decide +kernel
theorem dX1_mark_59 : decode cX1_mark 59 = .ok (.land, 1) := by decide +kernel
theorem dX1_mark_60 : decode cX1_mark 60 = .ok (.lastore, 1) := by decide +kernel
theorem dX1_mark_61 : decode cX1_mark 61 = .ok (.return_, 1) := by decide +kernel
theorem dX1_isFree_0 : decode cX1_isFree 0 = .ok (.iload_n 1, 1) := by decide +kernel
theorem dX1_isFree_1 : decode cX1_isFree 1 = .ok (.bipush 64, 2) := by decide +kernel
theorem dX1_isFree_3 : decode cX1_isFree 3 = .ok (.idiv, 1) := by decide +kernel
theorem dX1_isFree_4 : decode cX1_isFree 4 = .ok (.istore_n 2, 1) := by decide +kernel
theorem dX1_isFree_5 : decode cX1_isFree 5 = .ok (.iload_n 2, 1) := by decide +kernel
theorem dX1_isFree_6 : decode cX1_isFree 6 = .ok (.ifCond .lt 34, 3) := by decide +kernel
theorem dX1_isFree_9 : decode cX1_isFree 9 = .ok (.iload_n 2, 1) := by decide +kernel
theorem dX1_isFree_10 : decode cX1_isFree 10 = .ok (.aload_n 0, 1) := by decide +kernel
theorem dX1_isFree_11 : decode cX1_isFree 11 = .ok (.getfield 18, 3) := by decide +kernel
theorem dX1_isFree_14 : decode cX1_isFree 14 = .ok (.arraylength, 1) := by decide +kernel
theorem dX1_isFree_15 : decode cX1_isFree 15 = .ok (.if_icmp .ge 25, 3) := by decide +kernel
theorem dX1_isFree_18 : decode cX1_isFree 18 = .ok (.aload_n 0, 1) := by decide +kernel
theorem dX1_isFree_19 : decode cX1_isFree 19 = .ok (.getfield 18, 3) := by decide +kernel
theorem dX1_isFree_22 : decode cX1_isFree 22 = .ok (.iload_n 2, 1) := by decide +kernel
theorem dX1_isFree_23 : decode cX1_isFree 23 = .ok (.laload, 1) := by decide +kernel
theorem dX1_isFree_24 : decode cX1_isFree 24 = .ok (.iload_n 1, 1) := by decide +kernel
theorem dX1_isFree_25 : decode cX1_isFree 25 = .ok (.bipush 64, 2) := by decide +kernel
theorem dX1_isFree_27 : decode cX1_isFree 27 = .ok (.irem, 1) := by decide +kernel
theorem dX1_isFree_28 : decode cX1_isFree 28 = .ok (.lshr, 1) := by decide +kernel
theorem dX1_isFree_29 : decode cX1_isFree 29 = .ok (.lconst 1, 1) := by decide +kernel
theorem dX1_isFree_30 : decode cX1_isFree 30 = .ok (.land, 1) := by decide +kernel
theorem dX1_isFree_31 : decode cX1_isFree 31 = .ok (.lconst 0, 1) := by decide +kernel
theorem dX1_isFree_32 : decode cX1_isFree 32 = .ok (.lcmp, 1) := by decide +kernel
theorem dX1_isFree_33 : decode cX1_isFree 33 = .ok (.ifCond .eq 7, 3) := by decide +kernel
theorem dX1_isFree_36 : decode cX1_isFree 36 = .ok (.iconst 1, 1) := by decide +kernel
theorem dX1_isFree_37 : decode cX1_isFree 37 = .ok (.goto 4, 3) := by decide +kernel
theorem dX1_isFree_40 : decode cX1_isFree 40 = .ok (.iconst 0, 1) := by decide +kernel
theorem dX1_isFree_41 : decode cX1_isFree 41 = .ok (.ireturn, 1) := by decide +kernel
set_option maxRecDepth 20000 in
theorem ggX1_cheapest_X3_costOf : GoodIn wsX1_cheapest wsX3_costOf := goodIn_r _ [6, 7, 8, 28, 29, 30, 31, 32] (by decide +kernel) (by decide +kernel)
set_option maxRecDepth 20000 in
theorem gX1_cheapest_X3_costOf_n67 : GoodIn wsX1_cheapest (wsX3_costOf) := ggX1_cheapest_X3_costOf
set_option maxRecDepth 20000 in
theorem ggX1_cheapest_J6_bitCount_0f7a4 : GoodIn wsX1_cheapest wsJ6_bitCount_0f7a4 := goodIn_r _ [12, 13, 14, 15] (by decide +kernel) (by decide +kernel)
set_option maxRecDepth 20000 in
theorem gX1_cheapest_J6_bitCount_0f7a4 : GoodIn wsX1_cheapest (va_wsS RX1 36 yJ6_bitCount_0f7a4 wsJ6_bitCount_0f7a4) := goodIn_app (goodIn_of _ (by decide +kernel)) ggX1_cheapest_J6_bitCount_0f7a4
set_option maxRecDepth 20000 in
theorem ggX1_cheapest_X1_isFree : GoodIn wsX1_cheapest wsX1_isFree := goodIn_r _ [20, 21, 25, 26, 27] (by decide +kernel) (by decide +kernel)
set_option maxRecDepth 20000 in
theorem gX1_cheapest_X1_isFree : GoodIn wsX1_cheapest (wsV RX1 61 RX1 yX1_isFree wsX1_isFree) := goodIn_app (goodIn_of _ (by decide +kernel)) ggX1_cheapest_X1_isFree
set_option maxRecDepth 20000 in
theorem ggX1_cheapest_X1_nextSubset : GoodIn wsX1_cheapest wsX1_nextSubset := goodIn_r _ [24] (by decide +kernel) (by decide +kernel)
set_option maxRecDepth 20000 in
theorem gX1_cheapest_X1_nextSubset : GoodIn wsX1_cheapest (va_wsS RX1 50 yX1_nextSubset wsX1_nextSubset) := goodIn_app (goodIn_of _ (by decide +kernel)) ggX1_cheapest_X1_nextSubset
theorem dX1_cheapest_0 : decode cX1_cheapest 0 = .ok (.aload_n 0, 1) := by decide +kernel
theorem dX1_cheapest_1 : decode cX1_cheapest 1 = .ok (.getfield 15, 3) := by decide +kernel
theorem dX1_cheapest_4 : decode cX1_cheapest 4 = .ok (.iload_n 2, 1) := by decide +kernel
theorem dX1_cheapest_5 : decode cX1_cheapest 5 = .ok (.iconst (-1), 1) := by decide +kernel
theorem dX1_cheapest_6 : decode cX1_cheapest 6 = .ok (.ixor, 1) := by decide +kernel
theorem dX1_cheapest_7 : decode cX1_cheapest 7 = .ok (.iand, 1) := by decide +kernel
theorem dX1_cheapest_8 : decode cX1_cheapest 8 = .ok (.istore_n 3, 1) := by decide +kernel
theorem dX1_cheapest_9 : decode cX1_cheapest 9 = .ok (.iload_n 3, 1) := by decide +kernel
theorem dX1_cheapest_10 : decode cX1_cheapest 10 = .ok (.istore 4, 2) := by decide +kernel
theorem dX1_cheapest_12 : decode cX1_cheapest 12 = .ok (.aload_n 1, 1) := by decide +kernel
theorem dX1_cheapest_13 : decode cX1_cheapest 13 = .ok (.iload 4, 2) := by decide +kernel
theorem dX1_cheapest_15 : decode cX1_cheapest 15 = .ok (.invokevirtual 67, 3) := by decide +kernel
theorem dX1_cheapest_18 : decode cX1_cheapest 18 = .ok (.istore 5, 2) := by decide +kernel
theorem dX1_cheapest_20 : decode cX1_cheapest 20 = .ok (.iconst 1, 1) := by decide +kernel
theorem dX1_cheapest_21 : decode cX1_cheapest 21 = .ok (.iload_n 3, 1) := by decide +kernel
theorem dX1_cheapest_22 : decode cX1_cheapest 22 = .ok (.invokestatic 36, 3) := by decide +kernel
theorem dX1_cheapest_25 : decode cX1_cheapest 25 = .ok (.ishl, 1) := by decide +kernel
theorem dX1_cheapest_26 : decode cX1_cheapest 26 = .ok (.istore 6, 2) := by decide +kernel
theorem dX1_cheapest_28 : decode cX1_cheapest 28 = .ok (.iconst 0, 1) := by decide +kernel
theorem dX1_cheapest_29 : decode cX1_cheapest 29 = .ok (.istore 7, 2) := by decide +kernel
theorem dX1_cheapest_31 : decode cX1_cheapest 31 = .ok (.iconst 0, 1) := by decide +kernel
theorem dX1_cheapest_32 : decode cX1_cheapest 32 = .ok (.istore 8, 2) := by decide +kernel
theorem dX1_cheapest_34 : decode cX1_cheapest 34 = .ok (.iload 8, 2) := by decide +kernel
theorem dX1_cheapest_36 : decode cX1_cheapest 36 = .ok (.iload 6, 2) := by decide +kernel
theorem dX1_cheapest_38 : decode cX1_cheapest 38 = .ok (.if_icmp .ge 85, 3) := by decide +kernel
theorem dX1_cheapest_41 : decode cX1_cheapest 41 = .ok (.aload_n 0, 1) := by decide +kernel
theorem dX1_cheapest_42 : decode cX1_cheapest 42 = .ok (.iload_n 3, 1) := by decide +kernel
theorem dX1_cheapest_43 : decode cX1_cheapest 43 = .ok (.iload 7, 2) := by decide +kernel
theorem dX1_cheapest_45 : decode cX1_cheapest 45 = .ok (.iconst (-1), 1) := by decide +kernel
theorem dX1_cheapest_46 : decode cX1_cheapest 46 = .ok (.ixor, 1) := by decide +kernel
theorem dX1_cheapest_47 : decode cX1_cheapest 47 = .ok (.iand, 1) := by decide +kernel
theorem dX1_cheapest_48 : decode cX1_cheapest 48 = .ok (.invokevirtual 61, 3) := by decide +kernel
theorem dX1_cheapest_51 : decode cX1_cheapest 51 = .ok (.ifCond .eq 58, 3) := by decide +kernel
theorem dX1_cheapest_54 : decode cX1_cheapest 54 = .ok (.aload_n 1, 1) := by decide +kernel
theorem dX1_cheapest_55 : decode cX1_cheapest 55 = .ok (.iload 7, 2) := by decide +kernel
theorem dX1_cheapest_57 : decode cX1_cheapest 57 = .ok (.invokevirtual 67, 3) := by decide +kernel
theorem dX1_cheapest_60 : decode cX1_cheapest 60 = .ok (.istore 9, 2) := by decide +kernel
theorem dX1_cheapest_62 : decode cX1_cheapest 62 = .ok (.iload 7, 2) := by decide +kernel
theorem dX1_cheapest_64 : decode cX1_cheapest 64 = .ok (.invokestatic 36, 3) := by decide +kernel
theorem dX1_cheapest_67 : decode cX1_cheapest 67 = .ok (.iload 4, 2) := by decide +kernel
theorem dX1_cheapest_69 : decode cX1_cheapest 69 = .ok (.invokestatic 36, 3) := by decide +kernel
theorem dX1_cheapest_72 : decode cX1_cheapest 72 = .ok (.if_icmp .ge 7, 3) := by decide +kernel
theorem dX1_cheapest_75 : decode cX1_cheapest 75 = .ok (.iconst 1, 1) := by decide +kernel
theorem dX1_cheapest_76 : decode cX1_cheapest 76 = .ok (.goto 4, 3) := by decide +kernel
theorem dX1_cheapest_79 : decode cX1_cheapest 79 = .ok (.iconst 0, 1) := by decide +kernel
theorem dX1_cheapest_80 : decode cX1_cheapest 80 = .ok (.istore 10, 2) := by decide +kernel
theorem dX1_cheapest_82 : decode cX1_cheapest 82 = .ok (.iload 9, 2) := by decide +kernel
theorem dX1_cheapest_84 : decode cX1_cheapest 84 = .ok (.iload 5, 2) := by decide +kernel
theorem dX1_cheapest_86 : decode cX1_cheapest 86 = .ok (.if_icmp .lt 15, 3) := by decide +kernel
theorem dX1_cheapest_89 : decode cX1_cheapest 89 = .ok (.iload 9, 2) := by decide +kernel
theorem dX1_cheapest_91 : decode cX1_cheapest 91 = .ok (.iload 5, 2) := by decide +kernel
theorem dX1_cheapest_93 : decode cX1_cheapest 93 = .ok (.if_icmp .ne 16, 3) := by decide +kernel
theorem dX1_cheapest_96 : decode cX1_cheapest 96 = .ok (.iload 10, 2) := by decide +kernel
theorem dX1_cheapest_98 : decode cX1_cheapest 98 = .ok (.ifCond .eq 11, 3) := by decide +kernel
theorem dX1_cheapest_101 : decode cX1_cheapest 101 = .ok (.iload 7, 2) := by decide +kernel
theorem dX1_cheapest_103 : decode cX1_cheapest 103 = .ok (.istore 4, 2) := by decide +kernel
theorem dX1_cheapest_105 : decode cX1_cheapest 105 = .ok (.iload 9, 2) := by decide +kernel
theorem dX1_cheapest_107 : decode cX1_cheapest 107 = .ok (.istore 5, 2) := by decide +kernel
theorem dX1_cheapest_109 : decode cX1_cheapest 109 = .ok (.iload 7, 2) := by decide +kernel
theorem dX1_cheapest_111 : decode cX1_cheapest 111 = .ok (.iload_n 3, 1) := by decide +kernel
theorem dX1_cheapest_112 : decode cX1_cheapest 112 = .ok (.invokestatic 50, 3) := by decide +kernel
theorem dX1_cheapest_115 : decode cX1_cheapest 115 = .ok (.istore 7, 2) := by decide +kernel
theorem dX1_cheapest_117 : decode cX1_cheapest 117 = .ok (.iinc 8 1, 3) := by decide +kernel
theorem dX1_cheapest_120 : decode cX1_cheapest 120 = .ok (.goto (-86), 3) := by decide +kernel
theorem dX1_cheapest_123 : decode cX1_cheapest 123 = .ok (.iload 4, 2) := by decide +kernel
theorem dX1_cheapest_125 : decode cX1_cheapest 125 = .ok (.aload_n 0, 1) := by decide +kernel
theorem dX1_cheapest_126 : decode cX1_cheapest 126 = .ok (.getfield 9, 3) := by decide +kernel
theorem dX1_cheapest_129 : decode cX1_cheapest 129 = .ok (.iload_n 2, 1) := by decide +kernel
theorem dX1_cheapest_130 : decode cX1_cheapest 130 = .ok (.iconst (-1), 1) := by decide +kernel
theorem dX1_cheapest_131 : decode cX1_cheapest 131 = .ok (.ixor, 1) := by decide +kernel
theorem dX1_cheapest_132 : decode cX1_cheapest 132 = .ok (.iand, 1) := by decide +kernel
theorem dX1_cheapest_133 : decode cX1_cheapest 133 = .ok (.ior, 1) := by decide +kernel
theorem dX1_cheapest_134 : decode cX1_cheapest 134 = .ok (.ireturn, 1) := by decide +kernel
set_option maxRecDepth 20000 in
theorem ggX1_isLeast_X1_isFree : GoodIn wsX1_isLeast wsX1_isFree := goodIn_r _ [6, 7, 8, 9, 10] (by decide +kernel) (by decide +kernel)
set_option maxRecDepth 20000 in
theorem gX1_isLeast_X1_isFree : GoodIn wsX1_isLeast (wsV RX1 61 RX1 yX1_isFree wsX1_isFree) := goodIn_app (goodIn_of _ (by decide +kernel)) ggX1_isLeast_X1_isFree
theorem dX1_isLeast_0 : decode cX1_isLeast 0 = .ok (.aload_n 0, 1) := by decide +kernel
theorem dX1_isLeast_1 : decode cX1_isLeast 1 = .ok (.getfield 15, 3) := by decide +kernel
theorem dX1_isLeast_4 : decode cX1_isLeast 4 = .ok (.iload_n 1, 1) := by decide +kernel
theorem dX1_isLeast_5 : decode cX1_isLeast 5 = .ok (.iconst (-1), 1) := by decide +kernel
theorem dX1_isLeast_6 : decode cX1_isLeast 6 = .ok (.ixor, 1) := by decide +kernel
theorem dX1_isLeast_7 : decode cX1_isLeast 7 = .ok (.iand, 1) := by decide +kernel
theorem dX1_isLeast_8 : decode cX1_isLeast 8 = .ok (.istore_n 2, 1) := by decide +kernel
theorem dX1_isLeast_9 : decode cX1_isLeast 9 = .ok (.aload_n 0, 1) := by decide +kernel
theorem dX1_isLeast_10 : decode cX1_isLeast 10 = .ok (.iload_n 2, 1) := by decide +kernel
theorem dX1_isLeast_11 : decode cX1_isLeast 11 = .ok (.invokevirtual 61, 3) := by decide +kernel
theorem dX1_isLeast_14 : decode cX1_isLeast 14 = .ok (.ifCond .ne 5, 3) := by decide +kernel
theorem dX1_isLeast_17 : decode cX1_isLeast 17 = .ok (.iconst 0, 1) := by decide +kernel
theorem dX1_isLeast_18 : decode cX1_isLeast 18 = .ok (.ireturn, 1) := by decide +kernel
theorem dX1_isLeast_19 : decode cX1_isLeast 19 = .ok (.iconst 0, 1) := by decide +kernel
theorem dX1_isLeast_20 : decode cX1_isLeast 20 = .ok (.istore_n 3, 1) := by decide +kernel
theorem dX1_isLeast_21 : decode cX1_isLeast 21 = .ok (.iload_n 3, 1) := by decide +kernel
theorem dX1_isLeast_22 : decode cX1_isLeast 22 = .ok (.bipush 14, 2) := by decide +kernel
theorem dX1_isLeast_24 : decode cX1_isLeast 24 = .ok (.if_icmp .ge 31, 3) := by decide +kernel
theorem dX1_isLeast_27 : decode cX1_isLeast 27 = .ok (.iload_n 1, 1) := by decide +kernel
theorem dX1_isLeast_28 : decode cX1_isLeast 28 = .ok (.iload_n 3, 1) := by decide +kernel
theorem dX1_isLeast_29 : decode cX1_isLeast 29 = .ok (.ishr, 1) := by decide +kernel
theorem dX1_isLeast_30 : decode cX1_isLeast 30 = .ok (.iconst 1, 1) := by decide +kernel
theorem dX1_isLeast_31 : decode cX1_isLeast 31 = .ok (.iand, 1) := by decide +kernel
theorem dX1_isLeast_32 : decode cX1_isLeast 32 = .ok (.ifCond .eq 17, 3) := by decide +kernel
theorem dX1_isLeast_35 : decode cX1_isLeast 35 = .ok (.aload_n 0, 1) := by decide +kernel
theorem dX1_isLeast_36 : decode cX1_isLeast 36 = .ok (.iload_n 2, 1) := by decide +kernel
theorem dX1_isLeast_37 : decode cX1_isLeast 37 = .ok (.iconst 1, 1) := by decide +kernel
theorem dX1_isLeast_38 : decode cX1_isLeast 38 = .ok (.iload_n 3, 1) := by decide +kernel
theorem dX1_isLeast_39 : decode cX1_isLeast 39 = .ok (.ishl, 1) := by decide +kernel
theorem dX1_isLeast_40 : decode cX1_isLeast 40 = .ok (.ior, 1) := by decide +kernel
theorem dX1_isLeast_41 : decode cX1_isLeast 41 = .ok (.invokevirtual 61, 3) := by decide +kernel
theorem dX1_isLeast_44 : decode cX1_isLeast 44 = .ok (.ifCond .eq 5, 3) := by decide +kernel
theorem dX1_isLeast_47 : decode cX1_isLeast 47 = .ok (.iconst 0, 1) := by decide +kernel
theorem dX1_isLeast_48 : decode cX1_isLeast 48 = .ok (.ireturn, 1) := by decide +kernel
theorem dX1_isLeast_49 : decode cX1_isLeast 49 = .ok (.iinc 3 1, 3) := by decide +kernel
theorem dX1_isLeast_52 : decode cX1_isLeast 52 = .ok (.goto (-31), 3) := by decide +kernel
theorem dX1_isLeast_55 : decode cX1_isLeast 55 = .ok (.iconst 1, 1) := by decide +kernel
theorem dX1_isLeast_56 : decode cX1_isLeast 56 = .ok (.ireturn, 1) := by decide +kernel
set_option maxRecDepth 20000 in
theorem ggX1_leastWith_J6_bitCount_0f7a4 : GoodIn wsX1_leastWith wsJ6_bitCount_0f7a4 := goodIn_r _ [6, 7, 8, 9] (by decide +kernel) (by decide +kernel)
set_option maxRecDepth 20000 in
theorem gX1_leastWith_J6_bitCount_0f7a4 : GoodIn wsX1_leastWith (va_wsS RX1 36 yJ6_bitCount_0f7a4 wsJ6_bitCount_0f7a4) := goodIn_app (goodIn_of _ (by decide +kernel)) ggX1_leastWith_J6_bitCount_0f7a4
set_option maxRecDepth 20000 in
theorem ggX1_leastWith_X1_isLeast : GoodIn wsX1_leastWith wsX1_isLeast := goodIn_r _ [14, 1, 15, 16, 17, 13, 18, 19, 23, 24, 25] (by decide +kernel) (by decide +kernel)
set_option maxRecDepth 20000 in
theorem gX1_leastWith_X1_isLeast : GoodIn wsX1_leastWith (wsV RX1 70 RX1 yX1_isLeast wsX1_isLeast) := goodIn_app (goodIn_of _ (by decide +kernel)) ggX1_leastWith_X1_isLeast
set_option maxRecDepth 20000 in
theorem ggX1_leastWith_X1_nextSubset : GoodIn wsX1_leastWith wsX1_nextSubset := goodIn_r _ [22] (by decide +kernel) (by decide +kernel)
set_option maxRecDepth 20000 in
theorem gX1_leastWith_X1_nextSubset : GoodIn wsX1_leastWith (va_wsS RX1 50 yX1_nextSubset wsX1_nextSubset) := goodIn_app (goodIn_of _ (by decide +kernel)) ggX1_leastWith_X1_nextSubset
theorem dX1_leastWith_0 : decode cX1_leastWith 0 = .ok (.iconst 0, 1) := by decide +kernel
theorem dX1_leastWith_1 : decode cX1_leastWith 1 = .ok (.istore_n 2, 1) := by decide +kernel
theorem dX1_leastWith_2 : decode cX1_leastWith 2 = .ok (.iconst 1, 1) := by decide +kernel
theorem dX1_leastWith_3 : decode cX1_leastWith 3 = .ok (.aload_n 0, 1) := by decide +kernel
theorem dX1_leastWith_4 : decode cX1_leastWith 4 = .ok (.getfield 15, 3) := by decide +kernel
theorem dX1_leastWith_7 : decode cX1_leastWith 7 = .ok (.invokestatic 36, 3) := by decide +kernel
theorem dX1_leastWith_10 : decode cX1_leastWith 10 = .ok (.ishl, 1) := by decide +kernel
theorem dX1_leastWith_11 : decode cX1_leastWith 11 = .ok (.istore_n 3, 1) := by decide +kernel
theorem dX1_leastWith_12 : decode cX1_leastWith 12 = .ok (.iconst 0, 1) := by decide +kernel
theorem dX1_leastWith_13 : decode cX1_leastWith 13 = .ok (.istore 4, 2) := by decide +kernel
theorem dX1_leastWith_15 : decode cX1_leastWith 15 = .ok (.iconst 0, 1) := by decide +kernel
theorem dX1_leastWith_16 : decode cX1_leastWith 16 = .ok (.istore 5, 2) := by decide +kernel
theorem dX1_leastWith_18 : decode cX1_leastWith 18 = .ok (.iload 5, 2) := by decide +kernel
theorem dX1_leastWith_20 : decode cX1_leastWith 20 = .ok (.iload_n 3, 1) := by decide +kernel
theorem dX1_leastWith_21 : decode cX1_leastWith 21 = .ok (.if_icmp .ge 46, 3) := by decide +kernel
theorem dX1_leastWith_24 : decode cX1_leastWith 24 = .ok (.iload_n 1, 1) := by decide +kernel
theorem dX1_leastWith_25 : decode cX1_leastWith 25 = .ok (.iload 4, 2) := by decide +kernel
theorem dX1_leastWith_27 : decode cX1_leastWith 27 = .ok (.aload_n 0, 1) := by decide +kernel
theorem dX1_leastWith_28 : decode cX1_leastWith 28 = .ok (.getfield 9, 3) := by decide +kernel
theorem dX1_leastWith_31 : decode cX1_leastWith 31 = .ok (.ior, 1) := by decide +kernel
theorem dX1_leastWith_32 : decode cX1_leastWith 32 = .ok (.iconst (-1), 1) := by decide +kernel
theorem dX1_leastWith_33 : decode cX1_leastWith 33 = .ok (.ixor, 1) := by decide +kernel
theorem dX1_leastWith_34 : decode cX1_leastWith 34 = .ok (.iand, 1) := by decide +kernel
theorem dX1_leastWith_35 : decode cX1_leastWith 35 = .ok (.ifCond .ne 15, 3) := by decide +kernel
theorem dX1_leastWith_38 : decode cX1_leastWith 38 = .ok (.aload_n 0, 1) := by decide +kernel
theorem dX1_leastWith_39 : decode cX1_leastWith 39 = .ok (.iload 4, 2) := by decide +kernel
theorem dX1_leastWith_41 : decode cX1_leastWith 41 = .ok (.invokevirtual 70, 3) := by decide +kernel
theorem dX1_leastWith_44 : decode cX1_leastWith 44 = .ok (.ifCond .eq 6, 3) := by decide +kernel
theorem dX1_leastWith_47 : decode cX1_leastWith 47 = .ok (.iinc 2 1, 3) := by decide +kernel
theorem dX1_leastWith_50 : decode cX1_leastWith 50 = .ok (.iload 4, 2) := by decide +kernel
theorem dX1_leastWith_52 : decode cX1_leastWith 52 = .ok (.aload_n 0, 1) := by decide +kernel
theorem dX1_leastWith_53 : decode cX1_leastWith 53 = .ok (.getfield 15, 3) := by decide +kernel
theorem dX1_leastWith_56 : decode cX1_leastWith 56 = .ok (.invokestatic 50, 3) := by decide +kernel
theorem dX1_leastWith_59 : decode cX1_leastWith 59 = .ok (.istore 4, 2) := by decide +kernel
theorem dX1_leastWith_61 : decode cX1_leastWith 61 = .ok (.iinc 5 1, 3) := by decide +kernel
theorem dX1_leastWith_64 : decode cX1_leastWith 64 = .ok (.goto (-46), 3) := by decide +kernel
theorem dX1_leastWith_67 : decode cX1_leastWith 67 = .ok (.iload_n 2, 1) := by decide +kernel
theorem dX1_leastWith_68 : decode cX1_leastWith 68 = .ok (.ireturn, 1) := by decide +kernel
set_option maxRecDepth 20000 in
theorem ggX1_greatestLeast_J6_bitCount_0f7a4 : GoodIn wsX1_greatestLeast wsJ6_bitCount_0f7a4 := goodIn_r _ [6, 7, 8, 9] (by decide +kernel) (by decide +kernel)
set_option maxRecDepth 20000 in
theorem gX1_greatestLeast_J6_bitCount_0f7a4 : GoodIn wsX1_greatestLeast (va_wsS RX1 36 yJ6_bitCount_0f7a4 wsJ6_bitCount_0f7a4) := goodIn_app (goodIn_of _ (by decide +kernel)) ggX1_greatestLeast_J6_bitCount_0f7a4
set_option maxRecDepth 20000 in
theorem ggX1_greatestLeast_X1_isLeast : GoodIn wsX1_greatestLeast wsX1_isLeast := goodIn_r _ [14, 1, 15, 16, 17, 13, 18, 19, 23, 24, 25] (by decide +kernel) (by decide +kernel)
set_option maxRecDepth 20000 in
theorem gX1_greatestLeast_X1_isLeast : GoodIn wsX1_greatestLeast (wsV RX1 70 RX1 yX1_isLeast wsX1_isLeast) := goodIn_app (goodIn_of _ (by decide +kernel)) ggX1_greatestLeast_X1_isLeast
set_option maxRecDepth 20000 in
theorem ggX1_greatestLeast_X1_nextSubset : GoodIn wsX1_greatestLeast wsX1_nextSubset := goodIn_r _ [22] (by decide +kernel) (by decide +kernel)
set_option maxRecDepth 20000 in
theorem gX1_greatestLeast_X1_nextSubset : GoodIn wsX1_greatestLeast (va_wsS RX1 50 yX1_nextSubset wsX1_nextSubset) := goodIn_app (goodIn_of _ (by decide +kernel)) ggX1_greatestLeast_X1_nextSubset
theorem dX1_greatestLeast_0 : decode cX1_greatestLeast 0 = .ok (.iconst 0, 1) := by decide +kernel
theorem dX1_greatestLeast_1 : decode cX1_greatestLeast 1 = .ok (.istore_n 1, 1) := by decide +kernel
theorem dX1_greatestLeast_2 : decode cX1_greatestLeast 2 = .ok (.iconst 1, 1) := by decide +kernel
theorem dX1_greatestLeast_3 : decode cX1_greatestLeast 3 = .ok (.aload_n 0, 1) := by decide +kernel
theorem dX1_greatestLeast_4 : decode cX1_greatestLeast 4 = .ok (.getfield 15, 3) := by decide +kernel
theorem dX1_greatestLeast_7 : decode cX1_greatestLeast 7 = .ok (.invokestatic 36, 3) := by decide +kernel
theorem dX1_greatestLeast_10 : decode cX1_greatestLeast 10 = .ok (.ishl, 1) := by decide +kernel
theorem dX1_greatestLeast_11 : decode cX1_greatestLeast 11 = .ok (.istore_n 2, 1) := by decide +kernel
theorem dX1_greatestLeast_12 : decode cX1_greatestLeast 12 = .ok (.iconst 0, 1) := by decide +kernel
theorem dX1_greatestLeast_13 : decode cX1_greatestLeast 13 = .ok (.istore_n 3, 1) := by decide +kernel
theorem dX1_greatestLeast_14 : decode cX1_greatestLeast 14 = .ok (.iconst 0, 1) := by decide +kernel
theorem dX1_greatestLeast_15 : decode cX1_greatestLeast 15 = .ok (.istore 4, 2) := by decide +kernel
theorem dX1_greatestLeast_17 : decode cX1_greatestLeast 17 = .ok (.iload 4, 2) := by decide +kernel
theorem dX1_greatestLeast_19 : decode cX1_greatestLeast 19 = .ok (.iload_n 2, 1) := by decide +kernel
theorem dX1_greatestLeast_20 : decode cX1_greatestLeast 20 = .ok (.if_icmp .ge 46, 3) := by decide +kernel
theorem dX1_greatestLeast_23 : decode cX1_greatestLeast 23 = .ok (.iload_n 3, 1) := by decide +kernel
theorem dX1_greatestLeast_24 : decode cX1_greatestLeast 24 = .ok (.aload_n 0, 1) := by decide +kernel
theorem dX1_greatestLeast_25 : decode cX1_greatestLeast 25 = .ok (.getfield 9, 3) := by decide +kernel
theorem dX1_greatestLeast_28 : decode cX1_greatestLeast 28 = .ok (.ior, 1) := by decide +kernel
theorem dX1_greatestLeast_29 : decode cX1_greatestLeast 29 = .ok (.invokestatic 36, 3) := by decide +kernel
theorem dX1_greatestLeast_32 : decode cX1_greatestLeast 32 = .ok (.istore 5, 2) := by decide +kernel
theorem dX1_greatestLeast_34 : decode cX1_greatestLeast 34 = .ok (.iload 5, 2) := by decide +kernel
theorem dX1_greatestLeast_36 : decode cX1_greatestLeast 36 = .ok (.iload_n 1, 1) := by decide +kernel
theorem dX1_greatestLeast_37 : decode cX1_greatestLeast 37 = .ok (.if_icmp .le 14, 3) := by decide +kernel
theorem dX1_greatestLeast_40 : decode cX1_greatestLeast 40 = .ok (.aload_n 0, 1) := by decide +kernel
theorem dX1_greatestLeast_41 : decode cX1_greatestLeast 41 = .ok (.iload_n 3, 1) := by decide +kernel
theorem dX1_greatestLeast_42 : decode cX1_greatestLeast 42 = .ok (.invokevirtual 70, 3) := by decide +kernel
theorem dX1_greatestLeast_45 : decode cX1_greatestLeast 45 = .ok (.ifCond .eq 6, 3) := by decide +kernel
theorem dX1_greatestLeast_48 : decode cX1_greatestLeast 48 = .ok (.iload 5, 2) := by decide +kernel
theorem dX1_greatestLeast_50 : decode cX1_greatestLeast 50 = .ok (.istore_n 1, 1) := by decide +kernel
theorem dX1_greatestLeast_51 : decode cX1_greatestLeast 51 = .ok (.iload_n 3, 1) := by decide +kernel
theorem dX1_greatestLeast_52 : decode cX1_greatestLeast 52 = .ok (.aload_n 0, 1) := by decide +kernel
theorem dX1_greatestLeast_53 : decode cX1_greatestLeast 53 = .ok (.getfield 15, 3) := by decide +kernel
theorem dX1_greatestLeast_56 : decode cX1_greatestLeast 56 = .ok (.invokestatic 50, 3) := by decide +kernel
theorem dX1_greatestLeast_59 : decode cX1_greatestLeast 59 = .ok (.istore_n 3, 1) := by decide +kernel
theorem dX1_greatestLeast_60 : decode cX1_greatestLeast 60 = .ok (.iinc 4 1, 3) := by decide +kernel
theorem dX1_greatestLeast_63 : decode cX1_greatestLeast 63 = .ok (.goto (-46), 3) := by decide +kernel
theorem dX1_greatestLeast_66 : decode cX1_greatestLeast 66 = .ok (.iload_n 1, 1) := by decide +kernel
theorem dX1_greatestLeast_67 : decode cX1_greatestLeast 67 = .ok (.ireturn, 1) := by decide +kernel
theorem dX2_init_0 : decode cX2_init 0 = .ok (.aload_n 0, 1) := by decide +kernel
theorem dX2_init_1 : decode cX2_init 1 = .ok (.invokespecial 3, 3) := by decide +kernel
theorem dX2_init_4 : decode cX2_init 4 = .ok (.aload_n 0, 1) := by decide +kernel
theorem dX2_init_5 : decode cX2_init 5 = .ok (.bipush 20, 2) := by decide +kernel
theorem dX2_init_7 : decode cX2_init 7 = .ok (.newarray .int, 2) := by decide +kernel
theorem dX2_init_9 : decode cX2_init 9 = .ok (.putfield 9, 3) := by decide +kernel
theorem dX2_init_12 : decode cX2_init 12 = .ok (.aload_n 0, 1) := by decide +kernel
theorem dX2_init_13 : decode cX2_init 13 = .ok (.iconst 0, 1) := by decide +kernel
theorem dX2_init_14 : decode cX2_init 14 = .ok (.putfield 15, 3) := by decide +kernel
theorem dX2_init_17 : decode cX2_init 17 = .ok (.return_, 1) := by decide +kernel
theorem dX2_append_0 : decode cX2_append 0 = .ok (.aload_n 0, 1) := by decide +kernel
theorem dX2_append_1 : decode cX2_append 1 = .ok (.getfield 15, 3) := by decide +kernel
theorem dX2_append_4 : decode cX2_append 4 = .ok (.bipush 20, 2) := by decide +kernel
theorem dX2_append_6 : decode cX2_append 6 = .ok (.if_icmp .ge 23, 3) := by decide +kernel
theorem dX2_append_9 : decode cX2_append 9 = .ok (.aload_n 0, 1) := by decide +kernel
theorem dX2_append_10 : decode cX2_append 10 = .ok (.getfield 9, 3) := by decide +kernel
theorem dX2_append_13 : decode cX2_append 13 = .ok (.aload_n 0, 1) := by decide +kernel
theorem dX2_append_14 : decode cX2_append 14 = .ok (.getfield 15, 3) := by decide +kernel
theorem dX2_append_17 : decode cX2_append 17 = .ok (.iload_n 1, 1) := by decide +kernel
theorem dX2_append_18 : decode cX2_append 18 = .ok (.iastore, 1) := by decide +kernel
theorem dX2_append_19 : decode cX2_append 19 = .ok (.aload_n 0, 1) := by decide +kernel
theorem dX2_append_20 : decode cX2_append 20 = .ok (.dup, 1) := by decide +kernel
theorem dX2_append_21 : decode cX2_append 21 = .ok (.getfield 15, 3) := by decide +kernel
theorem dX2_append_24 : decode cX2_append 24 = .ok (.iconst 1, 1) := by decide +kernel
theorem dX2_append_25 : decode cX2_append 25 = .ok (.iadd, 1) := by decide +kernel
theorem dX2_append_26 : decode cX2_append 26 = .ok (.putfield 15, 3) := by decide +kernel
theorem dX2_append_29 : decode cX2_append 29 = .ok (.return_, 1) := by decide +kernel
set_option maxRecDepth 20000 in
theorem ggX2_faultPlace_X2_wordBit : GoodIn wsX2_faultPlace wsX2_wordBit := goodIn_r _ [6] (by decide +kernel) (by decide +kernel)
set_option maxRecDepth 20000 in
theorem gX2_faultPlace_X2_wordBit : GoodIn wsX2_faultPlace (va_wsS RX2 19 yX2_wordBit wsX2_wordBit) := goodIn_app (goodIn_of _ (by decide +kernel)) ggX2_faultPlace_X2_wordBit
set_option maxRecDepth 20000 in
theorem ggX2_faultPlace_X2_tellsBare : GoodIn wsX2_faultPlace wsX2_tellsBare := goodIn_r _ [10, 2, 11, 12] (by decide +kernel) (by decide +kernel)
set_option maxRecDepth 20000 in
theorem gX2_faultPlace_X2_tellsBare : GoodIn wsX2_faultPlace (wsV RX2 23 RX2 yX2_tellsBare wsX2_tellsBare) := goodIn_app (goodIn_of _ (by decide +kernel)) ggX2_faultPlace_X2_tellsBare
theorem dX2_faultPlace_0 : decode cX2_faultPlace 0 = .ok (.aload_n 0, 1) := by decide +kernel
theorem dX2_faultPlace_1 : decode cX2_faultPlace 1 = .ok (.getfield 15, 3) := by decide +kernel
theorem dX2_faultPlace_4 : decode cX2_faultPlace 4 = .ok (.ifCond .eq 16, 3) := by decide +kernel
theorem dX2_faultPlace_7 : decode cX2_faultPlace 7 = .ok (.aload_n 0, 1) := by decide +kernel
theorem dX2_faultPlace_8 : decode cX2_faultPlace 8 = .ok (.getfield 9, 3) := by decide +kernel
theorem dX2_faultPlace_11 : decode cX2_faultPlace 11 = .ok (.iconst 0, 1) := by decide +kernel
theorem dX2_faultPlace_12 : decode cX2_faultPlace 12 = .ok (.iaload, 1) := by decide +kernel
theorem dX2_faultPlace_13 : decode cX2_faultPlace 13 = .ok (.iload_n 1, 1) := by decide +kernel
theorem dX2_faultPlace_14 : decode cX2_faultPlace 14 = .ok (.invokestatic 19, 3) := by decide +kernel
theorem dX2_faultPlace_17 : decode cX2_faultPlace 17 = .ok (.ifCond .ne 5, 3) := by decide +kernel
theorem dX2_faultPlace_20 : decode cX2_faultPlace 20 = .ok (.iconst 0, 1) := by decide +kernel
theorem dX2_faultPlace_21 : decode cX2_faultPlace 21 = .ok (.ireturn, 1) := by decide +kernel
theorem dX2_faultPlace_22 : decode cX2_faultPlace 22 = .ok (.aload_n 0, 1) := by decide +kernel
theorem dX2_faultPlace_23 : decode cX2_faultPlace 23 = .ok (.getfield 15, 3) := by decide +kernel
theorem dX2_faultPlace_26 : decode cX2_faultPlace 26 = .ok (.iconst 1, 1) := by decide +kernel
theorem dX2_faultPlace_27 : decode cX2_faultPlace 27 = .ok (.if_icmp .eq 25, 3) := by decide +kernel
theorem dX2_faultPlace_30 : decode cX2_faultPlace 30 = .ok (.aload_n 0, 1) := by decide +kernel
theorem dX2_faultPlace_31 : decode cX2_faultPlace 31 = .ok (.getfield 9, 3) := by decide +kernel
theorem dX2_faultPlace_34 : decode cX2_faultPlace 34 = .ok (.iconst 1, 1) := by decide +kernel
theorem dX2_faultPlace_35 : decode cX2_faultPlace 35 = .ok (.iaload, 1) := by decide +kernel
theorem dX2_faultPlace_36 : decode cX2_faultPlace 36 = .ok (.bipush 58, 2) := by decide +kernel
theorem dX2_faultPlace_38 : decode cX2_faultPlace 38 = .ok (.if_icmp .eq 16, 3) := by decide +kernel
theorem dX2_faultPlace_41 : decode cX2_faultPlace 41 = .ok (.aload_n 0, 1) := by decide +kernel
theorem dX2_faultPlace_42 : decode cX2_faultPlace 42 = .ok (.getfield 9, 3) := by decide +kernel
theorem dX2_faultPlace_45 : decode cX2_faultPlace 45 = .ok (.iconst 1, 1) := by decide +kernel
theorem dX2_faultPlace_46 : decode cX2_faultPlace 46 = .ok (.iaload, 1) := by decide +kernel
theorem dX2_faultPlace_47 : decode cX2_faultPlace 47 = .ok (.bipush 46, 2) := by decide +kernel
theorem dX2_faultPlace_49 : decode cX2_faultPlace 49 = .ok (.if_icmp .eq 5, 3) := by decide +kernel
theorem dX2_faultPlace_52 : decode cX2_faultPlace 52 = .ok (.iconst 1, 1) := by decide +kernel
theorem dX2_faultPlace_53 : decode cX2_faultPlace 53 = .ok (.ireturn, 1) := by decide +kernel
theorem dX2_faultPlace_54 : decode cX2_faultPlace 54 = .ok (.aload_n 0, 1) := by decide +kernel
theorem dX2_faultPlace_55 : decode cX2_faultPlace 55 = .ok (.invokevirtual 23, 3) := by decide +kernel
theorem dX2_faultPlace_58 : decode cX2_faultPlace 58 = .ok (.ifCond .eq 18, 3) := by decide +kernel
theorem dX2_faultPlace_61 : decode cX2_faultPlace 61 = .ok (.aload_n 0, 1) := by decide +kernel
theorem dX2_faultPlace_62 : decode cX2_faultPlace 62 = .ok (.getfield 15, 3) := by decide +kernel
theorem dX2_faultPlace_65 : decode cX2_faultPlace 65 = .ok (.iconst 2, 1) := by decide +kernel
theorem dX2_faultPlace_66 : decode cX2_faultPlace 66 = .ok (.if_icmp .ne 8, 3) := by decide +kernel
theorem dX2_faultPlace_69 : decode cX2_faultPlace 69 = .ok (.bipush (-6), 2) := by decide +kernel
theorem dX2_faultPlace_71 : decode cX2_faultPlace 71 = .ok (.goto 4, 3) := by decide +kernel
theorem dX2_faultPlace_74 : decode cX2_faultPlace 74 = .ok (.iconst 2, 1) := by decide +kernel
theorem dX2_faultPlace_75 : decode cX2_faultPlace 75 = .ok (.ireturn, 1) := by decide +kernel
theorem dX2_faultPlace_76 : decode cX2_faultPlace 76 = .ok (.iconst 0, 1) := by decide +kernel
theorem dX2_faultPlace_77 : decode cX2_faultPlace 77 = .ok (.istore_n 2, 1) := by decide +kernel
theorem dX2_faultPlace_78 : decode cX2_faultPlace 78 = .ok (.iconst 2, 1) := by decide +kernel
theorem dX2_faultPlace_79 : decode cX2_faultPlace 79 = .ok (.istore_n 3, 1) := by decide +kernel
theorem dX2_faultPlace_80 : decode cX2_faultPlace 80 = .ok (.iload_n 3, 1) := by decide +kernel
theorem dX2_faultPlace_81 : decode cX2_faultPlace 81 = .ok (.aload_n 0, 1) := by decide +kernel
theorem dX2_faultPlace_82 : decode cX2_faultPlace 82 = .ok (.getfield 15, 3) := by decide +kernel
theorem dX2_faultPlace_85 : decode cX2_faultPlace 85 = .ok (.if_icmp .ge 40, 3) := by decide +kernel
theorem dX2_faultPlace_88 : decode cX2_faultPlace 88 = .ok (.aload_n 0, 1) := by decide +kernel
theorem dX2_faultPlace_89 : decode cX2_faultPlace 89 = .ok (.getfield 9, 3) := by decide +kernel
theorem dX2_faultPlace_92 : decode cX2_faultPlace 92 = .ok (.iload_n 3, 1) := by decide +kernel
theorem dX2_faultPlace_93 : decode cX2_faultPlace 93 = .ok (.iaload, 1) := by decide +kernel
theorem dX2_faultPlace_94 : decode cX2_faultPlace 94 = .ok (.iload_n 1, 1) := by decide +kernel
theorem dX2_faultPlace_95 : decode cX2_faultPlace 95 = .ok (.invokestatic 19, 3) := by decide +kernel
theorem dX2_faultPlace_98 : decode cX2_faultPlace 98 = .ok (.istore 4, 2) := by decide +kernel
theorem dX2_faultPlace_100 : decode cX2_faultPlace 100 = .ok (.iload 4, 2) := by decide +kernel
theorem dX2_faultPlace_102 : decode cX2_faultPlace 102 = .ok (.ifCond .eq 10, 3) := by decide +kernel
theorem dX2_faultPlace_105 : decode cX2_faultPlace 105 = .ok (.iload_n 2, 1) := by decide +kernel
theorem dX2_faultPlace_106 : decode cX2_faultPlace 106 = .ok (.iload 4, 2) := by decide +kernel
theorem dX2_faultPlace_108 : decode cX2_faultPlace 108 = .ok (.iand, 1) := by decide +kernel
theorem dX2_faultPlace_109 : decode cX2_faultPlace 109 = .ok (.ifCond .eq 5, 3) := by decide +kernel
theorem dX2_faultPlace_112 : decode cX2_faultPlace 112 = .ok (.iload_n 3, 1) := by decide +kernel
theorem dX2_faultPlace_113 : decode cX2_faultPlace 113 = .ok (.ireturn, 1) := by decide +kernel
theorem dX2_faultPlace_114 : decode cX2_faultPlace 114 = .ok (.iload_n 2, 1) := by decide +kernel
theorem dX2_faultPlace_115 : decode cX2_faultPlace 115 = .ok (.iload 4, 2) := by decide +kernel
theorem dX2_faultPlace_117 : decode cX2_faultPlace 117 = .ok (.ior, 1) := by decide +kernel
theorem dX2_faultPlace_118 : decode cX2_faultPlace 118 = .ok (.istore_n 2, 1) := by decide +kernel
theorem dX2_faultPlace_119 : decode cX2_faultPlace 119 = .ok (.iinc 3 1, 3) := by decide +kernel
theorem dX2_faultPlace_122 : decode cX2_faultPlace 122 = .ok (.goto (-42), 3) := by decide +kernel
theorem dX2_faultPlace_125 : decode cX2_faultPlace 125 = .ok (.bipush (-6), 2) := by decide +kernel
theorem dX2_faultPlace_127 : decode cX2_faultPlace 127 = .ok (.ireturn, 1) := by decide +kernel
theorem dX2_toldWord_0 : decode cX2_toldWord 0 = .ok (.aload_n 0, 1) := by decide +kernel
theorem dX2_toldWord_1 : decode cX2_toldWord 1 = .ok (.getfield 9, 3) := by decide +kernel
theorem dX2_toldWord_4 : decode cX2_toldWord 4 = .ok (.iconst 0, 1) := by decide +kernel
theorem dX2_toldWord_5 : decode cX2_toldWord 5 = .ok (.iaload, 1) := by decide +kernel
theorem dX2_toldWord_6 : decode cX2_toldWord 6 = .ok (.bipush 97, 2) := by decide +kernel
theorem dX2_toldWord_8 : decode cX2_toldWord 8 = .ok (.isub, 1) := by decide +kernel
theorem dX2_toldWord_9 : decode cX2_toldWord 9 = .ok (.ireturn, 1) := by decide +kernel
theorem dX2_tellsBare_0 : decode cX2_tellsBare 0 = .ok (.aload_n 0, 1) := by decide +kernel
theorem dX2_tellsBare_1 : decode cX2_tellsBare 1 = .ok (.getfield 9, 3) := by decide +kernel
theorem dX2_tellsBare_4 : decode cX2_tellsBare 4 = .ok (.iconst 1, 1) := by decide +kernel
theorem dX2_tellsBare_5 : decode cX2_tellsBare 5 = .ok (.iaload, 1) := by decide +kernel
theorem dX2_tellsBare_6 : decode cX2_tellsBare 6 = .ok (.bipush 46, 2) := by decide +kernel
theorem dX2_tellsBare_8 : decode cX2_tellsBare 8 = .ok (.if_icmp .ne 7, 3) := by decide +kernel
theorem dX2_tellsBare_11 : decode cX2_tellsBare 11 = .ok (.iconst 1, 1) := by decide +kernel
theorem dX2_tellsBare_12 : decode cX2_tellsBare 12 = .ok (.goto 4, 3) := by decide +kernel
theorem dX2_tellsBare_15 : decode cX2_tellsBare 15 = .ok (.iconst 0, 1) := by decide +kernel
theorem dX2_tellsBare_16 : decode cX2_tellsBare 16 = .ok (.ireturn, 1) := by decide +kernel
set_option maxRecDepth 20000 in
theorem ggX2_toldSet_X2_wordBit : GoodIn wsX2_toldSet wsX2_wordBit := goodIn_r _ [6] (by decide +kernel) (by decide +kernel)
set_option maxRecDepth 20000 in
theorem gX2_toldSet_X2_wordBit : GoodIn wsX2_toldSet (va_wsS RX2 19 yX2_wordBit wsX2_wordBit) := goodIn_app (goodIn_of _ (by decide +kernel)) ggX2_toldSet_X2_wordBit
theorem dX2_toldSet_0 : decode cX2_toldSet 0 = .ok (.iconst 0, 1) := by decide +kernel
theorem dX2_toldSet_1 : decode cX2_toldSet 1 = .ok (.istore_n 1, 1) := by decide +kernel
theorem dX2_toldSet_2 : decode cX2_toldSet 2 = .ok (.iconst 2, 1) := by decide +kernel
theorem dX2_toldSet_3 : decode cX2_toldSet 3 = .ok (.istore_n 2, 1) := by decide +kernel
theorem dX2_toldSet_4 : decode cX2_toldSet 4 = .ok (.iload_n 2, 1) := by decide +kernel
theorem dX2_toldSet_5 : decode cX2_toldSet 5 = .ok (.aload_n 0, 1) := by decide +kernel
theorem dX2_toldSet_6 : decode cX2_toldSet 6 = .ok (.getfield 15, 3) := by decide +kernel
theorem dX2_toldSet_9 : decode cX2_toldSet 9 = .ok (.if_icmp .ge 23, 3) := by decide +kernel
theorem dX2_toldSet_12 : decode cX2_toldSet 12 = .ok (.iload_n 1, 1) := by decide +kernel
theorem dX2_toldSet_13 : decode cX2_toldSet 13 = .ok (.aload_n 0, 1) := by decide +kernel
theorem dX2_toldSet_14 : decode cX2_toldSet 14 = .ok (.getfield 9, 3) := by decide +kernel
theorem dX2_toldSet_17 : decode cX2_toldSet 17 = .ok (.iload_n 2, 1) := by decide +kernel
theorem dX2_toldSet_18 : decode cX2_toldSet 18 = .ok (.iaload, 1) := by decide +kernel
theorem dX2_toldSet_19 : decode cX2_toldSet 19 = .ok (.bipush 14, 2) := by decide +kernel
theorem dX2_toldSet_21 : decode cX2_toldSet 21 = .ok (.invokestatic 19, 3) := by decide +kernel
theorem dX2_toldSet_24 : decode cX2_toldSet 24 = .ok (.ior, 1) := by decide +kernel
theorem dX2_toldSet_25 : decode cX2_toldSet 25 = .ok (.istore_n 1, 1) := by decide +kernel
theorem dX2_toldSet_26 : decode cX2_toldSet 26 = .ok (.iinc 2 1, 3) := by decide +kernel
theorem dX2_toldSet_29 : decode cX2_toldSet 29 = .ok (.goto (-25), 3) := by decide +kernel
theorem dX2_toldSet_32 : decode cX2_toldSet 32 = .ok (.iload_n 1, 1) := by decide +kernel
theorem dX2_toldSet_33 : decode cX2_toldSet 33 = .ok (.ireturn, 1) := by decide +kernel
theorem dX2_wordBit_0 : decode cX2_wordBit 0 = .ok (.iload_n 0, 1) := by decide +kernel
theorem dX2_wordBit_1 : decode cX2_wordBit 1 = .ok (.bipush 97, 2) := by decide +kernel
theorem dX2_wordBit_3 : decode cX2_wordBit 3 = .ok (.isub, 1) := by decide +kernel
theorem dX2_wordBit_4 : decode cX2_wordBit 4 = .ok (.istore_n 2, 1) := by decide +kernel
theorem dX2_wordBit_5 : decode cX2_wordBit 5 = .ok (.iload_n 2, 1) := by decide +kernel
theorem dX2_wordBit_6 : decode cX2_wordBit 6 = .ok (.ifCond .lt 14, 3) := by decide +kernel
theorem dX2_wordBit_9 : decode cX2_wordBit 9 = .ok (.iload_n 2, 1) := by decide +kernel
theorem dX2_wordBit_10 : decode cX2_wordBit 10 = .ok (.iload_n 1, 1) := by decide +kernel
theorem dX2_wordBit_11 : decode cX2_wordBit 11 = .ok (.if_icmp .ge 9, 3) := by decide +kernel
theorem dX2_wordBit_14 : decode cX2_wordBit 14 = .ok (.iconst 1, 1) := by decide +kernel
theorem dX2_wordBit_15 : decode cX2_wordBit 15 = .ok (.iload_n 2, 1) := by decide +kernel
theorem dX2_wordBit_16 : decode cX2_wordBit 16 = .ok (.ishl, 1) := by decide +kernel
theorem dX2_wordBit_17 : decode cX2_wordBit 17 = .ok (.goto 4, 3) := by decide +kernel
theorem dX2_wordBit_20 : decode cX2_wordBit 20 = .ok (.iconst 0, 1) := by decide +kernel
theorem dX2_wordBit_21 : decode cX2_wordBit 21 = .ok (.ireturn, 1) := by decide +kernel
theorem dX3_init_0 : decode cX3_init 0 = .ok (.aload_n 0, 1) := by decide +kernel
theorem dX3_init_1 : decode cX3_init 1 = .ok (.invokespecial 3, 3) := by decide +kernel
theorem dX3_init_4 : decode cX3_init 4 = .ok (.aload_n 0, 1) := by decide +kernel
theorem dX3_init_5 : decode cX3_init 5 = .ok (.bipush 8, 2) := by decide +kernel
theorem dX3_init_7 : decode cX3_init 7 = .ok (.putfield 9, 3) := by decide +kernel
theorem dX3_init_10 : decode cX3_init 10 = .ok (.aload_n 0, 1) := by decide +kernel
theorem dX3_init_11 : decode cX3_init 11 = .ok (.iconst 0, 1) := by decide +kernel
theorem dX3_init_12 : decode cX3_init 12 = .ok (.putfield 15, 3) := by decide +kernel
theorem dX3_init_15 : decode cX3_init 15 = .ok (.aload_n 0, 1) := by decide +kernel
theorem dX3_init_16 : decode cX3_init 16 = .ok (.iconst 0, 1) := by decide +kernel
theorem dX3_init_17 : decode cX3_init 17 = .ok (.putfield 18, 3) := by decide +kernel
theorem dX3_init_20 : decode cX3_init 20 = .ok (.aload_n 0, 1) := by decide +kernel
theorem dX3_init_21 : decode cX3_init 21 = .ok (.bipush 14, 2) := by decide +kernel
theorem dX3_init_23 : decode cX3_init 23 = .ok (.newarray .int, 2) := by decide +kernel
theorem dX3_init_25 : decode cX3_init 25 = .ok (.putfield 21, 3) := by decide +kernel
theorem dX3_init_28 : decode cX3_init 28 = .ok (.aload_n 0, 1) := by decide +kernel
theorem dX3_init_29 : decode cX3_init 29 = .ok (.bipush 14, 2) := by decide +kernel
theorem dX3_init_31 : decode cX3_init 31 = .ok (.newarray .int, 2) := by decide +kernel
theorem dX3_init_33 : decode cX3_init 33 = .ok (.putfield 25, 3) := by decide +kernel
theorem dX3_init_36 : decode cX3_init 36 = .ok (.iconst 0, 1) := by decide +kernel
theorem dX3_init_37 : decode cX3_init 37 = .ok (.istore_n 1, 1) := by decide +kernel
theorem dX3_init_38 : decode cX3_init 38 = .ok (.iload_n 1, 1) := by decide +kernel
theorem dX3_init_39 : decode cX3_init 39 = .ok (.bipush 14, 2) := by decide +kernel
theorem dX3_init_41 : decode cX3_init 41 = .ok (.if_icmp .ge 16, 3) := by decide +kernel
theorem dX3_init_44 : decode cX3_init 44 = .ok (.aload_n 0, 1) := by decide +kernel
theorem dX3_init_45 : decode cX3_init 45 = .ok (.getfield 21, 3) := by decide +kernel
theorem dX3_init_48 : decode cX3_init 48 = .ok (.iload_n 1, 1) := by decide +kernel
theorem dX3_init_49 : decode cX3_init 49 = .ok (.iconst 1, 1) := by decide +kernel
theorem dX3_init_50 : decode cX3_init 50 = .ok (.iastore, 1) := by decide +kernel
theorem dX3_init_51 : decode cX3_init 51 = .ok (.iinc 1 1, 3) := by decide +kernel
theorem dX3_init_54 : decode cX3_init 54 = .ok (.goto (-16), 3) := by decide +kernel
theorem dX3_init_57 : decode cX3_init 57 = .ok (.return_, 1) := by decide +kernel
theorem dX3_all_0 : decode cX3_all 0 = .ok (.iconst 1, 1) := by decide +kernel
theorem dX3_all_1 : decode cX3_all 1 = .ok (.aload_n 0, 1) := by decide +kernel
theorem dX3_all_2 : decode cX3_all 2 = .ok (.getfield 9, 3) := by decide +kernel
theorem dX3_all_5 : decode cX3_all 5 = .ok (.ishl, 1) := by decide +kernel
theorem dX3_all_6 : decode cX3_all 6 = .ok (.iconst 1, 1) := by decide +kernel
theorem dX3_all_7 : decode cX3_all 7 = .ok (.isub, 1) := by decide +kernel
theorem dX3_all_8 : decode cX3_all 8 = .ok (.ireturn, 1) := by decide +kernel
theorem dX3_has_0 : decode cX3_has 0 = .ok (.iload_n 1, 1) := by decide +kernel
theorem dX3_has_1 : decode cX3_has 1 = .ok (.ifCond .lt 15, 3) := by decide +kernel
theorem dX3_has_4 : decode cX3_has 4 = .ok (.iload_n 1, 1) := by decide +kernel
theorem dX3_has_5 : decode cX3_has 5 = .ok (.aload_n 0, 1) := by decide +kernel
theorem dX3_has_6 : decode cX3_has 6 = .ok (.getfield 9, 3) := by decide +kernel
theorem dX3_has_9 : decode cX3_has 9 = .ok (.if_icmp .ge 7, 3) := by decide +kernel
theorem dX3_has_12 : decode cX3_has 12 = .ok (.iconst 1, 1) := by decide +kernel
theorem dX3_has_13 : decode cX3_has 13 = .ok (.goto 4, 3) := by decide +kernel
theorem dX3_has_16 : decode cX3_has 16 = .ok (.iconst 0, 1) := by decide +kernel
end
section
theorem dX3_has_17 : decode cX3_has 17 = .ok (.ireturn, 1) := by decide +kernel
set_option maxRecDepth 20000 in
theorem ggX3_hasAll_X3_all : GoodIn wsX3_hasAll wsX3_all := goodIn_r _ [5, 6, 7, 8, 9, 10, 11] (by decide +kernel) (by decide +kernel)
set_option maxRecDepth 20000 in
theorem gX3_hasAll_X3_all : GoodIn wsX3_hasAll (wsV RX3 28 RX3 yX3_all wsX3_all) := goodIn_app (goodIn_of _ (by decide +kernel)) ggX3_hasAll_X3_all
theorem dX3_hasAll_0 : decode cX3_hasAll 0 = .ok (.iload_n 1, 1) := by decide +kernel
theorem dX3_hasAll_1 : decode cX3_hasAll 1 = .ok (.aload_n 0, 1) := by decide +kernel
theorem dX3_hasAll_2 : decode cX3_hasAll 2 = .ok (.invokevirtual 28, 3) := by decide +kernel
theorem dX3_hasAll_5 : decode cX3_hasAll 5 = .ok (.iconst (-1), 1) := by decide +kernel
theorem dX3_hasAll_6 : decode cX3_hasAll 6 = .ok (.ixor, 1) := by decide +kernel
theorem dX3_hasAll_7 : decode cX3_hasAll 7 = .ok (.iand, 1) := by decide +kernel
theorem dX3_hasAll_8 : decode cX3_hasAll 8 = .ok (.ifCond .ne 7, 3) := by decide +kernel
theorem dX3_hasAll_11 : decode cX3_hasAll 11 = .ok (.iconst 1, 1) := by decide +kernel
theorem dX3_hasAll_12 : decode cX3_hasAll 12 = .ok (.goto 4, 3) := by decide +kernel
theorem dX3_hasAll_15 : decode cX3_hasAll 15 = .ok (.iconst 0, 1) := by decide +kernel
theorem dX3_hasAll_16 : decode cX3_hasAll 16 = .ok (.ireturn, 1) := by decide +kernel
theorem dX3_isBare_0 : decode cX3_isBare 0 = .ok (.aload_n 0, 1) := by decide +kernel
theorem dX3_isBare_1 : decode cX3_isBare 1 = .ok (.getfield 18, 3) := by decide +kernel
theorem dX3_isBare_4 : decode cX3_isBare 4 = .ok (.iload_n 1, 1) := by decide +kernel
theorem dX3_isBare_5 : decode cX3_isBare 5 = .ok (.ishr, 1) := by decide +kernel
theorem dX3_isBare_6 : decode cX3_isBare 6 = .ok (.iconst 1, 1) := by decide +kernel
theorem dX3_isBare_7 : decode cX3_isBare 7 = .ok (.iand, 1) := by decide +kernel
theorem dX3_isBare_8 : decode cX3_isBare 8 = .ok (.ifCond .ne 7, 3) := by decide +kernel
theorem dX3_isBare_11 : decode cX3_isBare 11 = .ok (.iconst 1, 1) := by decide +kernel
theorem dX3_isBare_12 : decode cX3_isBare 12 = .ok (.goto 4, 3) := by decide +kernel
theorem dX3_isBare_15 : decode cX3_isBare 15 = .ok (.iconst 0, 1) := by decide +kernel
theorem dX3_isBare_16 : decode cX3_isBare 16 = .ok (.ireturn, 1) := by decide +kernel
theorem dX3_makeBare_0 : decode cX3_makeBare 0 = .ok (.aload_n 0, 1) := by decide +kernel
theorem dX3_makeBare_1 : decode cX3_makeBare 1 = .ok (.getfield 25, 3) := by decide +kernel
theorem dX3_makeBare_4 : decode cX3_makeBare 4 = .ok (.iload_n 1, 1) := by decide +kernel
theorem dX3_makeBare_5 : decode cX3_makeBare 5 = .ok (.iconst 0, 1) := by decide +kernel
theorem dX3_makeBare_6 : decode cX3_makeBare 6 = .ok (.iastore, 1) := by decide +kernel
theorem dX3_makeBare_7 : decode cX3_makeBare 7 = .ok (.aload_n 0, 1) := by decide +kernel
theorem dX3_makeBare_8 : decode cX3_makeBare 8 = .ok (.dup, 1) := by decide +kernel
theorem dX3_makeBare_9 : decode cX3_makeBare 9 = .ok (.getfield 18, 3) := by decide +kernel
theorem dX3_makeBare_12 : decode cX3_makeBare 12 = .ok (.iconst 1, 1) := by decide +kernel
theorem dX3_makeBare_13 : decode cX3_makeBare 13 = .ok (.iload_n 1, 1) := by decide +kernel
theorem dX3_makeBare_14 : decode cX3_makeBare 14 = .ok (.ishl, 1) := by decide +kernel
theorem dX3_makeBare_15 : decode cX3_makeBare 15 = .ok (.iconst (-1), 1) := by decide +kernel
theorem dX3_makeBare_16 : decode cX3_makeBare 16 = .ok (.ixor, 1) := by decide +kernel
theorem dX3_makeBare_17 : decode cX3_makeBare 17 = .ok (.iand, 1) := by decide +kernel
theorem dX3_makeBare_18 : decode cX3_makeBare 18 = .ok (.putfield 18, 3) := by decide +kernel
theorem dX3_makeBare_21 : decode cX3_makeBare 21 = .ok (.return_, 1) := by decide +kernel
theorem dX3_setDefinition_0 : decode cX3_setDefinition 0 = .ok (.aload_n 0, 1) := by decide +kernel
theorem dX3_setDefinition_1 : decode cX3_setDefinition 1 = .ok (.getfield 25, 3) := by decide +kernel
theorem dX3_setDefinition_4 : decode cX3_setDefinition 4 = .ok (.iload_n 1, 1) := by decide +kernel
theorem dX3_setDefinition_5 : decode cX3_setDefinition 5 = .ok (.iload_n 2, 1) := by decide +kernel
theorem dX3_setDefinition_6 : decode cX3_setDefinition 6 = .ok (.iastore, 1) := by decide +kernel
theorem dX3_setDefinition_7 : decode cX3_setDefinition 7 = .ok (.aload_n 0, 1) := by decide +kernel
theorem dX3_setDefinition_8 : decode cX3_setDefinition 8 = .ok (.dup, 1) := by decide +kernel
theorem dX3_setDefinition_9 : decode cX3_setDefinition 9 = .ok (.getfield 18, 3) := by decide +kernel
theorem dX3_setDefinition_12 : decode cX3_setDefinition 12 = .ok (.iconst 1, 1) := by decide +kernel
theorem dX3_setDefinition_13 : decode cX3_setDefinition 13 = .ok (.iload_n 1, 1) := by decide +kernel
theorem dX3_setDefinition_14 : decode cX3_setDefinition 14 = .ok (.ishl, 1) := by decide +kernel
theorem dX3_setDefinition_15 : decode cX3_setDefinition 15 = .ok (.ior, 1) := by decide +kernel
theorem dX3_setDefinition_16 : decode cX3_setDefinition 16 = .ok (.putfield 18, 3) := by decide +kernel
theorem dX3_setDefinition_19 : decode cX3_setDefinition 19 = .ok (.return_, 1) := by decide +kernel
set_option maxRecDepth 20000 in
theorem ggX3_resize_X3_all : GoodIn wsX3_resize wsX3_all := goodIn_r _ [9, 1, 15, 16, 17, 18, 19] (by decide +kernel) (by decide +kernel)
set_option maxRecDepth 20000 in
theorem gX3_resize_X3_all : GoodIn wsX3_resize (wsV RX3 28 RX3 yX3_all wsX3_all) := goodIn_app (goodIn_of _ (by decide +kernel)) ggX3_resize_X3_all
set_option maxRecDepth 20000 in
theorem ggX3_resize_X3_makeBare : GoodIn wsX3_resize wsX3_makeBare := goodIn_r _ [13, 3, 14, 15, 16, 17, 18, 19] (by decide +kernel) (by decide +kernel)
set_option maxRecDepth 20000 in
theorem gX3_resize_X3_makeBare : GoodIn wsX3_resize (wsV RX3 32 RX3 yX3_makeBare wsX3_makeBare) := goodIn_app (goodIn_of _ (by decide +kernel)) ggX3_resize_X3_makeBare
theorem dX3_resize_0 : decode cX3_resize 0 = .ok (.aload_n 0, 1) := by decide +kernel
theorem dX3_resize_1 : decode cX3_resize 1 = .ok (.iload_n 1, 1) := by decide +kernel
theorem dX3_resize_2 : decode cX3_resize 2 = .ok (.putfield 9, 3) := by decide +kernel
theorem dX3_resize_5 : decode cX3_resize 5 = .ok (.aload_n 0, 1) := by decide +kernel
theorem dX3_resize_6 : decode cX3_resize 6 = .ok (.dup, 1) := by decide +kernel
theorem dX3_resize_7 : decode cX3_resize 7 = .ok (.getfield 15, 3) := by decide +kernel
theorem dX3_resize_10 : decode cX3_resize 10 = .ok (.aload_n 0, 1) := by decide +kernel
theorem dX3_resize_11 : decode cX3_resize 11 = .ok (.invokevirtual 28, 3) := by decide +kernel
theorem dX3_resize_14 : decode cX3_resize 14 = .ok (.iand, 1) := by decide +kernel
theorem dX3_resize_15 : decode cX3_resize 15 = .ok (.putfield 15, 3) := by decide +kernel
theorem dX3_resize_18 : decode cX3_resize 18 = .ok (.iconst 0, 1) := by decide +kernel
theorem dX3_resize_19 : decode cX3_resize 19 = .ok (.istore_n 2, 1) := by decide +kernel
theorem dX3_resize_20 : decode cX3_resize 20 = .ok (.iload_n 2, 1) := by decide +kernel
theorem dX3_resize_21 : decode cX3_resize 21 = .ok (.iload_n 1, 1) := by decide +kernel
theorem dX3_resize_22 : decode cX3_resize 22 = .ok (.if_icmp .ge 22, 3) := by decide +kernel
theorem dX3_resize_25 : decode cX3_resize 25 = .ok (.aload_n 0, 1) := by decide +kernel
theorem dX3_resize_26 : decode cX3_resize 26 = .ok (.getfield 25, 3) := by decide +kernel
theorem dX3_resize_29 : decode cX3_resize 29 = .ok (.iload_n 2, 1) := by decide +kernel
theorem dX3_resize_30 : decode cX3_resize 30 = .ok (.dup2, 1) := by decide +kernel
theorem dX3_resize_31 : decode cX3_resize 31 = .ok (.iaload, 1) := by decide +kernel
theorem dX3_resize_32 : decode cX3_resize 32 = .ok (.aload_n 0, 1) := by decide +kernel
theorem dX3_resize_33 : decode cX3_resize 33 = .ok (.invokevirtual 28, 3) := by decide +kernel
theorem dX3_resize_36 : decode cX3_resize 36 = .ok (.iand, 1) := by decide +kernel
theorem dX3_resize_37 : decode cX3_resize 37 = .ok (.iastore, 1) := by decide +kernel
theorem dX3_resize_38 : decode cX3_resize 38 = .ok (.iinc 2 1, 3) := by decide +kernel
theorem dX3_resize_41 : decode cX3_resize 41 = .ok (.goto (-21), 3) := by decide +kernel
theorem dX3_resize_44 : decode cX3_resize 44 = .ok (.iload_n 1, 1) := by decide +kernel
theorem dX3_resize_45 : decode cX3_resize 45 = .ok (.istore_n 2, 1) := by decide +kernel
theorem dX3_resize_46 : decode cX3_resize 46 = .ok (.iload_n 2, 1) := by decide +kernel
theorem dX3_resize_47 : decode cX3_resize 47 = .ok (.bipush 14, 2) := by decide +kernel
theorem dX3_resize_49 : decode cX3_resize 49 = .ok (.if_icmp .ge 21, 3) := by decide +kernel
theorem dX3_resize_52 : decode cX3_resize 52 = .ok (.aload_n 0, 1) := by decide +kernel
theorem dX3_resize_53 : decode cX3_resize 53 = .ok (.iload_n 2, 1) := by decide +kernel
theorem dX3_resize_54 : decode cX3_resize 54 = .ok (.invokevirtual 32, 3) := by decide +kernel
theorem dX3_resize_57 : decode cX3_resize 57 = .ok (.aload_n 0, 1) := by decide +kernel
theorem dX3_resize_58 : decode cX3_resize 58 = .ok (.getfield 21, 3) := by decide +kernel
theorem dX3_resize_61 : decode cX3_resize 61 = .ok (.iload_n 2, 1) := by decide +kernel
theorem dX3_resize_62 : decode cX3_resize 62 = .ok (.iconst 1, 1) := by decide +kernel
theorem dX3_resize_63 : decode cX3_resize 63 = .ok (.iastore, 1) := by decide +kernel
theorem dX3_resize_64 : decode cX3_resize 64 = .ok (.iinc 2 1, 3) := by decide +kernel
theorem dX3_resize_67 : decode cX3_resize 67 = .ok (.goto (-21), 3) := by decide +kernel
theorem dX3_resize_70 : decode cX3_resize 70 = .ok (.return_, 1) := by decide +kernel
theorem dX3_copyFrom_0 : decode cX3_copyFrom 0 = .ok (.aload_n 0, 1) := by decide +kernel
theorem dX3_copyFrom_1 : decode cX3_copyFrom 1 = .ok (.aload_n 1, 1) := by decide +kernel
theorem dX3_copyFrom_2 : decode cX3_copyFrom 2 = .ok (.getfield 9, 3) := by decide +kernel
theorem dX3_copyFrom_5 : decode cX3_copyFrom 5 = .ok (.putfield 9, 3) := by decide +kernel
theorem dX3_copyFrom_8 : decode cX3_copyFrom 8 = .ok (.aload_n 0, 1) := by decide +kernel
theorem dX3_copyFrom_9 : decode cX3_copyFrom 9 = .ok (.aload_n 1, 1) := by decide +kernel
theorem dX3_copyFrom_10 : decode cX3_copyFrom 10 = .ok (.getfield 15, 3) := by decide +kernel
theorem dX3_copyFrom_13 : decode cX3_copyFrom 13 = .ok (.putfield 15, 3) := by decide +kernel
theorem dX3_copyFrom_16 : decode cX3_copyFrom 16 = .ok (.aload_n 0, 1) := by decide +kernel
theorem dX3_copyFrom_17 : decode cX3_copyFrom 17 = .ok (.aload_n 1, 1) := by decide +kernel
theorem dX3_copyFrom_18 : decode cX3_copyFrom 18 = .ok (.getfield 18, 3) := by decide +kernel
theorem dX3_copyFrom_21 : decode cX3_copyFrom 21 = .ok (.putfield 18, 3) := by decide +kernel
theorem dX3_copyFrom_24 : decode cX3_copyFrom 24 = .ok (.iconst 0, 1) := by decide +kernel
theorem dX3_copyFrom_25 : decode cX3_copyFrom 25 = .ok (.istore_n 2, 1) := by decide +kernel
theorem dX3_copyFrom_26 : decode cX3_copyFrom 26 = .ok (.iload_n 2, 1) := by decide +kernel
theorem dX3_copyFrom_27 : decode cX3_copyFrom 27 = .ok (.bipush 14, 2) := by decide +kernel
theorem dX3_copyFrom_29 : decode cX3_copyFrom 29 = .ok (.if_icmp .ge 33, 3) := by decide +kernel
theorem dX3_copyFrom_32 : decode cX3_copyFrom 32 = .ok (.aload_n 0, 1) := by decide +kernel
theorem dX3_copyFrom_33 : decode cX3_copyFrom 33 = .ok (.getfield 21, 3) := by decide +kernel
theorem dX3_copyFrom_36 : decode cX3_copyFrom 36 = .ok (.iload_n 2, 1) := by decide +kernel
theorem dX3_copyFrom_37 : decode cX3_copyFrom 37 = .ok (.aload_n 1, 1) := by decide +kernel
theorem dX3_copyFrom_38 : decode cX3_copyFrom 38 = .ok (.getfield 21, 3) := by decide +kernel
theorem dX3_copyFrom_41 : decode cX3_copyFrom 41 = .ok (.iload_n 2, 1) := by decide +kernel
theorem dX3_copyFrom_42 : decode cX3_copyFrom 42 = .ok (.iaload, 1) := by decide +kernel
theorem dX3_copyFrom_43 : decode cX3_copyFrom 43 = .ok (.iastore, 1) := by decide +kernel
theorem dX3_copyFrom_44 : decode cX3_copyFrom 44 = .ok (.aload_n 0, 1) := by decide +kernel
theorem dX3_copyFrom_45 : decode cX3_copyFrom 45 = .ok (.getfield 25, 3) := by decide +kernel
theorem dX3_copyFrom_48 : decode cX3_copyFrom 48 = .ok (.iload_n 2, 1) := by decide +kernel
theorem dX3_copyFrom_49 : decode cX3_copyFrom 49 = .ok (.aload_n 1, 1) := by decide +kernel
theorem dX3_copyFrom_50 : decode cX3_copyFrom 50 = .ok (.getfield 25, 3) := by decide +kernel
theorem dX3_copyFrom_53 : decode cX3_copyFrom 53 = .ok (.iload_n 2, 1) := by decide +kernel
theorem dX3_copyFrom_54 : decode cX3_copyFrom 54 = .ok (.iaload, 1) := by decide +kernel
theorem dX3_copyFrom_55 : decode cX3_copyFrom 55 = .ok (.iastore, 1) := by decide +kernel
theorem dX3_copyFrom_56 : decode cX3_copyFrom 56 = .ok (.iinc 2 1, 3) := by decide +kernel
theorem dX3_copyFrom_59 : decode cX3_copyFrom 59 = .ok (.goto (-33), 3) := by decide +kernel
theorem dX3_copyFrom_62 : decode cX3_copyFrom 62 = .ok (.return_, 1) := by decide +kernel
theorem dX3_usersOf_0 : decode cX3_usersOf 0 = .ok (.iconst 0, 1) := by decide +kernel
theorem dX3_usersOf_1 : decode cX3_usersOf 1 = .ok (.istore_n 2, 1) := by decide +kernel
theorem dX3_usersOf_2 : decode cX3_usersOf 2 = .ok (.iconst 0, 1) := by decide +kernel
theorem dX3_usersOf_3 : decode cX3_usersOf 3 = .ok (.istore_n 3, 1) := by decide +kernel
theorem dX3_usersOf_4 : decode cX3_usersOf 4 = .ok (.iload_n 3, 1) := by decide +kernel
theorem dX3_usersOf_5 : decode cX3_usersOf 5 = .ok (.aload_n 0, 1) := by decide +kernel
theorem dX3_usersOf_6 : decode cX3_usersOf 6 = .ok (.getfield 9, 3) := by decide +kernel
theorem dX3_usersOf_9 : decode cX3_usersOf 9 = .ok (.if_icmp .ge 24, 3) := by decide +kernel
theorem dX3_usersOf_12 : decode cX3_usersOf 12 = .ok (.iload_n 2, 1) := by decide +kernel
theorem dX3_usersOf_13 : decode cX3_usersOf 13 = .ok (.aload_n 0, 1) := by decide +kernel
theorem dX3_usersOf_14 : decode cX3_usersOf 14 = .ok (.getfield 25, 3) := by decide +kernel
theorem dX3_usersOf_17 : decode cX3_usersOf 17 = .ok (.iload_n 3, 1) := by decide +kernel
theorem dX3_usersOf_18 : decode cX3_usersOf 18 = .ok (.iaload, 1) := by decide +kernel
theorem dX3_usersOf_19 : decode cX3_usersOf 19 = .ok (.iload_n 1, 1) := by decide +kernel
theorem dX3_usersOf_20 : decode cX3_usersOf 20 = .ok (.ishr, 1) := by decide +kernel
theorem dX3_usersOf_21 : decode cX3_usersOf 21 = .ok (.iconst 1, 1) := by decide +kernel
theorem dX3_usersOf_22 : decode cX3_usersOf 22 = .ok (.iand, 1) := by decide +kernel
theorem dX3_usersOf_23 : decode cX3_usersOf 23 = .ok (.iload_n 3, 1) := by decide +kernel
theorem dX3_usersOf_24 : decode cX3_usersOf 24 = .ok (.ishl, 1) := by decide +kernel
theorem dX3_usersOf_25 : decode cX3_usersOf 25 = .ok (.ior, 1) := by decide +kernel
theorem dX3_usersOf_26 : decode cX3_usersOf 26 = .ok (.istore_n 2, 1) := by decide +kernel
theorem dX3_usersOf_27 : decode cX3_usersOf 27 = .ok (.iinc 3 1, 3) := by decide +kernel
theorem dX3_usersOf_30 : decode cX3_usersOf 30 = .ok (.goto (-26), 3) := by decide +kernel
theorem dX3_usersOf_33 : decode cX3_usersOf 33 = .ok (.iload_n 2, 1) := by decide +kernel
theorem dX3_usersOf_34 : decode cX3_usersOf 34 = .ok (.ireturn, 1) := by decide +kernel
theorem dX3_used_0 : decode cX3_used 0 = .ok (.iconst 0, 1) := by decide +kernel
theorem dX3_used_1 : decode cX3_used 1 = .ok (.istore_n 1, 1) := by decide +kernel
theorem dX3_used_2 : decode cX3_used 2 = .ok (.iconst 0, 1) := by decide +kernel
theorem dX3_used_3 : decode cX3_used 3 = .ok (.istore_n 2, 1) := by decide +kernel
theorem dX3_used_4 : decode cX3_used 4 = .ok (.iload_n 2, 1) := by decide +kernel
theorem dX3_used_5 : decode cX3_used 5 = .ok (.aload_n 0, 1) := by decide +kernel
theorem dX3_used_6 : decode cX3_used 6 = .ok (.getfield 9, 3) := by decide +kernel
theorem dX3_used_9 : decode cX3_used 9 = .ok (.if_icmp .ge 18, 3) := by decide +kernel
theorem dX3_used_12 : decode cX3_used 12 = .ok (.iload_n 1, 1) := by decide +kernel
theorem dX3_used_13 : decode cX3_used 13 = .ok (.aload_n 0, 1) := by decide +kernel
theorem dX3_used_14 : decode cX3_used 14 = .ok (.getfield 25, 3) := by decide +kernel
theorem dX3_used_17 : decode cX3_used 17 = .ok (.iload_n 2, 1) := by decide +kernel
theorem dX3_used_18 : decode cX3_used 18 = .ok (.iaload, 1) := by decide +kernel
theorem dX3_used_19 : decode cX3_used 19 = .ok (.ior, 1) := by decide +kernel
theorem dX3_used_20 : decode cX3_used 20 = .ok (.istore_n 1, 1) := by decide +kernel
theorem dX3_used_21 : decode cX3_used 21 = .ok (.iinc 2 1, 3) := by decide +kernel
theorem dX3_used_24 : decode cX3_used 24 = .ok (.goto (-20), 3) := by decide +kernel
theorem dX3_used_27 : decode cX3_used 27 = .ok (.iload_n 1, 1) := by decide +kernel
theorem dX3_used_28 : decode cX3_used 28 = .ok (.ireturn, 1) := by decide +kernel
set_option maxRecDepth 20000 in
theorem ggX3_howOftenUsed_J6_bitCount_0f7a4 : GoodIn wsX3_howOftenUsed wsJ6_bitCount_0f7a4 := goodIn_r _ [6, 7, 8, 9] (by decide +kernel) (by decide +kernel)
set_option maxRecDepth 20000 in
theorem gX3_howOftenUsed_J6_bitCount_0f7a4 : GoodIn wsX3_howOftenUsed (va_wsS RX3 36 yJ6_bitCount_0f7a4 wsJ6_bitCount_0f7a4) := goodIn_app (goodIn_of _ (by decide +kernel)) ggX3_howOftenUsed_J6_bitCount_0f7a4
theorem dX3_howOftenUsed_0 : decode cX3_howOftenUsed 0 = .ok (.iconst 0, 1) := by decide +kernel
theorem dX3_howOftenUsed_1 : decode cX3_howOftenUsed 1 = .ok (.istore_n 1, 1) := by decide +kernel
theorem dX3_howOftenUsed_2 : decode cX3_howOftenUsed 2 = .ok (.iconst 0, 1) := by decide +kernel
theorem dX3_howOftenUsed_3 : decode cX3_howOftenUsed 3 = .ok (.istore_n 2, 1) := by decide +kernel
theorem dX3_howOftenUsed_4 : decode cX3_howOftenUsed 4 = .ok (.iload_n 2, 1) := by decide +kernel
theorem dX3_howOftenUsed_5 : decode cX3_howOftenUsed 5 = .ok (.aload_n 0, 1) := by decide +kernel
theorem dX3_howOftenUsed_6 : decode cX3_howOftenUsed 6 = .ok (.getfield 9, 3) := by decide +kernel
theorem dX3_howOftenUsed_9 : decode cX3_howOftenUsed 9 = .ok (.if_icmp .ge 21, 3) := by decide +kernel
theorem dX3_howOftenUsed_12 : decode cX3_howOftenUsed 12 = .ok (.iload_n 1, 1) := by decide +kernel
theorem dX3_howOftenUsed_13 : decode cX3_howOftenUsed 13 = .ok (.aload_n 0, 1) := by decide +kernel
theorem dX3_howOftenUsed_14 : decode cX3_howOftenUsed 14 = .ok (.getfield 25, 3) := by decide +kernel
theorem dX3_howOftenUsed_17 : decode cX3_howOftenUsed 17 = .ok (.iload_n 2, 1) := by decide +kernel
theorem dX3_howOftenUsed_18 : decode cX3_howOftenUsed 18 = .ok (.iaload, 1) := by decide +kernel
theorem dX3_howOftenUsed_19 : decode cX3_howOftenUsed 19 = .ok (.invokestatic 36, 3) := by decide +kernel
theorem dX3_howOftenUsed_22 : decode cX3_howOftenUsed 22 = .ok (.iadd, 1) := by decide +kernel
theorem dX3_howOftenUsed_23 : decode cX3_howOftenUsed 23 = .ok (.istore_n 1, 1) := by decide +kernel
theorem dX3_howOftenUsed_24 : decode cX3_howOftenUsed 24 = .ok (.iinc 2 1, 3) := by decide +kernel
theorem dX3_howOftenUsed_27 : decode cX3_howOftenUsed 27 = .ok (.goto (-23), 3) := by decide +kernel
theorem dX3_howOftenUsed_30 : decode cX3_howOftenUsed 30 = .ok (.iload_n 1, 1) := by decide +kernel
theorem dX3_howOftenUsed_31 : decode cX3_howOftenUsed 31 = .ok (.ireturn, 1) := by decide +kernel
theorem dX3_costOf_0 : decode cX3_costOf 0 = .ok (.iconst 0, 1) := by decide +kernel
theorem dX3_costOf_1 : decode cX3_costOf 1 = .ok (.istore_n 2, 1) := by decide +kernel
theorem dX3_costOf_2 : decode cX3_costOf 2 = .ok (.iconst 0, 1) := by decide +kernel
theorem dX3_costOf_3 : decode cX3_costOf 3 = .ok (.istore_n 3, 1) := by decide +kernel
theorem dX3_costOf_4 : decode cX3_costOf 4 = .ok (.iload_n 3, 1) := by decide +kernel
theorem dX3_costOf_5 : decode cX3_costOf 5 = .ok (.aload_n 0, 1) := by decide +kernel
theorem dX3_costOf_6 : decode cX3_costOf 6 = .ok (.getfield 9, 3) := by decide +kernel
theorem dX3_costOf_9 : decode cX3_costOf 9 = .ok (.if_icmp .ge 26, 3) := by decide +kernel
theorem dX3_costOf_12 : decode cX3_costOf 12 = .ok (.iload_n 1, 1) := by decide +kernel
theorem dX3_costOf_13 : decode cX3_costOf 13 = .ok (.iload_n 3, 1) := by decide +kernel
theorem dX3_costOf_14 : decode cX3_costOf 14 = .ok (.ishr, 1) := by decide +kernel
theorem dX3_costOf_15 : decode cX3_costOf 15 = .ok (.iconst 1, 1) := by decide +kernel
theorem dX3_costOf_16 : decode cX3_costOf 16 = .ok (.iand, 1) := by decide +kernel
theorem dX3_costOf_17 : decode cX3_costOf 17 = .ok (.ifCond .eq 12, 3) := by decide +kernel
theorem dX3_costOf_20 : decode cX3_costOf 20 = .ok (.iload_n 2, 1) := by decide +kernel
theorem dX3_costOf_21 : decode cX3_costOf 21 = .ok (.aload_n 0, 1) := by decide +kernel
theorem dX3_costOf_22 : decode cX3_costOf 22 = .ok (.getfield 21, 3) := by decide +kernel
theorem dX3_costOf_25 : decode cX3_costOf 25 = .ok (.iload_n 3, 1) := by decide +kernel
theorem dX3_costOf_26 : decode cX3_costOf 26 = .ok (.iaload, 1) := by decide +kernel
theorem dX3_costOf_27 : decode cX3_costOf 27 = .ok (.iadd, 1) := by decide +kernel
theorem dX3_costOf_28 : decode cX3_costOf 28 = .ok (.istore_n 2, 1) := by decide +kernel
theorem dX3_costOf_29 : decode cX3_costOf 29 = .ok (.iinc 3 1, 3) := by decide +kernel
theorem dX3_costOf_32 : decode cX3_costOf 32 = .ok (.goto (-28), 3) := by decide +kernel
theorem dX3_costOf_35 : decode cX3_costOf 35 = .ok (.iload_n 2, 1) := by decide +kernel
theorem dX3_costOf_36 : decode cX3_costOf 36 = .ok (.ireturn, 1) := by decide +kernel
set_option maxRecDepth 20000 in
theorem ggX3_nextDay_X3_isBare : GoodIn wsX3_nextDay wsX3_isBare := goodIn_r _ [7, 8, 9, 10, 11, 12, 13] (by decide +kernel) (by decide +kernel)
set_option maxRecDepth 20000 in
theorem gX3_nextDay_X3_isBare : GoodIn wsX3_nextDay (wsV RX3 42 RX3 yX3_isBare wsX3_isBare) := goodIn_app (goodIn_of _ (by decide +kernel)) ggX3_nextDay_X3_isBare
theorem dX3_nextDay_0 : decode cX3_nextDay 0 = .ok (.iload_n 1, 1) := by decide +kernel
theorem dX3_nextDay_1 : decode cX3_nextDay 1 = .ok (.istore_n 2, 1) := by decide +kernel
theorem dX3_nextDay_2 : decode cX3_nextDay 2 = .ok (.iconst 0, 1) := by decide +kernel
theorem dX3_nextDay_3 : decode cX3_nextDay 3 = .ok (.istore_n 3, 1) := by decide +kernel
theorem dX3_nextDay_4 : decode cX3_nextDay 4 = .ok (.iload_n 3, 1) := by decide +kernel
theorem dX3_nextDay_5 : decode cX3_nextDay 5 = .ok (.aload_n 0, 1) := by decide +kernel
theorem dX3_nextDay_6 : decode cX3_nextDay 6 = .ok (.getfield 9, 3) := by decide +kernel
theorem dX3_nextDay_9 : decode cX3_nextDay 9 = .ok (.if_icmp .ge 36, 3) := by decide +kernel
theorem dX3_nextDay_12 : decode cX3_nextDay 12 = .ok (.aload_n 0, 1) := by decide +kernel
theorem dX3_nextDay_13 : decode cX3_nextDay 13 = .ok (.iload_n 3, 1) := by decide +kernel
theorem dX3_nextDay_14 : decode cX3_nextDay 14 = .ok (.invokevirtual 42, 3) := by decide +kernel
theorem dX3_nextDay_17 : decode cX3_nextDay 17 = .ok (.ifCond .ne 22, 3) := by decide +kernel
theorem dX3_nextDay_20 : decode cX3_nextDay 20 = .ok (.aload_n 0, 1) := by decide +kernel
theorem dX3_nextDay_21 : decode cX3_nextDay 21 = .ok (.getfield 25, 3) := by decide +kernel
theorem dX3_nextDay_24 : decode cX3_nextDay 24 = .ok (.iload_n 3, 1) := by decide +kernel
theorem dX3_nextDay_25 : decode cX3_nextDay 25 = .ok (.iaload, 1) := by decide +kernel
theorem dX3_nextDay_26 : decode cX3_nextDay 26 = .ok (.iload_n 1, 1) := by decide +kernel
theorem dX3_nextDay_27 : decode cX3_nextDay 27 = .ok (.iconst (-1), 1) := by decide +kernel
theorem dX3_nextDay_28 : decode cX3_nextDay 28 = .ok (.ixor, 1) := by decide +kernel
theorem dX3_nextDay_29 : decode cX3_nextDay 29 = .ok (.iand, 1) := by decide +kernel
theorem dX3_nextDay_30 : decode cX3_nextDay 30 = .ok (.ifCond .ne 9, 3) := by decide +kernel
theorem dX3_nextDay_33 : decode cX3_nextDay 33 = .ok (.iload_n 2, 1) := by decide +kernel
theorem dX3_nextDay_34 : decode cX3_nextDay 34 = .ok (.iconst 1, 1) := by decide +kernel
theorem dX3_nextDay_35 : decode cX3_nextDay 35 = .ok (.iload_n 3, 1) := by decide +kernel
theorem dX3_nextDay_36 : decode cX3_nextDay 36 = .ok (.ishl, 1) := by decide +kernel
theorem dX3_nextDay_37 : decode cX3_nextDay 37 = .ok (.ior, 1) := by decide +kernel
theorem dX3_nextDay_38 : decode cX3_nextDay 38 = .ok (.istore_n 2, 1) := by decide +kernel
theorem dX3_nextDay_39 : decode cX3_nextDay 39 = .ok (.iinc 3 1, 3) := by decide +kernel
theorem dX3_nextDay_42 : decode cX3_nextDay 42 = .ok (.goto (-38), 3) := by decide +kernel
theorem dX3_nextDay_45 : decode cX3_nextDay 45 = .ok (.iload_n 2, 1) := by decide +kernel
theorem dX3_nextDay_46 : decode cX3_nextDay 46 = .ok (.ireturn, 1) := by decide +kernel
set_option maxRecDepth 20000 in
theorem ggX3_groundedBy_X3_nextDay : GoodIn wsX3_groundedBy wsX3_nextDay := goodIn_r _ [6, 1, 7, 8, 9, 10, 5, 11, 12, 13, 14, 15, 16, 17] (by decide +kernel) (by decide +kernel)
set_option maxRecDepth 20000 in
theorem gX3_groundedBy_X3_nextDay : GoodIn wsX3_groundedBy (wsV RX3 46 RX3 yX3_nextDay wsX3_nextDay) := goodIn_app (goodIn_of _ (by decide +kernel)) ggX3_groundedBy_X3_nextDay
theorem dX3_groundedBy_0 : decode cX3_groundedBy 0 = .ok (.iload_n 1, 1) := by decide +kernel
theorem dX3_groundedBy_1 : decode cX3_groundedBy 1 = .ok (.istore_n 2, 1) := by decide +kernel
theorem dX3_groundedBy_2 : decode cX3_groundedBy 2 = .ok (.iconst 0, 1) := by decide +kernel
theorem dX3_groundedBy_3 : decode cX3_groundedBy 3 = .ok (.istore_n 3, 1) := by decide +kernel
theorem dX3_groundedBy_4 : decode cX3_groundedBy 4 = .ok (.iload_n 3, 1) := by decide +kernel
theorem dX3_groundedBy_5 : decode cX3_groundedBy 5 = .ok (.aload_n 0, 1) := by decide +kernel
theorem dX3_groundedBy_6 : decode cX3_groundedBy 6 = .ok (.getfield 9, 3) := by decide +kernel
theorem dX3_groundedBy_9 : decode cX3_groundedBy 9 = .ok (.if_icmp .ge 15, 3) := by decide +kernel
theorem dX3_groundedBy_12 : decode cX3_groundedBy 12 = .ok (.aload_n 0, 1) := by decide +kernel
theorem dX3_groundedBy_13 : decode cX3_groundedBy 13 = .ok (.iload_n 2, 1) := by decide +kernel
theorem dX3_groundedBy_14 : decode cX3_groundedBy 14 = .ok (.invokevirtual 46, 3) := by decide +kernel
theorem dX3_groundedBy_17 : decode cX3_groundedBy 17 = .ok (.istore_n 2, 1) := by decide +kernel
theorem dX3_groundedBy_18 : decode cX3_groundedBy 18 = .ok (.iinc 3 1, 3) := by decide +kernel
theorem dX3_groundedBy_21 : decode cX3_groundedBy 21 = .ok (.goto (-17), 3) := by decide +kernel
theorem dX3_groundedBy_24 : decode cX3_groundedBy 24 = .ok (.iload_n 2, 1) := by decide +kernel
theorem dX3_groundedBy_25 : decode cX3_groundedBy 25 = .ok (.ireturn, 1) := by decide +kernel
set_option maxRecDepth 20000 in
theorem ggX3_daysTill_X3_nextDay : GoodIn wsX3_daysTill wsX3_nextDay := goodIn_r _ [6, 1, 7, 8, 9, 10, 5, 11, 12, 13, 14, 15, 16, 17] (by decide +kernel) (by decide +kernel)
set_option maxRecDepth 20000 in
theorem gX3_daysTill_X3_nextDay : GoodIn wsX3_daysTill (wsV RX3 46 RX3 yX3_nextDay wsX3_nextDay) := goodIn_app (goodIn_of _ (by decide +kernel)) ggX3_daysTill_X3_nextDay
theorem dX3_daysTill_0 : decode cX3_daysTill 0 = .ok (.iload_n 2, 1) := by decide +kernel
theorem dX3_daysTill_1 : decode cX3_daysTill 1 = .ok (.istore_n 3, 1) := by decide +kernel
theorem dX3_daysTill_2 : decode cX3_daysTill 2 = .ok (.iconst 0, 1) := by decide +kernel
theorem dX3_daysTill_3 : decode cX3_daysTill 3 = .ok (.istore 4, 2) := by decide +kernel
theorem dX3_daysTill_5 : decode cX3_daysTill 5 = .ok (.iload 4, 2) := by decide +kernel
theorem dX3_daysTill_7 : decode cX3_daysTill 7 = .ok (.aload_n 0, 1) := by decide +kernel
theorem dX3_daysTill_8 : decode cX3_daysTill 8 = .ok (.getfield 9, 3) := by decide +kernel
theorem dX3_daysTill_11 : decode cX3_daysTill 11 = .ok (.if_icmp .gt 26, 3) := by decide +kernel
theorem dX3_daysTill_14 : decode cX3_daysTill 14 = .ok (.iload_n 1, 1) := by decide +kernel
theorem dX3_daysTill_15 : decode cX3_daysTill 15 = .ok (.iload_n 3, 1) := by decide +kernel
theorem dX3_daysTill_16 : decode cX3_daysTill 16 = .ok (.iconst (-1), 1) := by decide +kernel
theorem dX3_daysTill_17 : decode cX3_daysTill 17 = .ok (.ixor, 1) := by decide +kernel
theorem dX3_daysTill_18 : decode cX3_daysTill 18 = .ok (.iand, 1) := by decide +kernel
theorem dX3_daysTill_19 : decode cX3_daysTill 19 = .ok (.ifCond .ne 6, 3) := by decide +kernel
theorem dX3_daysTill_22 : decode cX3_daysTill 22 = .ok (.iload 4, 2) := by decide +kernel
theorem dX3_daysTill_24 : decode cX3_daysTill 24 = .ok (.ireturn, 1) := by decide +kernel
theorem dX3_daysTill_25 : decode cX3_daysTill 25 = .ok (.aload_n 0, 1) := by decide +kernel
theorem dX3_daysTill_26 : decode cX3_daysTill 26 = .ok (.iload_n 3, 1) := by decide +kernel
theorem dX3_daysTill_27 : decode cX3_daysTill 27 = .ok (.invokevirtual 46, 3) := by decide +kernel
theorem dX3_daysTill_30 : decode cX3_daysTill 30 = .ok (.istore_n 3, 1) := by decide +kernel
theorem dX3_daysTill_31 : decode cX3_daysTill 31 = .ok (.iinc 4 1, 3) := by decide +kernel
theorem dX3_daysTill_34 : decode cX3_daysTill 34 = .ok (.goto (-29), 3) := by decide +kernel
theorem dX3_daysTill_37 : decode cX3_daysTill 37 = .ok (.bipush (-6), 2) := by decide +kernel
theorem dX3_daysTill_39 : decode cX3_daysTill 39 = .ok (.ireturn, 1) := by decide +kernel
set_option maxRecDepth 20000 in
theorem ggX3_stepsBetween_X3_usedByAny : GoodIn wsX3_stepsBetween wsX3_usedByAny := goodIn_r _ [7, 2, 1, 8, 9, 10, 11, 12] (by decide +kernel) (by decide +kernel)
set_option maxRecDepth 20000 in
theorem gX3_stepsBetween_X3_usedByAny : GoodIn wsX3_stepsBetween (wsV RX3 49 RX3 yX3_usedByAny wsX3_usedByAny) := goodIn_app (goodIn_of _ (by decide +kernel)) ggX3_stepsBetween_X3_usedByAny
theorem dX3_stepsBetween_0 : decode cX3_stepsBetween 0 = .ok (.aload_n 0, 1) := by decide +kernel
theorem dX3_stepsBetween_1 : decode cX3_stepsBetween 1 = .ok (.getfield 25, 3) := by decide +kernel
theorem dX3_stepsBetween_4 : decode cX3_stepsBetween 4 = .ok (.iload_n 1, 1) := by decide +kernel
theorem dX3_stepsBetween_5 : decode cX3_stepsBetween 5 = .ok (.iaload, 1) := by decide +kernel
theorem dX3_stepsBetween_6 : decode cX3_stepsBetween 6 = .ok (.istore_n 3, 1) := by decide +kernel
theorem dX3_stepsBetween_7 : decode cX3_stepsBetween 7 = .ok (.iconst 1, 1) := by decide +kernel
theorem dX3_stepsBetween_8 : decode cX3_stepsBetween 8 = .ok (.istore 4, 2) := by decide +kernel
theorem dX3_stepsBetween_10 : decode cX3_stepsBetween 10 = .ok (.iload 4, 2) := by decide +kernel
theorem dX3_stepsBetween_12 : decode cX3_stepsBetween 12 = .ok (.aload_n 0, 1) := by decide +kernel
theorem dX3_stepsBetween_13 : decode cX3_stepsBetween 13 = .ok (.getfield 9, 3) := by decide +kernel
theorem dX3_stepsBetween_16 : decode cX3_stepsBetween 16 = .ok (.if_icmp .gt 28, 3) := by decide +kernel
theorem dX3_stepsBetween_19 : decode cX3_stepsBetween 19 = .ok (.iload_n 3, 1) := by decide +kernel
theorem dX3_stepsBetween_20 : decode cX3_stepsBetween 20 = .ok (.iload_n 2, 1) := by decide +kernel
theorem dX3_stepsBetween_21 : decode cX3_stepsBetween 21 = .ok (.ishr, 1) := by decide +kernel
theorem dX3_stepsBetween_22 : decode cX3_stepsBetween 22 = .ok (.iconst 1, 1) := by decide +kernel
theorem dX3_stepsBetween_23 : decode cX3_stepsBetween 23 = .ok (.iand, 1) := by decide +kernel
theorem dX3_stepsBetween_24 : decode cX3_stepsBetween 24 = .ok (.ifCond .eq 6, 3) := by decide +kernel
theorem dX3_stepsBetween_27 : decode cX3_stepsBetween 27 = .ok (.iload 4, 2) := by decide +kernel
theorem dX3_stepsBetween_29 : decode cX3_stepsBetween 29 = .ok (.ireturn, 1) := by decide +kernel
theorem dX3_stepsBetween_30 : decode cX3_stepsBetween 30 = .ok (.iload_n 3, 1) := by decide +kernel
theorem dX3_stepsBetween_31 : decode cX3_stepsBetween 31 = .ok (.aload_n 0, 1) := by decide +kernel
theorem dX3_stepsBetween_32 : decode cX3_stepsBetween 32 = .ok (.iload_n 3, 1) := by decide +kernel
theorem dX3_stepsBetween_33 : decode cX3_stepsBetween 33 = .ok (.invokevirtual 49, 3) := by decide +kernel
theorem dX3_stepsBetween_36 : decode cX3_stepsBetween 36 = .ok (.ior, 1) := by decide +kernel
theorem dX3_stepsBetween_37 : decode cX3_stepsBetween 37 = .ok (.istore_n 3, 1) := by decide +kernel
theorem dX3_stepsBetween_38 : decode cX3_stepsBetween 38 = .ok (.iinc 4 1, 3) := by decide +kernel
theorem dX3_stepsBetween_41 : decode cX3_stepsBetween 41 = .ok (.goto (-31), 3) := by decide +kernel
theorem dX3_stepsBetween_44 : decode cX3_stepsBetween 44 = .ok (.bipush (-6), 2) := by decide +kernel
theorem dX3_stepsBetween_46 : decode cX3_stepsBetween 46 = .ok (.ireturn, 1) := by decide +kernel
theorem dX3_usedByAny_0 : decode cX3_usedByAny 0 = .ok (.iconst 0, 1) := by decide +kernel
theorem dX3_usedByAny_1 : decode cX3_usedByAny 1 = .ok (.istore_n 2, 1) := by decide +kernel
theorem dX3_usedByAny_2 : decode cX3_usedByAny 2 = .ok (.iconst 0, 1) := by decide +kernel
theorem dX3_usedByAny_3 : decode cX3_usedByAny 3 = .ok (.istore_n 3, 1) := by decide +kernel
theorem dX3_usedByAny_4 : decode cX3_usedByAny 4 = .ok (.iload_n 3, 1) := by decide +kernel
theorem dX3_usedByAny_5 : decode cX3_usedByAny 5 = .ok (.aload_n 0, 1) := by decide +kernel
theorem dX3_usedByAny_6 : decode cX3_usedByAny 6 = .ok (.getfield 9, 3) := by decide +kernel
theorem dX3_usedByAny_9 : decode cX3_usedByAny 9 = .ok (.if_icmp .ge 26, 3) := by decide +kernel
theorem dX3_usedByAny_12 : decode cX3_usedByAny 12 = .ok (.iload_n 1, 1) := by decide +kernel
theorem dX3_usedByAny_13 : decode cX3_usedByAny 13 = .ok (.iload_n 3, 1) := by decide +kernel
theorem dX3_usedByAny_14 : decode cX3_usedByAny 14 = .ok (.ishr, 1) := by decide +kernel
theorem dX3_usedByAny_15 : decode cX3_usedByAny 15 = .ok (.iconst 1, 1) := by decide +kernel
theorem dX3_usedByAny_16 : decode cX3_usedByAny 16 = .ok (.iand, 1) := by decide +kernel
theorem dX3_usedByAny_17 : decode cX3_usedByAny 17 = .ok (.ifCond .eq 12, 3) := by decide +kernel
theorem dX3_usedByAny_20 : decode cX3_usedByAny 20 = .ok (.iload_n 2, 1) := by decide +kernel
theorem dX3_usedByAny_21 : decode cX3_usedByAny 21 = .ok (.aload_n 0, 1) := by decide +kernel
theorem dX3_usedByAny_22 : decode cX3_usedByAny 22 = .ok (.getfield 25, 3) := by decide +kernel
theorem dX3_usedByAny_25 : decode cX3_usedByAny 25 = .ok (.iload_n 3, 1) := by decide +kernel
theorem dX3_usedByAny_26 : decode cX3_usedByAny 26 = .ok (.iaload, 1) := by decide +kernel
theorem dX3_usedByAny_27 : decode cX3_usedByAny 27 = .ok (.ior, 1) := by decide +kernel
theorem dX3_usedByAny_28 : decode cX3_usedByAny 28 = .ok (.istore_n 2, 1) := by decide +kernel
theorem dX3_usedByAny_29 : decode cX3_usedByAny 29 = .ok (.iinc 3 1, 3) := by decide +kernel
theorem dX3_usedByAny_32 : decode cX3_usedByAny 32 = .ok (.goto (-28), 3) := by decide +kernel
theorem dX3_usedByAny_35 : decode cX3_usedByAny 35 = .ok (.iload_n 2, 1) := by decide +kernel
theorem dX3_usedByAny_36 : decode cX3_usedByAny 36 = .ok (.ireturn, 1) := by decide +kernel
set_option maxRecDepth 20000 in
theorem ggX4_init_X3_init : GoodIn wsX4_init wsX3_init := goodIn_r _ [25, 26, 2, 3, 27, 28, 29, 30, 31, 32, 51, 52, 53, 54, 55] (by decide +kernel) (by decide +kernel)
set_option maxRecDepth 20000 in
theorem gX4_init_X3_init_n9 : GoodIn wsX4_init (wsX3_init) := ggX4_init_X3_init
set_option maxRecDepth 20000 in
theorem ggX4_init_X2_init : GoodIn wsX4_init wsX2_init := goodIn_r _ [34, 35, 2, 3, 30, 36, 37, 64, 65] (by decide +kernel) (by decide +kernel)
set_option maxRecDepth 20000 in
theorem gX4_init_X2_init_n22 : GoodIn wsX4_init (wsX2_init) := ggX4_init_X2_init
set_option maxRecDepth 20000 in
theorem ggX4_init_X0_init : GoodIn wsX4_init wsX0_init := goodIn_r _ [39, 40, 2, 3, 41, 30, 42, 43, 66, 67, 68] (by decide +kernel) (by decide +kernel)
set_option maxRecDepth 20000 in
theorem gX4_init_X0_init_n29 : GoodIn wsX4_init (wsX0_init) := ggX4_init_X0_init
set_option maxRecDepth 20000 in
theorem ggX4_init_X1_init : GoodIn wsX4_init wsX1_init := goodIn_r _ [45, 46, 2, 3, 47, 48, 49, 50, 69, 70, 71] (by decide +kernel) (by decide +kernel)
set_option maxRecDepth 20000 in
theorem gX4_init_X1_init_n36 : GoodIn wsX4_init (wsX1_init) := ggX4_init_X1_init
theorem dX4_init_0 : decode cX4_init 0 = .ok (.aload_n 0, 1) := by decide +kernel
theorem dX4_init_1 : decode cX4_init 1 = .ok (.invokespecial 1, 3) := by decide +kernel
theorem dX4_init_4 : decode cX4_init 4 = .ok (.aload_n 0, 1) := by decide +kernel
theorem dX4_init_5 : decode cX4_init 5 = .ok (.new 7, 3) := by decide +kernel
theorem dX4_init_8 : decode cX4_init 8 = .ok (.dup, 1) := by decide +kernel
theorem dX4_init_9 : decode cX4_init 9 = .ok (.invokespecial 9, 3) := by decide +kernel
theorem dX4_init_12 : decode cX4_init 12 = .ok (.putfield 10, 3) := by decide +kernel
theorem dX4_init_15 : decode cX4_init 15 = .ok (.aload_n 0, 1) := by decide +kernel
theorem dX4_init_16 : decode cX4_init 16 = .ok (.iconst 2, 1) := by decide +kernel
theorem dX4_init_17 : decode cX4_init 17 = .ok (.anewarray 7, 3) := by decide +kernel
theorem dX4_init_20 : decode cX4_init 20 = .ok (.dup, 1) := by decide +kernel
theorem dX4_init_21 : decode cX4_init 21 = .ok (.iconst 0, 1) := by decide +kernel
theorem dX4_init_22 : decode cX4_init 22 = .ok (.new 7, 3) := by decide +kernel
theorem dX4_init_25 : decode cX4_init 25 = .ok (.dup, 1) := by decide +kernel
theorem dX4_init_26 : decode cX4_init 26 = .ok (.invokespecial 9, 3) := by decide +kernel
theorem dX4_init_29 : decode cX4_init 29 = .ok (.aastore, 1) := by decide +kernel
theorem dX4_init_30 : decode cX4_init 30 = .ok (.dup, 1) := by decide +kernel
theorem dX4_init_31 : decode cX4_init 31 = .ok (.iconst 1, 1) := by decide +kernel
theorem dX4_init_32 : decode cX4_init 32 = .ok (.new 7, 3) := by decide +kernel
theorem dX4_init_35 : decode cX4_init 35 = .ok (.dup, 1) := by decide +kernel
theorem dX4_init_36 : decode cX4_init 36 = .ok (.invokespecial 9, 3) := by decide +kernel
theorem dX4_init_39 : decode cX4_init 39 = .ok (.aastore, 1) := by decide +kernel
theorem dX4_init_40 : decode cX4_init 40 = .ok (.putfield 16, 3) := by decide +kernel
theorem dX4_init_43 : decode cX4_init 43 = .ok (.aload_n 0, 1) := by decide +kernel
theorem dX4_init_44 : decode cX4_init 44 = .ok (.new 20, 3) := by decide +kernel
theorem dX4_init_47 : decode cX4_init 47 = .ok (.dup, 1) := by decide +kernel
theorem dX4_init_48 : decode cX4_init 48 = .ok (.invokespecial 22, 3) := by decide +kernel
theorem dX4_init_51 : decode cX4_init 51 = .ok (.putfield 23, 3) := by decide +kernel
theorem dX4_init_54 : decode cX4_init 54 = .ok (.aload_n 0, 1) := by decide +kernel
theorem dX4_init_55 : decode cX4_init 55 = .ok (.new 27, 3) := by decide +kernel
theorem dX4_init_58 : decode cX4_init 58 = .ok (.dup, 1) := by decide +kernel
theorem dX4_init_59 : decode cX4_init 59 = .ok (.invokespecial 29, 3) := by decide +kernel
theorem dX4_init_62 : decode cX4_init 62 = .ok (.putfield 30, 3) := by decide +kernel
theorem dX4_init_65 : decode cX4_init 65 = .ok (.aload_n 0, 1) := by decide +kernel
theorem dX4_init_66 : decode cX4_init 66 = .ok (.new 34, 3) := by decide +kernel
theorem dX4_init_69 : decode cX4_init 69 = .ok (.dup, 1) := by decide +kernel
theorem dX4_init_70 : decode cX4_init 70 = .ok (.invokespecial 36, 3) := by decide +kernel
theorem dX4_init_73 : decode cX4_init 73 = .ok (.putfield 37, 3) := by decide +kernel
theorem dX4_init_76 : decode cX4_init 76 = .ok (.aload_n 0, 1) := by decide +kernel
theorem dX4_init_77 : decode cX4_init 77 = .ok (.iconst 0, 1) := by decide +kernel
theorem dX4_init_78 : decode cX4_init 78 = .ok (.putfield 41, 3) := by decide +kernel
theorem dX4_init_81 : decode cX4_init 81 = .ok (.aload_n 0, 1) := by decide +kernel
theorem dX4_init_82 : decode cX4_init 82 = .ok (.bipush (-6), 2) := by decide +kernel
theorem dX4_init_84 : decode cX4_init 84 = .ok (.putfield 45, 3) := by decide +kernel
theorem dX4_init_87 : decode cX4_init 87 = .ok (.aload_n 0, 1) := by decide +kernel
theorem dX4_init_88 : decode cX4_init 88 = .ok (.iconst 0, 1) := by decide +kernel
theorem dX4_init_89 : decode cX4_init 89 = .ok (.putfield 48, 3) := by decide +kernel
theorem dX4_init_92 : decode cX4_init 92 = .ok (.return_, 1) := by decide +kernel
set_option maxRecDepth 20000 in
theorem ggX4_size_X3_resize : GoodIn wsX4_size wsX3_resize := goodIn_r _ [6, 7, 8, 9, 10, 11, 12, 13, 4, 14, 15, 16, 17, 18, 19, 28, 29, 30, 31, 32] (by decide +kernel) (by decide +kernel)
set_option maxRecDepth 20000 in
theorem gX4_size_X3_resize_n55 : GoodIn wsX4_size (wsX3_resize) := ggX4_size_X3_resize
theorem dX4_size_0 : decode cX4_size 0 = .ok (.iload_n 1, 1) := by decide +kernel
theorem dX4_size_1 : decode cX4_size 1 = .ok (.iconst 1, 1) := by decide +kernel
theorem dX4_size_2 : decode cX4_size 2 = .ok (.if_icmp .lt 9, 3) := by decide +kernel
theorem dX4_size_5 : decode cX4_size 5 = .ok (.iload_n 1, 1) := by decide +kernel
theorem dX4_size_6 : decode cX4_size 6 = .ok (.bipush 14, 2) := by decide +kernel
theorem dX4_size_8 : decode cX4_size 8 = .ok (.if_icmp .le 6, 3) := by decide +kernel
theorem dX4_size_11 : decode cX4_size 11 = .ok (.bipush (-2), 2) := by decide +kernel
theorem dX4_size_13 : decode cX4_size 13 = .ok (.ireturn, 1) := by decide +kernel
theorem dX4_size_14 : decode cX4_size 14 = .ok (.aload_n 0, 1) := by decide +kernel
theorem dX4_size_15 : decode cX4_size 15 = .ok (.getfield 10, 3) := by decide +kernel
theorem dX4_size_18 : decode cX4_size 18 = .ok (.getfield 52, 3) := by decide +kernel
theorem dX4_size_21 : decode cX4_size 21 = .ok (.istore_n 2, 1) := by decide +kernel
theorem dX4_size_22 : decode cX4_size 22 = .ok (.aload_n 0, 1) := by decide +kernel
theorem dX4_size_23 : decode cX4_size 23 = .ok (.getfield 10, 3) := by decide +kernel
theorem dX4_size_26 : decode cX4_size 26 = .ok (.iload_n 1, 1) := by decide +kernel
theorem dX4_size_27 : decode cX4_size 27 = .ok (.invokevirtual 55, 3) := by decide +kernel
theorem dX4_size_30 : decode cX4_size 30 = .ok (.aload_n 0, 1) := by decide +kernel
theorem dX4_size_31 : decode cX4_size 31 = .ok (.iconst 0, 1) := by decide +kernel
theorem dX4_size_32 : decode cX4_size 32 = .ok (.putfield 48, 3) := by decide +kernel
theorem dX4_size_35 : decode cX4_size 35 = .ok (.iload_n 2, 1) := by decide +kernel
theorem dX4_size_36 : decode cX4_size 36 = .ok (.ireturn, 1) := by decide +kernel
set_option maxRecDepth 20000 in
theorem ggX4_say_X2_append : GoodIn wsX4_say wsX2_append := goodIn_r _ [5, 6, 7, 16, 17] (by decide +kernel) (by decide +kernel)
set_option maxRecDepth 20000 in
theorem gX4_say_X2_append_n62 : GoodIn wsX4_say (wsX2_append) := ggX4_say_X2_append
theorem dX4_say_0 : decode cX4_say 0 = .ok (.iload_n 1, 1) := by decide +kernel
theorem dX4_say_1 : decode cX4_say 1 = .ok (.bipush 33, 2) := by decide +kernel
theorem dX4_say_3 : decode cX4_say 3 = .ok (.if_icmp .lt 9, 3) := by decide +kernel
theorem dX4_say_6 : decode cX4_say 6 = .ok (.iload_n 1, 1) := by decide +kernel
theorem dX4_say_7 : decode cX4_say 7 = .ok (.bipush 126, 2) := by decide +kernel
theorem dX4_say_9 : decode cX4_say 9 = .ok (.if_icmp .le 6, 3) := by decide +kernel
theorem dX4_say_12 : decode cX4_say 12 = .ok (.bipush (-2), 2) := by decide +kernel
theorem dX4_say_14 : decode cX4_say 14 = .ok (.ireturn, 1) := by decide +kernel
theorem dX4_say_15 : decode cX4_say 15 = .ok (.aload_n 0, 1) := by decide +kernel
theorem dX4_say_16 : decode cX4_say 16 = .ok (.getfield 23, 3) := by decide +kernel
theorem dX4_say_19 : decode cX4_say 19 = .ok (.getfield 59, 3) := by decide +kernel
theorem dX4_say_22 : decode cX4_say 22 = .ok (.bipush 20, 2) := by decide +kernel
theorem dX4_say_24 : decode cX4_say 24 = .ok (.if_icmp .lt 6, 3) := by decide +kernel
theorem dX4_say_27 : decode cX4_say 27 = .ok (.bipush (-3), 2) := by decide +kernel
theorem dX4_say_29 : decode cX4_say 29 = .ok (.ireturn, 1) := by decide +kernel
theorem dX4_say_30 : decode cX4_say 30 = .ok (.aload_n 0, 1) := by decide +kernel
theorem dX4_say_31 : decode cX4_say 31 = .ok (.getfield 23, 3) := by decide +kernel
theorem dX4_say_34 : decode cX4_say 34 = .ok (.iload_n 1, 1) := by decide +kernel
theorem dX4_say_35 : decode cX4_say 35 = .ok (.invokevirtual 62, 3) := by decide +kernel
theorem dX4_say_38 : decode cX4_say 38 = .ok (.aload_n 0, 1) := by decide +kernel
theorem dX4_say_39 : decode cX4_say 39 = .ok (.getfield 23, 3) := by decide +kernel
theorem dX4_say_42 : decode cX4_say 42 = .ok (.getfield 59, 3) := by decide +kernel
theorem dX4_say_45 : decode cX4_say 45 = .ok (.ireturn, 1) := by decide +kernel
theorem dX4_wipe_0 : decode cX4_wipe 0 = .ok (.aload_n 0, 1) := by decide +kernel
theorem dX4_wipe_1 : decode cX4_wipe 1 = .ok (.getfield 23, 3) := by decide +kernel
theorem dX4_wipe_4 : decode cX4_wipe 4 = .ok (.getfield 59, 3) := by decide +kernel
theorem dX4_wipe_7 : decode cX4_wipe 7 = .ok (.istore_n 1, 1) := by decide +kernel
theorem dX4_wipe_8 : decode cX4_wipe 8 = .ok (.aload_n 0, 1) := by decide +kernel
theorem dX4_wipe_9 : decode cX4_wipe 9 = .ok (.getfield 23, 3) := by decide +kernel
theorem dX4_wipe_12 : decode cX4_wipe 12 = .ok (.iconst 0, 1) := by decide +kernel
theorem dX4_wipe_13 : decode cX4_wipe 13 = .ok (.putfield 59, 3) := by decide +kernel
theorem dX4_wipe_16 : decode cX4_wipe 16 = .ok (.iload_n 1, 1) := by decide +kernel
theorem dX4_wipe_17 : decode cX4_wipe 17 = .ok (.ireturn, 1) := by decide +kernel
set_option maxRecDepth 20000 in
theorem ggX4_define_X2_faultPlace : GoodIn wsX4_define wsX2_faultPlace := goodIn_r _ [8, 9, 10, 11, 12, 6, 13, 14, 15, 16, 17, 56, 57] (by decide +kernel) (by decide +kernel)
set_option maxRecDepth 20000 in
theorem gX4_define_X2_faultPlace_n65 : GoodIn wsX4_define (wsX2_faultPlace) := ggX4_define_X2_faultPlace
set_option maxRecDepth 20000 in
theorem ggX4_define_X2_toldWord : GoodIn wsX4_define wsX2_toldWord := goodIn_r _ [20, 10, 56, 57] (by decide +kernel) (by decide +kernel)
set_option maxRecDepth 20000 in
theorem gX4_define_X2_toldWord_n69 : GoodIn wsX4_define (wsX2_toldWord) := ggX4_define_X2_toldWord
set_option maxRecDepth 20000 in
theorem ggX4_define_X2_tellsBare : GoodIn wsX4_define wsX2_tellsBare := goodIn_r _ [17, 10, 56, 57] (by decide +kernel) (by decide +kernel)
set_option maxRecDepth 20000 in
theorem gX4_define_X2_tellsBare_n73 : GoodIn wsX4_define (wsX2_tellsBare) := ggX4_define_X2_tellsBare
set_option maxRecDepth 20000 in
theorem ggX4_define_X3_makeBare : GoodIn wsX4_define wsX3_makeBare := goodIn_r _ [24, 25, 26, 51, 52, 53, 54, 55] (by decide +kernel) (by decide +kernel)
set_option maxRecDepth 20000 in
theorem gX4_define_X3_makeBare_n77 : GoodIn wsX4_define (wsX3_makeBare) := ggX4_define_X3_makeBare
set_option maxRecDepth 20000 in
theorem ggX4_define_X2_toldSet : GoodIn wsX4_define wsX2_toldSet := goodIn_r _ [29, 9, 10, 11, 12, 6, 13, 56, 57] (by decide +kernel) (by decide +kernel)
set_option maxRecDepth 20000 in
theorem gX4_define_X2_toldSet_n80 : GoodIn wsX4_define (wsX2_toldSet) := ggX4_define_X2_toldSet
set_option maxRecDepth 20000 in
theorem ggX4_define_X3_setDefinition : GoodIn wsX4_define wsX3_setDefinition := goodIn_r _ [32, 25, 26, 51, 52, 53, 54, 55] (by decide +kernel) (by decide +kernel)
set_option maxRecDepth 20000 in
theorem gX4_define_X3_setDefinition_n83 : GoodIn wsX4_define (wsX3_setDefinition) := ggX4_define_X3_setDefinition
set_option maxRecDepth 20000 in
theorem ggX4_define_X3_isBare : GoodIn wsX4_define wsX3_isBare := goodIn_r _ [35, 26, 51, 52, 53, 54, 55] (by decide +kernel) (by decide +kernel)
set_option maxRecDepth 20000 in
theorem gX4_define_X3_isBare_n87 : GoodIn wsX4_define (wsX3_isBare) := ggX4_define_X3_isBare
set_option maxRecDepth 20000 in
theorem ggX4_define_J6_bitCount_0f7a4 : GoodIn wsX4_define wsJ6_bitCount_0f7a4 := goodIn_r _ [39, 40, 41, 42] (by decide +kernel) (by decide +kernel)
set_option maxRecDepth 20000 in
theorem gX4_define_J6_bitCount_0f7a4 : GoodIn wsX4_define (va_wsS RX4 95 yJ6_bitCount_0f7a4 wsJ6_bitCount_0f7a4) := goodIn_app (goodIn_of _ (by decide +kernel)) ggX4_define_J6_bitCount_0f7a4
theorem dX4_define_0 : decode cX4_define 0 = .ok (.aload_n 0, 1) := by decide +kernel
theorem dX4_define_1 : decode cX4_define 1 = .ok (.getfield 23, 3) := by decide +kernel
theorem dX4_define_4 : decode cX4_define 4 = .ok (.aload_n 0, 1) := by decide +kernel
theorem dX4_define_5 : decode cX4_define 5 = .ok (.getfield 10, 3) := by decide +kernel
theorem dX4_define_8 : decode cX4_define 8 = .ok (.getfield 52, 3) := by decide +kernel
theorem dX4_define_11 : decode cX4_define 11 = .ok (.invokevirtual 65, 3) := by decide +kernel
theorem dX4_define_14 : decode cX4_define 14 = .ok (.istore_n 1, 1) := by decide +kernel
theorem dX4_define_15 : decode cX4_define 15 = .ok (.iload_n 1, 1) := by decide +kernel
theorem dX4_define_16 : decode cX4_define 16 = .ok (.bipush (-6), 2) := by decide +kernel
theorem dX4_define_18 : decode cX4_define 18 = .ok (.if_icmp .eq 11, 3) := by decide +kernel
theorem dX4_define_21 : decode cX4_define 21 = .ok (.aload_n 0, 1) := by decide +kernel
theorem dX4_define_22 : decode cX4_define 22 = .ok (.iload_n 1, 1) := by decide +kernel
theorem dX4_define_23 : decode cX4_define 23 = .ok (.putfield 45, 3) := by decide +kernel
theorem dX4_define_26 : decode cX4_define 26 = .ok (.bipush (-7), 2) := by decide +kernel
theorem dX4_define_28 : decode cX4_define 28 = .ok (.ireturn, 1) := by decide +kernel
theorem dX4_define_29 : decode cX4_define 29 = .ok (.aload_n 0, 1) := by decide +kernel
theorem dX4_define_30 : decode cX4_define 30 = .ok (.getfield 23, 3) := by decide +kernel
theorem dX4_define_33 : decode cX4_define 33 = .ok (.invokevirtual 69, 3) := by decide +kernel
theorem dX4_define_36 : decode cX4_define 36 = .ok (.istore_n 2, 1) := by decide +kernel
theorem dX4_define_37 : decode cX4_define 37 = .ok (.aload_n 0, 1) := by decide +kernel
theorem dX4_define_38 : decode cX4_define 38 = .ok (.getfield 23, 3) := by decide +kernel
theorem dX4_define_41 : decode cX4_define 41 = .ok (.invokevirtual 73, 3) := by decide +kernel
theorem dX4_define_44 : decode cX4_define 44 = .ok (.ifCond .eq 14, 3) := by decide +kernel
theorem dX4_define_47 : decode cX4_define 47 = .ok (.aload_n 0, 1) := by decide +kernel
theorem dX4_define_48 : decode cX4_define 48 = .ok (.getfield 10, 3) := by decide +kernel
theorem dX4_define_51 : decode cX4_define 51 = .ok (.iload_n 2, 1) := by decide +kernel
theorem dX4_define_52 : decode cX4_define 52 = .ok (.invokevirtual 77, 3) := by decide +kernel
theorem dX4_define_55 : decode cX4_define 55 = .ok (.goto 18, 3) := by decide +kernel
theorem dX4_define_58 : decode cX4_define 58 = .ok (.aload_n 0, 1) := by decide +kernel
theorem dX4_define_59 : decode cX4_define 59 = .ok (.getfield 10, 3) := by decide +kernel
theorem dX4_define_62 : decode cX4_define 62 = .ok (.iload_n 2, 1) := by decide +kernel
theorem dX4_define_63 : decode cX4_define 63 = .ok (.aload_n 0, 1) := by decide +kernel
theorem dX4_define_64 : decode cX4_define 64 = .ok (.getfield 23, 3) := by decide +kernel
theorem dX4_define_67 : decode cX4_define 67 = .ok (.invokevirtual 80, 3) := by decide +kernel
theorem dX4_define_70 : decode cX4_define 70 = .ok (.invokevirtual 83, 3) := by decide +kernel
theorem dX4_define_73 : decode cX4_define 73 = .ok (.aload_n 0, 1) := by decide +kernel
theorem dX4_define_74 : decode cX4_define 74 = .ok (.getfield 23, 3) := by decide +kernel
theorem dX4_define_77 : decode cX4_define 77 = .ok (.iconst 0, 1) := by decide +kernel
theorem dX4_define_78 : decode cX4_define 78 = .ok (.putfield 59, 3) := by decide +kernel
theorem dX4_define_81 : decode cX4_define 81 = .ok (.aload_n 0, 1) := by decide +kernel
theorem dX4_define_82 : decode cX4_define 82 = .ok (.iconst 0, 1) := by decide +kernel
theorem dX4_define_83 : decode cX4_define 83 = .ok (.putfield 48, 3) := by decide +kernel
theorem dX4_define_86 : decode cX4_define 86 = .ok (.aload_n 0, 1) := by decide +kernel
theorem dX4_define_87 : decode cX4_define 87 = .ok (.getfield 10, 3) := by decide +kernel
theorem dX4_define_90 : decode cX4_define 90 = .ok (.iload_n 2, 1) := by decide +kernel
theorem dX4_define_91 : decode cX4_define 91 = .ok (.invokevirtual 87, 3) := by decide +kernel
theorem dX4_define_94 : decode cX4_define 94 = .ok (.ifCond .eq 8, 3) := by decide +kernel
theorem dX4_define_97 : decode cX4_define 97 = .ok (.bipush (-6), 2) := by decide +kernel
theorem dX4_define_99 : decode cX4_define 99 = .ok (.goto 15, 3) := by decide +kernel
theorem dX4_define_102 : decode cX4_define 102 = .ok (.aload_n 0, 1) := by decide +kernel
theorem dX4_define_103 : decode cX4_define 103 = .ok (.getfield 10, 3) := by decide +kernel
theorem dX4_define_106 : decode cX4_define 106 = .ok (.getfield 91, 3) := by decide +kernel
theorem dX4_define_109 : decode cX4_define 109 = .ok (.iload_n 2, 1) := by decide +kernel
theorem dX4_define_110 : decode cX4_define 110 = .ok (.iaload, 1) := by decide +kernel
theorem dX4_define_111 : decode cX4_define 111 = .ok (.invokestatic 95, 3) := by decide +kernel
theorem dX4_define_114 : decode cX4_define 114 = .ok (.ireturn, 1) := by decide +kernel
set_option maxRecDepth 20000 in
theorem ggX4_fault_X2_faultPlace : GoodIn wsX4_fault wsX2_faultPlace := goodIn_r _ [6, 7, 8, 9, 10, 4, 11, 12, 13, 14, 15, 29, 30] (by decide +kernel) (by decide +kernel)
set_option maxRecDepth 20000 in
theorem gX4_fault_X2_faultPlace_n65 : GoodIn wsX4_fault (wsX2_faultPlace) := ggX4_fault_X2_faultPlace
theorem dX4_fault_0 : decode cX4_fault 0 = .ok (.aload_n 0, 1) := by decide +kernel
theorem dX4_fault_1 : decode cX4_fault 1 = .ok (.getfield 23, 3) := by decide +kernel
theorem dX4_fault_4 : decode cX4_fault 4 = .ok (.aload_n 0, 1) := by decide +kernel
theorem dX4_fault_5 : decode cX4_fault 5 = .ok (.getfield 10, 3) := by decide +kernel
theorem dX4_fault_8 : decode cX4_fault 8 = .ok (.getfield 52, 3) := by decide +kernel
theorem dX4_fault_11 : decode cX4_fault 11 = .ok (.invokevirtual 65, 3) := by decide +kernel
theorem dX4_fault_14 : decode cX4_fault 14 = .ok (.ireturn, 1) := by decide +kernel
set_option maxRecDepth 20000 in
theorem ggX4_uses_X3_has : GoodIn wsX4_uses wsX3_has := goodIn_r _ [5, 6, 19, 20, 21, 22, 23] (by decide +kernel) (by decide +kernel)
set_option maxRecDepth 20000 in
theorem gX4_uses_X3_has_n100 : GoodIn wsX4_uses (wsX3_has) := ggX4_uses_X3_has
set_option maxRecDepth 20000 in
theorem ggX4_uses_X3_isBare : GoodIn wsX4_uses wsX3_isBare := goodIn_r _ [9, 10, 19, 20, 21, 22, 23] (by decide +kernel) (by decide +kernel)
set_option maxRecDepth 20000 in
theorem gX4_uses_X3_isBare_n87 : GoodIn wsX4_uses (wsX3_isBare) := ggX4_uses_X3_isBare
theorem dX4_uses_0 : decode cX4_uses 0 = .ok (.aload_n 0, 1) := by decide +kernel
theorem dX4_uses_1 : decode cX4_uses 1 = .ok (.getfield 10, 3) := by decide +kernel
theorem dX4_uses_4 : decode cX4_uses 4 = .ok (.iload_n 1, 1) := by decide +kernel
theorem dX4_uses_5 : decode cX4_uses 5 = .ok (.invokevirtual 100, 3) := by decide +kernel
theorem dX4_uses_8 : decode cX4_uses 8 = .ok (.ifCond .ne 5, 3) := by decide +kernel
theorem dX4_uses_11 : decode cX4_uses 11 = .ok (.iconst (-1), 1) := by decide +kernel
theorem dX4_uses_12 : decode cX4_uses 12 = .ok (.ireturn, 1) := by decide +kernel
theorem dX4_uses_13 : decode cX4_uses 13 = .ok (.aload_n 0, 1) := by decide +kernel
theorem dX4_uses_14 : decode cX4_uses 14 = .ok (.getfield 10, 3) := by decide +kernel
theorem dX4_uses_17 : decode cX4_uses 17 = .ok (.iload_n 1, 1) := by decide +kernel
theorem dX4_uses_18 : decode cX4_uses 18 = .ok (.invokevirtual 87, 3) := by decide +kernel
theorem dX4_uses_21 : decode cX4_uses 21 = .ok (.ifCond .eq 8, 3) := by decide +kernel
theorem dX4_uses_24 : decode cX4_uses 24 = .ok (.bipush (-6), 2) := by decide +kernel
theorem dX4_uses_26 : decode cX4_uses 26 = .ok (.goto 12, 3) := by decide +kernel
theorem dX4_uses_29 : decode cX4_uses 29 = .ok (.aload_n 0, 1) := by decide +kernel
theorem dX4_uses_30 : decode cX4_uses 30 = .ok (.getfield 10, 3) := by decide +kernel
theorem dX4_uses_33 : decode cX4_uses 33 = .ok (.getfield 91, 3) := by decide +kernel
theorem dX4_uses_36 : decode cX4_uses 36 = .ok (.iload_n 1, 1) := by decide +kernel
theorem dX4_uses_37 : decode cX4_uses 37 = .ok (.iaload, 1) := by decide +kernel
theorem dX4_uses_38 : decode cX4_uses 38 = .ok (.ireturn, 1) := by decide +kernel
set_option maxRecDepth 20000 in
theorem ggX4_users_X3_has : GoodIn wsX4_users wsX3_has := goodIn_r _ [5, 6, 19, 20, 21, 22, 23] (by decide +kernel) (by decide +kernel)
set_option maxRecDepth 20000 in
theorem gX4_users_X3_has_n100 : GoodIn wsX4_users (wsX3_has) := ggX4_users_X3_has
set_option maxRecDepth 20000 in
theorem ggX4_users_X3_usersOf : GoodIn wsX4_users wsX3_usersOf := goodIn_r _ [9, 6, 10, 19, 20, 21, 22, 23] (by decide +kernel) (by decide +kernel)
set_option maxRecDepth 20000 in
theorem gX4_users_X3_usersOf_n103 : GoodIn wsX4_users (wsX3_usersOf) := ggX4_users_X3_usersOf
theorem dX4_users_0 : decode cX4_users 0 = .ok (.aload_n 0, 1) := by decide +kernel
theorem dX4_users_1 : decode cX4_users 1 = .ok (.getfield 10, 3) := by decide +kernel
theorem dX4_users_4 : decode cX4_users 4 = .ok (.iload_n 1, 1) := by decide +kernel
theorem dX4_users_5 : decode cX4_users 5 = .ok (.invokevirtual 100, 3) := by decide +kernel
theorem dX4_users_8 : decode cX4_users 8 = .ok (.ifCond .ne 5, 3) := by decide +kernel
theorem dX4_users_11 : decode cX4_users 11 = .ok (.iconst (-1), 1) := by decide +kernel
theorem dX4_users_12 : decode cX4_users 12 = .ok (.ireturn, 1) := by decide +kernel
theorem dX4_users_13 : decode cX4_users 13 = .ok (.aload_n 0, 1) := by decide +kernel
theorem dX4_users_14 : decode cX4_users 14 = .ok (.getfield 10, 3) := by decide +kernel
theorem dX4_users_17 : decode cX4_users 17 = .ok (.iload_n 1, 1) := by decide +kernel
theorem dX4_users_18 : decode cX4_users 18 = .ok (.invokevirtual 103, 3) := by decide +kernel
theorem dX4_users_21 : decode cX4_users 21 = .ok (.ireturn, 1) := by decide +kernel
set_option maxRecDepth 20000 in
theorem ggX4_cost_X3_has : GoodIn wsX4_cost wsX3_has := goodIn_r _ [5, 6, 15, 16, 17, 18, 19] (by decide +kernel) (by decide +kernel)
set_option maxRecDepth 20000 in
theorem gX4_cost_X3_has_n100 : GoodIn wsX4_cost (wsX3_has) := ggX4_cost_X3_has
theorem dX4_cost_0 : decode cX4_cost 0 = .ok (.aload_n 0, 1) := by decide +kernel
theorem dX4_cost_1 : decode cX4_cost 1 = .ok (.getfield 10, 3) := by decide +kernel
theorem dX4_cost_4 : decode cX4_cost 4 = .ok (.iload_n 1, 1) := by decide +kernel
theorem dX4_cost_5 : decode cX4_cost 5 = .ok (.invokevirtual 100, 3) := by decide +kernel
theorem dX4_cost_8 : decode cX4_cost 8 = .ok (.ifCond .ne 5, 3) := by decide +kernel
theorem dX4_cost_11 : decode cX4_cost 11 = .ok (.iconst (-1), 1) := by decide +kernel
theorem dX4_cost_12 : decode cX4_cost 12 = .ok (.ireturn, 1) := by decide +kernel
theorem dX4_cost_13 : decode cX4_cost 13 = .ok (.iload_n 2, 1) := by decide +kernel
theorem dX4_cost_14 : decode cX4_cost 14 = .ok (.iconst 1, 1) := by decide +kernel
theorem dX4_cost_15 : decode cX4_cost 15 = .ok (.if_icmp .lt 9, 3) := by decide +kernel
theorem dX4_cost_18 : decode cX4_cost 18 = .ok (.iload_n 2, 1) := by decide +kernel
theorem dX4_cost_19 : decode cX4_cost 19 = .ok (.bipush 9, 2) := by decide +kernel
theorem dX4_cost_21 : decode cX4_cost 21 = .ok (.if_icmp .le 6, 3) := by decide +kernel
theorem dX4_cost_24 : decode cX4_cost 24 = .ok (.bipush (-2), 2) := by decide +kernel
theorem dX4_cost_26 : decode cX4_cost 26 = .ok (.ireturn, 1) := by decide +kernel
theorem dX4_cost_27 : decode cX4_cost 27 = .ok (.aload_n 0, 1) := by decide +kernel
theorem dX4_cost_28 : decode cX4_cost 28 = .ok (.getfield 10, 3) := by decide +kernel
theorem dX4_cost_31 : decode cX4_cost 31 = .ok (.getfield 106, 3) := by decide +kernel
theorem dX4_cost_34 : decode cX4_cost 34 = .ok (.iload_n 1, 1) := by decide +kernel
theorem dX4_cost_35 : decode cX4_cost 35 = .ok (.iaload, 1) := by decide +kernel
theorem dX4_cost_36 : decode cX4_cost 36 = .ok (.istore_n 3, 1) := by decide +kernel
theorem dX4_cost_37 : decode cX4_cost 37 = .ok (.aload_n 0, 1) := by decide +kernel
theorem dX4_cost_38 : decode cX4_cost 38 = .ok (.getfield 10, 3) := by decide +kernel
theorem dX4_cost_41 : decode cX4_cost 41 = .ok (.getfield 106, 3) := by decide +kernel
theorem dX4_cost_44 : decode cX4_cost 44 = .ok (.iload_n 1, 1) := by decide +kernel
theorem dX4_cost_45 : decode cX4_cost 45 = .ok (.iload_n 2, 1) := by decide +kernel
theorem dX4_cost_46 : decode cX4_cost 46 = .ok (.iastore, 1) := by decide +kernel
theorem dX4_cost_47 : decode cX4_cost 47 = .ok (.iload_n 3, 1) := by decide +kernel
theorem dX4_cost_48 : decode cX4_cost 48 = .ok (.ireturn, 1) := by decide +kernel
set_option maxRecDepth 20000 in
theorem ggX4_grounds_X3_hasAll : GoodIn wsX4_grounds wsX3_hasAll := goodIn_r _ [5, 6, 7, 8, 3, 9, 10, 32, 33, 34, 35, 36] (by decide +kernel) (by decide +kernel)
set_option maxRecDepth 20000 in
theorem gX4_grounds_X3_hasAll_n109 : GoodIn wsX4_grounds (wsX3_hasAll) := ggX4_grounds_X3_hasAll
set_option maxRecDepth 20000 in
theorem ggX4_grounds_X3_groundedBy : GoodIn wsX4_grounds wsX3_groundedBy := goodIn_r _ [13, 10, 14, 15, 16, 3, 17, 18, 19, 20, 21, 22, 23, 32, 33, 34, 35, 36] (by decide +kernel) (by decide +kernel)
set_option maxRecDepth 20000 in
theorem gX4_grounds_X3_groundedBy_n112 : GoodIn wsX4_grounds (wsX3_groundedBy) := ggX4_grounds_X3_groundedBy
theorem dX4_grounds_0 : decode cX4_grounds 0 = .ok (.aload_n 0, 1) := by decide +kernel
theorem dX4_grounds_1 : decode cX4_grounds 1 = .ok (.getfield 10, 3) := by decide +kernel
theorem dX4_grounds_4 : decode cX4_grounds 4 = .ok (.iload_n 1, 1) := by decide +kernel
theorem dX4_grounds_5 : decode cX4_grounds 5 = .ok (.invokevirtual 109, 3) := by decide +kernel
theorem dX4_grounds_8 : decode cX4_grounds 8 = .ok (.ifCond .ne 6, 3) := by decide +kernel
theorem dX4_grounds_11 : decode cX4_grounds 11 = .ok (.bipush (-2), 2) := by decide +kernel
theorem dX4_grounds_13 : decode cX4_grounds 13 = .ok (.ireturn, 1) := by decide +kernel
theorem dX4_grounds_14 : decode cX4_grounds 14 = .ok (.aload_n 0, 1) := by decide +kernel
theorem dX4_grounds_15 : decode cX4_grounds 15 = .ok (.getfield 10, 3) := by decide +kernel
theorem dX4_grounds_18 : decode cX4_grounds 18 = .ok (.iload_n 1, 1) := by decide +kernel
theorem dX4_grounds_19 : decode cX4_grounds 19 = .ok (.invokevirtual 112, 3) := by decide +kernel
theorem dX4_grounds_22 : decode cX4_grounds 22 = .ok (.ireturn, 1) := by decide +kernel
set_option maxRecDepth 20000 in
theorem ggX4_day_X3_has : GoodIn wsX4_day wsX3_has := goodIn_r _ [5, 6, 35, 36, 37, 38, 39] (by decide +kernel) (by decide +kernel)
set_option maxRecDepth 20000 in
theorem gX4_day_X3_has_n100 : GoodIn wsX4_day (wsX3_has) := ggX4_day_X3_has
set_option maxRecDepth 20000 in
theorem ggX4_day_X3_hasAll : GoodIn wsX4_day wsX3_hasAll := goodIn_r _ [9, 10, 11, 12, 3, 13, 6, 35, 36, 37, 38, 39] (by decide +kernel) (by decide +kernel)
set_option maxRecDepth 20000 in
theorem gX4_day_X3_hasAll_n109 : GoodIn wsX4_day (wsX3_hasAll) := ggX4_day_X3_hasAll
set_option maxRecDepth 20000 in
theorem ggX4_day_X3_daysTill : GoodIn wsX4_day wsX3_daysTill := goodIn_r _ [16, 6, 17, 18, 19, 3, 20, 21, 22, 23, 24, 25, 26, 35, 36, 37, 38, 39] (by decide +kernel) (by decide +kernel)
set_option maxRecDepth 20000 in
theorem gX4_day_X3_daysTill_n115 : GoodIn wsX4_day (wsX3_daysTill) := ggX4_day_X3_daysTill
theorem dX4_day_0 : decode cX4_day 0 = .ok (.aload_n 0, 1) := by decide +kernel
theorem dX4_day_1 : decode cX4_day 1 = .ok (.getfield 10, 3) := by decide +kernel
theorem dX4_day_4 : decode cX4_day 4 = .ok (.iload_n 1, 1) := by decide +kernel
theorem dX4_day_5 : decode cX4_day 5 = .ok (.invokevirtual 100, 3) := by decide +kernel
theorem dX4_day_8 : decode cX4_day 8 = .ok (.ifCond .ne 5, 3) := by decide +kernel
theorem dX4_day_11 : decode cX4_day 11 = .ok (.iconst (-1), 1) := by decide +kernel
theorem dX4_day_12 : decode cX4_day 12 = .ok (.ireturn, 1) := by decide +kernel
theorem dX4_day_13 : decode cX4_day 13 = .ok (.aload_n 0, 1) := by decide +kernel
theorem dX4_day_14 : decode cX4_day 14 = .ok (.getfield 10, 3) := by decide +kernel
theorem dX4_day_17 : decode cX4_day 17 = .ok (.iload_n 2, 1) := by decide +kernel
theorem dX4_day_18 : decode cX4_day 18 = .ok (.invokevirtual 109, 3) := by decide +kernel
theorem dX4_day_21 : decode cX4_day 21 = .ok (.ifCond .ne 6, 3) := by decide +kernel
theorem dX4_day_24 : decode cX4_day 24 = .ok (.bipush (-2), 2) := by decide +kernel
theorem dX4_day_26 : decode cX4_day 26 = .ok (.ireturn, 1) := by decide +kernel
theorem dX4_day_27 : decode cX4_day 27 = .ok (.aload_n 0, 1) := by decide +kernel
theorem dX4_day_28 : decode cX4_day 28 = .ok (.getfield 10, 3) := by decide +kernel
theorem dX4_day_31 : decode cX4_day 31 = .ok (.iconst 1, 1) := by decide +kernel
theorem dX4_day_32 : decode cX4_day 32 = .ok (.iload_n 1, 1) := by decide +kernel
theorem dX4_day_33 : decode cX4_day 33 = .ok (.ishl, 1) := by decide +kernel
theorem dX4_day_34 : decode cX4_day 34 = .ok (.iload_n 2, 1) := by decide +kernel
theorem dX4_day_35 : decode cX4_day 35 = .ok (.invokevirtual 115, 3) := by decide +kernel
theorem dX4_day_38 : decode cX4_day 38 = .ok (.ireturn, 1) := by decide +kernel
set_option maxRecDepth 20000 in
theorem ggX4_learned_X3_hasAll : GoodIn wsX4_learned wsX3_hasAll := goodIn_r _ [5, 6, 7, 8, 3, 9, 10, 28, 29, 30, 31, 32] (by decide +kernel) (by decide +kernel)
set_option maxRecDepth 20000 in
theorem gX4_learned_X3_hasAll_n109 : GoodIn wsX4_learned (wsX3_hasAll) := ggX4_learned_X3_hasAll
set_option maxRecDepth 20000 in
theorem ggX4_learned_X3_nextDay : GoodIn wsX4_learned wsX3_nextDay := goodIn_r _ [13, 10, 14, 15, 16, 17, 3, 18, 19, 28, 29, 30, 31, 32] (by decide +kernel) (by decide +kernel)
set_option maxRecDepth 20000 in
theorem gX4_learned_X3_nextDay_n119 : GoodIn wsX4_learned (wsX3_nextDay) := ggX4_learned_X3_nextDay
theorem dX4_learned_0 : decode cX4_learned 0 = .ok (.aload_n 0, 1) := by decide +kernel
theorem dX4_learned_1 : decode cX4_learned 1 = .ok (.getfield 10, 3) := by decide +kernel
theorem dX4_learned_4 : decode cX4_learned 4 = .ok (.iload_n 1, 1) := by decide +kernel
theorem dX4_learned_5 : decode cX4_learned 5 = .ok (.invokevirtual 109, 3) := by decide +kernel
theorem dX4_learned_8 : decode cX4_learned 8 = .ok (.ifCond .eq 14, 3) := by decide +kernel
theorem dX4_learned_11 : decode cX4_learned 11 = .ok (.iload_n 2, 1) := by decide +kernel
theorem dX4_learned_12 : decode cX4_learned 12 = .ok (.iconst 1, 1) := by decide +kernel
theorem dX4_learned_13 : decode cX4_learned 13 = .ok (.if_icmp .lt 9, 3) := by decide +kernel
theorem dX4_learned_16 : decode cX4_learned 16 = .ok (.iload_n 2, 1) := by decide +kernel
theorem dX4_learned_17 : decode cX4_learned 17 = .ok (.bipush 14, 2) := by decide +kernel
theorem dX4_learned_19 : decode cX4_learned 19 = .ok (.if_icmp .le 6, 3) := by decide +kernel
theorem dX4_learned_22 : decode cX4_learned 22 = .ok (.bipush (-2), 2) := by decide +kernel
theorem dX4_learned_24 : decode cX4_learned 24 = .ok (.ireturn, 1) := by decide +kernel
theorem dX4_learned_25 : decode cX4_learned 25 = .ok (.iload_n 1, 1) := by decide +kernel
theorem dX4_learned_26 : decode cX4_learned 26 = .ok (.istore_n 3, 1) := by decide +kernel
theorem dX4_learned_27 : decode cX4_learned 27 = .ok (.iconst 1, 1) := by decide +kernel
theorem dX4_learned_28 : decode cX4_learned 28 = .ok (.istore 4, 2) := by decide +kernel
theorem dX4_learned_30 : decode cX4_learned 30 = .ok (.iload 4, 2) := by decide +kernel
theorem dX4_learned_32 : decode cX4_learned 32 = .ok (.iload_n 2, 1) := by decide +kernel
theorem dX4_learned_33 : decode cX4_learned 33 = .ok (.if_icmp .ge 18, 3) := by decide +kernel
theorem dX4_learned_36 : decode cX4_learned 36 = .ok (.aload_n 0, 1) := by decide +kernel
theorem dX4_learned_37 : decode cX4_learned 37 = .ok (.getfield 10, 3) := by decide +kernel
theorem dX4_learned_40 : decode cX4_learned 40 = .ok (.iload_n 3, 1) := by decide +kernel
theorem dX4_learned_41 : decode cX4_learned 41 = .ok (.invokevirtual 119, 3) := by decide +kernel
theorem dX4_learned_44 : decode cX4_learned 44 = .ok (.istore_n 3, 1) := by decide +kernel
theorem dX4_learned_45 : decode cX4_learned 45 = .ok (.iinc 4 1, 3) := by decide +kernel
theorem dX4_learned_48 : decode cX4_learned 48 = .ok (.goto (-18), 3) := by decide +kernel
theorem dX4_learned_51 : decode cX4_learned 51 = .ok (.aload_n 0, 1) := by decide +kernel
theorem dX4_learned_52 : decode cX4_learned 52 = .ok (.getfield 10, 3) := by decide +kernel
theorem dX4_learned_55 : decode cX4_learned 55 = .ok (.iload_n 3, 1) := by decide +kernel
theorem dX4_learned_56 : decode cX4_learned 56 = .ok (.invokevirtual 119, 3) := by decide +kernel
theorem dX4_learned_59 : decode cX4_learned 59 = .ok (.iload_n 3, 1) := by decide +kernel
theorem dX4_learned_60 : decode cX4_learned 60 = .ok (.iconst (-1), 1) := by decide +kernel
theorem dX4_learned_61 : decode cX4_learned 61 = .ok (.ixor, 1) := by decide +kernel
theorem dX4_learned_62 : decode cX4_learned 62 = .ok (.iand, 1) := by decide +kernel
theorem dX4_learned_63 : decode cX4_learned 63 = .ok (.ireturn, 1) := by decide +kernel
set_option maxRecDepth 20000 in
theorem ggX4_know_X3_hasAll : GoodIn wsX4_know wsX3_hasAll := goodIn_r _ [5, 6, 7, 8, 3, 9, 10, 19, 20, 21, 22, 23] (by decide +kernel) (by decide +kernel)
set_option maxRecDepth 20000 in
theorem gX4_know_X3_hasAll_n109 : GoodIn wsX4_know (wsX3_hasAll) := ggX4_know_X3_hasAll
theorem dX4_know_0 : decode cX4_know 0 = .ok (.aload_n 0, 1) := by decide +kernel
theorem dX4_know_1 : decode cX4_know 1 = .ok (.getfield 10, 3) := by decide +kernel
theorem dX4_know_4 : decode cX4_know 4 = .ok (.iload_n 1, 1) := by decide +kernel
theorem dX4_know_5 : decode cX4_know 5 = .ok (.invokevirtual 109, 3) := by decide +kernel
theorem dX4_know_8 : decode cX4_know 8 = .ok (.ifCond .ne 6, 3) := by decide +kernel
theorem dX4_know_11 : decode cX4_know 11 = .ok (.bipush (-2), 2) := by decide +kernel
theorem dX4_know_13 : decode cX4_know 13 = .ok (.ireturn, 1) := by decide +kernel
theorem dX4_know_14 : decode cX4_know 14 = .ok (.aload_n 0, 1) := by decide +kernel
theorem dX4_know_15 : decode cX4_know 15 = .ok (.getfield 10, 3) := by decide +kernel
theorem dX4_know_18 : decode cX4_know 18 = .ok (.getfield 122, 3) := by decide +kernel
theorem dX4_know_21 : decode cX4_know 21 = .ok (.istore_n 2, 1) := by decide +kernel
theorem dX4_know_22 : decode cX4_know 22 = .ok (.aload_n 0, 1) := by decide +kernel
theorem dX4_know_23 : decode cX4_know 23 = .ok (.getfield 10, 3) := by decide +kernel
theorem dX4_know_26 : decode cX4_know 26 = .ok (.iload_n 1, 1) := by decide +kernel
theorem dX4_know_27 : decode cX4_know 27 = .ok (.putfield 122, 3) := by decide +kernel
theorem dX4_know_30 : decode cX4_know 30 = .ok (.iload_n 2, 1) := by decide +kernel
theorem dX4_know_31 : decode cX4_know 31 = .ok (.ireturn, 1) := by decide +kernel
set_option maxRecDepth 20000 in
theorem ggX4_plan_X4_currentTellings : GoodIn wsX4_plan wsX4_currentTellings := goodIn_r _ [6, 7, 8, 1, 9, 10, 11, 5, 12, 13, 14, 15, 16, 17, 18, 19, 20, 21, 22, 23, 24, 25, 26, 27, 28, 29, 30, 31, 32, 33, 34, 35, 36, 37, 38, 39, 40, 41, 42, 43, 44, 45, 46, 47, 48, 49, 50, 51, 52, 53, 54, 55, 77, 78, 79, 80, 81, 82, 83, 84, 85, 86, 87, 88, 89, 90, 91, 92, 93, 94, 95] (by decide +kernel) (by decide +kernel)
set_option maxRecDepth 20000 in
theorem gX4_plan_X4_currentTellings : GoodIn wsX4_plan (wsV RX4 125 RX4 yX4_currentTellings wsX4_currentTellings) := goodIn_app (goodIn_of _ (by decide +kernel)) ggX4_plan_X4_currentTellings
set_option maxRecDepth 20000 in
theorem ggX4_plan_X1_cheapest : GoodIn wsX4_plan wsX1_cheapest := goodIn_r _ [58, 26, 25, 59, 28, 60, 61, 31, 62, 32, 33, 34, 35, 36, 37, 38, 43, 44, 45, 22, 46, 47, 53, 54, 55, 93, 94, 95, 85, 86, 87, 88, 89] (by decide +kernel) (by decide +kernel)
set_option maxRecDepth 20000 in
theorem gX4_plan_X1_cheapest_n129 : GoodIn wsX4_plan (wsX1_cheapest) := ggX4_plan_X1_cheapest
set_option maxRecDepth 20000 in
theorem ggX4_plan_X3_costOf : GoodIn wsX4_plan wsX3_costOf := goodIn_r _ [61, 31, 62, 85, 86, 87, 88, 89] (by decide +kernel) (by decide +kernel)
set_option maxRecDepth 20000 in
theorem gX4_plan_X3_costOf_n133 : GoodIn wsX4_plan (wsX3_costOf) := ggX4_plan_X3_costOf
set_option maxRecDepth 20000 in
theorem ggX4_plan_J6_bitCount_0f7a4 : GoodIn wsX4_plan wsJ6_bitCount_0f7a4 := goodIn_r _ [35, 36, 37, 38] (by decide +kernel) (by decide +kernel)
set_option maxRecDepth 20000 in
theorem gX4_plan_J6_bitCount_0f7a4 : GoodIn wsX4_plan (va_wsS RX4 95 yJ6_bitCount_0f7a4 wsJ6_bitCount_0f7a4) := goodIn_app (goodIn_of _ (by decide +kernel)) ggX4_plan_J6_bitCount_0f7a4
set_option maxRecDepth 20000 in
theorem ggX4_plan_X3_all : GoodIn wsX4_plan wsX3_all := goodIn_r _ [30, 31, 85, 86, 87, 88, 89] (by decide +kernel) (by decide +kernel)
set_option maxRecDepth 20000 in
theorem gX4_plan_X3_all_n136 : GoodIn wsX4_plan (wsX3_all) := ggX4_plan_X3_all
set_option maxRecDepth 20000 in
theorem ggX4_plan_X3_daysTill : GoodIn wsX4_plan wsX3_daysTill := goodIn_r _ [66, 31, 67, 68, 69, 28, 70, 71, 72, 73, 74, 75, 76, 85, 86, 87, 88, 89] (by decide +kernel) (by decide +kernel)
set_option maxRecDepth 20000 in
theorem gX4_plan_X3_daysTill_n115 : GoodIn wsX4_plan (wsX3_daysTill) := ggX4_plan_X3_daysTill
theorem dX4_plan_0 : decode cX4_plan 0 = .ok (.iload_n 1, 1) := by decide +kernel
theorem dX4_plan_1 : decode cX4_plan 1 = .ok (.ifCond .lt 8, 3) := by decide +kernel
theorem dX4_plan_4 : decode cX4_plan 4 = .ok (.iload_n 1, 1) := by decide +kernel
theorem dX4_plan_5 : decode cX4_plan 5 = .ok (.iconst 3, 1) := by decide +kernel
theorem dX4_plan_6 : decode cX4_plan 6 = .ok (.if_icmp .le 6, 3) := by decide +kernel
theorem dX4_plan_9 : decode cX4_plan 9 = .ok (.bipush (-2), 2) := by decide +kernel
theorem dX4_plan_11 : decode cX4_plan 11 = .ok (.ireturn, 1) := by decide +kernel
theorem dX4_plan_12 : decode cX4_plan 12 = .ok (.aload_n 0, 1) := by decide +kernel
theorem dX4_plan_13 : decode cX4_plan 13 = .ok (.invokevirtual 125, 3) := by decide +kernel
theorem dX4_plan_16 : decode cX4_plan 16 = .ok (.aload_n 0, 1) := by decide +kernel
theorem dX4_plan_17 : decode cX4_plan 17 = .ok (.getfield 10, 3) := by decide +kernel
theorem dX4_plan_20 : decode cX4_plan 20 = .ok (.aload_n 0, 1) := by decide +kernel
theorem dX4_plan_21 : decode cX4_plan 21 = .ok (.getfield 10, 3) := by decide +kernel
theorem dX4_plan_24 : decode cX4_plan 24 = .ok (.getfield 122, 3) := by decide +kernel
theorem dX4_plan_27 : decode cX4_plan 27 = .ok (.invokevirtual 129, 3) := by decide +kernel
theorem dX4_plan_30 : decode cX4_plan 30 = .ok (.istore_n 2, 1) := by decide +kernel
theorem dX4_plan_31 : decode cX4_plan 31 = .ok (.iload_n 1, 1) := by decide +kernel
theorem dX4_plan_32 : decode cX4_plan 32 = .ok (.tableswitch 44 0 2 #[28, 30, 39], 28) := by decide +kernel
theorem dX4_plan_60 : decode cX4_plan 60 = .ok (.iload_n 2, 1) := by decide +kernel
theorem dX4_plan_61 : decode cX4_plan 61 = .ok (.ireturn, 1) := by decide +kernel
theorem dX4_plan_62 : decode cX4_plan 62 = .ok (.aload_n 0, 1) := by decide +kernel
theorem dX4_plan_63 : decode cX4_plan 63 = .ok (.getfield 10, 3) := by decide +kernel
theorem dX4_plan_66 : decode cX4_plan 66 = .ok (.iload_n 2, 1) := by decide +kernel
theorem dX4_plan_67 : decode cX4_plan 67 = .ok (.invokevirtual 133, 3) := by decide +kernel
theorem dX4_plan_70 : decode cX4_plan 70 = .ok (.ireturn, 1) := by decide +kernel
theorem dX4_plan_71 : decode cX4_plan 71 = .ok (.iload_n 2, 1) := by decide +kernel
theorem dX4_plan_72 : decode cX4_plan 72 = .ok (.invokestatic 95, 3) := by decide +kernel
theorem dX4_plan_75 : decode cX4_plan 75 = .ok (.ireturn, 1) := by decide +kernel
theorem dX4_plan_76 : decode cX4_plan 76 = .ok (.aload_n 0, 1) := by decide +kernel
theorem dX4_plan_77 : decode cX4_plan 77 = .ok (.getfield 10, 3) := by decide +kernel
theorem dX4_plan_80 : decode cX4_plan 80 = .ok (.aload_n 0, 1) := by decide +kernel
theorem dX4_plan_81 : decode cX4_plan 81 = .ok (.getfield 10, 3) := by decide +kernel
theorem dX4_plan_84 : decode cX4_plan 84 = .ok (.invokevirtual 136, 3) := by decide +kernel
theorem dX4_plan_87 : decode cX4_plan 87 = .ok (.aload_n 0, 1) := by decide +kernel
theorem dX4_plan_88 : decode cX4_plan 88 = .ok (.getfield 10, 3) := by decide +kernel
theorem dX4_plan_91 : decode cX4_plan 91 = .ok (.getfield 122, 3) := by decide +kernel
theorem dX4_plan_94 : decode cX4_plan 94 = .ok (.iload_n 2, 1) := by decide +kernel
theorem dX4_plan_95 : decode cX4_plan 95 = .ok (.ior, 1) := by decide +kernel
theorem dX4_plan_96 : decode cX4_plan 96 = .ok (.invokevirtual 115, 3) := by decide +kernel
theorem dX4_plan_99 : decode cX4_plan 99 = .ok (.ireturn, 1) := by decide +kernel
set_option maxRecDepth 20000 in
theorem ggX4_saves_X3_has : GoodIn wsX4_saves wsX3_has := goodIn_r _ [5, 6, 74, 75, 76, 77, 78] (by decide +kernel) (by decide +kernel)
set_option maxRecDepth 20000 in
theorem gX4_saves_X3_has_n100 : GoodIn wsX4_saves (wsX3_has) := ggX4_saves_X3_has
set_option maxRecDepth 20000 in
theorem ggX4_saves_X4_currentTellings : GoodIn wsX4_saves wsX4_currentTellings := goodIn_r _ [11, 12, 13, 1, 14, 15, 16, 10, 17, 18, 19, 20, 21, 22, 23, 24, 25, 26, 27, 28, 29, 30, 31, 32, 3, 33, 34, 6, 35, 36, 37, 38, 39, 40, 41, 42, 43, 44, 45, 46, 47, 48, 49, 50, 51, 52, 53, 54, 55, 56, 57, 58, 66, 67, 68, 69, 70, 71, 72, 73, 74, 75, 76, 77, 78, 79, 80, 81, 82, 83, 84] (by decide +kernel) (by decide +kernel)
set_option maxRecDepth 20000 in
theorem gX4_saves_X4_currentTellings : GoodIn wsX4_saves (wsV RX4 125 RX4 yX4_currentTellings wsX4_currentTellings) := goodIn_app (goodIn_of _ (by decide +kernel)) ggX4_saves_X4_currentTellings
set_option maxRecDepth 20000 in
theorem ggX4_saves_X1_cheapest : GoodIn wsX4_saves wsX1_cheapest := goodIn_r _ [61, 31, 30, 62, 3, 63, 64, 6, 65, 35, 36, 37, 38, 39, 40, 41, 46, 47, 48, 27, 49, 50, 56, 57, 58, 82, 83, 84, 74, 75, 76, 77, 78] (by decide +kernel) (by decide +kernel)
set_option maxRecDepth 20000 in
theorem gX4_saves_X1_cheapest_n129 : GoodIn wsX4_saves (wsX1_cheapest) := ggX4_saves_X1_cheapest
set_option maxRecDepth 20000 in
theorem ggX4_saves_X3_costOf : GoodIn wsX4_saves wsX3_costOf := goodIn_r _ [64, 6, 65, 74, 75, 76, 77, 78] (by decide +kernel) (by decide +kernel)
set_option maxRecDepth 20000 in
theorem gX4_saves_X3_costOf_n133 : GoodIn wsX4_saves (wsX3_costOf) := ggX4_saves_X3_costOf
theorem dX4_saves_0 : decode cX4_saves 0 = .ok (.aload_n 0, 1) := by decide +kernel
theorem dX4_saves_1 : decode cX4_saves 1 = .ok (.getfield 10, 3) := by decide +kernel
theorem dX4_saves_4 : decode cX4_saves 4 = .ok (.iload_n 1, 1) := by decide +kernel
theorem dX4_saves_5 : decode cX4_saves 5 = .ok (.invokevirtual 100, 3) := by decide +kernel
theorem dX4_saves_8 : decode cX4_saves 8 = .ok (.ifCond .ne 5, 3) := by decide +kernel
theorem dX4_saves_11 : decode cX4_saves 11 = .ok (.iconst (-1), 1) := by decide +kernel
theorem dX4_saves_12 : decode cX4_saves 12 = .ok (.ireturn, 1) := by decide +kernel
theorem dX4_saves_13 : decode cX4_saves 13 = .ok (.aload_n 0, 1) := by decide +kernel
theorem dX4_saves_14 : decode cX4_saves 14 = .ok (.invokevirtual 125, 3) := by decide +kernel
theorem dX4_saves_17 : decode cX4_saves 17 = .ok (.astore_n 2, 1) := by decide +kernel
theorem dX4_saves_18 : decode cX4_saves 18 = .ok (.aload_n 2, 1) := by decide +kernel
theorem dX4_saves_19 : decode cX4_saves 19 = .ok (.aload_n 0, 1) := by decide +kernel
theorem dX4_saves_20 : decode cX4_saves 20 = .ok (.getfield 10, 3) := by decide +kernel
theorem dX4_saves_23 : decode cX4_saves 23 = .ok (.aload_n 0, 1) := by decide +kernel
theorem dX4_saves_24 : decode cX4_saves 24 = .ok (.getfield 10, 3) := by decide +kernel
theorem dX4_saves_27 : decode cX4_saves 27 = .ok (.getfield 122, 3) := by decide +kernel
theorem dX4_saves_30 : decode cX4_saves 30 = .ok (.invokevirtual 129, 3) := by decide +kernel
theorem dX4_saves_33 : decode cX4_saves 33 = .ok (.istore_n 3, 1) := by decide +kernel
theorem dX4_saves_34 : decode cX4_saves 34 = .ok (.aload_n 2, 1) := by decide +kernel
end
section
theorem dX4_saves_35 : decode cX4_saves 35 = .ok (.aload_n 0, 1) := by decide +kernel
theorem dX4_saves_36 : decode cX4_saves 36 = .ok (.getfield 10, 3) := by decide +kernel
theorem dX4_saves_39 : decode cX4_saves 39 = .ok (.aload_n 0, 1) := by decide +kernel
theorem dX4_saves_40 : decode cX4_saves 40 = .ok (.getfield 10, 3) := by decide +kernel
theorem dX4_saves_43 : decode cX4_saves 43 = .ok (.getfield 122, 3) := by decide +kernel
theorem dX4_saves_46 : decode cX4_saves 46 = .ok (.iconst 1, 1) := by decide +kernel
theorem dX4_saves_47 : decode cX4_saves 47 = .ok (.iload_n 1, 1) := by decide +kernel
theorem dX4_saves_48 : decode cX4_saves 48 = .ok (.ishl, 1) := by decide +kernel
theorem dX4_saves_49 : decode cX4_saves 49 = .ok (.ior, 1) := by decide +kernel
theorem dX4_saves_50 : decode cX4_saves 50 = .ok (.invokevirtual 129, 3) := by decide +kernel
theorem dX4_saves_53 : decode cX4_saves 53 = .ok (.istore 4, 2) := by decide +kernel
theorem dX4_saves_55 : decode cX4_saves 55 = .ok (.aload_n 0, 1) := by decide +kernel
theorem dX4_saves_56 : decode cX4_saves 56 = .ok (.getfield 10, 3) := by decide +kernel
theorem dX4_saves_59 : decode cX4_saves 59 = .ok (.iload_n 3, 1) := by decide +kernel
theorem dX4_saves_60 : decode cX4_saves 60 = .ok (.invokevirtual 133, 3) := by decide +kernel
theorem dX4_saves_63 : decode cX4_saves 63 = .ok (.aload_n 0, 1) := by decide +kernel
theorem dX4_saves_64 : decode cX4_saves 64 = .ok (.getfield 10, 3) := by decide +kernel
theorem dX4_saves_67 : decode cX4_saves 67 = .ok (.iload 4, 2) := by decide +kernel
theorem dX4_saves_69 : decode cX4_saves 69 = .ok (.invokevirtual 133, 3) := by decide +kernel
theorem dX4_saves_72 : decode cX4_saves 72 = .ok (.isub, 1) := by decide +kernel
theorem dX4_saves_73 : decode cX4_saves 73 = .ok (.ireturn, 1) := by decide +kernel
set_option maxRecDepth 20000 in
theorem ggX4_least_X3_has : GoodIn wsX4_least wsX3_has := goodIn_r _ [5, 6, 77, 78, 79, 80, 81] (by decide +kernel) (by decide +kernel)
set_option maxRecDepth 20000 in
theorem gX4_least_X3_has_n100 : GoodIn wsX4_least (wsX3_has) := ggX4_least_X3_has
set_option maxRecDepth 20000 in
theorem ggX4_least_X4_currentTellings : GoodIn wsX4_least wsX4_currentTellings := goodIn_r _ [11, 12, 13, 1, 14, 15, 16, 10, 17, 18, 19, 20, 21, 22, 23, 24, 25, 26, 27, 28, 29, 30, 31, 32, 3, 33, 34, 6, 35, 36, 37, 38, 39, 40, 41, 42, 43, 44, 45, 46, 47, 48, 49, 50, 51, 52, 53, 54, 55, 56, 57, 58, 69, 70, 71, 72, 73, 74, 75, 76, 77, 78, 79, 80, 81, 82, 83, 84, 85, 86, 87] (by decide +kernel) (by decide +kernel)
set_option maxRecDepth 20000 in
theorem gX4_least_X4_currentTellings : GoodIn wsX4_least (wsV RX4 125 RX4 yX4_currentTellings wsX4_currentTellings) := goodIn_app (goodIn_of _ (by decide +kernel)) ggX4_least_X4_currentTellings
set_option maxRecDepth 20000 in
theorem ggX4_least_X1_greatestLeast : GoodIn wsX4_least wsX1_greatestLeast := goodIn_r _ [61, 31, 30, 35, 36, 37, 38, 39, 40, 41, 62, 63, 64, 27, 65, 46, 47, 48, 49, 50, 56, 57, 58, 85, 86, 87] (by decide +kernel) (by decide +kernel)
set_option maxRecDepth 20000 in
theorem gX4_least_X1_greatestLeast_n139 : GoodIn wsX4_least (wsX1_greatestLeast) := ggX4_least_X1_greatestLeast
set_option maxRecDepth 20000 in
theorem ggX4_least_X1_leastWith : GoodIn wsX4_least wsX1_leastWith := goodIn_r _ [68, 31, 30, 35, 36, 37, 38, 39, 40, 41, 62, 63, 64, 27, 65, 46, 47, 48, 49, 50, 56, 57, 58, 85, 86, 87] (by decide +kernel) (by decide +kernel)
set_option maxRecDepth 20000 in
theorem gX4_least_X1_leastWith_n142 : GoodIn wsX4_least (wsX1_leastWith) := ggX4_least_X1_leastWith
theorem dX4_least_0 : decode cX4_least 0 = .ok (.iload_n 1, 1) := by decide +kernel
theorem dX4_least_1 : decode cX4_least 1 = .ok (.ifCond .eq 25, 3) := by decide +kernel
theorem dX4_least_4 : decode cX4_least 4 = .ok (.iload_n 1, 1) := by decide +kernel
theorem dX4_least_5 : decode cX4_least 5 = .ok (.iconst 1, 1) := by decide +kernel
theorem dX4_least_6 : decode cX4_least 6 = .ok (.if_icmp .eq 20, 3) := by decide +kernel
theorem dX4_least_9 : decode cX4_least 9 = .ok (.aload_n 0, 1) := by decide +kernel
theorem dX4_least_10 : decode cX4_least 10 = .ok (.getfield 10, 3) := by decide +kernel
theorem dX4_least_13 : decode cX4_least 13 = .ok (.iload_n 1, 1) := by decide +kernel
theorem dX4_least_14 : decode cX4_least 14 = .ok (.bipush 10, 2) := by decide +kernel
theorem dX4_least_16 : decode cX4_least 16 = .ok (.isub, 1) := by decide +kernel
theorem dX4_least_17 : decode cX4_least 17 = .ok (.invokevirtual 100, 3) := by decide +kernel
theorem dX4_least_20 : decode cX4_least 20 = .ok (.ifCond .ne 6, 3) := by decide +kernel
theorem dX4_least_23 : decode cX4_least 23 = .ok (.bipush (-2), 2) := by decide +kernel
theorem dX4_least_25 : decode cX4_least 25 = .ok (.ireturn, 1) := by decide +kernel
theorem dX4_least_26 : decode cX4_least 26 = .ok (.aload_n 0, 1) := by decide +kernel
theorem dX4_least_27 : decode cX4_least 27 = .ok (.invokevirtual 125, 3) := by decide +kernel
theorem dX4_least_30 : decode cX4_least 30 = .ok (.astore_n 2, 1) := by decide +kernel
theorem dX4_least_31 : decode cX4_least 31 = .ok (.iload_n 1, 1) := by decide +kernel
theorem dX4_least_32 : decode cX4_least 32 = .ok (.iconst 1, 1) := by decide +kernel
theorem dX4_least_33 : decode cX4_least 33 = .ok (.if_icmp .ne 8, 3) := by decide +kernel
theorem dX4_least_36 : decode cX4_least 36 = .ok (.aload_n 2, 1) := by decide +kernel
theorem dX4_least_37 : decode cX4_least 37 = .ok (.invokevirtual 139, 3) := by decide +kernel
theorem dX4_least_40 : decode cX4_least 40 = .ok (.ireturn, 1) := by decide +kernel
theorem dX4_least_41 : decode cX4_least 41 = .ok (.aload_n 2, 1) := by decide +kernel
theorem dX4_least_42 : decode cX4_least 42 = .ok (.iload_n 1, 1) := by decide +kernel
theorem dX4_least_43 : decode cX4_least 43 = .ok (.ifCond .ne 7, 3) := by decide +kernel
theorem dX4_least_46 : decode cX4_least 46 = .ok (.iconst 0, 1) := by decide +kernel
theorem dX4_least_47 : decode cX4_least 47 = .ok (.goto 9, 3) := by decide +kernel
theorem dX4_least_50 : decode cX4_least 50 = .ok (.iconst 1, 1) := by decide +kernel
theorem dX4_least_51 : decode cX4_least 51 = .ok (.iload_n 1, 1) := by decide +kernel
theorem dX4_least_52 : decode cX4_least 52 = .ok (.bipush 10, 2) := by decide +kernel
theorem dX4_least_54 : decode cX4_least 54 = .ok (.isub, 1) := by decide +kernel
theorem dX4_least_55 : decode cX4_least 55 = .ok (.ishl, 1) := by decide +kernel
theorem dX4_least_56 : decode cX4_least 56 = .ok (.invokevirtual 142, 3) := by decide +kernel
theorem dX4_least_59 : decode cX4_least 59 = .ok (.ireturn, 1) := by decide +kernel
set_option maxRecDepth 20000 in
theorem ggX4_way_X3_has : GoodIn wsX4_way wsX3_has := goodIn_r _ [5, 6, 23, 24, 25, 26, 27] (by decide +kernel) (by decide +kernel)
set_option maxRecDepth 20000 in
theorem gX4_way_X3_has_n100 : GoodIn wsX4_way (wsX3_has) := ggX4_way_X3_has
set_option maxRecDepth 20000 in
theorem ggX4_way_X3_stepsBetween : GoodIn wsX4_way wsX3_stepsBetween := goodIn_r _ [9, 10, 6, 11, 12, 13, 3, 14, 23, 24, 25, 26, 27] (by decide +kernel) (by decide +kernel)
set_option maxRecDepth 20000 in
theorem gX4_way_X3_stepsBetween_n145 : GoodIn wsX4_way (wsX3_stepsBetween) := ggX4_way_X3_stepsBetween
theorem dX4_way_0 : decode cX4_way 0 = .ok (.aload_n 0, 1) := by decide +kernel
theorem dX4_way_1 : decode cX4_way 1 = .ok (.getfield 10, 3) := by decide +kernel
theorem dX4_way_4 : decode cX4_way 4 = .ok (.iload_n 1, 1) := by decide +kernel
theorem dX4_way_5 : decode cX4_way 5 = .ok (.invokevirtual 100, 3) := by decide +kernel
theorem dX4_way_8 : decode cX4_way 8 = .ok (.ifCond .eq 14, 3) := by decide +kernel
theorem dX4_way_11 : decode cX4_way 11 = .ok (.aload_n 0, 1) := by decide +kernel
theorem dX4_way_12 : decode cX4_way 12 = .ok (.getfield 10, 3) := by decide +kernel
theorem dX4_way_15 : decode cX4_way 15 = .ok (.iload_n 2, 1) := by decide +kernel
theorem dX4_way_16 : decode cX4_way 16 = .ok (.invokevirtual 100, 3) := by decide +kernel
theorem dX4_way_19 : decode cX4_way 19 = .ok (.ifCond .ne 5, 3) := by decide +kernel
theorem dX4_way_22 : decode cX4_way 22 = .ok (.iconst (-1), 1) := by decide +kernel
theorem dX4_way_23 : decode cX4_way 23 = .ok (.ireturn, 1) := by decide +kernel
theorem dX4_way_24 : decode cX4_way 24 = .ok (.aload_n 0, 1) := by decide +kernel
theorem dX4_way_25 : decode cX4_way 25 = .ok (.getfield 10, 3) := by decide +kernel
theorem dX4_way_28 : decode cX4_way 28 = .ok (.iload_n 1, 1) := by decide +kernel
theorem dX4_way_29 : decode cX4_way 29 = .ok (.iload_n 2, 1) := by decide +kernel
theorem dX4_way_30 : decode cX4_way 30 = .ok (.invokevirtual 145, 3) := by decide +kernel
theorem dX4_way_33 : decode cX4_way 33 = .ok (.ireturn, 1) := by decide +kernel
set_option maxRecDepth 20000 in
theorem ggX4_ring_X4_currentRings : GoodIn wsX4_ring wsX4_currentRings := goodIn_r _ [5, 6, 7, 8, 9, 10, 11, 12, 13, 14, 25, 26, 27, 28, 29, 30, 31, 32, 33, 34, 35, 36, 37, 38, 39, 40] (by decide +kernel) (by decide +kernel)
set_option maxRecDepth 20000 in
theorem gX4_ring_X4_currentRings : GoodIn wsX4_ring (wsV RX4 148 RX4 yX4_currentRings wsX4_currentRings) := goodIn_app (goodIn_of _ (by decide +kernel)) ggX4_ring_X4_currentRings
set_option maxRecDepth 20000 in
theorem ggX4_ring_X0_howMany : GoodIn wsX4_ring wsX0_howMany := goodIn_r _ [17, 14, 12, 18, 19, 20, 9, 21, 13, 38, 39, 40] (by decide +kernel) (by decide +kernel)
set_option maxRecDepth 20000 in
theorem gX4_ring_X0_howMany_n152 : GoodIn wsX4_ring (wsX0_howMany) := ggX4_ring_X0_howMany
set_option maxRecDepth 20000 in
theorem ggX4_ring_X0_numbered : GoodIn wsX4_ring wsX0_numbered := goodIn_r _ [24, 14, 12, 18, 19, 20, 9, 21, 13, 38, 39, 40] (by decide +kernel) (by decide +kernel)
set_option maxRecDepth 20000 in
theorem gX4_ring_X0_numbered_n155 : GoodIn wsX4_ring (wsX0_numbered) := ggX4_ring_X0_numbered
theorem dX4_ring_0 : decode cX4_ring 0 = .ok (.iload_n 1, 1) := by decide +kernel
theorem dX4_ring_1 : decode cX4_ring 1 = .ok (.iconst (-1), 1) := by decide +kernel
theorem dX4_ring_2 : decode cX4_ring 2 = .ok (.if_icmp .ge 6, 3) := by decide +kernel
theorem dX4_ring_5 : decode cX4_ring 5 = .ok (.bipush (-2), 2) := by decide +kernel
theorem dX4_ring_7 : decode cX4_ring 7 = .ok (.ireturn, 1) := by decide +kernel
theorem dX4_ring_8 : decode cX4_ring 8 = .ok (.aload_n 0, 1) := by decide +kernel
theorem dX4_ring_9 : decode cX4_ring 9 = .ok (.invokevirtual 148, 3) := by decide +kernel
theorem dX4_ring_12 : decode cX4_ring 12 = .ok (.astore_n 2, 1) := by decide +kernel
theorem dX4_ring_13 : decode cX4_ring 13 = .ok (.iload_n 1, 1) := by decide +kernel
theorem dX4_ring_14 : decode cX4_ring 14 = .ok (.iconst (-1), 1) := by decide +kernel
theorem dX4_ring_15 : decode cX4_ring 15 = .ok (.if_icmp .ne 10, 3) := by decide +kernel
theorem dX4_ring_18 : decode cX4_ring 18 = .ok (.aload_n 2, 1) := by decide +kernel
theorem dX4_ring_19 : decode cX4_ring 19 = .ok (.invokevirtual 152, 3) := by decide +kernel
theorem dX4_ring_22 : decode cX4_ring 22 = .ok (.goto 8, 3) := by decide +kernel
theorem dX4_ring_25 : decode cX4_ring 25 = .ok (.aload_n 2, 1) := by decide +kernel
theorem dX4_ring_26 : decode cX4_ring 26 = .ok (.iload_n 1, 1) := by decide +kernel
theorem dX4_ring_27 : decode cX4_ring 27 = .ok (.invokevirtual 155, 3) := by decide +kernel
theorem dX4_ring_30 : decode cX4_ring 30 = .ok (.ireturn, 1) := by decide +kernel
set_option maxRecDepth 20000 in
theorem ggX4_lie_X4_currentRings : GoodIn wsX4_lie wsX4_currentRings := goodIn_r _ [6, 7, 1, 8, 9, 10, 11, 12, 13, 14, 33, 34, 35, 36, 37, 38, 39, 40, 41, 42, 43, 44, 45, 30, 31, 32] (by decide +kernel) (by decide +kernel)
set_option maxRecDepth 20000 in
theorem gX4_lie_X4_currentRings : GoodIn wsX4_lie (wsV RX4 148 RX4 yX4_currentRings wsX4_currentRings) := goodIn_app (goodIn_of _ (by decide +kernel)) ggX4_lie_X4_currentRings
set_option maxRecDepth 20000 in
theorem ggX4_lie_X0_before : GoodIn wsX4_lie wsX0_before := goodIn_r _ [17, 12, 14, 13, 30, 31, 32] (by decide +kernel) (by decide +kernel)
set_option maxRecDepth 20000 in
theorem gX4_lie_X0_before_n161 : GoodIn wsX4_lie (wsX0_before) := ggX4_lie_X0_before
set_option maxRecDepth 20000 in
theorem ggX4_lie_X0_behind : GoodIn wsX4_lie wsX0_behind := goodIn_r _ [20, 12, 13, 14, 30, 31, 32] (by decide +kernel) (by decide +kernel)
set_option maxRecDepth 20000 in
theorem gX4_lie_X0_behind_n164 : GoodIn wsX4_lie (wsX0_behind) := ggX4_lie_X0_behind
set_option maxRecDepth 20000 in
theorem ggX4_lie_X3_all : GoodIn wsX4_lie wsX3_all := goodIn_r _ [24, 25, 41, 42, 43, 44, 45] (by decide +kernel) (by decide +kernel)
set_option maxRecDepth 20000 in
theorem gX4_lie_X3_all_n136 : GoodIn wsX4_lie (wsX3_all) := ggX4_lie_X3_all
set_option maxRecDepth 20000 in
theorem ggX4_lie_X3_used : GoodIn wsX4_lie wsX3_used := goodIn_r _ [28, 25, 29, 41, 42, 43, 44, 45] (by decide +kernel) (by decide +kernel)
set_option maxRecDepth 20000 in
theorem gX4_lie_X3_used_n167 : GoodIn wsX4_lie (wsX3_used) := ggX4_lie_X3_used
theorem dX4_lie_0 : decode cX4_lie 0 = .ok (.iload_n 1, 1) := by decide +kernel
theorem dX4_lie_1 : decode cX4_lie 1 = .ok (.tableswitch 95 0 4 #[35, 43, 51, 59, 77], 35) := by decide +kernel
theorem dX4_lie_36 : decode cX4_lie 36 = .ok (.aload_n 0, 1) := by decide +kernel
theorem dX4_lie_37 : decode cX4_lie 37 = .ok (.invokevirtual 148, 3) := by decide +kernel
theorem dX4_lie_40 : decode cX4_lie 40 = .ok (.getfield 158, 3) := by decide +kernel
theorem dX4_lie_43 : decode cX4_lie 43 = .ok (.ireturn, 1) := by decide +kernel
theorem dX4_lie_44 : decode cX4_lie 44 = .ok (.aload_n 0, 1) := by decide +kernel
theorem dX4_lie_45 : decode cX4_lie 45 = .ok (.invokevirtual 148, 3) := by decide +kernel
theorem dX4_lie_48 : decode cX4_lie 48 = .ok (.invokevirtual 161, 3) := by decide +kernel
theorem dX4_lie_51 : decode cX4_lie 51 = .ok (.ireturn, 1) := by decide +kernel
theorem dX4_lie_52 : decode cX4_lie 52 = .ok (.aload_n 0, 1) := by decide +kernel
theorem dX4_lie_53 : decode cX4_lie 53 = .ok (.invokevirtual 148, 3) := by decide +kernel
theorem dX4_lie_56 : decode cX4_lie 56 = .ok (.invokevirtual 164, 3) := by decide +kernel
theorem dX4_lie_59 : decode cX4_lie 59 = .ok (.ireturn, 1) := by decide +kernel
theorem dX4_lie_60 : decode cX4_lie 60 = .ok (.aload_n 0, 1) := by decide +kernel
theorem dX4_lie_61 : decode cX4_lie 61 = .ok (.getfield 10, 3) := by decide +kernel
theorem dX4_lie_64 : decode cX4_lie 64 = .ok (.invokevirtual 136, 3) := by decide +kernel
theorem dX4_lie_67 : decode cX4_lie 67 = .ok (.aload_n 0, 1) := by decide +kernel
theorem dX4_lie_68 : decode cX4_lie 68 = .ok (.getfield 10, 3) := by decide +kernel
theorem dX4_lie_71 : decode cX4_lie 71 = .ok (.invokevirtual 167, 3) := by decide +kernel
theorem dX4_lie_74 : decode cX4_lie 74 = .ok (.iconst (-1), 1) := by decide +kernel
theorem dX4_lie_75 : decode cX4_lie 75 = .ok (.ixor, 1) := by decide +kernel
theorem dX4_lie_76 : decode cX4_lie 76 = .ok (.iand, 1) := by decide +kernel
theorem dX4_lie_77 : decode cX4_lie 77 = .ok (.ireturn, 1) := by decide +kernel
theorem dX4_lie_78 : decode cX4_lie 78 = .ok (.aload_n 0, 1) := by decide +kernel
theorem dX4_lie_79 : decode cX4_lie 79 = .ok (.getfield 10, 3) := by decide +kernel
theorem dX4_lie_82 : decode cX4_lie 82 = .ok (.invokevirtual 136, 3) := by decide +kernel
theorem dX4_lie_85 : decode cX4_lie 85 = .ok (.aload_n 0, 1) := by decide +kernel
theorem dX4_lie_86 : decode cX4_lie 86 = .ok (.getfield 10, 3) := by decide +kernel
theorem dX4_lie_89 : decode cX4_lie 89 = .ok (.getfield 170, 3) := by decide +kernel
theorem dX4_lie_92 : decode cX4_lie 92 = .ok (.iconst (-1), 1) := by decide +kernel
theorem dX4_lie_93 : decode cX4_lie 93 = .ok (.ixor, 1) := by decide +kernel
theorem dX4_lie_94 : decode cX4_lie 94 = .ok (.iand, 1) := by decide +kernel
theorem dX4_lie_95 : decode cX4_lie 95 = .ok (.ireturn, 1) := by decide +kernel
theorem dX4_lie_96 : decode cX4_lie 96 = .ok (.bipush (-2), 2) := by decide +kernel
theorem dX4_lie_98 : decode cX4_lie 98 = .ok (.ireturn, 1) := by decide +kernel
set_option maxRecDepth 20000 in
theorem ggX4_image_X3_copyFrom : GoodIn wsX4_image wsX3_copyFrom := goodIn_r _ [7, 8, 9, 10, 11, 12, 21, 22, 23, 24, 25] (by decide +kernel) (by decide +kernel)
set_option maxRecDepth 20000 in
theorem gX4_image_X3_copyFrom_n173 : GoodIn wsX4_image (wsX3_copyFrom) := ggX4_image_X3_copyFrom
theorem dX4_image_0 : decode cX4_image 0 = .ok (.iload_n 1, 1) := by decide +kernel
theorem dX4_image_1 : decode cX4_image 1 = .ok (.ifCond .lt 8, 3) := by decide +kernel
theorem dX4_image_4 : decode cX4_image 4 = .ok (.iload_n 1, 1) := by decide +kernel
theorem dX4_image_5 : decode cX4_image 5 = .ok (.iconst 2, 1) := by decide +kernel
theorem dX4_image_6 : decode cX4_image 6 = .ok (.if_icmp .lt 6, 3) := by decide +kernel
theorem dX4_image_9 : decode cX4_image 9 = .ok (.bipush (-2), 2) := by decide +kernel
theorem dX4_image_11 : decode cX4_image 11 = .ok (.ireturn, 1) := by decide +kernel
theorem dX4_image_12 : decode cX4_image 12 = .ok (.aload_n 0, 1) := by decide +kernel
theorem dX4_image_13 : decode cX4_image 13 = .ok (.getfield 16, 3) := by decide +kernel
theorem dX4_image_16 : decode cX4_image 16 = .ok (.iload_n 1, 1) := by decide +kernel
theorem dX4_image_17 : decode cX4_image 17 = .ok (.aaload, 1) := by decide +kernel
theorem dX4_image_18 : decode cX4_image 18 = .ok (.aload_n 0, 1) := by decide +kernel
theorem dX4_image_19 : decode cX4_image 19 = .ok (.getfield 10, 3) := by decide +kernel
theorem dX4_image_22 : decode cX4_image 22 = .ok (.invokevirtual 173, 3) := by decide +kernel
theorem dX4_image_25 : decode cX4_image 25 = .ok (.aload_n 0, 1) := by decide +kernel
theorem dX4_image_26 : decode cX4_image 26 = .ok (.dup, 1) := by decide +kernel
theorem dX4_image_27 : decode cX4_image 27 = .ok (.getfield 41, 3) := by decide +kernel
theorem dX4_image_30 : decode cX4_image 30 = .ok (.iconst 1, 1) := by decide +kernel
theorem dX4_image_31 : decode cX4_image 31 = .ok (.iload_n 1, 1) := by decide +kernel
theorem dX4_image_32 : decode cX4_image 32 = .ok (.ishl, 1) := by decide +kernel
theorem dX4_image_33 : decode cX4_image 33 = .ok (.ior, 1) := by decide +kernel
theorem dX4_image_34 : decode cX4_image 34 = .ok (.putfield 41, 3) := by decide +kernel
theorem dX4_image_37 : decode cX4_image 37 = .ok (.iconst 1, 1) := by decide +kernel
theorem dX4_image_38 : decode cX4_image 38 = .ok (.ireturn, 1) := by decide +kernel
set_option maxRecDepth 20000 in
theorem ggX4_restore_X3_copyFrom : GoodIn wsX4_restore wsX3_copyFrom := goodIn_r _ [8, 9, 10, 11, 12, 13, 22, 23, 24, 25, 26] (by decide +kernel) (by decide +kernel)
set_option maxRecDepth 20000 in
theorem gX4_restore_X3_copyFrom_n173 : GoodIn wsX4_restore (wsX3_copyFrom) := ggX4_restore_X3_copyFrom
theorem dX4_restore_0 : decode cX4_restore 0 = .ok (.iload_n 1, 1) := by decide +kernel
theorem dX4_restore_1 : decode cX4_restore 1 = .ok (.ifCond .lt 8, 3) := by decide +kernel
theorem dX4_restore_4 : decode cX4_restore 4 = .ok (.iload_n 1, 1) := by decide +kernel
theorem dX4_restore_5 : decode cX4_restore 5 = .ok (.iconst 2, 1) := by decide +kernel
theorem dX4_restore_6 : decode cX4_restore 6 = .ok (.if_icmp .lt 6, 3) := by decide +kernel
theorem dX4_restore_9 : decode cX4_restore 9 = .ok (.bipush (-2), 2) := by decide +kernel
theorem dX4_restore_11 : decode cX4_restore 11 = .ok (.ireturn, 1) := by decide +kernel
theorem dX4_restore_12 : decode cX4_restore 12 = .ok (.aload_n 0, 1) := by decide +kernel
theorem dX4_restore_13 : decode cX4_restore 13 = .ok (.getfield 41, 3) := by decide +kernel
theorem dX4_restore_16 : decode cX4_restore 16 = .ok (.iload_n 1, 1) := by decide +kernel
theorem dX4_restore_17 : decode cX4_restore 17 = .ok (.ishr, 1) := by decide +kernel
theorem dX4_restore_18 : decode cX4_restore 18 = .ok (.iconst 1, 1) := by decide +kernel
theorem dX4_restore_19 : decode cX4_restore 19 = .ok (.iand, 1) := by decide +kernel
theorem dX4_restore_20 : decode cX4_restore 20 = .ok (.ifCond .ne 6, 3) := by decide +kernel
theorem dX4_restore_23 : decode cX4_restore 23 = .ok (.bipush (-3), 2) := by decide +kernel
theorem dX4_restore_25 : decode cX4_restore 25 = .ok (.ireturn, 1) := by decide +kernel
theorem dX4_restore_26 : decode cX4_restore 26 = .ok (.aload_n 0, 1) := by decide +kernel
theorem dX4_restore_27 : decode cX4_restore 27 = .ok (.getfield 10, 3) := by decide +kernel
theorem dX4_restore_30 : decode cX4_restore 30 = .ok (.aload_n 0, 1) := by decide +kernel
theorem dX4_restore_31 : decode cX4_restore 31 = .ok (.getfield 16, 3) := by decide +kernel
theorem dX4_restore_34 : decode cX4_restore 34 = .ok (.iload_n 1, 1) := by decide +kernel
theorem dX4_restore_35 : decode cX4_restore 35 = .ok (.aaload, 1) := by decide +kernel
theorem dX4_restore_36 : decode cX4_restore 36 = .ok (.invokevirtual 173, 3) := by decide +kernel
theorem dX4_restore_39 : decode cX4_restore 39 = .ok (.aload_n 0, 1) := by decide +kernel
theorem dX4_restore_40 : decode cX4_restore 40 = .ok (.iconst 0, 1) := by decide +kernel
theorem dX4_restore_41 : decode cX4_restore 41 = .ok (.putfield 48, 3) := by decide +kernel
theorem dX4_restore_44 : decode cX4_restore 44 = .ok (.iconst 1, 1) := by decide +kernel
theorem dX4_restore_45 : decode cX4_restore 45 = .ok (.ireturn, 1) := by decide +kernel
set_option maxRecDepth 20000 in
theorem ggX4_count_J6_bitCount_0f7a4 : GoodIn wsX4_count wsJ6_bitCount_0f7a4 := goodIn_r _ [8, 9, 10, 11] (by decide +kernel) (by decide +kernel)
set_option maxRecDepth 20000 in
theorem gX4_count_J6_bitCount_0f7a4 : GoodIn wsX4_count (va_wsS RX4 95 yJ6_bitCount_0f7a4 wsJ6_bitCount_0f7a4) := goodIn_app (goodIn_of _ (by decide +kernel)) ggX4_count_J6_bitCount_0f7a4
set_option maxRecDepth 20000 in
theorem ggX4_count_X3_howOftenUsed : GoodIn wsX4_count wsX3_howOftenUsed := goodIn_r _ [15, 16, 17, 18, 6, 7, 8, 9, 10, 11, 30, 31, 32, 33, 34] (by decide +kernel) (by decide +kernel)
set_option maxRecDepth 20000 in
theorem gX4_count_X3_howOftenUsed_n177 : GoodIn wsX4_count (wsX3_howOftenUsed) := ggX4_count_X3_howOftenUsed
set_option maxRecDepth 20000 in
theorem ggX4_count_X3_has : GoodIn wsX4_count wsX3_has := goodIn_r _ [21, 16, 30, 31, 32, 33, 34] (by decide +kernel) (by decide +kernel)
set_option maxRecDepth 20000 in
theorem gX4_count_X3_has_n100 : GoodIn wsX4_count (wsX3_has) := ggX4_count_X3_has
theorem dX4_count_0 : decode cX4_count 0 = .ok (.iload_n 1, 1) := by decide +kernel
theorem dX4_count_1 : decode cX4_count 1 = .ok (.tableswitch 96 0 6 #[43, 51, 59, 70, 78, 86, 91], 43) := by decide +kernel
theorem dX4_count_44 : decode cX4_count 44 = .ok (.aload_n 0, 1) := by decide +kernel
theorem dX4_count_45 : decode cX4_count 45 = .ok (.getfield 10, 3) := by decide +kernel
theorem dX4_count_48 : decode cX4_count 48 = .ok (.getfield 52, 3) := by decide +kernel
theorem dX4_count_51 : decode cX4_count 51 = .ok (.ireturn, 1) := by decide +kernel
theorem dX4_count_52 : decode cX4_count 52 = .ok (.aload_n 0, 1) := by decide +kernel
theorem dX4_count_53 : decode cX4_count 53 = .ok (.getfield 10, 3) := by decide +kernel
theorem dX4_count_56 : decode cX4_count 56 = .ok (.getfield 122, 3) := by decide +kernel
theorem dX4_count_59 : decode cX4_count 59 = .ok (.ireturn, 1) := by decide +kernel
theorem dX4_count_60 : decode cX4_count 60 = .ok (.aload_n 0, 1) := by decide +kernel
theorem dX4_count_61 : decode cX4_count 61 = .ok (.getfield 10, 3) := by decide +kernel
theorem dX4_count_64 : decode cX4_count 64 = .ok (.getfield 170, 3) := by decide +kernel
theorem dX4_count_67 : decode cX4_count 67 = .ok (.invokestatic 95, 3) := by decide +kernel
theorem dX4_count_70 : decode cX4_count 70 = .ok (.ireturn, 1) := by decide +kernel
theorem dX4_count_71 : decode cX4_count 71 = .ok (.aload_n 0, 1) := by decide +kernel
theorem dX4_count_72 : decode cX4_count 72 = .ok (.getfield 10, 3) := by decide +kernel
theorem dX4_count_75 : decode cX4_count 75 = .ok (.invokevirtual 177, 3) := by decide +kernel
theorem dX4_count_78 : decode cX4_count 78 = .ok (.ireturn, 1) := by decide +kernel
theorem dX4_count_79 : decode cX4_count 79 = .ok (.aload_n 0, 1) := by decide +kernel
theorem dX4_count_80 : decode cX4_count 80 = .ok (.getfield 23, 3) := by decide +kernel
theorem dX4_count_83 : decode cX4_count 83 = .ok (.getfield 59, 3) := by decide +kernel
theorem dX4_count_86 : decode cX4_count 86 = .ok (.ireturn, 1) := by decide +kernel
theorem dX4_count_87 : decode cX4_count 87 = .ok (.aload_n 0, 1) := by decide +kernel
theorem dX4_count_88 : decode cX4_count 88 = .ok (.getfield 45, 3) := by decide +kernel
theorem dX4_count_91 : decode cX4_count 91 = .ok (.ireturn, 1) := by decide +kernel
theorem dX4_count_92 : decode cX4_count 92 = .ok (.aload_n 0, 1) := by decide +kernel
theorem dX4_count_93 : decode cX4_count 93 = .ok (.getfield 41, 3) := by decide +kernel
theorem dX4_count_96 : decode cX4_count 96 = .ok (.ireturn, 1) := by decide +kernel
theorem dX4_count_97 : decode cX4_count 97 = .ok (.aload_n 0, 1) := by decide +kernel
theorem dX4_count_98 : decode cX4_count 98 = .ok (.getfield 10, 3) := by decide +kernel
theorem dX4_count_101 : decode cX4_count 101 = .ok (.iload_n 1, 1) := by decide +kernel
theorem dX4_count_102 : decode cX4_count 102 = .ok (.bipush 10, 2) := by decide +kernel
theorem dX4_count_104 : decode cX4_count 104 = .ok (.isub, 1) := by decide +kernel
theorem dX4_count_105 : decode cX4_count 105 = .ok (.invokevirtual 100, 3) := by decide +kernel
theorem dX4_count_108 : decode cX4_count 108 = .ok (.ifCond .eq 18, 3) := by decide +kernel
theorem dX4_count_111 : decode cX4_count 111 = .ok (.aload_n 0, 1) := by decide +kernel
theorem dX4_count_112 : decode cX4_count 112 = .ok (.getfield 10, 3) := by decide +kernel
theorem dX4_count_115 : decode cX4_count 115 = .ok (.getfield 106, 3) := by decide +kernel
theorem dX4_count_118 : decode cX4_count 118 = .ok (.iload_n 1, 1) := by decide +kernel
theorem dX4_count_119 : decode cX4_count 119 = .ok (.bipush 10, 2) := by decide +kernel
theorem dX4_count_121 : decode cX4_count 121 = .ok (.isub, 1) := by decide +kernel
theorem dX4_count_122 : decode cX4_count 122 = .ok (.iaload, 1) := by decide +kernel
theorem dX4_count_123 : decode cX4_count 123 = .ok (.goto 5, 3) := by decide +kernel
theorem dX4_count_126 : decode cX4_count 126 = .ok (.bipush (-2), 2) := by decide +kernel
theorem dX4_count_128 : decode cX4_count 128 = .ok (.ireturn, 1) := by decide +kernel
set_option maxRecDepth 20000 in
theorem ggX4_currentRings_X0_trace : GoodIn wsX4_currentRings wsX0_trace := goodIn_r _ [6, 7, 8, 9, 18, 19, 20, 21, 22, 23, 24, 25] (by decide +kernel) (by decide +kernel)
set_option maxRecDepth 20000 in
theorem gX4_currentRings_X0_trace_n180 : GoodIn wsX4_currentRings (wsX0_trace) := ggX4_currentRings_X0_trace
theorem dX4_currentRings_0 : decode cX4_currentRings 0 = .ok (.aload_n 0, 1) := by decide +kernel
theorem dX4_currentRings_1 : decode cX4_currentRings 1 = .ok (.getfield 30, 3) := by decide +kernel
theorem dX4_currentRings_4 : decode cX4_currentRings 4 = .ok (.aload_n 0, 1) := by decide +kernel
theorem dX4_currentRings_5 : decode cX4_currentRings 5 = .ok (.getfield 10, 3) := by decide +kernel
theorem dX4_currentRings_8 : decode cX4_currentRings 8 = .ok (.invokevirtual 180, 3) := by decide +kernel
theorem dX4_currentRings_11 : decode cX4_currentRings 11 = .ok (.aload_n 0, 1) := by decide +kernel
theorem dX4_currentRings_12 : decode cX4_currentRings 12 = .ok (.getfield 30, 3) := by decide +kernel
theorem dX4_currentRings_15 : decode cX4_currentRings 15 = .ok (.areturn, 1) := by decide +kernel
set_option maxRecDepth 20000 in
theorem ggX4_currentTellings_X4_currentRings : GoodIn wsX4_currentTellings wsX4_currentRings := goodIn_r _ [8, 9, 3, 10, 11, 12, 13, 14, 15, 16, 52, 53, 54, 55, 56, 57, 58, 59, 60, 61, 62, 63, 64, 65, 66, 67] (by decide +kernel) (by decide +kernel)
set_option maxRecDepth 20000 in
theorem gX4_currentTellings_X4_currentRings : GoodIn wsX4_currentTellings (wsV RX4 148 RX4 yX4_currentRings wsX4_currentRings) := goodIn_app (goodIn_of _ (by decide +kernel)) ggX4_currentTellings_X4_currentRings
set_option maxRecDepth 20000 in
theorem ggX4_currentTellings_X1_find : GoodIn wsX4_currentTellings wsX1_find := goodIn_r _ [20, 21, 22, 23, 24, 25, 26, 27, 28, 29, 30, 31, 32, 33, 34, 35, 36, 37, 18, 38, 39, 40, 41, 42, 43, 44, 45, 46, 47, 48, 49, 50, 51, 60, 61, 62, 63, 64, 68, 69, 70, 65, 66, 67] (by decide +kernel) (by decide +kernel)
set_option maxRecDepth 20000 in
theorem gX4_currentTellings_X1_find_n183 : GoodIn wsX4_currentTellings (wsX1_find) := ggX4_currentTellings_X1_find
theorem dX4_currentTellings_0 : decode cX4_currentTellings 0 = .ok (.aload_n 0, 1) := by decide +kernel
theorem dX4_currentTellings_1 : decode cX4_currentTellings 1 = .ok (.getfield 48, 3) := by decide +kernel
theorem dX4_currentTellings_4 : decode cX4_currentTellings 4 = .ok (.ifCond .ne 23, 3) := by decide +kernel
theorem dX4_currentTellings_7 : decode cX4_currentTellings 7 = .ok (.aload_n 0, 1) := by decide +kernel
theorem dX4_currentTellings_8 : decode cX4_currentTellings 8 = .ok (.getfield 37, 3) := by decide +kernel
theorem dX4_currentTellings_11 : decode cX4_currentTellings 11 = .ok (.aload_n 0, 1) := by decide +kernel
theorem dX4_currentTellings_12 : decode cX4_currentTellings 12 = .ok (.getfield 10, 3) := by decide +kernel
theorem dX4_currentTellings_15 : decode cX4_currentTellings 15 = .ok (.aload_n 0, 1) := by decide +kernel
theorem dX4_currentTellings_16 : decode cX4_currentTellings 16 = .ok (.invokevirtual 148, 3) := by decide +kernel
theorem dX4_currentTellings_19 : decode cX4_currentTellings 19 = .ok (.invokevirtual 183, 3) := by decide +kernel
theorem dX4_currentTellings_22 : decode cX4_currentTellings 22 = .ok (.aload_n 0, 1) := by decide +kernel
theorem dX4_currentTellings_23 : decode cX4_currentTellings 23 = .ok (.iconst 1, 1) := by decide +kernel
theorem dX4_currentTellings_24 : decode cX4_currentTellings 24 = .ok (.putfield 48, 3) := by decide +kernel
theorem dX4_currentTellings_27 : decode cX4_currentTellings 27 = .ok (.aload_n 0, 1) := by decide +kernel
theorem dX4_currentTellings_28 : decode cX4_currentTellings 28 = .ok (.getfield 37, 3) := by decide +kernel
theorem dX4_currentTellings_31 : decode cX4_currentTellings 31 = .ok (.areturn, 1) := by decide +kernel
theorem dX5_init_0 : decode cX5_init 0 = .ok (.aload_n 0, 1) := by decide +kernel
theorem dX5_init_1 : decode cX5_init 1 = .ok (.invokespecial 1, 3) := by decide +kernel
theorem dX5_init_4 : decode cX5_init 4 = .ok (.aload_n 0, 1) := by decide +kernel
theorem dX5_init_5 : decode cX5_init 5 = .ok (.bipush 8, 2) := by decide +kernel
theorem dX5_init_7 : decode cX5_init 7 = .ok (.putfield 7, 3) := by decide +kernel
theorem dX5_init_10 : decode cX5_init 10 = .ok (.aload_n 0, 1) := by decide +kernel
theorem dX5_init_11 : decode cX5_init 11 = .ok (.bipush 14, 2) := by decide +kernel
theorem dX5_init_13 : decode cX5_init 13 = .ok (.newarray .int, 2) := by decide +kernel
theorem dX5_init_15 : decode cX5_init 15 = .ok (.putfield 13, 3) := by decide +kernel
theorem dX5_init_18 : decode cX5_init 18 = .ok (.aload_n 0, 1) := by decide +kernel
theorem dX5_init_19 : decode cX5_init 19 = .ok (.bipush 14, 2) := by decide +kernel
theorem dX5_init_21 : decode cX5_init 21 = .ok (.newarray .int, 2) := by decide +kernel
theorem dX5_init_23 : decode cX5_init 23 = .ok (.putfield 17, 3) := by decide +kernel
theorem dX5_init_26 : decode cX5_init 26 = .ok (.aload_n 0, 1) := by decide +kernel
theorem dX5_init_27 : decode cX5_init 27 = .ok (.bipush 20, 2) := by decide +kernel
theorem dX5_init_29 : decode cX5_init 29 = .ok (.newarray .int, 2) := by decide +kernel
theorem dX5_init_31 : decode cX5_init 31 = .ok (.putfield 20, 3) := by decide +kernel
theorem dX5_init_34 : decode cX5_init 34 = .ok (.aload_n 0, 1) := by decide +kernel
theorem dX5_init_35 : decode cX5_init 35 = .ok (.bipush (-6), 2) := by decide +kernel
theorem dX5_init_37 : decode cX5_init 37 = .ok (.putfield 23, 3) := by decide +kernel
theorem dX5_init_40 : decode cX5_init 40 = .ok (.aload_n 0, 1) := by decide +kernel
theorem dX5_init_41 : decode cX5_init 41 = .ok (.sipush 16384, 3) := by decide +kernel
theorem dX5_init_44 : decode cX5_init 44 = .ok (.newarray .boolean, 2) := by decide +kernel
theorem dX5_init_46 : decode cX5_init 46 = .ok (.putfield 26, 3) := by decide +kernel
theorem dX5_init_49 : decode cX5_init 49 = .ok (.aload_n 0, 1) := by decide +kernel
theorem dX5_init_50 : decode cX5_init 50 = .ok (.bipush 60, 2) := by decide +kernel
theorem dX5_init_52 : decode cX5_init 52 = .ok (.newarray .int, 2) := by decide +kernel
theorem dX5_init_54 : decode cX5_init 54 = .ok (.putfield 30, 3) := by decide +kernel
theorem dX5_init_57 : decode cX5_init 57 = .ok (.aload_n 0, 1) := by decide +kernel
theorem dX5_init_58 : decode cX5_init 58 = .ok (.iconst 2, 1) := by decide +kernel
theorem dX5_init_59 : decode cX5_init 59 = .ok (.newarray .boolean, 2) := by decide +kernel
theorem dX5_init_61 : decode cX5_init 61 = .ok (.putfield 33, 3) := by decide +kernel
theorem dX5_init_64 : decode cX5_init 64 = .ok (.iconst 0, 1) := by decide +kernel
theorem dX5_init_65 : decode cX5_init 65 = .ok (.istore_n 1, 1) := by decide +kernel
theorem dX5_init_66 : decode cX5_init 66 = .ok (.iload_n 1, 1) := by decide +kernel
theorem dX5_init_67 : decode cX5_init 67 = .ok (.bipush 14, 2) := by decide +kernel
theorem dX5_init_69 : decode cX5_init 69 = .ok (.if_icmp .ge 24, 3) := by decide +kernel
theorem dX5_init_72 : decode cX5_init 72 = .ok (.aload_n 0, 1) := by decide +kernel
theorem dX5_init_73 : decode cX5_init 73 = .ok (.getfield 13, 3) := by decide +kernel
theorem dX5_init_76 : decode cX5_init 76 = .ok (.iload_n 1, 1) := by decide +kernel
theorem dX5_init_77 : decode cX5_init 77 = .ok (.bipush (-6), 2) := by decide +kernel
theorem dX5_init_79 : decode cX5_init 79 = .ok (.iastore, 1) := by decide +kernel
theorem dX5_init_80 : decode cX5_init 80 = .ok (.aload_n 0, 1) := by decide +kernel
theorem dX5_init_81 : decode cX5_init 81 = .ok (.getfield 17, 3) := by decide +kernel
theorem dX5_init_84 : decode cX5_init 84 = .ok (.iload_n 1, 1) := by decide +kernel
theorem dX5_init_85 : decode cX5_init 85 = .ok (.iconst 1, 1) := by decide +kernel
theorem dX5_init_86 : decode cX5_init 86 = .ok (.iastore, 1) := by decide +kernel
theorem dX5_init_87 : decode cX5_init 87 = .ok (.iinc 1 1, 3) := by decide +kernel
theorem dX5_init_90 : decode cX5_init 90 = .ok (.goto (-24), 3) := by decide +kernel
theorem dX5_init_93 : decode cX5_init 93 = .ok (.return_, 1) := by decide +kernel
theorem dX5_in_0 : decode cX5_in 0 = .ok (.iload_n 0, 1) := by decide +kernel
theorem dX5_in_1 : decode cX5_in 1 = .ok (.iload_n 1, 1) := by decide +kernel
theorem dX5_in_2 : decode cX5_in 2 = .ok (.if_icmp .lt 12, 3) := by decide +kernel
theorem dX5_in_5 : decode cX5_in 5 = .ok (.iload_n 0, 1) := by decide +kernel
theorem dX5_in_6 : decode cX5_in 6 = .ok (.iload_n 2, 1) := by decide +kernel
theorem dX5_in_7 : decode cX5_in 7 = .ok (.if_icmp .gt 7, 3) := by decide +kernel
theorem dX5_in_10 : decode cX5_in 10 = .ok (.iconst 1, 1) := by decide +kernel
theorem dX5_in_11 : decode cX5_in 11 = .ok (.goto 4, 3) := by decide +kernel
theorem dX5_in_14 : decode cX5_in 14 = .ok (.iconst 0, 1) := by decide +kernel
theorem dX5_in_15 : decode cX5_in 15 = .ok (.ireturn, 1) := by decide +kernel
set_option maxRecDepth 20000 in
theorem ggX5_isWord_X5_in : GoodIn wsX5_isWord wsX5_in := goodIn_r _ [5] (by decide +kernel) (by decide +kernel)
set_option maxRecDepth 20000 in
theorem gX5_isWord_X5_in : GoodIn wsX5_isWord (va_wsS RX5 36 yX5_in wsX5_in) := goodIn_app (goodIn_of _ (by decide +kernel)) ggX5_isWord_X5_in
theorem dX5_isWord_0 : decode cX5_isWord 0 = .ok (.iload_n 1, 1) := by decide +kernel
theorem dX5_isWord_1 : decode cX5_isWord 1 = .ok (.iconst 0, 1) := by decide +kernel
theorem dX5_isWord_2 : decode cX5_isWord 2 = .ok (.aload_n 0, 1) := by decide +kernel
theorem dX5_isWord_3 : decode cX5_isWord 3 = .ok (.getfield 7, 3) := by decide +kernel
theorem dX5_isWord_6 : decode cX5_isWord 6 = .ok (.iconst 1, 1) := by decide +kernel
theorem dX5_isWord_7 : decode cX5_isWord 7 = .ok (.isub, 1) := by decide +kernel
theorem dX5_isWord_8 : decode cX5_isWord 8 = .ok (.invokestatic 36, 3) := by decide +kernel
theorem dX5_isWord_11 : decode cX5_isWord 11 = .ok (.ireturn, 1) := by decide +kernel
theorem dX5_all_0 : decode cX5_all 0 = .ok (.iconst 1, 1) := by decide +kernel
theorem dX5_all_1 : decode cX5_all 1 = .ok (.aload_n 0, 1) := by decide +kernel
theorem dX5_all_2 : decode cX5_all 2 = .ok (.getfield 7, 3) := by decide +kernel
theorem dX5_all_5 : decode cX5_all 5 = .ok (.ishl, 1) := by decide +kernel
theorem dX5_all_6 : decode cX5_all 6 = .ok (.iconst 1, 1) := by decide +kernel
theorem dX5_all_7 : decode cX5_all 7 = .ok (.isub, 1) := by decide +kernel
theorem dX5_all_8 : decode cX5_all 8 = .ok (.ireturn, 1) := by decide +kernel
set_option maxRecDepth 20000 in
theorem ggX5_isSet_X5_all : GoodIn wsX5_isSet wsX5_all := goodIn_r _ [5, 6, 10, 11, 12, 13, 14, 15, 16, 17, 18, 19] (by decide +kernel) (by decide +kernel)
set_option maxRecDepth 20000 in
theorem gX5_isSet_X5_all : GoodIn wsX5_isSet (wsV RX5 40 RX5 yX5_all wsX5_all) := goodIn_app (goodIn_of _ (by decide +kernel)) ggX5_isSet_X5_all
set_option maxRecDepth 20000 in
theorem ggX5_isSet_X5_in : GoodIn wsX5_isSet wsX5_in := goodIn_r _ [9] (by decide +kernel) (by decide +kernel)
set_option maxRecDepth 20000 in
theorem gX5_isSet_X5_in : GoodIn wsX5_isSet (va_wsS RX5 36 yX5_in wsX5_in) := goodIn_app (goodIn_of _ (by decide +kernel)) ggX5_isSet_X5_in
theorem dX5_isSet_0 : decode cX5_isSet 0 = .ok (.iload_n 1, 1) := by decide +kernel
theorem dX5_isSet_1 : decode cX5_isSet 1 = .ok (.iconst 0, 1) := by decide +kernel
theorem dX5_isSet_2 : decode cX5_isSet 2 = .ok (.aload_n 0, 1) := by decide +kernel
theorem dX5_isSet_3 : decode cX5_isSet 3 = .ok (.invokevirtual 40, 3) := by decide +kernel
theorem dX5_isSet_6 : decode cX5_isSet 6 = .ok (.invokestatic 36, 3) := by decide +kernel
theorem dX5_isSet_9 : decode cX5_isSet 9 = .ok (.ireturn, 1) := by decide +kernel
theorem dX5_has_0 : decode cX5_has 0 = .ok (.iload_n 0, 1) := by decide +kernel
theorem dX5_has_1 : decode cX5_has 1 = .ok (.iload_n 1, 1) := by decide +kernel
theorem dX5_has_2 : decode cX5_has 2 = .ok (.ishr, 1) := by decide +kernel
theorem dX5_has_3 : decode cX5_has 3 = .ok (.iconst 1, 1) := by decide +kernel
theorem dX5_has_4 : decode cX5_has 4 = .ok (.iand, 1) := by decide +kernel
theorem dX5_has_5 : decode cX5_has 5 = .ok (.iconst 1, 1) := by decide +kernel
theorem dX5_has_6 : decode cX5_has 6 = .ok (.if_icmp .ne 7, 3) := by decide +kernel
theorem dX5_has_9 : decode cX5_has 9 = .ok (.iconst 1, 1) := by decide +kernel
theorem dX5_has_10 : decode cX5_has 10 = .ok (.goto 4, 3) := by decide +kernel
theorem dX5_has_13 : decode cX5_has 13 = .ok (.iconst 0, 1) := by decide +kernel
theorem dX5_has_14 : decode cX5_has 14 = .ok (.ireturn, 1) := by decide +kernel
theorem dX5_bits_0 : decode cX5_bits 0 = .ok (.iconst 0, 1) := by decide +kernel
theorem dX5_bits_1 : decode cX5_bits 1 = .ok (.istore_n 1, 1) := by decide +kernel
theorem dX5_bits_2 : decode cX5_bits 2 = .ok (.iconst 0, 1) := by decide +kernel
theorem dX5_bits_3 : decode cX5_bits 3 = .ok (.istore_n 2, 1) := by decide +kernel
theorem dX5_bits_4 : decode cX5_bits 4 = .ok (.iload_n 2, 1) := by decide +kernel
theorem dX5_bits_5 : decode cX5_bits 5 = .ok (.bipush 14, 2) := by decide +kernel
theorem dX5_bits_7 : decode cX5_bits 7 = .ok (.if_icmp .ge 17, 3) := by decide +kernel
theorem dX5_bits_10 : decode cX5_bits 10 = .ok (.iload_n 1, 1) := by decide +kernel
theorem dX5_bits_11 : decode cX5_bits 11 = .ok (.iload_n 0, 1) := by decide +kernel
theorem dX5_bits_12 : decode cX5_bits 12 = .ok (.iload_n 2, 1) := by decide +kernel
theorem dX5_bits_13 : decode cX5_bits 13 = .ok (.ishr, 1) := by decide +kernel
theorem dX5_bits_14 : decode cX5_bits 14 = .ok (.iconst 1, 1) := by decide +kernel
theorem dX5_bits_15 : decode cX5_bits 15 = .ok (.iand, 1) := by decide +kernel
theorem dX5_bits_16 : decode cX5_bits 16 = .ok (.iadd, 1) := by decide +kernel
theorem dX5_bits_17 : decode cX5_bits 17 = .ok (.istore_n 1, 1) := by decide +kernel
theorem dX5_bits_18 : decode cX5_bits 18 = .ok (.iinc 2 1, 3) := by decide +kernel
theorem dX5_bits_21 : decode cX5_bits 21 = .ok (.goto (-17), 3) := by decide +kernel
theorem dX5_bits_24 : decode cX5_bits 24 = .ok (.iload_n 1, 1) := by decide +kernel
theorem dX5_bits_25 : decode cX5_bits 25 = .ok (.ireturn, 1) := by decide +kernel
set_option maxRecDepth 20000 in
theorem ggX5_size_X5_in : GoodIn wsX5_size wsX5_in := goodIn_r _ [8] (by decide +kernel) (by decide +kernel)
set_option maxRecDepth 20000 in
theorem gX5_size_X5_in : GoodIn wsX5_size (va_wsS RX5 36 yX5_in wsX5_in) := goodIn_app (goodIn_of _ (by decide +kernel)) ggX5_size_X5_in
set_option maxRecDepth 20000 in
theorem ggX5_size_X5_all : GoodIn wsX5_size wsX5_all := goodIn_r _ [12, 1, 13, 14, 15, 16, 17, 18, 19, 20, 21, 22] (by decide +kernel) (by decide +kernel)
set_option maxRecDepth 20000 in
theorem gX5_size_X5_all : GoodIn wsX5_size (wsV RX5 40 RX5 yX5_all wsX5_all) := goodIn_app (goodIn_of _ (by decide +kernel)) ggX5_size_X5_all
theorem dX5_size_0 : decode cX5_size 0 = .ok (.iload_n 1, 1) := by decide +kernel
theorem dX5_size_1 : decode cX5_size 1 = .ok (.iconst 1, 1) := by decide +kernel
theorem dX5_size_2 : decode cX5_size 2 = .ok (.bipush 14, 2) := by decide +kernel
theorem dX5_size_4 : decode cX5_size 4 = .ok (.invokestatic 36, 3) := by decide +kernel
theorem dX5_size_7 : decode cX5_size 7 = .ok (.ifCond .ne 6, 3) := by decide +kernel
theorem dX5_size_10 : decode cX5_size 10 = .ok (.bipush (-2), 2) := by decide +kernel
theorem dX5_size_12 : decode cX5_size 12 = .ok (.ireturn, 1) := by decide +kernel
theorem dX5_size_13 : decode cX5_size 13 = .ok (.aload_n 0, 1) := by decide +kernel
theorem dX5_size_14 : decode cX5_size 14 = .ok (.getfield 7, 3) := by decide +kernel
theorem dX5_size_17 : decode cX5_size 17 = .ok (.istore_n 2, 1) := by decide +kernel
theorem dX5_size_18 : decode cX5_size 18 = .ok (.aload_n 0, 1) := by decide +kernel
theorem dX5_size_19 : decode cX5_size 19 = .ok (.iload_n 1, 1) := by decide +kernel
theorem dX5_size_20 : decode cX5_size 20 = .ok (.putfield 7, 3) := by decide +kernel
theorem dX5_size_23 : decode cX5_size 23 = .ok (.iconst 0, 1) := by decide +kernel
theorem dX5_size_24 : decode cX5_size 24 = .ok (.istore_n 3, 1) := by decide +kernel
theorem dX5_size_25 : decode cX5_size 25 = .ok (.iload_n 3, 1) := by decide +kernel
theorem dX5_size_26 : decode cX5_size 26 = .ok (.bipush 14, 2) := by decide +kernel
theorem dX5_size_28 : decode cX5_size 28 = .ok (.if_icmp .ge 54, 3) := by decide +kernel
theorem dX5_size_31 : decode cX5_size 31 = .ok (.iload_n 3, 1) := by decide +kernel
theorem dX5_size_32 : decode cX5_size 32 = .ok (.iload_n 1, 1) := by decide +kernel
theorem dX5_size_33 : decode cX5_size 33 = .ok (.if_icmp .lt 21, 3) := by decide +kernel
theorem dX5_size_36 : decode cX5_size 36 = .ok (.aload_n 0, 1) := by decide +kernel
theorem dX5_size_37 : decode cX5_size 37 = .ok (.getfield 13, 3) := by decide +kernel
theorem dX5_size_40 : decode cX5_size 40 = .ok (.iload_n 3, 1) := by decide +kernel
theorem dX5_size_41 : decode cX5_size 41 = .ok (.bipush (-6), 2) := by decide +kernel
theorem dX5_size_43 : decode cX5_size 43 = .ok (.iastore, 1) := by decide +kernel
theorem dX5_size_44 : decode cX5_size 44 = .ok (.aload_n 0, 1) := by decide +kernel
theorem dX5_size_45 : decode cX5_size 45 = .ok (.getfield 17, 3) := by decide +kernel
theorem dX5_size_48 : decode cX5_size 48 = .ok (.iload_n 3, 1) := by decide +kernel
theorem dX5_size_49 : decode cX5_size 49 = .ok (.iconst 1, 1) := by decide +kernel
theorem dX5_size_50 : decode cX5_size 50 = .ok (.iastore, 1) := by decide +kernel
theorem dX5_size_51 : decode cX5_size 51 = .ok (.goto 25, 3) := by decide +kernel
theorem dX5_size_54 : decode cX5_size 54 = .ok (.aload_n 0, 1) := by decide +kernel
theorem dX5_size_55 : decode cX5_size 55 = .ok (.getfield 13, 3) := by decide +kernel
theorem dX5_size_58 : decode cX5_size 58 = .ok (.iload_n 3, 1) := by decide +kernel
theorem dX5_size_59 : decode cX5_size 59 = .ok (.iaload, 1) := by decide +kernel
theorem dX5_size_60 : decode cX5_size 60 = .ok (.ifCond .lt 16, 3) := by decide +kernel
theorem dX5_size_63 : decode cX5_size 63 = .ok (.aload_n 0, 1) := by decide +kernel
theorem dX5_size_64 : decode cX5_size 64 = .ok (.getfield 13, 3) := by decide +kernel
theorem dX5_size_67 : decode cX5_size 67 = .ok (.iload_n 3, 1) := by decide +kernel
theorem dX5_size_68 : decode cX5_size 68 = .ok (.dup2, 1) := by decide +kernel
theorem dX5_size_69 : decode cX5_size 69 = .ok (.iaload, 1) := by decide +kernel
theorem dX5_size_70 : decode cX5_size 70 = .ok (.aload_n 0, 1) := by decide +kernel
theorem dX5_size_71 : decode cX5_size 71 = .ok (.invokevirtual 40, 3) := by decide +kernel
theorem dX5_size_74 : decode cX5_size 74 = .ok (.iand, 1) := by decide +kernel
theorem dX5_size_75 : decode cX5_size 75 = .ok (.iastore, 1) := by decide +kernel
theorem dX5_size_76 : decode cX5_size 76 = .ok (.iinc 3 1, 3) := by decide +kernel
theorem dX5_size_79 : decode cX5_size 79 = .ok (.goto (-54), 3) := by decide +kernel
theorem dX5_size_82 : decode cX5_size 82 = .ok (.aload_n 0, 1) := by decide +kernel
theorem dX5_size_83 : decode cX5_size 83 = .ok (.dup, 1) := by decide +kernel
theorem dX5_size_84 : decode cX5_size 84 = .ok (.getfield 44, 3) := by decide +kernel
theorem dX5_size_87 : decode cX5_size 87 = .ok (.aload_n 0, 1) := by decide +kernel
theorem dX5_size_88 : decode cX5_size 88 = .ok (.invokevirtual 40, 3) := by decide +kernel
theorem dX5_size_91 : decode cX5_size 91 = .ok (.iand, 1) := by decide +kernel
theorem dX5_size_92 : decode cX5_size 92 = .ok (.putfield 44, 3) := by decide +kernel
theorem dX5_size_95 : decode cX5_size 95 = .ok (.iload_n 2, 1) := by decide +kernel
theorem dX5_size_96 : decode cX5_size 96 = .ok (.ireturn, 1) := by decide +kernel
set_option maxRecDepth 20000 in
theorem ggX5_say_X5_in : GoodIn wsX5_say wsX5_in := goodIn_r _ [6] (by decide +kernel) (by decide +kernel)
set_option maxRecDepth 20000 in
theorem gX5_say_X5_in : GoodIn wsX5_say (va_wsS RX5 36 yX5_in wsX5_in) := goodIn_app (goodIn_of _ (by decide +kernel)) ggX5_say_X5_in
theorem dX5_say_0 : decode cX5_say 0 = .ok (.iload_n 1, 1) := by decide +kernel
theorem dX5_say_1 : decode cX5_say 1 = .ok (.bipush 33, 2) := by decide +kernel
theorem dX5_say_3 : decode cX5_say 3 = .ok (.bipush 126, 2) := by decide +kernel
theorem dX5_say_5 : decode cX5_say 5 = .ok (.invokestatic 36, 3) := by decide +kernel
theorem dX5_say_8 : decode cX5_say 8 = .ok (.ifCond .ne 6, 3) := by decide +kernel
theorem dX5_say_11 : decode cX5_say 11 = .ok (.bipush (-2), 2) := by decide +kernel
theorem dX5_say_13 : decode cX5_say 13 = .ok (.ireturn, 1) := by decide +kernel
theorem dX5_say_14 : decode cX5_say 14 = .ok (.aload_n 0, 1) := by decide +kernel
theorem dX5_say_15 : decode cX5_say 15 = .ok (.getfield 47, 3) := by decide +kernel
theorem dX5_say_18 : decode cX5_say 18 = .ok (.bipush 20, 2) := by decide +kernel
theorem dX5_say_20 : decode cX5_say 20 = .ok (.if_icmp .ne 6, 3) := by decide +kernel
theorem dX5_say_23 : decode cX5_say 23 = .ok (.bipush (-3), 2) := by decide +kernel
theorem dX5_say_25 : decode cX5_say 25 = .ok (.ireturn, 1) := by decide +kernel
theorem dX5_say_26 : decode cX5_say 26 = .ok (.aload_n 0, 1) := by decide +kernel
theorem dX5_say_27 : decode cX5_say 27 = .ok (.getfield 20, 3) := by decide +kernel
theorem dX5_say_30 : decode cX5_say 30 = .ok (.aload_n 0, 1) := by decide +kernel
theorem dX5_say_31 : decode cX5_say 31 = .ok (.getfield 47, 3) := by decide +kernel
theorem dX5_say_34 : decode cX5_say 34 = .ok (.iload_n 1, 1) := by decide +kernel
theorem dX5_say_35 : decode cX5_say 35 = .ok (.iastore, 1) := by decide +kernel
theorem dX5_say_36 : decode cX5_say 36 = .ok (.aload_n 0, 1) := by decide +kernel
theorem dX5_say_37 : decode cX5_say 37 = .ok (.dup, 1) := by decide +kernel
theorem dX5_say_38 : decode cX5_say 38 = .ok (.getfield 47, 3) := by decide +kernel
theorem dX5_say_41 : decode cX5_say 41 = .ok (.iconst 1, 1) := by decide +kernel
theorem dX5_say_42 : decode cX5_say 42 = .ok (.iadd, 1) := by decide +kernel
theorem dX5_say_43 : decode cX5_say 43 = .ok (.putfield 47, 3) := by decide +kernel
theorem dX5_say_46 : decode cX5_say 46 = .ok (.aload_n 0, 1) := by decide +kernel
theorem dX5_say_47 : decode cX5_say 47 = .ok (.getfield 47, 3) := by decide +kernel
theorem dX5_say_50 : decode cX5_say 50 = .ok (.ireturn, 1) := by decide +kernel
theorem dX5_wipe_0 : decode cX5_wipe 0 = .ok (.aload_n 0, 1) := by decide +kernel
theorem dX5_wipe_1 : decode cX5_wipe 1 = .ok (.getfield 47, 3) := by decide +kernel
theorem dX5_wipe_4 : decode cX5_wipe 4 = .ok (.istore_n 1, 1) := by decide +kernel
theorem dX5_wipe_5 : decode cX5_wipe 5 = .ok (.aload_n 0, 1) := by decide +kernel
theorem dX5_wipe_6 : decode cX5_wipe 6 = .ok (.iconst 0, 1) := by decide +kernel
theorem dX5_wipe_7 : decode cX5_wipe 7 = .ok (.putfield 47, 3) := by decide +kernel
theorem dX5_wipe_10 : decode cX5_wipe 10 = .ok (.iload_n 1, 1) := by decide +kernel
theorem dX5_wipe_11 : decode cX5_wipe 11 = .ok (.ireturn, 1) := by decide +kernel
theorem dX5_toldUpTo_0 : decode cX5_toldUpTo 0 = .ok (.iconst 0, 1) := by decide +kernel
theorem dX5_toldUpTo_1 : decode cX5_toldUpTo 1 = .ok (.istore_n 2, 1) := by decide +kernel
theorem dX5_toldUpTo_2 : decode cX5_toldUpTo 2 = .ok (.iconst 2, 1) := by decide +kernel
theorem dX5_toldUpTo_3 : decode cX5_toldUpTo 3 = .ok (.istore_n 3, 1) := by decide +kernel
theorem dX5_toldUpTo_4 : decode cX5_toldUpTo 4 = .ok (.iload_n 3, 1) := by decide +kernel
theorem dX5_toldUpTo_5 : decode cX5_toldUpTo 5 = .ok (.iload_n 1, 1) := by decide +kernel
theorem dX5_toldUpTo_6 : decode cX5_toldUpTo 6 = .ok (.if_icmp .ge 23, 3) := by decide +kernel
theorem dX5_toldUpTo_9 : decode cX5_toldUpTo 9 = .ok (.iload_n 2, 1) := by decide +kernel
theorem dX5_toldUpTo_10 : decode cX5_toldUpTo 10 = .ok (.iconst 1, 1) := by decide +kernel
theorem dX5_toldUpTo_11 : decode cX5_toldUpTo 11 = .ok (.aload_n 0, 1) := by decide +kernel
theorem dX5_toldUpTo_12 : decode cX5_toldUpTo 12 = .ok (.getfield 20, 3) := by decide +kernel
theorem dX5_toldUpTo_15 : decode cX5_toldUpTo 15 = .ok (.iload_n 3, 1) := by decide +kernel
theorem dX5_toldUpTo_16 : decode cX5_toldUpTo 16 = .ok (.iaload, 1) := by decide +kernel
theorem dX5_toldUpTo_17 : decode cX5_toldUpTo 17 = .ok (.bipush 97, 2) := by decide +kernel
theorem dX5_toldUpTo_19 : decode cX5_toldUpTo 19 = .ok (.isub, 1) := by decide +kernel
theorem dX5_toldUpTo_20 : decode cX5_toldUpTo 20 = .ok (.ishl, 1) := by decide +kernel
theorem dX5_toldUpTo_21 : decode cX5_toldUpTo 21 = .ok (.ior, 1) := by decide +kernel
theorem dX5_toldUpTo_22 : decode cX5_toldUpTo 22 = .ok (.istore_n 2, 1) := by decide +kernel
theorem dX5_toldUpTo_23 : decode cX5_toldUpTo 23 = .ok (.iinc 3 1, 3) := by decide +kernel
theorem dX5_toldUpTo_26 : decode cX5_toldUpTo 26 = .ok (.goto (-22), 3) := by decide +kernel
theorem dX5_toldUpTo_29 : decode cX5_toldUpTo 29 = .ok (.iload_n 2, 1) := by decide +kernel
theorem dX5_toldUpTo_30 : decode cX5_toldUpTo 30 = .ok (.ireturn, 1) := by decide +kernel
set_option maxRecDepth 20000 in
theorem ggX5_canStand_X5_isWord : GoodIn wsX5_canStand wsX5_isWord := goodIn_r _ [6, 7, 8, 9, 5, 10, 18, 19, 20, 21, 22, 23, 24, 25, 26, 27] (by decide +kernel) (by decide +kernel)
set_option maxRecDepth 20000 in
theorem gX5_canStand_X5_isWord : GoodIn wsX5_canStand (wsV RX5 50 RX5 yX5_isWord wsX5_isWord) := goodIn_app (goodIn_of _ (by decide +kernel)) ggX5_canStand_X5_isWord
set_option maxRecDepth 20000 in
theorem ggX5_canStand_X5_toldUpTo : GoodIn wsX5_canStand wsX5_toldUpTo := goodIn_r _ [14, 1, 18, 19, 20, 21, 22, 23, 24, 25, 26, 27] (by decide +kernel) (by decide +kernel)
set_option maxRecDepth 20000 in
theorem gX5_canStand_X5_toldUpTo : GoodIn wsX5_canStand (wsV RX5 54 RX5 yX5_toldUpTo wsX5_toldUpTo) := goodIn_app (goodIn_of _ (by decide +kernel)) ggX5_canStand_X5_toldUpTo
set_option maxRecDepth 20000 in
theorem ggX5_canStand_X5_has : GoodIn wsX5_canStand wsX5_has := goodIn_r _ [17] (by decide +kernel) (by decide +kernel)
set_option maxRecDepth 20000 in
theorem gX5_canStand_X5_has : GoodIn wsX5_canStand (va_wsS RX5 58 yX5_has wsX5_has) := goodIn_app (goodIn_of _ (by decide +kernel)) ggX5_canStand_X5_has
theorem dX5_canStand_0 : decode cX5_canStand 0 = .ok (.aload_n 0, 1) := by decide +kernel
theorem dX5_canStand_1 : decode cX5_canStand 1 = .ok (.getfield 20, 3) := by decide +kernel
theorem dX5_canStand_4 : decode cX5_canStand 4 = .ok (.iload_n 1, 1) := by decide +kernel
theorem dX5_canStand_5 : decode cX5_canStand 5 = .ok (.iaload, 1) := by decide +kernel
theorem dX5_canStand_6 : decode cX5_canStand 6 = .ok (.bipush 97, 2) := by decide +kernel
theorem dX5_canStand_8 : decode cX5_canStand 8 = .ok (.isub, 1) := by decide +kernel
theorem dX5_canStand_9 : decode cX5_canStand 9 = .ok (.istore_n 2, 1) := by decide +kernel
theorem dX5_canStand_10 : decode cX5_canStand 10 = .ok (.iload_n 1, 1) := by decide +kernel
theorem dX5_canStand_11 : decode cX5_canStand 11 = .ok (.ifCond .ne 9, 3) := by decide +kernel
theorem dX5_canStand_14 : decode cX5_canStand 14 = .ok (.aload_n 0, 1) := by decide +kernel
theorem dX5_canStand_15 : decode cX5_canStand 15 = .ok (.iload_n 2, 1) := by decide +kernel
theorem dX5_canStand_16 : decode cX5_canStand 16 = .ok (.invokevirtual 50, 3) := by decide +kernel
theorem dX5_canStand_19 : decode cX5_canStand 19 = .ok (.ireturn, 1) := by decide +kernel
theorem dX5_canStand_20 : decode cX5_canStand 20 = .ok (.iload_n 1, 1) := by decide +kernel
theorem dX5_canStand_21 : decode cX5_canStand 21 = .ok (.iconst 1, 1) := by decide +kernel
theorem dX5_canStand_22 : decode cX5_canStand 22 = .ok (.if_icmp .ne 31, 3) := by decide +kernel
theorem dX5_canStand_25 : decode cX5_canStand 25 = .ok (.aload_n 0, 1) := by decide +kernel
theorem dX5_canStand_26 : decode cX5_canStand 26 = .ok (.getfield 20, 3) := by decide +kernel
theorem dX5_canStand_29 : decode cX5_canStand 29 = .ok (.iconst 1, 1) := by decide +kernel
theorem dX5_canStand_30 : decode cX5_canStand 30 = .ok (.iaload, 1) := by decide +kernel
theorem dX5_canStand_31 : decode cX5_canStand 31 = .ok (.bipush 58, 2) := by decide +kernel
theorem dX5_canStand_33 : decode cX5_canStand 33 = .ok (.if_icmp .eq 14, 3) := by decide +kernel
theorem dX5_canStand_36 : decode cX5_canStand 36 = .ok (.aload_n 0, 1) := by decide +kernel
theorem dX5_canStand_37 : decode cX5_canStand 37 = .ok (.getfield 20, 3) := by decide +kernel
theorem dX5_canStand_40 : decode cX5_canStand 40 = .ok (.iconst 1, 1) := by decide +kernel
theorem dX5_canStand_41 : decode cX5_canStand 41 = .ok (.iaload, 1) := by decide +kernel
theorem dX5_canStand_42 : decode cX5_canStand 42 = .ok (.bipush 46, 2) := by decide +kernel
theorem dX5_canStand_44 : decode cX5_canStand 44 = .ok (.if_icmp .ne 7, 3) := by decide +kernel
theorem dX5_canStand_47 : decode cX5_canStand 47 = .ok (.iconst 1, 1) := by decide +kernel
theorem dX5_canStand_48 : decode cX5_canStand 48 = .ok (.goto 4, 3) := by decide +kernel
theorem dX5_canStand_51 : decode cX5_canStand 51 = .ok (.iconst 0, 1) := by decide +kernel
theorem dX5_canStand_52 : decode cX5_canStand 52 = .ok (.ireturn, 1) := by decide +kernel
theorem dX5_canStand_53 : decode cX5_canStand 53 = .ok (.aload_n 0, 1) := by decide +kernel
theorem dX5_canStand_54 : decode cX5_canStand 54 = .ok (.getfield 20, 3) := by decide +kernel
theorem dX5_canStand_57 : decode cX5_canStand 57 = .ok (.iconst 1, 1) := by decide +kernel
theorem dX5_canStand_58 : decode cX5_canStand 58 = .ok (.iaload, 1) := by decide +kernel
theorem dX5_canStand_59 : decode cX5_canStand 59 = .ok (.bipush 58, 2) := by decide +kernel
theorem dX5_canStand_61 : decode cX5_canStand 61 = .ok (.if_icmp .ne 27, 3) := by decide +kernel
theorem dX5_canStand_64 : decode cX5_canStand 64 = .ok (.aload_n 0, 1) := by decide +kernel
theorem dX5_canStand_65 : decode cX5_canStand 65 = .ok (.iload_n 2, 1) := by decide +kernel
theorem dX5_canStand_66 : decode cX5_canStand 66 = .ok (.invokevirtual 50, 3) := by decide +kernel
theorem dX5_canStand_69 : decode cX5_canStand 69 = .ok (.ifCond .eq 19, 3) := by decide +kernel
theorem dX5_canStand_72 : decode cX5_canStand 72 = .ok (.aload_n 0, 1) := by decide +kernel
theorem dX5_canStand_73 : decode cX5_canStand 73 = .ok (.iload_n 1, 1) := by decide +kernel
theorem dX5_canStand_74 : decode cX5_canStand 74 = .ok (.invokevirtual 54, 3) := by decide +kernel
theorem dX5_canStand_77 : decode cX5_canStand 77 = .ok (.iload_n 2, 1) := by decide +kernel
theorem dX5_canStand_78 : decode cX5_canStand 78 = .ok (.invokestatic 58, 3) := by decide +kernel
theorem dX5_canStand_81 : decode cX5_canStand 81 = .ok (.ifCond .ne 7, 3) := by decide +kernel
theorem dX5_canStand_84 : decode cX5_canStand 84 = .ok (.iconst 1, 1) := by decide +kernel
theorem dX5_canStand_85 : decode cX5_canStand 85 = .ok (.goto 4, 3) := by decide +kernel
theorem dX5_canStand_88 : decode cX5_canStand 88 = .ok (.iconst 0, 1) := by decide +kernel
theorem dX5_canStand_89 : decode cX5_canStand 89 = .ok (.ireturn, 1) := by decide +kernel
set_option maxRecDepth 20000 in
theorem ggX5_faultNow_X5_canStand : GoodIn wsX5_faultNow wsX5_canStand := goodIn_r _ [6, 7, 8, 9, 10, 5, 11, 12, 13, 14, 15, 16, 17, 18, 19, 20, 21, 22, 23, 24, 25, 26, 27, 28, 29, 30, 31, 32] (by decide +kernel) (by decide +kernel)
set_option maxRecDepth 20000 in
theorem gX5_faultNow_X5_canStand : GoodIn wsX5_faultNow (wsV RX5 62 RX5 yX5_canStand wsX5_canStand) := goodIn_app (goodIn_of _ (by decide +kernel)) ggX5_faultNow_X5_canStand
theorem dX5_faultNow_0 : decode cX5_faultNow 0 = .ok (.iconst 0, 1) := by decide +kernel
theorem dX5_faultNow_1 : decode cX5_faultNow 1 = .ok (.istore_n 1, 1) := by decide +kernel
theorem dX5_faultNow_2 : decode cX5_faultNow 2 = .ok (.iload_n 1, 1) := by decide +kernel
theorem dX5_faultNow_3 : decode cX5_faultNow 3 = .ok (.aload_n 0, 1) := by decide +kernel
theorem dX5_faultNow_4 : decode cX5_faultNow 4 = .ok (.getfield 47, 3) := by decide +kernel
theorem dX5_faultNow_7 : decode cX5_faultNow 7 = .ok (.if_icmp .ge 19, 3) := by decide +kernel
theorem dX5_faultNow_10 : decode cX5_faultNow 10 = .ok (.aload_n 0, 1) := by decide +kernel
theorem dX5_faultNow_11 : decode cX5_faultNow 11 = .ok (.iload_n 1, 1) := by decide +kernel
theorem dX5_faultNow_12 : decode cX5_faultNow 12 = .ok (.invokevirtual 62, 3) := by decide +kernel
theorem dX5_faultNow_15 : decode cX5_faultNow 15 = .ok (.ifCond .ne 5, 3) := by decide +kernel
theorem dX5_faultNow_18 : decode cX5_faultNow 18 = .ok (.iload_n 1, 1) := by decide +kernel
theorem dX5_faultNow_19 : decode cX5_faultNow 19 = .ok (.ireturn, 1) := by decide +kernel
theorem dX5_faultNow_20 : decode cX5_faultNow 20 = .ok (.iinc 1 1, 3) := by decide +kernel
theorem dX5_faultNow_23 : decode cX5_faultNow 23 = .ok (.goto (-21), 3) := by decide +kernel
theorem dX5_faultNow_26 : decode cX5_faultNow 26 = .ok (.aload_n 0, 1) := by decide +kernel
theorem dX5_faultNow_27 : decode cX5_faultNow 27 = .ok (.getfield 47, 3) := by decide +kernel
theorem dX5_faultNow_30 : decode cX5_faultNow 30 = .ok (.iconst 2, 1) := by decide +kernel
theorem dX5_faultNow_31 : decode cX5_faultNow 31 = .ok (.if_icmp .ge 10, 3) := by decide +kernel
theorem dX5_faultNow_34 : decode cX5_faultNow 34 = .ok (.aload_n 0, 1) := by decide +kernel
theorem dX5_faultNow_35 : decode cX5_faultNow 35 = .ok (.getfield 47, 3) := by decide +kernel
theorem dX5_faultNow_38 : decode cX5_faultNow 38 = .ok (.goto 5, 3) := by decide +kernel
theorem dX5_faultNow_41 : decode cX5_faultNow 41 = .ok (.bipush (-6), 2) := by decide +kernel
theorem dX5_faultNow_43 : decode cX5_faultNow 43 = .ok (.ireturn, 1) := by decide +kernel
set_option maxRecDepth 20000 in
theorem ggX5_define_X5_faultNow : GoodIn wsX5_define wsX5_faultNow := goodIn_r _ [9, 4, 10, 11, 12, 8, 13, 2, 14, 15, 16, 17, 18, 19, 20, 21, 22, 23, 24, 25, 26, 27, 28, 32, 33, 34, 35, 36, 37, 38, 39, 40, 41] (by decide +kernel) (by decide +kernel)
set_option maxRecDepth 20000 in
theorem gX5_define_X5_faultNow : GoodIn wsX5_define (wsV RX5 65 RX5 yX5_faultNow wsX5_faultNow) := goodIn_app (goodIn_of _ (by decide +kernel)) ggX5_define_X5_faultNow
set_option maxRecDepth 20000 in
theorem ggX5_define_X5_toldUpTo : GoodIn wsX5_define wsX5_toldUpTo := goodIn_r _ [25, 2, 32, 33, 34, 35, 36, 37, 38, 39, 40, 41] (by decide +kernel) (by decide +kernel)
set_option maxRecDepth 20000 in
theorem gX5_define_X5_toldUpTo : GoodIn wsX5_define (wsV RX5 54 RX5 yX5_toldUpTo wsX5_toldUpTo) := goodIn_app (goodIn_of _ (by decide +kernel)) ggX5_define_X5_toldUpTo
set_option maxRecDepth 20000 in
theorem ggX5_define_X5_bits : GoodIn wsX5_define wsX5_bits := goodIn_r _ [31] (by decide +kernel) (by decide +kernel)
set_option maxRecDepth 20000 in
theorem gX5_define_X5_bits : GoodIn wsX5_define (va_wsS RX5 68 yX5_bits wsX5_bits) := goodIn_app (goodIn_of _ (by decide +kernel)) ggX5_define_X5_bits
theorem dX5_define_0 : decode cX5_define 0 = .ok (.aload_n 0, 1) := by decide +kernel
theorem dX5_define_1 : decode cX5_define 1 = .ok (.invokevirtual 65, 3) := by decide +kernel
theorem dX5_define_4 : decode cX5_define 4 = .ok (.istore_n 1, 1) := by decide +kernel
theorem dX5_define_5 : decode cX5_define 5 = .ok (.iload_n 1, 1) := by decide +kernel
theorem dX5_define_6 : decode cX5_define 6 = .ok (.ifCond .lt 11, 3) := by decide +kernel
theorem dX5_define_9 : decode cX5_define 9 = .ok (.aload_n 0, 1) := by decide +kernel
theorem dX5_define_10 : decode cX5_define 10 = .ok (.iload_n 1, 1) := by decide +kernel
theorem dX5_define_11 : decode cX5_define 11 = .ok (.putfield 23, 3) := by decide +kernel
theorem dX5_define_14 : decode cX5_define 14 = .ok (.bipush (-7), 2) := by decide +kernel
theorem dX5_define_16 : decode cX5_define 16 = .ok (.ireturn, 1) := by decide +kernel
theorem dX5_define_17 : decode cX5_define 17 = .ok (.aload_n 0, 1) := by decide +kernel
theorem dX5_define_18 : decode cX5_define 18 = .ok (.getfield 20, 3) := by decide +kernel
theorem dX5_define_21 : decode cX5_define 21 = .ok (.iconst 0, 1) := by decide +kernel
theorem dX5_define_22 : decode cX5_define 22 = .ok (.iaload, 1) := by decide +kernel
theorem dX5_define_23 : decode cX5_define 23 = .ok (.bipush 97, 2) := by decide +kernel
theorem dX5_define_25 : decode cX5_define 25 = .ok (.isub, 1) := by decide +kernel
theorem dX5_define_26 : decode cX5_define 26 = .ok (.istore_n 2, 1) := by decide +kernel
theorem dX5_define_27 : decode cX5_define 27 = .ok (.aload_n 0, 1) := by decide +kernel
theorem dX5_define_28 : decode cX5_define 28 = .ok (.getfield 13, 3) := by decide +kernel
theorem dX5_define_31 : decode cX5_define 31 = .ok (.iload_n 2, 1) := by decide +kernel
theorem dX5_define_32 : decode cX5_define 32 = .ok (.aload_n 0, 1) := by decide +kernel
theorem dX5_define_33 : decode cX5_define 33 = .ok (.getfield 20, 3) := by decide +kernel
theorem dX5_define_36 : decode cX5_define 36 = .ok (.iconst 1, 1) := by decide +kernel
theorem dX5_define_37 : decode cX5_define 37 = .ok (.iaload, 1) := by decide +kernel
theorem dX5_define_38 : decode cX5_define 38 = .ok (.bipush 46, 2) := by decide +kernel
theorem dX5_define_40 : decode cX5_define 40 = .ok (.if_icmp .ne 8, 3) := by decide +kernel
theorem dX5_define_43 : decode cX5_define 43 = .ok (.bipush (-6), 2) := by decide +kernel
theorem dX5_define_45 : decode cX5_define 45 = .ok (.goto 11, 3) := by decide +kernel
theorem dX5_define_48 : decode cX5_define 48 = .ok (.aload_n 0, 1) := by decide +kernel
theorem dX5_define_49 : decode cX5_define 49 = .ok (.aload_n 0, 1) := by decide +kernel
theorem dX5_define_50 : decode cX5_define 50 = .ok (.getfield 47, 3) := by decide +kernel
theorem dX5_define_53 : decode cX5_define 53 = .ok (.invokevirtual 54, 3) := by decide +kernel
theorem dX5_define_56 : decode cX5_define 56 = .ok (.iastore, 1) := by decide +kernel
theorem dX5_define_57 : decode cX5_define 57 = .ok (.aload_n 0, 1) := by decide +kernel
theorem dX5_define_58 : decode cX5_define 58 = .ok (.iconst 0, 1) := by decide +kernel
theorem dX5_define_59 : decode cX5_define 59 = .ok (.putfield 47, 3) := by decide +kernel
theorem dX5_define_62 : decode cX5_define 62 = .ok (.aload_n 0, 1) := by decide +kernel
theorem dX5_define_63 : decode cX5_define 63 = .ok (.getfield 13, 3) := by decide +kernel
theorem dX5_define_66 : decode cX5_define 66 = .ok (.iload_n 2, 1) := by decide +kernel
theorem dX5_define_67 : decode cX5_define 67 = .ok (.iaload, 1) := by decide +kernel
theorem dX5_define_68 : decode cX5_define 68 = .ok (.ifCond .ge 8, 3) := by decide +kernel
theorem dX5_define_71 : decode cX5_define 71 = .ok (.bipush (-6), 2) := by decide +kernel
theorem dX5_define_73 : decode cX5_define 73 = .ok (.goto 12, 3) := by decide +kernel
theorem dX5_define_76 : decode cX5_define 76 = .ok (.aload_n 0, 1) := by decide +kernel
theorem dX5_define_77 : decode cX5_define 77 = .ok (.getfield 13, 3) := by decide +kernel
theorem dX5_define_80 : decode cX5_define 80 = .ok (.iload_n 2, 1) := by decide +kernel
theorem dX5_define_81 : decode cX5_define 81 = .ok (.iaload, 1) := by decide +kernel
theorem dX5_define_82 : decode cX5_define 82 = .ok (.invokestatic 68, 3) := by decide +kernel
theorem dX5_define_85 : decode cX5_define 85 = .ok (.ireturn, 1) := by decide +kernel
set_option maxRecDepth 20000 in
theorem ggX5_fault_X5_faultNow : GoodIn wsX5_fault wsX5_faultNow := goodIn_r _ [5, 6, 7, 8, 9, 4, 10, 11, 12, 13, 14, 15, 16, 17, 18, 19, 20, 21, 22, 23, 24, 25, 26, 27, 28, 29, 30, 31, 32, 33, 34, 35, 36] (by decide +kernel) (by decide +kernel)
set_option maxRecDepth 20000 in
theorem gX5_fault_X5_faultNow : GoodIn wsX5_fault (wsV RX5 65 RX5 yX5_faultNow wsX5_faultNow) := goodIn_app (goodIn_of _ (by decide +kernel)) ggX5_fault_X5_faultNow
theorem dX5_fault_0 : decode cX5_fault 0 = .ok (.aload_n 0, 1) := by decide +kernel
theorem dX5_fault_1 : decode cX5_fault 1 = .ok (.invokevirtual 65, 3) := by decide +kernel
theorem dX5_fault_4 : decode cX5_fault 4 = .ok (.ireturn, 1) := by decide +kernel
set_option maxRecDepth 20000 in
theorem ggX5_uses_X5_isWord : GoodIn wsX5_uses wsX5_isWord := goodIn_r _ [6, 7, 8, 9, 5, 10, 11, 12, 13, 14, 15, 16, 17, 18, 19, 20] (by decide +kernel) (by decide +kernel)
set_option maxRecDepth 20000 in
theorem gX5_uses_X5_isWord : GoodIn wsX5_uses (wsV RX5 50 RX5 yX5_isWord wsX5_isWord) := goodIn_app (goodIn_of _ (by decide +kernel)) ggX5_uses_X5_isWord
theorem dX5_uses_0 : decode cX5_uses 0 = .ok (.aload_n 0, 1) := by decide +kernel
theorem dX5_uses_1 : decode cX5_uses 1 = .ok (.iload_n 1, 1) := by decide +kernel
theorem dX5_uses_2 : decode cX5_uses 2 = .ok (.invokevirtual 50, 3) := by decide +kernel
theorem dX5_uses_5 : decode cX5_uses 5 = .ok (.ifCond .eq 12, 3) := by decide +kernel
theorem dX5_uses_8 : decode cX5_uses 8 = .ok (.aload_n 0, 1) := by decide +kernel
theorem dX5_uses_9 : decode cX5_uses 9 = .ok (.getfield 13, 3) := by decide +kernel
theorem dX5_uses_12 : decode cX5_uses 12 = .ok (.iload_n 1, 1) := by decide +kernel
theorem dX5_uses_13 : decode cX5_uses 13 = .ok (.iaload, 1) := by decide +kernel
theorem dX5_uses_14 : decode cX5_uses 14 = .ok (.goto 4, 3) := by decide +kernel
theorem dX5_uses_17 : decode cX5_uses 17 = .ok (.iconst (-1), 1) := by decide +kernel
theorem dX5_uses_18 : decode cX5_uses 18 = .ok (.ireturn, 1) := by decide +kernel
set_option maxRecDepth 20000 in
theorem ggX5_isUsed_X5_has : GoodIn wsX5_isUsed wsX5_has := goodIn_r _ [5] (by decide +kernel) (by decide +kernel)
set_option maxRecDepth 20000 in
theorem gX5_isUsed_X5_has : GoodIn wsX5_isUsed (va_wsS RX5 58 yX5_has wsX5_has) := goodIn_app (goodIn_of _ (by decide +kernel)) ggX5_isUsed_X5_has
theorem dX5_isUsed_0 : decode cX5_isUsed 0 = .ok (.aload_n 0, 1) := by decide +kernel
theorem dX5_isUsed_1 : decode cX5_isUsed 1 = .ok (.getfield 13, 3) := by decide +kernel
theorem dX5_isUsed_4 : decode cX5_isUsed 4 = .ok (.iload_n 1, 1) := by decide +kernel
theorem dX5_isUsed_5 : decode cX5_isUsed 5 = .ok (.iaload, 1) := by decide +kernel
theorem dX5_isUsed_6 : decode cX5_isUsed 6 = .ok (.ifCond .lt 20, 3) := by decide +kernel
theorem dX5_isUsed_9 : decode cX5_isUsed 9 = .ok (.aload_n 0, 1) := by decide +kernel
theorem dX5_isUsed_10 : decode cX5_isUsed 10 = .ok (.getfield 13, 3) := by decide +kernel
theorem dX5_isUsed_13 : decode cX5_isUsed 13 = .ok (.iload_n 1, 1) := by decide +kernel
theorem dX5_isUsed_14 : decode cX5_isUsed 14 = .ok (.iaload, 1) := by decide +kernel
theorem dX5_isUsed_15 : decode cX5_isUsed 15 = .ok (.iload_n 2, 1) := by decide +kernel
theorem dX5_isUsed_16 : decode cX5_isUsed 16 = .ok (.invokestatic 58, 3) := by decide +kernel
theorem dX5_isUsed_19 : decode cX5_isUsed 19 = .ok (.ifCond .eq 7, 3) := by decide +kernel
theorem dX5_isUsed_22 : decode cX5_isUsed 22 = .ok (.iconst 1, 1) := by decide +kernel
theorem dX5_isUsed_23 : decode cX5_isUsed 23 = .ok (.goto 4, 3) := by decide +kernel
theorem dX5_isUsed_26 : decode cX5_isUsed 26 = .ok (.iconst 0, 1) := by decide +kernel
theorem dX5_isUsed_27 : decode cX5_isUsed 27 = .ok (.ireturn, 1) := by decide +kernel
set_option maxRecDepth 20000 in
theorem ggX5_usersOf_X5_isUsed : GoodIn wsX5_usersOf wsX5_isUsed := goodIn_r _ [6, 7, 8, 9, 5, 10, 11, 12, 13, 14, 15, 16, 17, 18, 19, 20] (by decide +kernel) (by decide +kernel)
set_option maxRecDepth 20000 in
theorem gX5_usersOf_X5_isUsed : GoodIn wsX5_usersOf (wsV RX5 71 RX5 yX5_isUsed wsX5_isUsed) := goodIn_app (goodIn_of _ (by decide +kernel)) ggX5_usersOf_X5_isUsed
theorem dX5_usersOf_0 : decode cX5_usersOf 0 = .ok (.iconst 0, 1) := by decide +kernel
theorem dX5_usersOf_1 : decode cX5_usersOf 1 = .ok (.istore_n 2, 1) := by decide +kernel
theorem dX5_usersOf_2 : decode cX5_usersOf 2 = .ok (.iconst 0, 1) := by decide +kernel
theorem dX5_usersOf_3 : decode cX5_usersOf 3 = .ok (.istore_n 3, 1) := by decide +kernel
theorem dX5_usersOf_4 : decode cX5_usersOf 4 = .ok (.iload_n 3, 1) := by decide +kernel
theorem dX5_usersOf_5 : decode cX5_usersOf 5 = .ok (.aload_n 0, 1) := by decide +kernel
theorem dX5_usersOf_6 : decode cX5_usersOf 6 = .ok (.getfield 7, 3) := by decide +kernel
theorem dX5_usersOf_9 : decode cX5_usersOf 9 = .ok (.if_icmp .ge 28, 3) := by decide +kernel
theorem dX5_usersOf_12 : decode cX5_usersOf 12 = .ok (.iload_n 2, 1) := by decide +kernel
theorem dX5_usersOf_13 : decode cX5_usersOf 13 = .ok (.aload_n 0, 1) := by decide +kernel
theorem dX5_usersOf_14 : decode cX5_usersOf 14 = .ok (.iload_n 3, 1) := by decide +kernel
theorem dX5_usersOf_15 : decode cX5_usersOf 15 = .ok (.iload_n 1, 1) := by decide +kernel
theorem dX5_usersOf_16 : decode cX5_usersOf 16 = .ok (.invokevirtual 71, 3) := by decide +kernel
theorem dX5_usersOf_19 : decode cX5_usersOf 19 = .ok (.ifCond .eq 9, 3) := by decide +kernel
theorem dX5_usersOf_22 : decode cX5_usersOf 22 = .ok (.iconst 1, 1) := by decide +kernel
theorem dX5_usersOf_23 : decode cX5_usersOf 23 = .ok (.iload_n 3, 1) := by decide +kernel
theorem dX5_usersOf_24 : decode cX5_usersOf 24 = .ok (.ishl, 1) := by decide +kernel
theorem dX5_usersOf_25 : decode cX5_usersOf 25 = .ok (.goto 4, 3) := by decide +kernel
theorem dX5_usersOf_28 : decode cX5_usersOf 28 = .ok (.iconst 0, 1) := by decide +kernel
theorem dX5_usersOf_29 : decode cX5_usersOf 29 = .ok (.ior, 1) := by decide +kernel
theorem dX5_usersOf_30 : decode cX5_usersOf 30 = .ok (.istore_n 2, 1) := by decide +kernel
theorem dX5_usersOf_31 : decode cX5_usersOf 31 = .ok (.iinc 3 1, 3) := by decide +kernel
theorem dX5_usersOf_34 : decode cX5_usersOf 34 = .ok (.goto (-30), 3) := by decide +kernel
theorem dX5_usersOf_37 : decode cX5_usersOf 37 = .ok (.iload_n 2, 1) := by decide +kernel
theorem dX5_usersOf_38 : decode cX5_usersOf 38 = .ok (.ireturn, 1) := by decide +kernel
set_option maxRecDepth 20000 in
theorem ggX5_users_X5_isWord : GoodIn wsX5_users wsX5_isWord := goodIn_r _ [5, 6, 7, 8, 4, 9, 22, 23, 24, 25, 26, 27, 28, 29, 30, 31] (by decide +kernel) (by decide +kernel)
set_option maxRecDepth 20000 in
theorem gX5_users_X5_isWord : GoodIn wsX5_users (wsV RX5 50 RX5 yX5_isWord wsX5_isWord) := goodIn_app (goodIn_of _ (by decide +kernel)) ggX5_users_X5_isWord
set_option maxRecDepth 20000 in
theorem ggX5_users_X5_usersOf : GoodIn wsX5_users wsX5_usersOf := goodIn_r _ [13, 6, 14, 15, 16, 4, 17, 18, 19, 20, 21, 22, 23, 24, 25, 26, 27, 28, 29, 30, 31] (by decide +kernel) (by decide +kernel)
set_option maxRecDepth 20000 in
theorem gX5_users_X5_usersOf : GoodIn wsX5_users (wsV RX5 74 RX5 yX5_usersOf wsX5_usersOf) := goodIn_app (goodIn_of _ (by decide +kernel)) ggX5_users_X5_usersOf
theorem dX5_users_0 : decode cX5_users 0 = .ok (.aload_n 0, 1) := by decide +kernel
theorem dX5_users_1 : decode cX5_users 1 = .ok (.iload_n 1, 1) := by decide +kernel
theorem dX5_users_2 : decode cX5_users 2 = .ok (.invokevirtual 50, 3) := by decide +kernel
theorem dX5_users_5 : decode cX5_users 5 = .ok (.ifCond .eq 11, 3) := by decide +kernel
theorem dX5_users_8 : decode cX5_users 8 = .ok (.aload_n 0, 1) := by decide +kernel
theorem dX5_users_9 : decode cX5_users 9 = .ok (.iload_n 1, 1) := by decide +kernel
theorem dX5_users_10 : decode cX5_users 10 = .ok (.invokevirtual 74, 3) := by decide +kernel
theorem dX5_users_13 : decode cX5_users 13 = .ok (.goto 4, 3) := by decide +kernel
theorem dX5_users_16 : decode cX5_users 16 = .ok (.iconst (-1), 1) := by decide +kernel
theorem dX5_users_17 : decode cX5_users 17 = .ok (.ireturn, 1) := by decide +kernel
set_option maxRecDepth 20000 in
theorem ggX5_cost_X5_isWord : GoodIn wsX5_cost wsX5_isWord := goodIn_r _ [6, 7, 8, 9, 5, 10, 11, 12, 13, 14, 15, 16, 17, 18, 19, 20] (by decide +kernel) (by decide +kernel)
set_option maxRecDepth 20000 in
theorem gX5_cost_X5_isWord : GoodIn wsX5_cost (wsV RX5 50 RX5 yX5_isWord wsX5_isWord) := goodIn_app (goodIn_of _ (by decide +kernel)) ggX5_cost_X5_isWord
set_option maxRecDepth 20000 in
theorem ggX5_cost_X5_in : GoodIn wsX5_cost wsX5_in := goodIn_r _ [10] (by decide +kernel) (by decide +kernel)
set_option maxRecDepth 20000 in
theorem gX5_cost_X5_in : GoodIn wsX5_cost (va_wsS RX5 36 yX5_in wsX5_in) := goodIn_app (goodIn_of _ (by decide +kernel)) ggX5_cost_X5_in
theorem dX5_cost_0 : decode cX5_cost 0 = .ok (.aload_n 0, 1) := by decide +kernel
theorem dX5_cost_1 : decode cX5_cost 1 = .ok (.iload_n 1, 1) := by decide +kernel
theorem dX5_cost_2 : decode cX5_cost 2 = .ok (.invokevirtual 50, 3) := by decide +kernel
theorem dX5_cost_5 : decode cX5_cost 5 = .ok (.ifCond .ne 5, 3) := by decide +kernel
theorem dX5_cost_8 : decode cX5_cost 8 = .ok (.iconst (-1), 1) := by decide +kernel
theorem dX5_cost_9 : decode cX5_cost 9 = .ok (.ireturn, 1) := by decide +kernel
theorem dX5_cost_10 : decode cX5_cost 10 = .ok (.iload_n 2, 1) := by decide +kernel
theorem dX5_cost_11 : decode cX5_cost 11 = .ok (.iconst 1, 1) := by decide +kernel
theorem dX5_cost_12 : decode cX5_cost 12 = .ok (.bipush 9, 2) := by decide +kernel
theorem dX5_cost_14 : decode cX5_cost 14 = .ok (.invokestatic 36, 3) := by decide +kernel
theorem dX5_cost_17 : decode cX5_cost 17 = .ok (.ifCond .ne 6, 3) := by decide +kernel
theorem dX5_cost_20 : decode cX5_cost 20 = .ok (.bipush (-2), 2) := by decide +kernel
theorem dX5_cost_22 : decode cX5_cost 22 = .ok (.ireturn, 1) := by decide +kernel
theorem dX5_cost_23 : decode cX5_cost 23 = .ok (.aload_n 0, 1) := by decide +kernel
theorem dX5_cost_24 : decode cX5_cost 24 = .ok (.getfield 17, 3) := by decide +kernel
theorem dX5_cost_27 : decode cX5_cost 27 = .ok (.iload_n 1, 1) := by decide +kernel
theorem dX5_cost_28 : decode cX5_cost 28 = .ok (.iaload, 1) := by decide +kernel
theorem dX5_cost_29 : decode cX5_cost 29 = .ok (.istore_n 3, 1) := by decide +kernel
theorem dX5_cost_30 : decode cX5_cost 30 = .ok (.aload_n 0, 1) := by decide +kernel
theorem dX5_cost_31 : decode cX5_cost 31 = .ok (.getfield 17, 3) := by decide +kernel
theorem dX5_cost_34 : decode cX5_cost 34 = .ok (.iload_n 1, 1) := by decide +kernel
theorem dX5_cost_35 : decode cX5_cost 35 = .ok (.iload_n 2, 1) := by decide +kernel
theorem dX5_cost_36 : decode cX5_cost 36 = .ok (.iastore, 1) := by decide +kernel
theorem dX5_cost_37 : decode cX5_cost 37 = .ok (.iload_n 3, 1) := by decide +kernel
theorem dX5_cost_38 : decode cX5_cost 38 = .ok (.ireturn, 1) := by decide +kernel
theorem dX5_after_0 : decode cX5_after 0 = .ok (.iload_n 1, 1) := by decide +kernel
theorem dX5_after_1 : decode cX5_after 1 = .ok (.istore_n 2, 1) := by decide +kernel
theorem dX5_after_2 : decode cX5_after 2 = .ok (.iconst 0, 1) := by decide +kernel
theorem dX5_after_3 : decode cX5_after 3 = .ok (.istore_n 3, 1) := by decide +kernel
theorem dX5_after_4 : decode cX5_after 4 = .ok (.iload_n 3, 1) := by decide +kernel
theorem dX5_after_5 : decode cX5_after 5 = .ok (.aload_n 0, 1) := by decide +kernel
theorem dX5_after_6 : decode cX5_after 6 = .ok (.getfield 7, 3) := by decide +kernel
theorem dX5_after_9 : decode cX5_after 9 = .ok (.if_icmp .ge 41, 3) := by decide +kernel
theorem dX5_after_12 : decode cX5_after 12 = .ok (.iload_n 2, 1) := by decide +kernel
theorem dX5_after_13 : decode cX5_after 13 = .ok (.aload_n 0, 1) := by decide +kernel
theorem dX5_after_14 : decode cX5_after 14 = .ok (.getfield 13, 3) := by decide +kernel
theorem dX5_after_17 : decode cX5_after 17 = .ok (.iload_n 3, 1) := by decide +kernel
theorem dX5_after_18 : decode cX5_after 18 = .ok (.iaload, 1) := by decide +kernel
theorem dX5_after_19 : decode cX5_after 19 = .ok (.ifCond .lt 22, 3) := by decide +kernel
theorem dX5_after_22 : decode cX5_after 22 = .ok (.aload_n 0, 1) := by decide +kernel
theorem dX5_after_23 : decode cX5_after 23 = .ok (.getfield 13, 3) := by decide +kernel
theorem dX5_after_26 : decode cX5_after 26 = .ok (.iload_n 3, 1) := by decide +kernel
theorem dX5_after_27 : decode cX5_after 27 = .ok (.iaload, 1) := by decide +kernel
theorem dX5_after_28 : decode cX5_after 28 = .ok (.iload_n 1, 1) := by decide +kernel
theorem dX5_after_29 : decode cX5_after 29 = .ok (.iconst (-1), 1) := by decide +kernel
theorem dX5_after_30 : decode cX5_after 30 = .ok (.ixor, 1) := by decide +kernel
theorem dX5_after_31 : decode cX5_after 31 = .ok (.iand, 1) := by decide +kernel
theorem dX5_after_32 : decode cX5_after 32 = .ok (.ifCond .ne 9, 3) := by decide +kernel
theorem dX5_after_35 : decode cX5_after 35 = .ok (.iconst 1, 1) := by decide +kernel
theorem dX5_after_36 : decode cX5_after 36 = .ok (.iload_n 3, 1) := by decide +kernel
theorem dX5_after_37 : decode cX5_after 37 = .ok (.ishl, 1) := by decide +kernel
theorem dX5_after_38 : decode cX5_after 38 = .ok (.goto 4, 3) := by decide +kernel
theorem dX5_after_41 : decode cX5_after 41 = .ok (.iconst 0, 1) := by decide +kernel
theorem dX5_after_42 : decode cX5_after 42 = .ok (.ior, 1) := by decide +kernel
theorem dX5_after_43 : decode cX5_after 43 = .ok (.istore_n 2, 1) := by decide +kernel
theorem dX5_after_44 : decode cX5_after 44 = .ok (.iinc 3 1, 3) := by decide +kernel
theorem dX5_after_47 : decode cX5_after 47 = .ok (.goto (-43), 3) := by decide +kernel
theorem dX5_after_50 : decode cX5_after 50 = .ok (.iload_n 2, 1) := by decide +kernel
theorem dX5_after_51 : decode cX5_after 51 = .ok (.ireturn, 1) := by decide +kernel
set_option maxRecDepth 20000 in
theorem ggX5_knownOn_X5_after : GoodIn wsX5_knownOn wsX5_after := goodIn_r _ [5, 6, 7, 8, 9, 10, 11, 12, 13, 14, 15, 16, 17] (by decide +kernel) (by decide +kernel)
set_option maxRecDepth 20000 in
theorem gX5_knownOn_X5_after : GoodIn wsX5_knownOn (wsV RX5 77 RX5 yX5_after wsX5_after) := goodIn_app (goodIn_of _ (by decide +kernel)) ggX5_knownOn_X5_after
theorem dX5_knownOn_0 : decode cX5_knownOn 0 = .ok (.iload_n 1, 1) := by decide +kernel
end
section
theorem dX5_knownOn_1 : decode cX5_knownOn 1 = .ok (.istore_n 3, 1) := by decide +kernel
theorem dX5_knownOn_2 : decode cX5_knownOn 2 = .ok (.iconst 0, 1) := by decide +kernel
theorem dX5_knownOn_3 : decode cX5_knownOn 3 = .ok (.istore 4, 2) := by decide +kernel
theorem dX5_knownOn_5 : decode cX5_knownOn 5 = .ok (.iload 4, 2) := by decide +kernel
theorem dX5_knownOn_7 : decode cX5_knownOn 7 = .ok (.iload_n 2, 1) := by decide +kernel
theorem dX5_knownOn_8 : decode cX5_knownOn 8 = .ok (.if_icmp .ge 15, 3) := by decide +kernel
theorem dX5_knownOn_11 : decode cX5_knownOn 11 = .ok (.aload_n 0, 1) := by decide +kernel
theorem dX5_knownOn_12 : decode cX5_knownOn 12 = .ok (.iload_n 3, 1) := by decide +kernel
theorem dX5_knownOn_13 : decode cX5_knownOn 13 = .ok (.invokevirtual 77, 3) := by decide +kernel
theorem dX5_knownOn_16 : decode cX5_knownOn 16 = .ok (.istore_n 3, 1) := by decide +kernel
theorem dX5_knownOn_17 : decode cX5_knownOn 17 = .ok (.iinc 4 1, 3) := by decide +kernel
theorem dX5_knownOn_20 : decode cX5_knownOn 20 = .ok (.goto (-15), 3) := by decide +kernel
theorem dX5_knownOn_23 : decode cX5_knownOn 23 = .ok (.iload_n 3, 1) := by decide +kernel
theorem dX5_knownOn_24 : decode cX5_knownOn 24 = .ok (.ireturn, 1) := by decide +kernel
set_option maxRecDepth 20000 in
theorem ggX5_grounds_X5_isSet : GoodIn wsX5_grounds wsX5_isSet := goodIn_r _ [5, 6, 7, 8, 4, 9, 10, 11, 12, 13, 23, 24, 25, 26, 27, 28, 29, 30, 31, 32] (by decide +kernel) (by decide +kernel)
set_option maxRecDepth 20000 in
theorem gX5_grounds_X5_isSet : GoodIn wsX5_grounds (wsV RX5 80 RX5 yX5_isSet wsX5_isSet) := goodIn_app (goodIn_of _ (by decide +kernel)) ggX5_grounds_X5_isSet
set_option maxRecDepth 20000 in
theorem ggX5_grounds_X5_knownOn : GoodIn wsX5_grounds wsX5_knownOn := goodIn_r _ [17, 18, 19, 20, 4, 21, 10, 22, 23, 24, 25, 26, 27, 28, 29, 30, 31, 32] (by decide +kernel) (by decide +kernel)
set_option maxRecDepth 20000 in
theorem gX5_grounds_X5_knownOn : GoodIn wsX5_grounds (wsV RX5 83 RX5 yX5_knownOn wsX5_knownOn) := goodIn_app (goodIn_of _ (by decide +kernel)) ggX5_grounds_X5_knownOn
theorem dX5_grounds_0 : decode cX5_grounds 0 = .ok (.aload_n 0, 1) := by decide +kernel
theorem dX5_grounds_1 : decode cX5_grounds 1 = .ok (.iload_n 1, 1) := by decide +kernel
theorem dX5_grounds_2 : decode cX5_grounds 2 = .ok (.invokevirtual 80, 3) := by decide +kernel
theorem dX5_grounds_5 : decode cX5_grounds 5 = .ok (.ifCond .eq 13, 3) := by decide +kernel
theorem dX5_grounds_8 : decode cX5_grounds 8 = .ok (.aload_n 0, 1) := by decide +kernel
theorem dX5_grounds_9 : decode cX5_grounds 9 = .ok (.iload_n 1, 1) := by decide +kernel
theorem dX5_grounds_10 : decode cX5_grounds 10 = .ok (.bipush 14, 2) := by decide +kernel
theorem dX5_grounds_12 : decode cX5_grounds 12 = .ok (.invokevirtual 83, 3) := by decide +kernel
theorem dX5_grounds_15 : decode cX5_grounds 15 = .ok (.goto 5, 3) := by decide +kernel
theorem dX5_grounds_18 : decode cX5_grounds 18 = .ok (.bipush (-2), 2) := by decide +kernel
theorem dX5_grounds_20 : decode cX5_grounds 20 = .ok (.ireturn, 1) := by decide +kernel
set_option maxRecDepth 20000 in
theorem ggX5_day_X5_isWord : GoodIn wsX5_day wsX5_isWord := goodIn_r _ [5, 6, 7, 8, 4, 9, 30, 31, 32, 33, 34, 35, 36, 37, 38, 39] (by decide +kernel) (by decide +kernel)
set_option maxRecDepth 20000 in
theorem gX5_day_X5_isWord : GoodIn wsX5_day (wsV RX5 50 RX5 yX5_isWord wsX5_isWord) := goodIn_app (goodIn_of _ (by decide +kernel)) ggX5_day_X5_isWord
set_option maxRecDepth 20000 in
theorem ggX5_day_X5_isSet : GoodIn wsX5_day wsX5_isSet := goodIn_r _ [13, 14, 15, 16, 4, 17, 6, 7, 8, 9, 30, 31, 32, 33, 34, 35, 36, 37, 38, 39] (by decide +kernel) (by decide +kernel)
set_option maxRecDepth 20000 in
theorem gX5_day_X5_isSet : GoodIn wsX5_day (wsV RX5 80 RX5 yX5_isSet wsX5_isSet) := goodIn_app (goodIn_of _ (by decide +kernel)) ggX5_day_X5_isSet
set_option maxRecDepth 20000 in
theorem ggX5_day_X5_knownOn : GoodIn wsX5_day wsX5_knownOn := goodIn_r _ [21, 22, 23, 24, 4, 25, 6, 26, 30, 31, 32, 33, 34, 35, 36, 37, 38, 39] (by decide +kernel) (by decide +kernel)
set_option maxRecDepth 20000 in
theorem gX5_day_X5_knownOn : GoodIn wsX5_day (wsV RX5 83 RX5 yX5_knownOn wsX5_knownOn) := goodIn_app (goodIn_of _ (by decide +kernel)) ggX5_day_X5_knownOn
set_option maxRecDepth 20000 in
theorem ggX5_day_X5_has : GoodIn wsX5_day wsX5_has := goodIn_r _ [29] (by decide +kernel) (by decide +kernel)
set_option maxRecDepth 20000 in
theorem gX5_day_X5_has : GoodIn wsX5_day (va_wsS RX5 58 yX5_has wsX5_has) := goodIn_app (goodIn_of _ (by decide +kernel)) ggX5_day_X5_has
theorem dX5_day_0 : decode cX5_day 0 = .ok (.aload_n 0, 1) := by decide +kernel
theorem dX5_day_1 : decode cX5_day 1 = .ok (.iload_n 1, 1) := by decide +kernel
theorem dX5_day_2 : decode cX5_day 2 = .ok (.invokevirtual 50, 3) := by decide +kernel
theorem dX5_day_5 : decode cX5_day 5 = .ok (.ifCond .ne 5, 3) := by decide +kernel
theorem dX5_day_8 : decode cX5_day 8 = .ok (.iconst (-1), 1) := by decide +kernel
theorem dX5_day_9 : decode cX5_day 9 = .ok (.ireturn, 1) := by decide +kernel
theorem dX5_day_10 : decode cX5_day 10 = .ok (.aload_n 0, 1) := by decide +kernel
theorem dX5_day_11 : decode cX5_day 11 = .ok (.iload_n 2, 1) := by decide +kernel
theorem dX5_day_12 : decode cX5_day 12 = .ok (.invokevirtual 80, 3) := by decide +kernel
theorem dX5_day_15 : decode cX5_day 15 = .ok (.ifCond .ne 6, 3) := by decide +kernel
theorem dX5_day_18 : decode cX5_day 18 = .ok (.bipush (-2), 2) := by decide +kernel
theorem dX5_day_20 : decode cX5_day 20 = .ok (.ireturn, 1) := by decide +kernel
theorem dX5_day_21 : decode cX5_day 21 = .ok (.bipush (-6), 2) := by decide +kernel
theorem dX5_day_23 : decode cX5_day 23 = .ok (.istore_n 3, 1) := by decide +kernel
theorem dX5_day_24 : decode cX5_day 24 = .ok (.bipush 14, 2) := by decide +kernel
theorem dX5_day_26 : decode cX5_day 26 = .ok (.istore 4, 2) := by decide +kernel
theorem dX5_day_28 : decode cX5_day 28 = .ok (.iload 4, 2) := by decide +kernel
theorem dX5_day_30 : decode cX5_day 30 = .ok (.ifCond .lt 30, 3) := by decide +kernel
theorem dX5_day_33 : decode cX5_day 33 = .ok (.aload_n 0, 1) := by decide +kernel
theorem dX5_day_34 : decode cX5_day 34 = .ok (.iload_n 2, 1) := by decide +kernel
theorem dX5_day_35 : decode cX5_day 35 = .ok (.iload 4, 2) := by decide +kernel
theorem dX5_day_37 : decode cX5_day 37 = .ok (.invokevirtual 83, 3) := by decide +kernel
theorem dX5_day_40 : decode cX5_day 40 = .ok (.iload_n 1, 1) := by decide +kernel
theorem dX5_day_41 : decode cX5_day 41 = .ok (.invokestatic 58, 3) := by decide +kernel
theorem dX5_day_44 : decode cX5_day 44 = .ok (.ifCond .eq 8, 3) := by decide +kernel
theorem dX5_day_47 : decode cX5_day 47 = .ok (.iload 4, 2) := by decide +kernel
theorem dX5_day_49 : decode cX5_day 49 = .ok (.goto 4, 3) := by decide +kernel
theorem dX5_day_52 : decode cX5_day 52 = .ok (.iload_n 3, 1) := by decide +kernel
theorem dX5_day_53 : decode cX5_day 53 = .ok (.istore_n 3, 1) := by decide +kernel
theorem dX5_day_54 : decode cX5_day 54 = .ok (.iinc 4 (-1), 3) := by decide +kernel
theorem dX5_day_57 : decode cX5_day 57 = .ok (.goto (-29), 3) := by decide +kernel
theorem dX5_day_60 : decode cX5_day 60 = .ok (.iload_n 3, 1) := by decide +kernel
theorem dX5_day_61 : decode cX5_day 61 = .ok (.ireturn, 1) := by decide +kernel
set_option maxRecDepth 20000 in
theorem ggX5_learned_X5_isSet : GoodIn wsX5_learned wsX5_isSet := goodIn_r _ [5, 6, 7, 8, 4, 9, 10, 11, 12, 13, 23, 24, 25, 26, 27, 28, 29, 30, 31, 32] (by decide +kernel) (by decide +kernel)
set_option maxRecDepth 20000 in
theorem gX5_learned_X5_isSet : GoodIn wsX5_learned (wsV RX5 80 RX5 yX5_isSet wsX5_isSet) := goodIn_app (goodIn_of _ (by decide +kernel)) ggX5_learned_X5_isSet
set_option maxRecDepth 20000 in
theorem ggX5_learned_X5_in : GoodIn wsX5_learned wsX5_in := goodIn_r _ [13] (by decide +kernel) (by decide +kernel)
set_option maxRecDepth 20000 in
theorem gX5_learned_X5_in : GoodIn wsX5_learned (va_wsS RX5 36 yX5_in wsX5_in) := goodIn_app (goodIn_of _ (by decide +kernel)) ggX5_learned_X5_in
set_option maxRecDepth 20000 in
theorem ggX5_learned_X5_knownOn : GoodIn wsX5_learned wsX5_knownOn := goodIn_r _ [17, 18, 19, 20, 4, 21, 10, 22, 23, 24, 25, 26, 27, 28, 29, 30, 31, 32] (by decide +kernel) (by decide +kernel)
set_option maxRecDepth 20000 in
theorem gX5_learned_X5_knownOn : GoodIn wsX5_learned (wsV RX5 83 RX5 yX5_knownOn wsX5_knownOn) := goodIn_app (goodIn_of _ (by decide +kernel)) ggX5_learned_X5_knownOn
theorem dX5_learned_0 : decode cX5_learned 0 = .ok (.aload_n 0, 1) := by decide +kernel
theorem dX5_learned_1 : decode cX5_learned 1 = .ok (.iload_n 1, 1) := by decide +kernel
theorem dX5_learned_2 : decode cX5_learned 2 = .ok (.invokevirtual 80, 3) := by decide +kernel
theorem dX5_learned_5 : decode cX5_learned 5 = .ok (.ifCond .eq 13, 3) := by decide +kernel
theorem dX5_learned_8 : decode cX5_learned 8 = .ok (.iload_n 2, 1) := by decide +kernel
theorem dX5_learned_9 : decode cX5_learned 9 = .ok (.iconst 1, 1) := by decide +kernel
theorem dX5_learned_10 : decode cX5_learned 10 = .ok (.bipush 14, 2) := by decide +kernel
theorem dX5_learned_12 : decode cX5_learned 12 = .ok (.invokestatic 36, 3) := by decide +kernel
theorem dX5_learned_15 : decode cX5_learned 15 = .ok (.ifCond .ne 6, 3) := by decide +kernel
theorem dX5_learned_18 : decode cX5_learned 18 = .ok (.bipush (-2), 2) := by decide +kernel
theorem dX5_learned_20 : decode cX5_learned 20 = .ok (.ireturn, 1) := by decide +kernel
theorem dX5_learned_21 : decode cX5_learned 21 = .ok (.aload_n 0, 1) := by decide +kernel
theorem dX5_learned_22 : decode cX5_learned 22 = .ok (.iload_n 1, 1) := by decide +kernel
theorem dX5_learned_23 : decode cX5_learned 23 = .ok (.iload_n 2, 1) := by decide +kernel
theorem dX5_learned_24 : decode cX5_learned 24 = .ok (.invokevirtual 83, 3) := by decide +kernel
theorem dX5_learned_27 : decode cX5_learned 27 = .ok (.aload_n 0, 1) := by decide +kernel
theorem dX5_learned_28 : decode cX5_learned 28 = .ok (.iload_n 1, 1) := by decide +kernel
theorem dX5_learned_29 : decode cX5_learned 29 = .ok (.iload_n 2, 1) := by decide +kernel
theorem dX5_learned_30 : decode cX5_learned 30 = .ok (.iconst 1, 1) := by decide +kernel
theorem dX5_learned_31 : decode cX5_learned 31 = .ok (.isub, 1) := by decide +kernel
theorem dX5_learned_32 : decode cX5_learned 32 = .ok (.invokevirtual 83, 3) := by decide +kernel
theorem dX5_learned_35 : decode cX5_learned 35 = .ok (.iconst (-1), 1) := by decide +kernel
theorem dX5_learned_36 : decode cX5_learned 36 = .ok (.ixor, 1) := by decide +kernel
theorem dX5_learned_37 : decode cX5_learned 37 = .ok (.iand, 1) := by decide +kernel
theorem dX5_learned_38 : decode cX5_learned 38 = .ok (.ireturn, 1) := by decide +kernel
set_option maxRecDepth 20000 in
theorem ggX5_know_X5_isSet : GoodIn wsX5_know wsX5_isSet := goodIn_r _ [6, 7, 8, 9, 5, 10, 11, 12, 13, 14, 15, 16, 17, 18, 19, 20, 21, 22, 23, 24] (by decide +kernel) (by decide +kernel)
set_option maxRecDepth 20000 in
theorem gX5_know_X5_isSet : GoodIn wsX5_know (wsV RX5 80 RX5 yX5_isSet wsX5_isSet) := goodIn_app (goodIn_of _ (by decide +kernel)) ggX5_know_X5_isSet
theorem dX5_know_0 : decode cX5_know 0 = .ok (.aload_n 0, 1) := by decide +kernel
theorem dX5_know_1 : decode cX5_know 1 = .ok (.iload_n 1, 1) := by decide +kernel
theorem dX5_know_2 : decode cX5_know 2 = .ok (.invokevirtual 80, 3) := by decide +kernel
theorem dX5_know_5 : decode cX5_know 5 = .ok (.ifCond .ne 6, 3) := by decide +kernel
theorem dX5_know_8 : decode cX5_know 8 = .ok (.bipush (-2), 2) := by decide +kernel
theorem dX5_know_10 : decode cX5_know 10 = .ok (.ireturn, 1) := by decide +kernel
theorem dX5_know_11 : decode cX5_know 11 = .ok (.aload_n 0, 1) := by decide +kernel
theorem dX5_know_12 : decode cX5_know 12 = .ok (.getfield 44, 3) := by decide +kernel
theorem dX5_know_15 : decode cX5_know 15 = .ok (.istore_n 2, 1) := by decide +kernel
theorem dX5_know_16 : decode cX5_know 16 = .ok (.aload_n 0, 1) := by decide +kernel
theorem dX5_know_17 : decode cX5_know 17 = .ok (.iload_n 1, 1) := by decide +kernel
theorem dX5_know_18 : decode cX5_know 18 = .ok (.putfield 44, 3) := by decide +kernel
theorem dX5_know_21 : decode cX5_know 21 = .ok (.iload_n 2, 1) := by decide +kernel
theorem dX5_know_22 : decode cX5_know 22 = .ok (.ireturn, 1) := by decide +kernel
set_option maxRecDepth 20000 in
theorem ggX5_costOf_X5_has : GoodIn wsX5_costOf wsX5_has := goodIn_r _ [6] (by decide +kernel) (by decide +kernel)
set_option maxRecDepth 20000 in
theorem gX5_costOf_X5_has : GoodIn wsX5_costOf (va_wsS RX5 58 yX5_has wsX5_has) := goodIn_app (goodIn_of _ (by decide +kernel)) ggX5_costOf_X5_has
theorem dX5_costOf_0 : decode cX5_costOf 0 = .ok (.iconst 0, 1) := by decide +kernel
theorem dX5_costOf_1 : decode cX5_costOf 1 = .ok (.istore_n 2, 1) := by decide +kernel
theorem dX5_costOf_2 : decode cX5_costOf 2 = .ok (.iconst 0, 1) := by decide +kernel
theorem dX5_costOf_3 : decode cX5_costOf 3 = .ok (.istore_n 3, 1) := by decide +kernel
theorem dX5_costOf_4 : decode cX5_costOf 4 = .ok (.iload_n 3, 1) := by decide +kernel
theorem dX5_costOf_5 : decode cX5_costOf 5 = .ok (.aload_n 0, 1) := by decide +kernel
theorem dX5_costOf_6 : decode cX5_costOf 6 = .ok (.getfield 7, 3) := by decide +kernel
theorem dX5_costOf_9 : decode cX5_costOf 9 = .ok (.if_icmp .ge 30, 3) := by decide +kernel
theorem dX5_costOf_12 : decode cX5_costOf 12 = .ok (.iload_n 2, 1) := by decide +kernel
theorem dX5_costOf_13 : decode cX5_costOf 13 = .ok (.iload_n 1, 1) := by decide +kernel
theorem dX5_costOf_14 : decode cX5_costOf 14 = .ok (.iload_n 3, 1) := by decide +kernel
theorem dX5_costOf_15 : decode cX5_costOf 15 = .ok (.invokestatic 58, 3) := by decide +kernel
theorem dX5_costOf_18 : decode cX5_costOf 18 = .ok (.ifCond .eq 12, 3) := by decide +kernel
theorem dX5_costOf_21 : decode cX5_costOf 21 = .ok (.aload_n 0, 1) := by decide +kernel
theorem dX5_costOf_22 : decode cX5_costOf 22 = .ok (.getfield 17, 3) := by decide +kernel
theorem dX5_costOf_25 : decode cX5_costOf 25 = .ok (.iload_n 3, 1) := by decide +kernel
theorem dX5_costOf_26 : decode cX5_costOf 26 = .ok (.iaload, 1) := by decide +kernel
theorem dX5_costOf_27 : decode cX5_costOf 27 = .ok (.goto 4, 3) := by decide +kernel
theorem dX5_costOf_30 : decode cX5_costOf 30 = .ok (.iconst 0, 1) := by decide +kernel
theorem dX5_costOf_31 : decode cX5_costOf 31 = .ok (.iadd, 1) := by decide +kernel
theorem dX5_costOf_32 : decode cX5_costOf 32 = .ok (.istore_n 2, 1) := by decide +kernel
theorem dX5_costOf_33 : decode cX5_costOf 33 = .ok (.iinc 3 1, 3) := by decide +kernel
theorem dX5_costOf_36 : decode cX5_costOf 36 = .ok (.goto (-32), 3) := by decide +kernel
theorem dX5_costOf_39 : decode cX5_costOf 39 = .ok (.iload_n 2, 1) := by decide +kernel
theorem dX5_costOf_40 : decode cX5_costOf 40 = .ok (.ireturn, 1) := by decide +kernel
set_option maxRecDepth 20000 in
theorem ggX5_isBetter_X5_costOf : GoodIn wsX5_isBetter wsX5_costOf := goodIn_r _ [5, 6, 7, 8, 9, 4, 10, 14, 15, 16, 17, 18, 19, 20, 21, 22, 23] (by decide +kernel) (by decide +kernel)
set_option maxRecDepth 20000 in
theorem gX5_isBetter_X5_costOf : GoodIn wsX5_isBetter (wsV RX5 87 RX5 yX5_costOf wsX5_costOf) := goodIn_app (goodIn_of _ (by decide +kernel)) ggX5_isBetter_X5_costOf
set_option maxRecDepth 20000 in
theorem ggX5_isBetter_X5_bits : GoodIn wsX5_isBetter wsX5_bits := goodIn_r _ [13] (by decide +kernel) (by decide +kernel)
set_option maxRecDepth 20000 in
theorem gX5_isBetter_X5_bits : GoodIn wsX5_isBetter (va_wsS RX5 68 yX5_bits wsX5_bits) := goodIn_app (goodIn_of _ (by decide +kernel)) ggX5_isBetter_X5_bits
theorem dX5_isBetter_0 : decode cX5_isBetter 0 = .ok (.aload_n 0, 1) := by decide +kernel
theorem dX5_isBetter_1 : decode cX5_isBetter 1 = .ok (.iload_n 1, 1) := by decide +kernel
theorem dX5_isBetter_2 : decode cX5_isBetter 2 = .ok (.invokevirtual 87, 3) := by decide +kernel
theorem dX5_isBetter_5 : decode cX5_isBetter 5 = .ok (.aload_n 0, 1) := by decide +kernel
theorem dX5_isBetter_6 : decode cX5_isBetter 6 = .ok (.iload_n 2, 1) := by decide +kernel
theorem dX5_isBetter_7 : decode cX5_isBetter 7 = .ok (.invokevirtual 87, 3) := by decide +kernel
theorem dX5_isBetter_10 : decode cX5_isBetter 10 = .ok (.if_icmp .eq 22, 3) := by decide +kernel
theorem dX5_isBetter_13 : decode cX5_isBetter 13 = .ok (.aload_n 0, 1) := by decide +kernel
theorem dX5_isBetter_14 : decode cX5_isBetter 14 = .ok (.iload_n 1, 1) := by decide +kernel
theorem dX5_isBetter_15 : decode cX5_isBetter 15 = .ok (.invokevirtual 87, 3) := by decide +kernel
theorem dX5_isBetter_18 : decode cX5_isBetter 18 = .ok (.aload_n 0, 1) := by decide +kernel
theorem dX5_isBetter_19 : decode cX5_isBetter 19 = .ok (.iload_n 2, 1) := by decide +kernel
theorem dX5_isBetter_20 : decode cX5_isBetter 20 = .ok (.invokevirtual 87, 3) := by decide +kernel
theorem dX5_isBetter_23 : decode cX5_isBetter 23 = .ok (.if_icmp .ge 7, 3) := by decide +kernel
theorem dX5_isBetter_26 : decode cX5_isBetter 26 = .ok (.iconst 1, 1) := by decide +kernel
theorem dX5_isBetter_27 : decode cX5_isBetter 27 = .ok (.goto 4, 3) := by decide +kernel
theorem dX5_isBetter_30 : decode cX5_isBetter 30 = .ok (.iconst 0, 1) := by decide +kernel
theorem dX5_isBetter_31 : decode cX5_isBetter 31 = .ok (.ireturn, 1) := by decide +kernel
theorem dX5_isBetter_32 : decode cX5_isBetter 32 = .ok (.iload_n 1, 1) := by decide +kernel
theorem dX5_isBetter_33 : decode cX5_isBetter 33 = .ok (.invokestatic 68, 3) := by decide +kernel
theorem dX5_isBetter_36 : decode cX5_isBetter 36 = .ok (.iload_n 2, 1) := by decide +kernel
theorem dX5_isBetter_37 : decode cX5_isBetter 37 = .ok (.invokestatic 68, 3) := by decide +kernel
theorem dX5_isBetter_40 : decode cX5_isBetter 40 = .ok (.if_icmp .ge 7, 3) := by decide +kernel
theorem dX5_isBetter_43 : decode cX5_isBetter 43 = .ok (.iconst 1, 1) := by decide +kernel
theorem dX5_isBetter_44 : decode cX5_isBetter 44 = .ok (.goto 4, 3) := by decide +kernel
theorem dX5_isBetter_47 : decode cX5_isBetter 47 = .ok (.iconst 0, 1) := by decide +kernel
theorem dX5_isBetter_48 : decode cX5_isBetter 48 = .ok (.ireturn, 1) := by decide +kernel
set_option maxRecDepth 20000 in
theorem ggX5_planFor_X5_all : GoodIn wsX5_planFor wsX5_all := goodIn_r _ [5, 6, 31, 32, 33, 34, 35, 36, 37, 38, 39, 40] (by decide +kernel) (by decide +kernel)
set_option maxRecDepth 20000 in
theorem gX5_planFor_X5_all : GoodIn wsX5_planFor (wsV RX5 40 RX5 yX5_all wsX5_all) := goodIn_app (goodIn_of _ (by decide +kernel)) ggX5_planFor_X5_all
set_option maxRecDepth 20000 in
theorem ggX5_planFor_X5_isBetter : GoodIn wsX5_planFor wsX5_isBetter := goodIn_r _ [10, 11, 12, 13, 4, 14, 6, 15, 16, 17, 18, 19, 20, 21, 31, 32, 33, 34, 35, 36, 37, 38, 39, 40] (by decide +kernel) (by decide +kernel)
set_option maxRecDepth 20000 in
theorem gX5_planFor_X5_isBetter : GoodIn wsX5_planFor (wsV RX5 90 RX5 yX5_isBetter wsX5_isBetter) := goodIn_app (goodIn_of _ (by decide +kernel)) ggX5_planFor_X5_isBetter
set_option maxRecDepth 20000 in
theorem ggX5_planFor_X5_knownOn : GoodIn wsX5_planFor wsX5_knownOn := goodIn_r _ [25, 26, 27, 28, 4, 29, 6, 30, 31, 32, 33, 34, 35, 36, 37, 38, 39, 40] (by decide +kernel) (by decide +kernel)
set_option maxRecDepth 20000 in
theorem gX5_planFor_X5_knownOn : GoodIn wsX5_planFor (wsV RX5 83 RX5 yX5_knownOn wsX5_knownOn) := goodIn_app (goodIn_of _ (by decide +kernel)) ggX5_planFor_X5_knownOn
theorem dX5_planFor_0 : decode cX5_planFor 0 = .ok (.aload_n 0, 1) := by decide +kernel
theorem dX5_planFor_1 : decode cX5_planFor 1 = .ok (.invokevirtual 40, 3) := by decide +kernel
theorem dX5_planFor_4 : decode cX5_planFor 4 = .ok (.iload_n 1, 1) := by decide +kernel
theorem dX5_planFor_5 : decode cX5_planFor 5 = .ok (.iconst (-1), 1) := by decide +kernel
theorem dX5_planFor_6 : decode cX5_planFor 6 = .ok (.ixor, 1) := by decide +kernel
theorem dX5_planFor_7 : decode cX5_planFor 7 = .ok (.iand, 1) := by decide +kernel
theorem dX5_planFor_8 : decode cX5_planFor 8 = .ok (.istore_n 2, 1) := by decide +kernel
theorem dX5_planFor_9 : decode cX5_planFor 9 = .ok (.iconst 0, 1) := by decide +kernel
theorem dX5_planFor_10 : decode cX5_planFor 10 = .ok (.istore_n 3, 1) := by decide +kernel
theorem dX5_planFor_11 : decode cX5_planFor 11 = .ok (.iload_n 3, 1) := by decide +kernel
theorem dX5_planFor_12 : decode cX5_planFor 12 = .ok (.aload_n 0, 1) := by decide +kernel
theorem dX5_planFor_13 : decode cX5_planFor 13 = .ok (.invokevirtual 40, 3) := by decide +kernel
theorem dX5_planFor_16 : decode cX5_planFor 16 = .ok (.if_icmp .gt 56, 3) := by decide +kernel
theorem dX5_planFor_19 : decode cX5_planFor 19 = .ok (.iload_n 3, 1) := by decide +kernel
theorem dX5_planFor_20 : decode cX5_planFor 20 = .ok (.iload_n 1, 1) := by decide +kernel
theorem dX5_planFor_21 : decode cX5_planFor 21 = .ok (.iand, 1) := by decide +kernel
theorem dX5_planFor_22 : decode cX5_planFor 22 = .ok (.ifCond .ne 44, 3) := by decide +kernel
theorem dX5_planFor_25 : decode cX5_planFor 25 = .ok (.aload_n 0, 1) := by decide +kernel
theorem dX5_planFor_26 : decode cX5_planFor 26 = .ok (.iload_n 3, 1) := by decide +kernel
theorem dX5_planFor_27 : decode cX5_planFor 27 = .ok (.iload_n 2, 1) := by decide +kernel
theorem dX5_planFor_28 : decode cX5_planFor 28 = .ok (.invokevirtual 90, 3) := by decide +kernel
theorem dX5_planFor_31 : decode cX5_planFor 31 = .ok (.ifCond .ne 17, 3) := by decide +kernel
theorem dX5_planFor_34 : decode cX5_planFor 34 = .ok (.iload_n 3, 1) := by decide +kernel
theorem dX5_planFor_35 : decode cX5_planFor 35 = .ok (.iload_n 2, 1) := by decide +kernel
theorem dX5_planFor_36 : decode cX5_planFor 36 = .ok (.if_icmp .ge 30, 3) := by decide +kernel
theorem dX5_planFor_39 : decode cX5_planFor 39 = .ok (.aload_n 0, 1) := by decide +kernel
theorem dX5_planFor_40 : decode cX5_planFor 40 = .ok (.iload_n 2, 1) := by decide +kernel
theorem dX5_planFor_41 : decode cX5_planFor 41 = .ok (.iload_n 3, 1) := by decide +kernel
theorem dX5_planFor_42 : decode cX5_planFor 42 = .ok (.invokevirtual 90, 3) := by decide +kernel
theorem dX5_planFor_45 : decode cX5_planFor 45 = .ok (.ifCond .ne 21, 3) := by decide +kernel
theorem dX5_planFor_48 : decode cX5_planFor 48 = .ok (.aload_n 0, 1) := by decide +kernel
theorem dX5_planFor_49 : decode cX5_planFor 49 = .ok (.iload_n 1, 1) := by decide +kernel
theorem dX5_planFor_50 : decode cX5_planFor 50 = .ok (.iload_n 3, 1) := by decide +kernel
theorem dX5_planFor_51 : decode cX5_planFor 51 = .ok (.ior, 1) := by decide +kernel
theorem dX5_planFor_52 : decode cX5_planFor 52 = .ok (.bipush 14, 2) := by decide +kernel
theorem dX5_planFor_54 : decode cX5_planFor 54 = .ok (.invokevirtual 83, 3) := by decide +kernel
theorem dX5_planFor_57 : decode cX5_planFor 57 = .ok (.aload_n 0, 1) := by decide +kernel
theorem dX5_planFor_58 : decode cX5_planFor 58 = .ok (.invokevirtual 40, 3) := by decide +kernel
theorem dX5_planFor_61 : decode cX5_planFor 61 = .ok (.if_icmp .ne 5, 3) := by decide +kernel
theorem dX5_planFor_64 : decode cX5_planFor 64 = .ok (.iload_n 3, 1) := by decide +kernel
theorem dX5_planFor_65 : decode cX5_planFor 65 = .ok (.istore_n 2, 1) := by decide +kernel
theorem dX5_planFor_66 : decode cX5_planFor 66 = .ok (.iinc 3 1, 3) := by decide +kernel
theorem dX5_planFor_69 : decode cX5_planFor 69 = .ok (.goto (-58), 3) := by decide +kernel
theorem dX5_planFor_72 : decode cX5_planFor 72 = .ok (.iload_n 2, 1) := by decide +kernel
theorem dX5_planFor_73 : decode cX5_planFor 73 = .ok (.ireturn, 1) := by decide +kernel
set_option maxRecDepth 20000 in
theorem ggX5_plan_X5_in : GoodIn wsX5_plan wsX5_in := goodIn_r _ [5] (by decide +kernel) (by decide +kernel)
set_option maxRecDepth 20000 in
theorem gX5_plan_X5_in : GoodIn wsX5_plan (va_wsS RX5 36 yX5_in wsX5_in) := goodIn_app (goodIn_of _ (by decide +kernel)) ggX5_plan_X5_in
set_option maxRecDepth 20000 in
theorem ggX5_plan_X5_planFor : GoodIn wsX5_plan wsX5_planFor := goodIn_r _ [9, 10, 11, 12, 4, 13, 14, 15, 16, 17, 18, 19, 20, 21, 22, 23, 24, 25, 26, 27, 28, 29, 30, 31, 32, 33, 34, 35, 36, 37, 38, 39, 40, 41, 42, 43, 44, 45, 46, 47, 48] (by decide +kernel) (by decide +kernel)
set_option maxRecDepth 20000 in
theorem gX5_plan_X5_planFor : GoodIn wsX5_plan (wsV RX5 93 RX5 yX5_planFor wsX5_planFor) := goodIn_app (goodIn_of _ (by decide +kernel)) ggX5_plan_X5_planFor
set_option maxRecDepth 20000 in
theorem ggX5_plan_X5_costOf : GoodIn wsX5_plan wsX5_costOf := goodIn_r _ [22, 14, 23, 24, 25, 4, 26, 39, 40, 41, 42, 43, 44, 45, 46, 47, 48] (by decide +kernel) (by decide +kernel)
set_option maxRecDepth 20000 in
theorem gX5_plan_X5_costOf : GoodIn wsX5_plan (wsV RX5 87 RX5 yX5_costOf wsX5_costOf) := goodIn_app (goodIn_of _ (by decide +kernel)) ggX5_plan_X5_costOf
set_option maxRecDepth 20000 in
theorem ggX5_plan_X5_bits : GoodIn wsX5_plan wsX5_bits := goodIn_r _ [29] (by decide +kernel) (by decide +kernel)
set_option maxRecDepth 20000 in
theorem gX5_plan_X5_bits : GoodIn wsX5_plan (va_wsS RX5 68 yX5_bits wsX5_bits) := goodIn_app (goodIn_of _ (by decide +kernel)) ggX5_plan_X5_bits
set_option maxRecDepth 20000 in
theorem ggX5_plan_X5_knownOn : GoodIn wsX5_plan wsX5_knownOn := goodIn_r _ [33, 34, 35, 36, 4, 37, 14, 38, 39, 40, 41, 42, 43, 44, 45, 46, 47, 48] (by decide +kernel) (by decide +kernel)
set_option maxRecDepth 20000 in
theorem gX5_plan_X5_knownOn : GoodIn wsX5_plan (wsV RX5 83 RX5 yX5_knownOn wsX5_knownOn) := goodIn_app (goodIn_of _ (by decide +kernel)) ggX5_plan_X5_knownOn
set_option maxRecDepth 20000 in
theorem ggX5_plan_X5_all : GoodIn wsX5_plan wsX5_all := goodIn_r _ [13, 14, 39, 40, 41, 42, 43, 44, 45, 46, 47, 48] (by decide +kernel) (by decide +kernel)
set_option maxRecDepth 20000 in
theorem gX5_plan_X5_all : GoodIn wsX5_plan (wsV RX5 40 RX5 yX5_all wsX5_all) := goodIn_app (goodIn_of _ (by decide +kernel)) ggX5_plan_X5_all
theorem dX5_plan_0 : decode cX5_plan 0 = .ok (.iload_n 1, 1) := by decide +kernel
theorem dX5_plan_1 : decode cX5_plan 1 = .ok (.iconst 0, 1) := by decide +kernel
theorem dX5_plan_2 : decode cX5_plan 2 = .ok (.iconst 3, 1) := by decide +kernel
theorem dX5_plan_3 : decode cX5_plan 3 = .ok (.invokestatic 36, 3) := by decide +kernel
theorem dX5_plan_6 : decode cX5_plan 6 = .ok (.ifCond .ne 6, 3) := by decide +kernel
theorem dX5_plan_9 : decode cX5_plan 9 = .ok (.bipush (-2), 2) := by decide +kernel
theorem dX5_plan_11 : decode cX5_plan 11 = .ok (.ireturn, 1) := by decide +kernel
theorem dX5_plan_12 : decode cX5_plan 12 = .ok (.aload_n 0, 1) := by decide +kernel
theorem dX5_plan_13 : decode cX5_plan 13 = .ok (.aload_n 0, 1) := by decide +kernel
theorem dX5_plan_14 : decode cX5_plan 14 = .ok (.getfield 44, 3) := by decide +kernel
theorem dX5_plan_17 : decode cX5_plan 17 = .ok (.invokevirtual 93, 3) := by decide +kernel
theorem dX5_plan_20 : decode cX5_plan 20 = .ok (.istore_n 2, 1) := by decide +kernel
theorem dX5_plan_21 : decode cX5_plan 21 = .ok (.iload_n 1, 1) := by decide +kernel
theorem dX5_plan_22 : decode cX5_plan 22 = .ok (.iconst 3, 1) := by decide +kernel
theorem dX5_plan_23 : decode cX5_plan 23 = .ok (.if_icmp .ge 29, 3) := by decide +kernel
theorem dX5_plan_26 : decode cX5_plan 26 = .ok (.iload_n 1, 1) := by decide +kernel
theorem dX5_plan_27 : decode cX5_plan 27 = .ok (.ifCond .ne 7, 3) := by decide +kernel
theorem dX5_plan_30 : decode cX5_plan 30 = .ok (.iload_n 2, 1) := by decide +kernel
theorem dX5_plan_31 : decode cX5_plan 31 = .ok (.goto 20, 3) := by decide +kernel
theorem dX5_plan_34 : decode cX5_plan 34 = .ok (.iload_n 1, 1) := by decide +kernel
theorem dX5_plan_35 : decode cX5_plan 35 = .ok (.iconst 1, 1) := by decide +kernel
theorem dX5_plan_36 : decode cX5_plan 36 = .ok (.if_icmp .ne 11, 3) := by decide +kernel
theorem dX5_plan_39 : decode cX5_plan 39 = .ok (.aload_n 0, 1) := by decide +kernel
theorem dX5_plan_40 : decode cX5_plan 40 = .ok (.iload_n 2, 1) := by decide +kernel
theorem dX5_plan_41 : decode cX5_plan 41 = .ok (.invokevirtual 87, 3) := by decide +kernel
theorem dX5_plan_44 : decode cX5_plan 44 = .ok (.goto 7, 3) := by decide +kernel
theorem dX5_plan_47 : decode cX5_plan 47 = .ok (.iload_n 2, 1) := by decide +kernel
theorem dX5_plan_48 : decode cX5_plan 48 = .ok (.invokestatic 68, 3) := by decide +kernel
theorem dX5_plan_51 : decode cX5_plan 51 = .ok (.ireturn, 1) := by decide +kernel
theorem dX5_plan_52 : decode cX5_plan 52 = .ok (.iconst 0, 1) := by decide +kernel
theorem dX5_plan_53 : decode cX5_plan 53 = .ok (.istore_n 3, 1) := by decide +kernel
theorem dX5_plan_54 : decode cX5_plan 54 = .ok (.aload_n 0, 1) := by decide +kernel
theorem dX5_plan_55 : decode cX5_plan 55 = .ok (.aload_n 0, 1) := by decide +kernel
theorem dX5_plan_56 : decode cX5_plan 56 = .ok (.getfield 44, 3) := by decide +kernel
theorem dX5_plan_59 : decode cX5_plan 59 = .ok (.iload_n 2, 1) := by decide +kernel
theorem dX5_plan_60 : decode cX5_plan 60 = .ok (.ior, 1) := by decide +kernel
theorem dX5_plan_61 : decode cX5_plan 61 = .ok (.iload_n 3, 1) := by decide +kernel
theorem dX5_plan_62 : decode cX5_plan 62 = .ok (.invokevirtual 83, 3) := by decide +kernel
theorem dX5_plan_65 : decode cX5_plan 65 = .ok (.aload_n 0, 1) := by decide +kernel
theorem dX5_plan_66 : decode cX5_plan 66 = .ok (.invokevirtual 40, 3) := by decide +kernel
theorem dX5_plan_69 : decode cX5_plan 69 = .ok (.if_icmp .eq 9, 3) := by decide +kernel
theorem dX5_plan_72 : decode cX5_plan 72 = .ok (.iinc 3 1, 3) := by decide +kernel
theorem dX5_plan_75 : decode cX5_plan 75 = .ok (.goto (-21), 3) := by decide +kernel
theorem dX5_plan_78 : decode cX5_plan 78 = .ok (.iload_n 3, 1) := by decide +kernel
theorem dX5_plan_79 : decode cX5_plan 79 = .ok (.ireturn, 1) := by decide +kernel
set_option maxRecDepth 20000 in
theorem ggX5_saves_X5_isWord : GoodIn wsX5_saves wsX5_isWord := goodIn_r _ [6, 7, 8, 9, 5, 10, 43, 44, 45, 46, 47, 48, 49, 50, 51, 52] (by decide +kernel) (by decide +kernel)
set_option maxRecDepth 20000 in
theorem gX5_saves_X5_isWord : GoodIn wsX5_saves (wsV RX5 50 RX5 yX5_isWord wsX5_isWord) := goodIn_app (goodIn_of _ (by decide +kernel)) ggX5_saves_X5_isWord
set_option maxRecDepth 20000 in
theorem ggX5_saves_X5_planFor : GoodIn wsX5_saves wsX5_planFor := goodIn_r _ [14, 15, 16, 17, 5, 18, 7, 19, 20, 21, 22, 23, 24, 25, 26, 27, 28, 29, 30, 31, 32, 33, 34, 35, 36, 37, 38, 39, 40, 41, 42, 43, 44, 45, 46, 47, 48, 49, 50, 51, 52] (by decide +kernel) (by decide +kernel)
set_option maxRecDepth 20000 in
theorem gX5_saves_X5_planFor : GoodIn wsX5_saves (wsV RX5 93 RX5 yX5_planFor wsX5_planFor) := goodIn_app (goodIn_of _ (by decide +kernel)) ggX5_saves_X5_planFor
set_option maxRecDepth 20000 in
theorem ggX5_saves_X5_costOf : GoodIn wsX5_saves wsX5_costOf := goodIn_r _ [26, 7, 27, 28, 29, 5, 30, 43, 44, 45, 46, 47, 48, 49, 50, 51, 52] (by decide +kernel) (by decide +kernel)
set_option maxRecDepth 20000 in
theorem gX5_saves_X5_costOf : GoodIn wsX5_saves (wsV RX5 87 RX5 yX5_costOf wsX5_costOf) := goodIn_app (goodIn_of _ (by decide +kernel)) ggX5_saves_X5_costOf
theorem dX5_saves_0 : decode cX5_saves 0 = .ok (.aload_n 0, 1) := by decide +kernel
theorem dX5_saves_1 : decode cX5_saves 1 = .ok (.iload_n 1, 1) := by decide +kernel
theorem dX5_saves_2 : decode cX5_saves 2 = .ok (.invokevirtual 50, 3) := by decide +kernel
theorem dX5_saves_5 : decode cX5_saves 5 = .ok (.ifCond .ne 5, 3) := by decide +kernel
theorem dX5_saves_8 : decode cX5_saves 8 = .ok (.iconst (-1), 1) := by decide +kernel
theorem dX5_saves_9 : decode cX5_saves 9 = .ok (.ireturn, 1) := by decide +kernel
theorem dX5_saves_10 : decode cX5_saves 10 = .ok (.aload_n 0, 1) := by decide +kernel
theorem dX5_saves_11 : decode cX5_saves 11 = .ok (.aload_n 0, 1) := by decide +kernel
theorem dX5_saves_12 : decode cX5_saves 12 = .ok (.aload_n 0, 1) := by decide +kernel
theorem dX5_saves_13 : decode cX5_saves 13 = .ok (.getfield 44, 3) := by decide +kernel
theorem dX5_saves_16 : decode cX5_saves 16 = .ok (.invokevirtual 93, 3) := by decide +kernel
theorem dX5_saves_19 : decode cX5_saves 19 = .ok (.invokevirtual 87, 3) := by decide +kernel
theorem dX5_saves_22 : decode cX5_saves 22 = .ok (.aload_n 0, 1) := by decide +kernel
theorem dX5_saves_23 : decode cX5_saves 23 = .ok (.aload_n 0, 1) := by decide +kernel
theorem dX5_saves_24 : decode cX5_saves 24 = .ok (.aload_n 0, 1) := by decide +kernel
theorem dX5_saves_25 : decode cX5_saves 25 = .ok (.getfield 44, 3) := by decide +kernel
theorem dX5_saves_28 : decode cX5_saves 28 = .ok (.iconst 1, 1) := by decide +kernel
theorem dX5_saves_29 : decode cX5_saves 29 = .ok (.iload_n 1, 1) := by decide +kernel
theorem dX5_saves_30 : decode cX5_saves 30 = .ok (.ishl, 1) := by decide +kernel
theorem dX5_saves_31 : decode cX5_saves 31 = .ok (.ior, 1) := by decide +kernel
theorem dX5_saves_32 : decode cX5_saves 32 = .ok (.invokevirtual 93, 3) := by decide +kernel
theorem dX5_saves_35 : decode cX5_saves 35 = .ok (.invokevirtual 87, 3) := by decide +kernel
theorem dX5_saves_38 : decode cX5_saves 38 = .ok (.isub, 1) := by decide +kernel
theorem dX5_saves_39 : decode cX5_saves 39 = .ok (.ireturn, 1) := by decide +kernel
set_option maxRecDepth 20000 in
theorem ggX5_isLeast_X5_has : GoodIn wsX5_isLeast wsX5_has := goodIn_r _ [6] (by decide +kernel) (by decide +kernel)
set_option maxRecDepth 20000 in
theorem gX5_isLeast_X5_has : GoodIn wsX5_isLeast (va_wsS RX5 58 yX5_has wsX5_has) := goodIn_app (goodIn_of _ (by decide +kernel)) ggX5_isLeast_X5_has
theorem dX5_isLeast_0 : decode cX5_isLeast 0 = .ok (.aload_n 0, 1) := by decide +kernel
theorem dX5_isLeast_1 : decode cX5_isLeast 1 = .ok (.getfield 26, 3) := by decide +kernel
theorem dX5_isLeast_4 : decode cX5_isLeast 4 = .ok (.iload_n 1, 1) := by decide +kernel
theorem dX5_isLeast_5 : decode cX5_isLeast 5 = .ok (.baload, 1) := by decide +kernel
theorem dX5_isLeast_6 : decode cX5_isLeast 6 = .ok (.istore_n 2, 1) := by decide +kernel
theorem dX5_isLeast_7 : decode cX5_isLeast 7 = .ok (.iconst 0, 1) := by decide +kernel
theorem dX5_isLeast_8 : decode cX5_isLeast 8 = .ok (.istore_n 3, 1) := by decide +kernel
theorem dX5_isLeast_9 : decode cX5_isLeast 9 = .ok (.iload_n 3, 1) := by decide +kernel
theorem dX5_isLeast_10 : decode cX5_isLeast 10 = .ok (.aload_n 0, 1) := by decide +kernel
theorem dX5_isLeast_11 : decode cX5_isLeast 11 = .ok (.getfield 7, 3) := by decide +kernel
theorem dX5_isLeast_14 : decode cX5_isLeast 14 = .ok (.if_icmp .ge 42, 3) := by decide +kernel
theorem dX5_isLeast_17 : decode cX5_isLeast 17 = .ok (.iload_n 2, 1) := by decide +kernel
theorem dX5_isLeast_18 : decode cX5_isLeast 18 = .ok (.ifCond .eq 30, 3) := by decide +kernel
theorem dX5_isLeast_21 : decode cX5_isLeast 21 = .ok (.iload_n 1, 1) := by decide +kernel
theorem dX5_isLeast_22 : decode cX5_isLeast 22 = .ok (.iload_n 3, 1) := by decide +kernel
theorem dX5_isLeast_23 : decode cX5_isLeast 23 = .ok (.invokestatic 58, 3) := by decide +kernel
theorem dX5_isLeast_26 : decode cX5_isLeast 26 = .ok (.ifCond .eq 18, 3) := by decide +kernel
theorem dX5_isLeast_29 : decode cX5_isLeast 29 = .ok (.aload_n 0, 1) := by decide +kernel
theorem dX5_isLeast_30 : decode cX5_isLeast 30 = .ok (.getfield 26, 3) := by decide +kernel
theorem dX5_isLeast_33 : decode cX5_isLeast 33 = .ok (.iload_n 1, 1) := by decide +kernel
theorem dX5_isLeast_34 : decode cX5_isLeast 34 = .ok (.iconst 1, 1) := by decide +kernel
theorem dX5_isLeast_35 : decode cX5_isLeast 35 = .ok (.iload_n 3, 1) := by decide +kernel
theorem dX5_isLeast_36 : decode cX5_isLeast 36 = .ok (.ishl, 1) := by decide +kernel
theorem dX5_isLeast_37 : decode cX5_isLeast 37 = .ok (.iconst (-1), 1) := by decide +kernel
theorem dX5_isLeast_38 : decode cX5_isLeast 38 = .ok (.ixor, 1) := by decide +kernel
theorem dX5_isLeast_39 : decode cX5_isLeast 39 = .ok (.iand, 1) := by decide +kernel
theorem dX5_isLeast_40 : decode cX5_isLeast 40 = .ok (.baload, 1) := by decide +kernel
theorem dX5_isLeast_41 : decode cX5_isLeast 41 = .ok (.ifCond .ne 7, 3) := by decide +kernel
theorem dX5_isLeast_44 : decode cX5_isLeast 44 = .ok (.iconst 1, 1) := by decide +kernel
theorem dX5_isLeast_45 : decode cX5_isLeast 45 = .ok (.goto 4, 3) := by decide +kernel
theorem dX5_isLeast_48 : decode cX5_isLeast 48 = .ok (.iconst 0, 1) := by decide +kernel
theorem dX5_isLeast_49 : decode cX5_isLeast 49 = .ok (.istore_n 2, 1) := by decide +kernel
theorem dX5_isLeast_50 : decode cX5_isLeast 50 = .ok (.iinc 3 1, 3) := by decide +kernel
theorem dX5_isLeast_53 : decode cX5_isLeast 53 = .ok (.goto (-44), 3) := by decide +kernel
theorem dX5_isLeast_56 : decode cX5_isLeast 56 = .ok (.iload_n 2, 1) := by decide +kernel
theorem dX5_isLeast_57 : decode cX5_isLeast 57 = .ok (.ireturn, 1) := by decide +kernel
set_option maxRecDepth 20000 in
theorem ggX5_least_X5_in : GoodIn wsX5_least wsX5_in := goodIn_r _ [6] (by decide +kernel) (by decide +kernel)
set_option maxRecDepth 20000 in
theorem gX5_least_X5_in : GoodIn wsX5_least (va_wsS RX5 36 yX5_in wsX5_in) := goodIn_app (goodIn_of _ (by decide +kernel)) ggX5_least_X5_in
set_option maxRecDepth 20000 in
theorem ggX5_least_X5_all : GoodIn wsX5_least wsX5_all := goodIn_r _ [10, 1, 30, 31, 32, 33, 34, 35, 36, 37, 38, 39] (by decide +kernel) (by decide +kernel)
set_option maxRecDepth 20000 in
theorem gX5_least_X5_all : GoodIn wsX5_least (wsV RX5 40 RX5 yX5_all wsX5_all) := goodIn_app (goodIn_of _ (by decide +kernel)) ggX5_least_X5_all
set_option maxRecDepth 20000 in
theorem ggX5_least_X5_knownOn : GoodIn wsX5_least wsX5_knownOn := goodIn_r _ [14, 15, 16, 17, 5, 18, 1, 19, 30, 31, 32, 33, 34, 35, 36, 37, 38, 39] (by decide +kernel) (by decide +kernel)
set_option maxRecDepth 20000 in
theorem gX5_least_X5_knownOn : GoodIn wsX5_least (wsV RX5 83 RX5 yX5_knownOn wsX5_knownOn) := goodIn_app (goodIn_of _ (by decide +kernel)) ggX5_least_X5_knownOn
set_option maxRecDepth 20000 in
theorem ggX5_least_X5_isLeast : GoodIn wsX5_least wsX5_isLeast := goodIn_r _ [23, 2, 1, 24, 25, 5, 26, 30, 31, 32, 33, 34, 35, 36, 37, 38, 39] (by decide +kernel) (by decide +kernel)
set_option maxRecDepth 20000 in
theorem gX5_least_X5_isLeast : GoodIn wsX5_least (wsV RX5 96 RX5 yX5_isLeast wsX5_isLeast) := goodIn_app (goodIn_of _ (by decide +kernel)) ggX5_least_X5_isLeast
set_option maxRecDepth 20000 in
theorem ggX5_least_X5_bits : GoodIn wsX5_least wsX5_bits := goodIn_r _ [29] (by decide +kernel) (by decide +kernel)
set_option maxRecDepth 20000 in
theorem gX5_least_X5_bits : GoodIn wsX5_least (va_wsS RX5 68 yX5_bits wsX5_bits) := goodIn_app (goodIn_of _ (by decide +kernel)) ggX5_least_X5_bits
set_option maxRecDepth 20000 in
theorem ggX5_least_X5_has : GoodIn wsX5_least wsX5_has := goodIn_r _ [26] (by decide +kernel) (by decide +kernel)
set_option maxRecDepth 20000 in
theorem gX5_least_X5_has : GoodIn wsX5_least (va_wsS RX5 58 yX5_has wsX5_has) := goodIn_app (goodIn_of _ (by decide +kernel)) ggX5_least_X5_has
theorem dX5_least_0 : decode cX5_least 0 = .ok (.iload_n 1, 1) := by decide +kernel
theorem dX5_least_1 : decode cX5_least 1 = .ok (.iconst 0, 1) := by decide +kernel
theorem dX5_least_2 : decode cX5_least 2 = .ok (.iconst 1, 1) := by decide +kernel
theorem dX5_least_3 : decode cX5_least 3 = .ok (.invokestatic 36, 3) := by decide +kernel
theorem dX5_least_6 : decode cX5_least 6 = .ok (.ifCond .ne 22, 3) := by decide +kernel
theorem dX5_least_9 : decode cX5_least 9 = .ok (.iload_n 1, 1) := by decide +kernel
theorem dX5_least_10 : decode cX5_least 10 = .ok (.bipush 10, 2) := by decide +kernel
theorem dX5_least_12 : decode cX5_least 12 = .ok (.bipush 9, 2) := by decide +kernel
theorem dX5_least_14 : decode cX5_least 14 = .ok (.aload_n 0, 1) := by decide +kernel
theorem dX5_least_15 : decode cX5_least 15 = .ok (.getfield 7, 3) := by decide +kernel
theorem dX5_least_18 : decode cX5_least 18 = .ok (.iadd, 1) := by decide +kernel
theorem dX5_least_19 : decode cX5_least 19 = .ok (.invokestatic 36, 3) := by decide +kernel
theorem dX5_least_22 : decode cX5_least 22 = .ok (.ifCond .ne 6, 3) := by decide +kernel
theorem dX5_least_25 : decode cX5_least 25 = .ok (.bipush (-2), 2) := by decide +kernel
theorem dX5_least_27 : decode cX5_least 27 = .ok (.ireturn, 1) := by decide +kernel
theorem dX5_least_28 : decode cX5_least 28 = .ok (.iconst 0, 1) := by decide +kernel
theorem dX5_least_29 : decode cX5_least 29 = .ok (.istore_n 2, 1) := by decide +kernel
theorem dX5_least_30 : decode cX5_least 30 = .ok (.iload_n 2, 1) := by decide +kernel
theorem dX5_least_31 : decode cX5_least 31 = .ok (.aload_n 0, 1) := by decide +kernel
theorem dX5_least_32 : decode cX5_least 32 = .ok (.invokevirtual 40, 3) := by decide +kernel
theorem dX5_least_35 : decode cX5_least 35 = .ok (.if_icmp .gt 34, 3) := by decide +kernel
theorem dX5_least_38 : decode cX5_least 38 = .ok (.aload_n 0, 1) := by decide +kernel
theorem dX5_least_39 : decode cX5_least 39 = .ok (.getfield 26, 3) := by decide +kernel
theorem dX5_least_42 : decode cX5_least 42 = .ok (.iload_n 2, 1) := by decide +kernel
theorem dX5_least_43 : decode cX5_least 43 = .ok (.aload_n 0, 1) := by decide +kernel
theorem dX5_least_44 : decode cX5_least 44 = .ok (.iload_n 2, 1) := by decide +kernel
theorem dX5_least_45 : decode cX5_least 45 = .ok (.bipush 14, 2) := by decide +kernel
theorem dX5_least_47 : decode cX5_least 47 = .ok (.invokevirtual 83, 3) := by decide +kernel
theorem dX5_least_50 : decode cX5_least 50 = .ok (.aload_n 0, 1) := by decide +kernel
theorem dX5_least_51 : decode cX5_least 51 = .ok (.invokevirtual 40, 3) := by decide +kernel
theorem dX5_least_54 : decode cX5_least 54 = .ok (.if_icmp .ne 7, 3) := by decide +kernel
theorem dX5_least_57 : decode cX5_least 57 = .ok (.iconst 1, 1) := by decide +kernel
theorem dX5_least_58 : decode cX5_least 58 = .ok (.goto 4, 3) := by decide +kernel
theorem dX5_least_61 : decode cX5_least 61 = .ok (.iconst 0, 1) := by decide +kernel
theorem dX5_least_62 : decode cX5_least 62 = .ok (.bastore, 1) := by decide +kernel
theorem dX5_least_63 : decode cX5_least 63 = .ok (.iinc 2 1, 3) := by decide +kernel
theorem dX5_least_66 : decode cX5_least 66 = .ok (.goto (-36), 3) := by decide +kernel
theorem dX5_least_69 : decode cX5_least 69 = .ok (.iconst 0, 1) := by decide +kernel
theorem dX5_least_70 : decode cX5_least 70 = .ok (.istore_n 2, 1) := by decide +kernel
theorem dX5_least_71 : decode cX5_least 71 = .ok (.iconst 0, 1) := by decide +kernel
theorem dX5_least_72 : decode cX5_least 72 = .ok (.istore_n 3, 1) := by decide +kernel
theorem dX5_least_73 : decode cX5_least 73 = .ok (.iconst 0, 1) := by decide +kernel
theorem dX5_least_74 : decode cX5_least 74 = .ok (.istore 4, 2) := by decide +kernel
theorem dX5_least_76 : decode cX5_least 76 = .ok (.iconst 0, 1) := by decide +kernel
theorem dX5_least_77 : decode cX5_least 77 = .ok (.istore 5, 2) := by decide +kernel
theorem dX5_least_79 : decode cX5_least 79 = .ok (.iload 5, 2) := by decide +kernel
theorem dX5_least_81 : decode cX5_least 81 = .ok (.aload_n 0, 1) := by decide +kernel
theorem dX5_least_82 : decode cX5_least 82 = .ok (.invokevirtual 40, 3) := by decide +kernel
theorem dX5_least_85 : decode cX5_least 85 = .ok (.if_icmp .gt 68, 3) := by decide +kernel
theorem dX5_least_88 : decode cX5_least 88 = .ok (.aload_n 0, 1) := by decide +kernel
theorem dX5_least_89 : decode cX5_least 89 = .ok (.iload 5, 2) := by decide +kernel
theorem dX5_least_91 : decode cX5_least 91 = .ok (.invokevirtual 96, 3) := by decide +kernel
theorem dX5_least_94 : decode cX5_least 94 = .ok (.ifCond .eq 53, 3) := by decide +kernel
theorem dX5_least_97 : decode cX5_least 97 = .ok (.iinc 2 1, 3) := by decide +kernel
theorem dX5_least_100 : decode cX5_least 100 = .ok (.iload 5, 2) := by decide +kernel
theorem dX5_least_102 : decode cX5_least 102 = .ok (.invokestatic 68, 3) := by decide +kernel
theorem dX5_least_105 : decode cX5_least 105 = .ok (.iload_n 3, 1) := by decide +kernel
theorem dX5_least_106 : decode cX5_least 106 = .ok (.if_icmp .le 11, 3) := by decide +kernel
theorem dX5_least_109 : decode cX5_least 109 = .ok (.iload 5, 2) := by decide +kernel
theorem dX5_least_111 : decode cX5_least 111 = .ok (.invokestatic 68, 3) := by decide +kernel
theorem dX5_least_114 : decode cX5_least 114 = .ok (.goto 4, 3) := by decide +kernel
theorem dX5_least_117 : decode cX5_least 117 = .ok (.iload_n 3, 1) := by decide +kernel
theorem dX5_least_118 : decode cX5_least 118 = .ok (.istore_n 3, 1) := by decide +kernel
theorem dX5_least_119 : decode cX5_least 119 = .ok (.iload 4, 2) := by decide +kernel
theorem dX5_least_121 : decode cX5_least 121 = .ok (.iload_n 1, 1) := by decide +kernel
theorem dX5_least_122 : decode cX5_least 122 = .ok (.bipush 9, 2) := by decide +kernel
theorem dX5_least_124 : decode cX5_least 124 = .ok (.if_icmp .le 19, 3) := by decide +kernel
theorem dX5_least_127 : decode cX5_least 127 = .ok (.iload 5, 2) := by decide +kernel
theorem dX5_least_129 : decode cX5_least 129 = .ok (.iload_n 1, 1) := by decide +kernel
theorem dX5_least_130 : decode cX5_least 130 = .ok (.bipush 10, 2) := by decide +kernel
theorem dX5_least_132 : decode cX5_least 132 = .ok (.isub, 1) := by decide +kernel
theorem dX5_least_133 : decode cX5_least 133 = .ok (.invokestatic 58, 3) := by decide +kernel
theorem dX5_least_136 : decode cX5_least 136 = .ok (.ifCond .eq 7, 3) := by decide +kernel
theorem dX5_least_139 : decode cX5_least 139 = .ok (.iconst 1, 1) := by decide +kernel
theorem dX5_least_140 : decode cX5_least 140 = .ok (.goto 4, 3) := by decide +kernel
theorem dX5_least_143 : decode cX5_least 143 = .ok (.iconst 0, 1) := by decide +kernel
theorem dX5_least_144 : decode cX5_least 144 = .ok (.iadd, 1) := by decide +kernel
theorem dX5_least_145 : decode cX5_least 145 = .ok (.istore 4, 2) := by decide +kernel
theorem dX5_least_147 : decode cX5_least 147 = .ok (.iinc 5 1, 3) := by decide +kernel
theorem dX5_least_150 : decode cX5_least 150 = .ok (.goto (-71), 3) := by decide +kernel
theorem dX5_least_153 : decode cX5_least 153 = .ok (.iload_n 1, 1) := by decide +kernel
theorem dX5_least_154 : decode cX5_least 154 = .ok (.ifCond .ne 7, 3) := by decide +kernel
theorem dX5_least_157 : decode cX5_least 157 = .ok (.iload_n 2, 1) := by decide +kernel
theorem dX5_least_158 : decode cX5_least 158 = .ok (.goto 14, 3) := by decide +kernel
theorem dX5_least_161 : decode cX5_least 161 = .ok (.iload_n 1, 1) := by decide +kernel
theorem dX5_least_162 : decode cX5_least 162 = .ok (.iconst 1, 1) := by decide +kernel
theorem dX5_least_163 : decode cX5_least 163 = .ok (.if_icmp .ne 7, 3) := by decide +kernel
theorem dX5_least_166 : decode cX5_least 166 = .ok (.iload_n 3, 1) := by decide +kernel
theorem dX5_least_167 : decode cX5_least 167 = .ok (.goto 5, 3) := by decide +kernel
theorem dX5_least_170 : decode cX5_least 170 = .ok (.iload 4, 2) := by decide +kernel
theorem dX5_least_172 : decode cX5_least 172 = .ok (.ireturn, 1) := by decide +kernel
set_option maxRecDepth 20000 in
theorem ggX5_reached_X5_has : GoodIn wsX5_reached wsX5_has := goodIn_r _ [6] (by decide +kernel) (by decide +kernel)
set_option maxRecDepth 20000 in
theorem gX5_reached_X5_has : GoodIn wsX5_reached (va_wsS RX5 58 yX5_has wsX5_has) := goodIn_app (goodIn_of _ (by decide +kernel)) ggX5_reached_X5_has
theorem dX5_reached_0 : decode cX5_reached 0 = .ok (.iconst 1, 1) := by decide +kernel
theorem dX5_reached_1 : decode cX5_reached 1 = .ok (.iload_n 1, 1) := by decide +kernel
theorem dX5_reached_2 : decode cX5_reached 2 = .ok (.ishl, 1) := by decide +kernel
theorem dX5_reached_3 : decode cX5_reached 3 = .ok (.istore_n 3, 1) := by decide +kernel
theorem dX5_reached_4 : decode cX5_reached 4 = .ok (.iconst 0, 1) := by decide +kernel
theorem dX5_reached_5 : decode cX5_reached 5 = .ok (.istore 4, 2) := by decide +kernel
theorem dX5_reached_7 : decode cX5_reached 7 = .ok (.iload 4, 2) := by decide +kernel
theorem dX5_reached_9 : decode cX5_reached 9 = .ok (.iload_n 2, 1) := by decide +kernel
theorem dX5_reached_10 : decode cX5_reached 10 = .ok (.if_icmp .ge 68, 3) := by decide +kernel
theorem dX5_reached_13 : decode cX5_reached 13 = .ok (.iconst 0, 1) := by decide +kernel
theorem dX5_reached_14 : decode cX5_reached 14 = .ok (.istore 5, 2) := by decide +kernel
theorem dX5_reached_16 : decode cX5_reached 16 = .ok (.iconst 0, 1) := by decide +kernel
theorem dX5_reached_17 : decode cX5_reached 17 = .ok (.istore 6, 2) := by decide +kernel
theorem dX5_reached_19 : decode cX5_reached 19 = .ok (.iload 6, 2) := by decide +kernel
theorem dX5_reached_21 : decode cX5_reached 21 = .ok (.aload_n 0, 1) := by decide +kernel
theorem dX5_reached_22 : decode cX5_reached 22 = .ok (.getfield 7, 3) := by decide +kernel
theorem dX5_reached_25 : decode cX5_reached 25 = .ok (.if_icmp .ge 44, 3) := by decide +kernel
theorem dX5_reached_28 : decode cX5_reached 28 = .ok (.iload 5, 2) := by decide +kernel
theorem dX5_reached_30 : decode cX5_reached 30 = .ok (.iload_n 3, 1) := by decide +kernel
theorem dX5_reached_31 : decode cX5_reached 31 = .ok (.iload 6, 2) := by decide +kernel
theorem dX5_reached_33 : decode cX5_reached 33 = .ok (.invokestatic 58, 3) := by decide +kernel
theorem dX5_reached_36 : decode cX5_reached 36 = .ok (.ifCond .eq 23, 3) := by decide +kernel
theorem dX5_reached_39 : decode cX5_reached 39 = .ok (.aload_n 0, 1) := by decide +kernel
theorem dX5_reached_40 : decode cX5_reached 40 = .ok (.getfield 13, 3) := by decide +kernel
theorem dX5_reached_43 : decode cX5_reached 43 = .ok (.iload 6, 2) := by decide +kernel
theorem dX5_reached_45 : decode cX5_reached 45 = .ok (.iaload, 1) := by decide +kernel
theorem dX5_reached_46 : decode cX5_reached 46 = .ok (.ifCond .lt 13, 3) := by decide +kernel
theorem dX5_reached_49 : decode cX5_reached 49 = .ok (.aload_n 0, 1) := by decide +kernel
theorem dX5_reached_50 : decode cX5_reached 50 = .ok (.getfield 13, 3) := by decide +kernel
theorem dX5_reached_53 : decode cX5_reached 53 = .ok (.iload 6, 2) := by decide +kernel
theorem dX5_reached_55 : decode cX5_reached 55 = .ok (.iaload, 1) := by decide +kernel
theorem dX5_reached_56 : decode cX5_reached 56 = .ok (.goto 4, 3) := by decide +kernel
theorem dX5_reached_59 : decode cX5_reached 59 = .ok (.iconst 0, 1) := by decide +kernel
theorem dX5_reached_60 : decode cX5_reached 60 = .ok (.ior, 1) := by decide +kernel
theorem dX5_reached_61 : decode cX5_reached 61 = .ok (.istore 5, 2) := by decide +kernel
theorem dX5_reached_63 : decode cX5_reached 63 = .ok (.iinc 6 1, 3) := by decide +kernel
theorem dX5_reached_66 : decode cX5_reached 66 = .ok (.goto (-47), 3) := by decide +kernel
theorem dX5_reached_69 : decode cX5_reached 69 = .ok (.iload 5, 2) := by decide +kernel
theorem dX5_reached_71 : decode cX5_reached 71 = .ok (.istore_n 3, 1) := by decide +kernel
theorem dX5_reached_72 : decode cX5_reached 72 = .ok (.iinc 4 1, 3) := by decide +kernel
theorem dX5_reached_75 : decode cX5_reached 75 = .ok (.goto (-68), 3) := by decide +kernel
theorem dX5_reached_78 : decode cX5_reached 78 = .ok (.iload_n 3, 1) := by decide +kernel
theorem dX5_reached_79 : decode cX5_reached 79 = .ok (.ireturn, 1) := by decide +kernel
set_option maxRecDepth 20000 in
theorem ggX5_wayOf_X5_reached : GoodIn wsX5_wayOf wsX5_reached := goodIn_r _ [6, 1, 7, 8, 9, 5, 10, 11, 12, 13, 14, 15, 16, 17, 18, 19, 20] (by decide +kernel) (by decide +kernel)
set_option maxRecDepth 20000 in
theorem gX5_wayOf_X5_reached : GoodIn wsX5_wayOf (wsV RX5 99 RX5 yX5_reached wsX5_reached) := goodIn_app (goodIn_of _ (by decide +kernel)) ggX5_wayOf_X5_reached
set_option maxRecDepth 20000 in
theorem ggX5_wayOf_X5_has : GoodIn wsX5_wayOf wsX5_has := goodIn_r _ [10] (by decide +kernel) (by decide +kernel)
set_option maxRecDepth 20000 in
theorem gX5_wayOf_X5_has : GoodIn wsX5_wayOf (va_wsS RX5 58 yX5_has wsX5_has) := goodIn_app (goodIn_of _ (by decide +kernel)) ggX5_wayOf_X5_has
theorem dX5_wayOf_0 : decode cX5_wayOf 0 = .ok (.iconst 1, 1) := by decide +kernel
theorem dX5_wayOf_1 : decode cX5_wayOf 1 = .ok (.istore_n 3, 1) := by decide +kernel
theorem dX5_wayOf_2 : decode cX5_wayOf 2 = .ok (.iload_n 3, 1) := by decide +kernel
theorem dX5_wayOf_3 : decode cX5_wayOf 3 = .ok (.aload_n 0, 1) := by decide +kernel
theorem dX5_wayOf_4 : decode cX5_wayOf 4 = .ok (.getfield 7, 3) := by decide +kernel
theorem dX5_wayOf_7 : decode cX5_wayOf 7 = .ok (.if_icmp .gt 24, 3) := by decide +kernel
theorem dX5_wayOf_10 : decode cX5_wayOf 10 = .ok (.aload_n 0, 1) := by decide +kernel
theorem dX5_wayOf_11 : decode cX5_wayOf 11 = .ok (.iload_n 1, 1) := by decide +kernel
theorem dX5_wayOf_12 : decode cX5_wayOf 12 = .ok (.iload_n 3, 1) := by decide +kernel
theorem dX5_wayOf_13 : decode cX5_wayOf 13 = .ok (.invokevirtual 99, 3) := by decide +kernel
theorem dX5_wayOf_16 : decode cX5_wayOf 16 = .ok (.iload_n 2, 1) := by decide +kernel
theorem dX5_wayOf_17 : decode cX5_wayOf 17 = .ok (.invokestatic 58, 3) := by decide +kernel
theorem dX5_wayOf_20 : decode cX5_wayOf 20 = .ok (.ifCond .eq 5, 3) := by decide +kernel
theorem dX5_wayOf_23 : decode cX5_wayOf 23 = .ok (.iload_n 3, 1) := by decide +kernel
theorem dX5_wayOf_24 : decode cX5_wayOf 24 = .ok (.ireturn, 1) := by decide +kernel
theorem dX5_wayOf_25 : decode cX5_wayOf 25 = .ok (.iinc 3 1, 3) := by decide +kernel
theorem dX5_wayOf_28 : decode cX5_wayOf 28 = .ok (.goto (-26), 3) := by decide +kernel
theorem dX5_wayOf_31 : decode cX5_wayOf 31 = .ok (.bipush (-6), 2) := by decide +kernel
theorem dX5_wayOf_33 : decode cX5_wayOf 33 = .ok (.ireturn, 1) := by decide +kernel
set_option maxRecDepth 20000 in
theorem ggX5_way_X5_isWord : GoodIn wsX5_way wsX5_isWord := goodIn_r _ [5, 6, 7, 8, 4, 9, 22, 23, 24, 25, 26, 27, 28, 29, 30, 31] (by decide +kernel) (by decide +kernel)
set_option maxRecDepth 20000 in
theorem gX5_way_X5_isWord : GoodIn wsX5_way (wsV RX5 50 RX5 yX5_isWord wsX5_isWord) := goodIn_app (goodIn_of _ (by decide +kernel)) ggX5_way_X5_isWord
set_option maxRecDepth 20000 in
theorem ggX5_way_X5_wayOf : GoodIn wsX5_way wsX5_wayOf := goodIn_r _ [13, 6, 14, 15, 16, 4, 17, 18, 19, 20, 21, 22, 23, 24, 25, 26, 27, 28, 29, 30, 31] (by decide +kernel) (by decide +kernel)
set_option maxRecDepth 20000 in
theorem gX5_way_X5_wayOf : GoodIn wsX5_way (wsV RX5 102 RX5 yX5_wayOf wsX5_wayOf) := goodIn_app (goodIn_of _ (by decide +kernel)) ggX5_way_X5_wayOf
theorem dX5_way_0 : decode cX5_way 0 = .ok (.aload_n 0, 1) := by decide +kernel
theorem dX5_way_1 : decode cX5_way 1 = .ok (.iload_n 1, 1) := by decide +kernel
theorem dX5_way_2 : decode cX5_way 2 = .ok (.invokevirtual 50, 3) := by decide +kernel
theorem dX5_way_5 : decode cX5_way 5 = .ok (.ifCond .eq 20, 3) := by decide +kernel
theorem dX5_way_8 : decode cX5_way 8 = .ok (.aload_n 0, 1) := by decide +kernel
theorem dX5_way_9 : decode cX5_way 9 = .ok (.iload_n 2, 1) := by decide +kernel
theorem dX5_way_10 : decode cX5_way 10 = .ok (.invokevirtual 50, 3) := by decide +kernel
theorem dX5_way_13 : decode cX5_way 13 = .ok (.ifCond .eq 12, 3) := by decide +kernel
theorem dX5_way_16 : decode cX5_way 16 = .ok (.aload_n 0, 1) := by decide +kernel
theorem dX5_way_17 : decode cX5_way 17 = .ok (.iload_n 1, 1) := by decide +kernel
theorem dX5_way_18 : decode cX5_way 18 = .ok (.iload_n 2, 1) := by decide +kernel
theorem dX5_way_19 : decode cX5_way 19 = .ok (.invokevirtual 102, 3) := by decide +kernel
theorem dX5_way_22 : decode cX5_way 22 = .ok (.goto 4, 3) := by decide +kernel
theorem dX5_way_25 : decode cX5_way 25 = .ok (.iconst (-1), 1) := by decide +kernel
theorem dX5_way_26 : decode cX5_way 26 = .ok (.ireturn, 1) := by decide +kernel
set_option maxRecDepth 20000 in
theorem ggX5_ringOf_X5_wayOf : GoodIn wsX5_ringOf wsX5_wayOf := goodIn_r _ [6, 1, 7, 8, 9, 5, 10, 11, 12, 13, 14, 15, 16, 17, 18, 19, 20, 21, 22, 23, 24] (by decide +kernel) (by decide +kernel)
set_option maxRecDepth 20000 in
theorem gX5_ringOf_X5_wayOf : GoodIn wsX5_ringOf (wsV RX5 102 RX5 yX5_wayOf wsX5_wayOf) := goodIn_app (goodIn_of _ (by decide +kernel)) ggX5_ringOf_X5_wayOf
theorem dX5_ringOf_0 : decode cX5_ringOf 0 = .ok (.aload_n 0, 1) := by decide +kernel
theorem dX5_ringOf_1 : decode cX5_ringOf 1 = .ok (.iload_n 1, 1) := by decide +kernel
theorem dX5_ringOf_2 : decode cX5_ringOf 2 = .ok (.iload_n 1, 1) := by decide +kernel
theorem dX5_ringOf_3 : decode cX5_ringOf 3 = .ok (.invokevirtual 102, 3) := by decide +kernel
theorem dX5_ringOf_6 : decode cX5_ringOf 6 = .ok (.ifCond .ge 5, 3) := by decide +kernel
theorem dX5_ringOf_9 : decode cX5_ringOf 9 = .ok (.iconst 0, 1) := by decide +kernel
theorem dX5_ringOf_10 : decode cX5_ringOf 10 = .ok (.ireturn, 1) := by decide +kernel
theorem dX5_ringOf_11 : decode cX5_ringOf 11 = .ok (.iconst 0, 1) := by decide +kernel
theorem dX5_ringOf_12 : decode cX5_ringOf 12 = .ok (.istore_n 2, 1) := by decide +kernel
theorem dX5_ringOf_13 : decode cX5_ringOf 13 = .ok (.iconst 0, 1) := by decide +kernel
theorem dX5_ringOf_14 : decode cX5_ringOf 14 = .ok (.istore_n 3, 1) := by decide +kernel
theorem dX5_ringOf_15 : decode cX5_ringOf 15 = .ok (.iload_n 3, 1) := by decide +kernel
theorem dX5_ringOf_16 : decode cX5_ringOf 16 = .ok (.aload_n 0, 1) := by decide +kernel
theorem dX5_ringOf_17 : decode cX5_ringOf 17 = .ok (.getfield 7, 3) := by decide +kernel
theorem dX5_ringOf_20 : decode cX5_ringOf 20 = .ok (.if_icmp .ge 37, 3) := by decide +kernel
theorem dX5_ringOf_23 : decode cX5_ringOf 23 = .ok (.iload_n 2, 1) := by decide +kernel
theorem dX5_ringOf_24 : decode cX5_ringOf 24 = .ok (.aload_n 0, 1) := by decide +kernel
theorem dX5_ringOf_25 : decode cX5_ringOf 25 = .ok (.iload_n 1, 1) := by decide +kernel
theorem dX5_ringOf_26 : decode cX5_ringOf 26 = .ok (.iload_n 3, 1) := by decide +kernel
theorem dX5_ringOf_27 : decode cX5_ringOf 27 = .ok (.invokevirtual 102, 3) := by decide +kernel
theorem dX5_ringOf_30 : decode cX5_ringOf 30 = .ok (.ifCond .le 18, 3) := by decide +kernel
theorem dX5_ringOf_33 : decode cX5_ringOf 33 = .ok (.aload_n 0, 1) := by decide +kernel
theorem dX5_ringOf_34 : decode cX5_ringOf 34 = .ok (.iload_n 3, 1) := by decide +kernel
theorem dX5_ringOf_35 : decode cX5_ringOf 35 = .ok (.iload_n 1, 1) := by decide +kernel
theorem dX5_ringOf_36 : decode cX5_ringOf 36 = .ok (.invokevirtual 102, 3) := by decide +kernel
theorem dX5_ringOf_39 : decode cX5_ringOf 39 = .ok (.ifCond .le 9, 3) := by decide +kernel
theorem dX5_ringOf_42 : decode cX5_ringOf 42 = .ok (.iconst 1, 1) := by decide +kernel
theorem dX5_ringOf_43 : decode cX5_ringOf 43 = .ok (.iload_n 3, 1) := by decide +kernel
theorem dX5_ringOf_44 : decode cX5_ringOf 44 = .ok (.ishl, 1) := by decide +kernel
theorem dX5_ringOf_45 : decode cX5_ringOf 45 = .ok (.goto 4, 3) := by decide +kernel
theorem dX5_ringOf_48 : decode cX5_ringOf 48 = .ok (.iconst 0, 1) := by decide +kernel
theorem dX5_ringOf_49 : decode cX5_ringOf 49 = .ok (.ior, 1) := by decide +kernel
theorem dX5_ringOf_50 : decode cX5_ringOf 50 = .ok (.istore_n 2, 1) := by decide +kernel
theorem dX5_ringOf_51 : decode cX5_ringOf 51 = .ok (.iinc 3 1, 3) := by decide +kernel
theorem dX5_ringOf_54 : decode cX5_ringOf 54 = .ok (.goto (-39), 3) := by decide +kernel
theorem dX5_ringOf_57 : decode cX5_ringOf 57 = .ok (.iload_n 2, 1) := by decide +kernel
theorem dX5_ringOf_58 : decode cX5_ringOf 58 = .ok (.ireturn, 1) := by decide +kernel
set_option maxRecDepth 20000 in
theorem ggX5_ring_X5_ringOf : GoodIn wsX5_ring wsX5_ringOf := goodIn_r _ [6, 1, 7, 8, 9, 5, 10, 11, 12, 13, 14, 15, 16, 17, 18, 19, 20, 21, 22, 23, 24, 25, 26, 27, 28] (by decide +kernel) (by decide +kernel)
set_option maxRecDepth 20000 in
theorem gX5_ring_X5_ringOf : GoodIn wsX5_ring (wsV RX5 105 RX5 yX5_ringOf wsX5_ringOf) := goodIn_app (goodIn_of _ (by decide +kernel)) ggX5_ring_X5_ringOf
set_option maxRecDepth 20000 in
theorem ggX5_ring_X5_has : GoodIn wsX5_ring wsX5_has := goodIn_r _ [18] (by decide +kernel) (by decide +kernel)
set_option maxRecDepth 20000 in
theorem gX5_ring_X5_has : GoodIn wsX5_ring (va_wsS RX5 58 yX5_has wsX5_has) := goodIn_app (goodIn_of _ (by decide +kernel)) ggX5_ring_X5_has
theorem dX5_ring_0 : decode cX5_ring 0 = .ok (.iload_n 1, 1) := by decide +kernel
theorem dX5_ring_1 : decode cX5_ring 1 = .ok (.iconst (-1), 1) := by decide +kernel
theorem dX5_ring_2 : decode cX5_ring 2 = .ok (.if_icmp .ge 6, 3) := by decide +kernel
theorem dX5_ring_5 : decode cX5_ring 5 = .ok (.bipush (-2), 2) := by decide +kernel
theorem dX5_ring_7 : decode cX5_ring 7 = .ok (.ireturn, 1) := by decide +kernel
theorem dX5_ring_8 : decode cX5_ring 8 = .ok (.iconst 0, 1) := by decide +kernel
theorem dX5_ring_9 : decode cX5_ring 9 = .ok (.istore_n 2, 1) := by decide +kernel
theorem dX5_ring_10 : decode cX5_ring 10 = .ok (.iconst 0, 1) := by decide +kernel
theorem dX5_ring_11 : decode cX5_ring 11 = .ok (.istore_n 3, 1) := by decide +kernel
theorem dX5_ring_12 : decode cX5_ring 12 = .ok (.iconst 0, 1) := by decide +kernel
theorem dX5_ring_13 : decode cX5_ring 13 = .ok (.istore 4, 2) := by decide +kernel
theorem dX5_ring_15 : decode cX5_ring 15 = .ok (.iload 4, 2) := by decide +kernel
theorem dX5_ring_17 : decode cX5_ring 17 = .ok (.aload_n 0, 1) := by decide +kernel
theorem dX5_ring_18 : decode cX5_ring 18 = .ok (.getfield 7, 3) := by decide +kernel
theorem dX5_ring_21 : decode cX5_ring 21 = .ok (.if_icmp .ge 47, 3) := by decide +kernel
theorem dX5_ring_24 : decode cX5_ring 24 = .ok (.aload_n 0, 1) := by decide +kernel
theorem dX5_ring_25 : decode cX5_ring 25 = .ok (.iload 4, 2) := by decide +kernel
theorem dX5_ring_27 : decode cX5_ring 27 = .ok (.invokevirtual 105, 3) := by decide +kernel
theorem dX5_ring_30 : decode cX5_ring 30 = .ok (.istore 5, 2) := by decide +kernel
theorem dX5_ring_32 : decode cX5_ring 32 = .ok (.iload 5, 2) := by decide +kernel
theorem dX5_ring_34 : decode cX5_ring 34 = .ok (.ifCond .eq 28, 3) := by decide +kernel
theorem dX5_ring_37 : decode cX5_ring 37 = .ok (.iload_n 2, 1) := by decide +kernel
theorem dX5_ring_38 : decode cX5_ring 38 = .ok (.iload 4, 2) := by decide +kernel
theorem dX5_ring_40 : decode cX5_ring 40 = .ok (.invokestatic 58, 3) := by decide +kernel
theorem dX5_ring_43 : decode cX5_ring 43 = .ok (.ifCond .ne 19, 3) := by decide +kernel
theorem dX5_ring_46 : decode cX5_ring 46 = .ok (.iload_n 3, 1) := by decide +kernel
theorem dX5_ring_47 : decode cX5_ring 47 = .ok (.iload_n 1, 1) := by decide +kernel
theorem dX5_ring_48 : decode cX5_ring 48 = .ok (.if_icmp .ne 6, 3) := by decide +kernel
theorem dX5_ring_51 : decode cX5_ring 51 = .ok (.iload 5, 2) := by decide +kernel
theorem dX5_ring_53 : decode cX5_ring 53 = .ok (.ireturn, 1) := by decide +kernel
theorem dX5_ring_54 : decode cX5_ring 54 = .ok (.iload_n 2, 1) := by decide +kernel
theorem dX5_ring_55 : decode cX5_ring 55 = .ok (.iload 5, 2) := by decide +kernel
theorem dX5_ring_57 : decode cX5_ring 57 = .ok (.ior, 1) := by decide +kernel
theorem dX5_ring_58 : decode cX5_ring 58 = .ok (.istore_n 2, 1) := by decide +kernel
theorem dX5_ring_59 : decode cX5_ring 59 = .ok (.iinc 3 1, 3) := by decide +kernel
theorem dX5_ring_62 : decode cX5_ring 62 = .ok (.iinc 4 1, 3) := by decide +kernel
theorem dX5_ring_65 : decode cX5_ring 65 = .ok (.goto (-50), 3) := by decide +kernel
theorem dX5_ring_68 : decode cX5_ring 68 = .ok (.iload_n 1, 1) := by decide +kernel
theorem dX5_ring_69 : decode cX5_ring 69 = .ok (.iconst (-1), 1) := by decide +kernel
theorem dX5_ring_70 : decode cX5_ring 70 = .ok (.if_icmp .ne 7, 3) := by decide +kernel
theorem dX5_ring_73 : decode cX5_ring 73 = .ok (.iload_n 3, 1) := by decide +kernel
theorem dX5_ring_74 : decode cX5_ring 74 = .ok (.goto 5, 3) := by decide +kernel
theorem dX5_ring_77 : decode cX5_ring 77 = .ok (.bipush (-6), 2) := by decide +kernel
theorem dX5_ring_79 : decode cX5_ring 79 = .ok (.ireturn, 1) := by decide +kernel
set_option maxRecDepth 20000 in
theorem ggX5_ringed_X5_ringOf : GoodIn wsX5_ringed wsX5_ringOf := goodIn_r _ [6, 1, 7, 8, 9, 5, 10, 11, 12, 13, 14, 15, 16, 17, 18, 19, 20, 21, 22, 23, 24, 25, 26, 27, 28] (by decide +kernel) (by decide +kernel)
set_option maxRecDepth 20000 in
theorem gX5_ringed_X5_ringOf : GoodIn wsX5_ringed (wsV RX5 105 RX5 yX5_ringOf wsX5_ringOf) := goodIn_app (goodIn_of _ (by decide +kernel)) ggX5_ringed_X5_ringOf
theorem dX5_ringed_0 : decode cX5_ringed 0 = .ok (.iconst 0, 1) := by decide +kernel
theorem dX5_ringed_1 : decode cX5_ringed 1 = .ok (.istore_n 1, 1) := by decide +kernel
theorem dX5_ringed_2 : decode cX5_ringed 2 = .ok (.iconst 0, 1) := by decide +kernel
theorem dX5_ringed_3 : decode cX5_ringed 3 = .ok (.istore_n 2, 1) := by decide +kernel
theorem dX5_ringed_4 : decode cX5_ringed 4 = .ok (.iload_n 2, 1) := by decide +kernel
theorem dX5_ringed_5 : decode cX5_ringed 5 = .ok (.aload_n 0, 1) := by decide +kernel
theorem dX5_ringed_6 : decode cX5_ringed 6 = .ok (.getfield 7, 3) := by decide +kernel
theorem dX5_ringed_9 : decode cX5_ringed 9 = .ok (.if_icmp .ge 17, 3) := by decide +kernel
theorem dX5_ringed_12 : decode cX5_ringed 12 = .ok (.iload_n 1, 1) := by decide +kernel
theorem dX5_ringed_13 : decode cX5_ringed 13 = .ok (.aload_n 0, 1) := by decide +kernel
theorem dX5_ringed_14 : decode cX5_ringed 14 = .ok (.iload_n 2, 1) := by decide +kernel
theorem dX5_ringed_15 : decode cX5_ringed 15 = .ok (.invokevirtual 105, 3) := by decide +kernel
theorem dX5_ringed_18 : decode cX5_ringed 18 = .ok (.ior, 1) := by decide +kernel
theorem dX5_ringed_19 : decode cX5_ringed 19 = .ok (.istore_n 1, 1) := by decide +kernel
theorem dX5_ringed_20 : decode cX5_ringed 20 = .ok (.iinc 2 1, 3) := by decide +kernel
theorem dX5_ringed_23 : decode cX5_ringed 23 = .ok (.goto (-19), 3) := by decide +kernel
theorem dX5_ringed_26 : decode cX5_ringed 26 = .ok (.iload_n 1, 1) := by decide +kernel
theorem dX5_ringed_27 : decode cX5_ringed 27 = .ok (.ireturn, 1) := by decide +kernel
set_option maxRecDepth 20000 in
theorem ggX5_lies_X5_ringed : GoodIn wsX5_lies wsX5_ringed := goodIn_r _ [6, 1, 7, 8, 9, 5, 10, 11, 12, 13, 14, 15, 16, 17, 18, 19, 20, 21, 22, 23, 24, 25, 26, 27, 28, 29, 30, 31, 32] (by decide +kernel) (by decide +kernel)
set_option maxRecDepth 20000 in
theorem gX5_lies_X5_ringed : GoodIn wsX5_lies (wsV RX5 108 RX5 yX5_ringed wsX5_ringed) := goodIn_app (goodIn_of _ (by decide +kernel)) ggX5_lies_X5_ringed
set_option maxRecDepth 20000 in
theorem ggX5_lies_X5_has : GoodIn wsX5_lies wsX5_has := goodIn_r _ [22] (by decide +kernel) (by decide +kernel)
set_option maxRecDepth 20000 in
theorem gX5_lies_X5_has : GoodIn wsX5_lies (va_wsS RX5 58 yX5_has wsX5_has) := goodIn_app (goodIn_of _ (by decide +kernel)) ggX5_lies_X5_has
set_option maxRecDepth 20000 in
theorem ggX5_lies_X5_wayOf : GoodIn wsX5_lies wsX5_wayOf := goodIn_r _ [14, 1, 15, 16, 17, 5, 18, 19, 20, 21, 22, 23, 24, 25, 26, 27, 28, 29, 30, 31, 32] (by decide +kernel) (by decide +kernel)
set_option maxRecDepth 20000 in
theorem gX5_lies_X5_wayOf : GoodIn wsX5_lies (wsV RX5 102 RX5 yX5_wayOf wsX5_wayOf) := goodIn_app (goodIn_of _ (by decide +kernel)) ggX5_lies_X5_wayOf
theorem dX5_lies_0 : decode cX5_lies 0 = .ok (.aload_n 0, 1) := by decide +kernel
theorem dX5_lies_1 : decode cX5_lies 1 = .ok (.invokevirtual 108, 3) := by decide +kernel
theorem dX5_lies_4 : decode cX5_lies 4 = .ok (.istore_n 3, 1) := by decide +kernel
theorem dX5_lies_5 : decode cX5_lies 5 = .ok (.iconst 0, 1) := by decide +kernel
theorem dX5_lies_6 : decode cX5_lies 6 = .ok (.istore 4, 2) := by decide +kernel
theorem dX5_lies_8 : decode cX5_lies 8 = .ok (.iconst 0, 1) := by decide +kernel
theorem dX5_lies_9 : decode cX5_lies 9 = .ok (.istore 5, 2) := by decide +kernel
theorem dX5_lies_11 : decode cX5_lies 11 = .ok (.iload 5, 2) := by decide +kernel
theorem dX5_lies_13 : decode cX5_lies 13 = .ok (.aload_n 0, 1) := by decide +kernel
theorem dX5_lies_14 : decode cX5_lies 14 = .ok (.getfield 7, 3) := by decide +kernel
theorem dX5_lies_17 : decode cX5_lies 17 = .ok (.if_icmp .ge 55, 3) := by decide +kernel
theorem dX5_lies_20 : decode cX5_lies 20 = .ok (.iload 4, 2) := by decide +kernel
theorem dX5_lies_22 : decode cX5_lies 22 = .ok (.ifCond .ne 37, 3) := by decide +kernel
theorem dX5_lies_25 : decode cX5_lies 25 = .ok (.iload_n 3, 1) := by decide +kernel
theorem dX5_lies_26 : decode cX5_lies 26 = .ok (.iload 5, 2) := by decide +kernel
theorem dX5_lies_28 : decode cX5_lies 28 = .ok (.invokestatic 58, 3) := by decide +kernel
theorem dX5_lies_31 : decode cX5_lies 31 = .ok (.ifCond .eq 32, 3) := by decide +kernel
theorem dX5_lies_34 : decode cX5_lies 34 = .ok (.iload_n 2, 1) := by decide +kernel
theorem dX5_lies_35 : decode cX5_lies 35 = .ok (.iconst 1, 1) := by decide +kernel
theorem dX5_lies_36 : decode cX5_lies 36 = .ok (.if_icmp .ne 13, 3) := by decide +kernel
theorem dX5_lies_39 : decode cX5_lies 39 = .ok (.aload_n 0, 1) := by decide +kernel
theorem dX5_lies_40 : decode cX5_lies 40 = .ok (.iload 5, 2) := by decide +kernel
theorem dX5_lies_42 : decode cX5_lies 42 = .ok (.iload_n 1, 1) := by decide +kernel
theorem dX5_lies_43 : decode cX5_lies 43 = .ok (.invokevirtual 102, 3) := by decide +kernel
theorem dX5_lies_46 : decode cX5_lies 46 = .ok (.goto 10, 3) := by decide +kernel
theorem dX5_lies_49 : decode cX5_lies 49 = .ok (.aload_n 0, 1) := by decide +kernel
theorem dX5_lies_50 : decode cX5_lies 50 = .ok (.iload_n 1, 1) := by decide +kernel
theorem dX5_lies_51 : decode cX5_lies 51 = .ok (.iload 5, 2) := by decide +kernel
theorem dX5_lies_53 : decode cX5_lies 53 = .ok (.invokevirtual 102, 3) := by decide +kernel
theorem dX5_lies_56 : decode cX5_lies 56 = .ok (.ifCond .le 7, 3) := by decide +kernel
theorem dX5_lies_59 : decode cX5_lies 59 = .ok (.iconst 1, 1) := by decide +kernel
theorem dX5_lies_60 : decode cX5_lies 60 = .ok (.goto 4, 3) := by decide +kernel
theorem dX5_lies_63 : decode cX5_lies 63 = .ok (.iconst 0, 1) := by decide +kernel
theorem dX5_lies_64 : decode cX5_lies 64 = .ok (.istore 4, 2) := by decide +kernel
theorem dX5_lies_66 : decode cX5_lies 66 = .ok (.iinc 5 1, 3) := by decide +kernel
theorem dX5_lies_69 : decode cX5_lies 69 = .ok (.goto (-58), 3) := by decide +kernel
theorem dX5_lies_72 : decode cX5_lies 72 = .ok (.iload 4, 2) := by decide +kernel
theorem dX5_lies_74 : decode cX5_lies 74 = .ok (.ifCond .eq 15, 3) := by decide +kernel
theorem dX5_lies_77 : decode cX5_lies 77 = .ok (.iload_n 3, 1) := by decide +kernel
theorem dX5_lies_78 : decode cX5_lies 78 = .ok (.iload_n 1, 1) := by decide +kernel
theorem dX5_lies_79 : decode cX5_lies 79 = .ok (.invokestatic 58, 3) := by decide +kernel
theorem dX5_lies_82 : decode cX5_lies 82 = .ok (.ifCond .ne 7, 3) := by decide +kernel
theorem dX5_lies_85 : decode cX5_lies 85 = .ok (.iconst 1, 1) := by decide +kernel
theorem dX5_lies_86 : decode cX5_lies 86 = .ok (.goto 4, 3) := by decide +kernel
theorem dX5_lies_89 : decode cX5_lies 89 = .ok (.iconst 0, 1) := by decide +kernel
theorem dX5_lies_90 : decode cX5_lies 90 = .ok (.ireturn, 1) := by decide +kernel
set_option maxRecDepth 20000 in
theorem ggX5_lie_X5_in : GoodIn wsX5_lie wsX5_in := goodIn_r _ [6] (by decide +kernel) (by decide +kernel)
set_option maxRecDepth 20000 in
theorem gX5_lie_X5_in : GoodIn wsX5_lie (va_wsS RX5 36 yX5_in wsX5_in) := goodIn_app (goodIn_of _ (by decide +kernel)) ggX5_lie_X5_in
set_option maxRecDepth 20000 in
theorem ggX5_lie_X5_ringOf : GoodIn wsX5_lie wsX5_ringOf := goodIn_r _ [10, 1, 11, 12, 13, 5, 14, 15, 16, 17, 18, 2, 19, 20, 21, 38, 39, 40, 41, 42, 43, 44, 45, 46, 47] (by decide +kernel) (by decide +kernel)
set_option maxRecDepth 20000 in
theorem gX5_lie_X5_ringOf : GoodIn wsX5_lie (wsV RX5 105 RX5 yX5_ringOf wsX5_ringOf) := goodIn_app (goodIn_of _ (by decide +kernel)) ggX5_lie_X5_ringOf
set_option maxRecDepth 20000 in
theorem ggX5_lie_X5_usersOf : GoodIn wsX5_lie wsX5_usersOf := goodIn_r _ [25, 1, 26, 27, 28, 5, 29, 2, 19, 20, 21, 38, 39, 40, 41, 42, 43, 44, 45, 46, 47] (by decide +kernel) (by decide +kernel)
set_option maxRecDepth 20000 in
theorem gX5_lie_X5_usersOf : GoodIn wsX5_lie (wsV RX5 74 RX5 yX5_usersOf wsX5_usersOf) := goodIn_app (goodIn_of _ (by decide +kernel)) ggX5_lie_X5_usersOf
set_option maxRecDepth 20000 in
theorem ggX5_lie_X5_lies : GoodIn wsX5_lie wsX5_lies := goodIn_r _ [33, 1, 34, 35, 36, 5, 37, 7, 8, 9, 10, 11, 12, 13, 14, 15, 16, 17, 18, 2, 19, 20, 21, 38, 39, 40, 41, 42, 43, 44, 45, 46, 47] (by decide +kernel) (by decide +kernel)
set_option maxRecDepth 20000 in
theorem gX5_lie_X5_lies : GoodIn wsX5_lie (wsV RX5 111 RX5 yX5_lies wsX5_lies) := goodIn_app (goodIn_of _ (by decide +kernel)) ggX5_lie_X5_lies
theorem dX5_lie_0 : decode cX5_lie 0 = .ok (.iload_n 1, 1) := by decide +kernel
theorem dX5_lie_1 : decode cX5_lie 1 = .ok (.iconst 0, 1) := by decide +kernel
theorem dX5_lie_2 : decode cX5_lie 2 = .ok (.iconst 4, 1) := by decide +kernel
theorem dX5_lie_3 : decode cX5_lie 3 = .ok (.invokestatic 36, 3) := by decide +kernel
theorem dX5_lie_6 : decode cX5_lie 6 = .ok (.ifCond .ne 6, 3) := by decide +kernel
theorem dX5_lie_9 : decode cX5_lie 9 = .ok (.bipush (-2), 2) := by decide +kernel
theorem dX5_lie_11 : decode cX5_lie 11 = .ok (.ireturn, 1) := by decide +kernel
theorem dX5_lie_12 : decode cX5_lie 12 = .ok (.iconst 0, 1) := by decide +kernel
theorem dX5_lie_13 : decode cX5_lie 13 = .ok (.istore_n 2, 1) := by decide +kernel
theorem dX5_lie_14 : decode cX5_lie 14 = .ok (.iconst 0, 1) := by decide +kernel
theorem dX5_lie_15 : decode cX5_lie 15 = .ok (.istore_n 3, 1) := by decide +kernel
theorem dX5_lie_16 : decode cX5_lie 16 = .ok (.iload_n 3, 1) := by decide +kernel
theorem dX5_lie_17 : decode cX5_lie 17 = .ok (.aload_n 0, 1) := by decide +kernel
theorem dX5_lie_18 : decode cX5_lie 18 = .ok (.getfield 7, 3) := by decide +kernel
theorem dX5_lie_21 : decode cX5_lie 21 = .ok (.if_icmp .ge 95, 3) := by decide +kernel
theorem dX5_lie_24 : decode cX5_lie 24 = .ok (.iload_n 1, 1) := by decide +kernel
theorem dX5_lie_25 : decode cX5_lie 25 = .ok (.ifCond .ne 19, 3) := by decide +kernel
theorem dX5_lie_28 : decode cX5_lie 28 = .ok (.aload_n 0, 1) := by decide +kernel
theorem dX5_lie_29 : decode cX5_lie 29 = .ok (.iload_n 3, 1) := by decide +kernel
theorem dX5_lie_30 : decode cX5_lie 30 = .ok (.invokevirtual 105, 3) := by decide +kernel
theorem dX5_lie_33 : decode cX5_lie 33 = .ok (.ifCond .eq 7, 3) := by decide +kernel
theorem dX5_lie_36 : decode cX5_lie 36 = .ok (.iconst 1, 1) := by decide +kernel
theorem dX5_lie_37 : decode cX5_lie 37 = .ok (.goto 56, 3) := by decide +kernel
theorem dX5_lie_40 : decode cX5_lie 40 = .ok (.iconst 0, 1) := by decide +kernel
theorem dX5_lie_41 : decode cX5_lie 41 = .ok (.goto 52, 3) := by decide +kernel
theorem dX5_lie_44 : decode cX5_lie 44 = .ok (.iload_n 1, 1) := by decide +kernel
theorem dX5_lie_45 : decode cX5_lie 45 = .ok (.iconst 3, 1) := by decide +kernel
theorem dX5_lie_46 : decode cX5_lie 46 = .ok (.if_icmp .ne 19, 3) := by decide +kernel
theorem dX5_lie_49 : decode cX5_lie 49 = .ok (.aload_n 0, 1) := by decide +kernel
theorem dX5_lie_50 : decode cX5_lie 50 = .ok (.iload_n 3, 1) := by decide +kernel
theorem dX5_lie_51 : decode cX5_lie 51 = .ok (.invokevirtual 74, 3) := by decide +kernel
theorem dX5_lie_54 : decode cX5_lie 54 = .ok (.ifCond .ne 7, 3) := by decide +kernel
theorem dX5_lie_57 : decode cX5_lie 57 = .ok (.iconst 1, 1) := by decide +kernel
theorem dX5_lie_58 : decode cX5_lie 58 = .ok (.goto 35, 3) := by decide +kernel
theorem dX5_lie_61 : decode cX5_lie 61 = .ok (.iconst 0, 1) := by decide +kernel
theorem dX5_lie_62 : decode cX5_lie 62 = .ok (.goto 31, 3) := by decide +kernel
theorem dX5_lie_65 : decode cX5_lie 65 = .ok (.iload_n 1, 1) := by decide +kernel
theorem dX5_lie_66 : decode cX5_lie 66 = .ok (.iconst 4, 1) := by decide +kernel
theorem dX5_lie_67 : decode cX5_lie 67 = .ok (.if_icmp .ne 20, 3) := by decide +kernel
theorem dX5_lie_70 : decode cX5_lie 70 = .ok (.aload_n 0, 1) := by decide +kernel
theorem dX5_lie_71 : decode cX5_lie 71 = .ok (.getfield 13, 3) := by decide +kernel
theorem dX5_lie_74 : decode cX5_lie 74 = .ok (.iload_n 3, 1) := by decide +kernel
theorem dX5_lie_75 : decode cX5_lie 75 = .ok (.iaload, 1) := by decide +kernel
theorem dX5_lie_76 : decode cX5_lie 76 = .ok (.ifCond .ge 7, 3) := by decide +kernel
theorem dX5_lie_79 : decode cX5_lie 79 = .ok (.iconst 1, 1) := by decide +kernel
theorem dX5_lie_80 : decode cX5_lie 80 = .ok (.goto 13, 3) := by decide +kernel
theorem dX5_lie_83 : decode cX5_lie 83 = .ok (.iconst 0, 1) := by decide +kernel
theorem dX5_lie_84 : decode cX5_lie 84 = .ok (.goto 9, 3) := by decide +kernel
theorem dX5_lie_87 : decode cX5_lie 87 = .ok (.aload_n 0, 1) := by decide +kernel
theorem dX5_lie_88 : decode cX5_lie 88 = .ok (.iload_n 3, 1) := by decide +kernel
theorem dX5_lie_89 : decode cX5_lie 89 = .ok (.iload_n 1, 1) := by decide +kernel
theorem dX5_lie_90 : decode cX5_lie 90 = .ok (.invokevirtual 111, 3) := by decide +kernel
theorem dX5_lie_93 : decode cX5_lie 93 = .ok (.istore 4, 2) := by decide +kernel
theorem dX5_lie_95 : decode cX5_lie 95 = .ok (.iload_n 2, 1) := by decide +kernel
theorem dX5_lie_96 : decode cX5_lie 96 = .ok (.iload 4, 2) := by decide +kernel
theorem dX5_lie_98 : decode cX5_lie 98 = .ok (.ifCond .eq 9, 3) := by decide +kernel
theorem dX5_lie_101 : decode cX5_lie 101 = .ok (.iconst 1, 1) := by decide +kernel
theorem dX5_lie_102 : decode cX5_lie 102 = .ok (.iload_n 3, 1) := by decide +kernel
theorem dX5_lie_103 : decode cX5_lie 103 = .ok (.ishl, 1) := by decide +kernel
theorem dX5_lie_104 : decode cX5_lie 104 = .ok (.goto 4, 3) := by decide +kernel
theorem dX5_lie_107 : decode cX5_lie 107 = .ok (.iconst 0, 1) := by decide +kernel
theorem dX5_lie_108 : decode cX5_lie 108 = .ok (.ior, 1) := by decide +kernel
theorem dX5_lie_109 : decode cX5_lie 109 = .ok (.istore_n 2, 1) := by decide +kernel
theorem dX5_lie_110 : decode cX5_lie 110 = .ok (.iinc 3 1, 3) := by decide +kernel
theorem dX5_lie_113 : decode cX5_lie 113 = .ok (.goto (-97), 3) := by decide +kernel
theorem dX5_lie_116 : decode cX5_lie 116 = .ok (.iload_n 2, 1) := by decide +kernel
theorem dX5_lie_117 : decode cX5_lie 117 = .ok (.ireturn, 1) := by decide +kernel
set_option maxRecDepth 20000 in
theorem ggX5_image_X5_in : GoodIn wsX5_image wsX5_in := goodIn_r _ [10] (by decide +kernel) (by decide +kernel)
set_option maxRecDepth 20000 in
theorem gX5_image_X5_in : GoodIn wsX5_image (va_wsS RX5 36 yX5_in wsX5_in) := goodIn_app (goodIn_of _ (by decide +kernel)) ggX5_image_X5_in
theorem dX5_image_0 : decode cX5_image 0 = .ok (.iload_n 1, 1) := by decide +kernel
theorem dX5_image_1 : decode cX5_image 1 = .ok (.iconst 0, 1) := by decide +kernel
theorem dX5_image_2 : decode cX5_image 2 = .ok (.iconst 1, 1) := by decide +kernel
theorem dX5_image_3 : decode cX5_image 3 = .ok (.invokestatic 36, 3) := by decide +kernel
theorem dX5_image_6 : decode cX5_image 6 = .ok (.ifCond .ne 6, 3) := by decide +kernel
theorem dX5_image_9 : decode cX5_image 9 = .ok (.bipush (-2), 2) := by decide +kernel
theorem dX5_image_11 : decode cX5_image 11 = .ok (.ireturn, 1) := by decide +kernel
theorem dX5_image_12 : decode cX5_image 12 = .ok (.aload_n 0, 1) := by decide +kernel
theorem dX5_image_13 : decode cX5_image 13 = .ok (.getfield 30, 3) := by decide +kernel
theorem dX5_image_16 : decode cX5_image 16 = .ok (.bipush 30, 2) := by decide +kernel
theorem dX5_image_18 : decode cX5_image 18 = .ok (.iload_n 1, 1) := by decide +kernel
theorem dX5_image_19 : decode cX5_image 19 = .ok (.imul, 1) := by decide +kernel
theorem dX5_image_20 : decode cX5_image 20 = .ok (.aload_n 0, 1) := by decide +kernel
theorem dX5_image_21 : decode cX5_image 21 = .ok (.getfield 7, 3) := by decide +kernel
theorem dX5_image_24 : decode cX5_image 24 = .ok (.iastore, 1) := by decide +kernel
theorem dX5_image_25 : decode cX5_image 25 = .ok (.aload_n 0, 1) := by decide +kernel
theorem dX5_image_26 : decode cX5_image 26 = .ok (.getfield 30, 3) := by decide +kernel
theorem dX5_image_29 : decode cX5_image 29 = .ok (.bipush 30, 2) := by decide +kernel
theorem dX5_image_31 : decode cX5_image 31 = .ok (.iload_n 1, 1) := by decide +kernel
theorem dX5_image_32 : decode cX5_image 32 = .ok (.imul, 1) := by decide +kernel
theorem dX5_image_33 : decode cX5_image 33 = .ok (.iconst 1, 1) := by decide +kernel
theorem dX5_image_34 : decode cX5_image 34 = .ok (.iadd, 1) := by decide +kernel
theorem dX5_image_35 : decode cX5_image 35 = .ok (.aload_n 0, 1) := by decide +kernel
theorem dX5_image_36 : decode cX5_image 36 = .ok (.getfield 44, 3) := by decide +kernel
theorem dX5_image_39 : decode cX5_image 39 = .ok (.iastore, 1) := by decide +kernel
theorem dX5_image_40 : decode cX5_image 40 = .ok (.iconst 0, 1) := by decide +kernel
end
section
theorem dX5_image_41 : decode cX5_image 41 = .ok (.istore_n 2, 1) := by decide +kernel
theorem dX5_image_42 : decode cX5_image 42 = .ok (.iload_n 2, 1) := by decide +kernel
theorem dX5_image_43 : decode cX5_image 43 = .ok (.bipush 14, 2) := by decide +kernel
theorem dX5_image_45 : decode cX5_image 45 = .ok (.if_icmp .ge 48, 3) := by decide +kernel
theorem dX5_image_48 : decode cX5_image 48 = .ok (.aload_n 0, 1) := by decide +kernel
theorem dX5_image_49 : decode cX5_image 49 = .ok (.getfield 30, 3) := by decide +kernel
theorem dX5_image_52 : decode cX5_image 52 = .ok (.bipush 30, 2) := by decide +kernel
theorem dX5_image_54 : decode cX5_image 54 = .ok (.iload_n 1, 1) := by decide +kernel
theorem dX5_image_55 : decode cX5_image 55 = .ok (.imul, 1) := by decide +kernel
theorem dX5_image_56 : decode cX5_image 56 = .ok (.iconst 2, 1) := by decide +kernel
theorem dX5_image_57 : decode cX5_image 57 = .ok (.iadd, 1) := by decide +kernel
theorem dX5_image_58 : decode cX5_image 58 = .ok (.iload_n 2, 1) := by decide +kernel
theorem dX5_image_59 : decode cX5_image 59 = .ok (.iadd, 1) := by decide +kernel
theorem dX5_image_60 : decode cX5_image 60 = .ok (.aload_n 0, 1) := by decide +kernel
theorem dX5_image_61 : decode cX5_image 61 = .ok (.getfield 13, 3) := by decide +kernel
theorem dX5_image_64 : decode cX5_image 64 = .ok (.iload_n 2, 1) := by decide +kernel
theorem dX5_image_65 : decode cX5_image 65 = .ok (.iaload, 1) := by decide +kernel
theorem dX5_image_66 : decode cX5_image 66 = .ok (.iastore, 1) := by decide +kernel
theorem dX5_image_67 : decode cX5_image 67 = .ok (.aload_n 0, 1) := by decide +kernel
theorem dX5_image_68 : decode cX5_image 68 = .ok (.getfield 30, 3) := by decide +kernel
theorem dX5_image_71 : decode cX5_image 71 = .ok (.bipush 30, 2) := by decide +kernel
theorem dX5_image_73 : decode cX5_image 73 = .ok (.iload_n 1, 1) := by decide +kernel
theorem dX5_image_74 : decode cX5_image 74 = .ok (.imul, 1) := by decide +kernel
theorem dX5_image_75 : decode cX5_image 75 = .ok (.bipush 16, 2) := by decide +kernel
theorem dX5_image_77 : decode cX5_image 77 = .ok (.iadd, 1) := by decide +kernel
theorem dX5_image_78 : decode cX5_image 78 = .ok (.iload_n 2, 1) := by decide +kernel
theorem dX5_image_79 : decode cX5_image 79 = .ok (.iadd, 1) := by decide +kernel
theorem dX5_image_80 : decode cX5_image 80 = .ok (.aload_n 0, 1) := by decide +kernel
theorem dX5_image_81 : decode cX5_image 81 = .ok (.getfield 17, 3) := by decide +kernel
theorem dX5_image_84 : decode cX5_image 84 = .ok (.iload_n 2, 1) := by decide +kernel
theorem dX5_image_85 : decode cX5_image 85 = .ok (.iaload, 1) := by decide +kernel
theorem dX5_image_86 : decode cX5_image 86 = .ok (.iastore, 1) := by decide +kernel
theorem dX5_image_87 : decode cX5_image 87 = .ok (.iinc 2 1, 3) := by decide +kernel
theorem dX5_image_90 : decode cX5_image 90 = .ok (.goto (-48), 3) := by decide +kernel
theorem dX5_image_93 : decode cX5_image 93 = .ok (.aload_n 0, 1) := by decide +kernel
theorem dX5_image_94 : decode cX5_image 94 = .ok (.getfield 33, 3) := by decide +kernel
theorem dX5_image_97 : decode cX5_image 97 = .ok (.iload_n 1, 1) := by decide +kernel
theorem dX5_image_98 : decode cX5_image 98 = .ok (.iconst 1, 1) := by decide +kernel
theorem dX5_image_99 : decode cX5_image 99 = .ok (.bastore, 1) := by decide +kernel
theorem dX5_image_100 : decode cX5_image 100 = .ok (.iconst 1, 1) := by decide +kernel
theorem dX5_image_101 : decode cX5_image 101 = .ok (.ireturn, 1) := by decide +kernel
set_option maxRecDepth 20000 in
theorem ggX5_restore_X5_in : GoodIn wsX5_restore wsX5_in := goodIn_r _ [10] (by decide +kernel) (by decide +kernel)
set_option maxRecDepth 20000 in
theorem gX5_restore_X5_in : GoodIn wsX5_restore (va_wsS RX5 36 yX5_in wsX5_in) := goodIn_app (goodIn_of _ (by decide +kernel)) ggX5_restore_X5_in
theorem dX5_restore_0 : decode cX5_restore 0 = .ok (.iload_n 1, 1) := by decide +kernel
theorem dX5_restore_1 : decode cX5_restore 1 = .ok (.iconst 0, 1) := by decide +kernel
theorem dX5_restore_2 : decode cX5_restore 2 = .ok (.iconst 1, 1) := by decide +kernel
theorem dX5_restore_3 : decode cX5_restore 3 = .ok (.invokestatic 36, 3) := by decide +kernel
theorem dX5_restore_6 : decode cX5_restore 6 = .ok (.ifCond .ne 6, 3) := by decide +kernel
theorem dX5_restore_9 : decode cX5_restore 9 = .ok (.bipush (-2), 2) := by decide +kernel
theorem dX5_restore_11 : decode cX5_restore 11 = .ok (.ireturn, 1) := by decide +kernel
theorem dX5_restore_12 : decode cX5_restore 12 = .ok (.aload_n 0, 1) := by decide +kernel
theorem dX5_restore_13 : decode cX5_restore 13 = .ok (.getfield 33, 3) := by decide +kernel
theorem dX5_restore_16 : decode cX5_restore 16 = .ok (.iload_n 1, 1) := by decide +kernel
theorem dX5_restore_17 : decode cX5_restore 17 = .ok (.baload, 1) := by decide +kernel
theorem dX5_restore_18 : decode cX5_restore 18 = .ok (.ifCond .ne 6, 3) := by decide +kernel
theorem dX5_restore_21 : decode cX5_restore 21 = .ok (.bipush (-3), 2) := by decide +kernel
theorem dX5_restore_23 : decode cX5_restore 23 = .ok (.ireturn, 1) := by decide +kernel
theorem dX5_restore_24 : decode cX5_restore 24 = .ok (.aload_n 0, 1) := by decide +kernel
theorem dX5_restore_25 : decode cX5_restore 25 = .ok (.aload_n 0, 1) := by decide +kernel
theorem dX5_restore_26 : decode cX5_restore 26 = .ok (.getfield 30, 3) := by decide +kernel
theorem dX5_restore_29 : decode cX5_restore 29 = .ok (.bipush 30, 2) := by decide +kernel
theorem dX5_restore_31 : decode cX5_restore 31 = .ok (.iload_n 1, 1) := by decide +kernel
theorem dX5_restore_32 : decode cX5_restore 32 = .ok (.imul, 1) := by decide +kernel
theorem dX5_restore_33 : decode cX5_restore 33 = .ok (.iaload, 1) := by decide +kernel
theorem dX5_restore_34 : decode cX5_restore 34 = .ok (.putfield 7, 3) := by decide +kernel
theorem dX5_restore_37 : decode cX5_restore 37 = .ok (.aload_n 0, 1) := by decide +kernel
theorem dX5_restore_38 : decode cX5_restore 38 = .ok (.aload_n 0, 1) := by decide +kernel
theorem dX5_restore_39 : decode cX5_restore 39 = .ok (.getfield 30, 3) := by decide +kernel
theorem dX5_restore_42 : decode cX5_restore 42 = .ok (.bipush 30, 2) := by decide +kernel
theorem dX5_restore_44 : decode cX5_restore 44 = .ok (.iload_n 1, 1) := by decide +kernel
theorem dX5_restore_45 : decode cX5_restore 45 = .ok (.imul, 1) := by decide +kernel
theorem dX5_restore_46 : decode cX5_restore 46 = .ok (.iconst 1, 1) := by decide +kernel
theorem dX5_restore_47 : decode cX5_restore 47 = .ok (.iadd, 1) := by decide +kernel
theorem dX5_restore_48 : decode cX5_restore 48 = .ok (.iaload, 1) := by decide +kernel
theorem dX5_restore_49 : decode cX5_restore 49 = .ok (.putfield 44, 3) := by decide +kernel
theorem dX5_restore_52 : decode cX5_restore 52 = .ok (.iconst 0, 1) := by decide +kernel
theorem dX5_restore_53 : decode cX5_restore 53 = .ok (.istore_n 2, 1) := by decide +kernel
theorem dX5_restore_54 : decode cX5_restore 54 = .ok (.iload_n 2, 1) := by decide +kernel
theorem dX5_restore_55 : decode cX5_restore 55 = .ok (.bipush 14, 2) := by decide +kernel
theorem dX5_restore_57 : decode cX5_restore 57 = .ok (.if_icmp .ge 48, 3) := by decide +kernel
theorem dX5_restore_60 : decode cX5_restore 60 = .ok (.aload_n 0, 1) := by decide +kernel
theorem dX5_restore_61 : decode cX5_restore 61 = .ok (.getfield 13, 3) := by decide +kernel
theorem dX5_restore_64 : decode cX5_restore 64 = .ok (.iload_n 2, 1) := by decide +kernel
theorem dX5_restore_65 : decode cX5_restore 65 = .ok (.aload_n 0, 1) := by decide +kernel
theorem dX5_restore_66 : decode cX5_restore 66 = .ok (.getfield 30, 3) := by decide +kernel
theorem dX5_restore_69 : decode cX5_restore 69 = .ok (.bipush 30, 2) := by decide +kernel
theorem dX5_restore_71 : decode cX5_restore 71 = .ok (.iload_n 1, 1) := by decide +kernel
theorem dX5_restore_72 : decode cX5_restore 72 = .ok (.imul, 1) := by decide +kernel
theorem dX5_restore_73 : decode cX5_restore 73 = .ok (.iconst 2, 1) := by decide +kernel
theorem dX5_restore_74 : decode cX5_restore 74 = .ok (.iadd, 1) := by decide +kernel
theorem dX5_restore_75 : decode cX5_restore 75 = .ok (.iload_n 2, 1) := by decide +kernel
theorem dX5_restore_76 : decode cX5_restore 76 = .ok (.iadd, 1) := by decide +kernel
theorem dX5_restore_77 : decode cX5_restore 77 = .ok (.iaload, 1) := by decide +kernel
theorem dX5_restore_78 : decode cX5_restore 78 = .ok (.iastore, 1) := by decide +kernel
theorem dX5_restore_79 : decode cX5_restore 79 = .ok (.aload_n 0, 1) := by decide +kernel
theorem dX5_restore_80 : decode cX5_restore 80 = .ok (.getfield 17, 3) := by decide +kernel
theorem dX5_restore_83 : decode cX5_restore 83 = .ok (.iload_n 2, 1) := by decide +kernel
theorem dX5_restore_84 : decode cX5_restore 84 = .ok (.aload_n 0, 1) := by decide +kernel
theorem dX5_restore_85 : decode cX5_restore 85 = .ok (.getfield 30, 3) := by decide +kernel
theorem dX5_restore_88 : decode cX5_restore 88 = .ok (.bipush 30, 2) := by decide +kernel
theorem dX5_restore_90 : decode cX5_restore 90 = .ok (.iload_n 1, 1) := by decide +kernel
theorem dX5_restore_91 : decode cX5_restore 91 = .ok (.imul, 1) := by decide +kernel
theorem dX5_restore_92 : decode cX5_restore 92 = .ok (.bipush 16, 2) := by decide +kernel
theorem dX5_restore_94 : decode cX5_restore 94 = .ok (.iadd, 1) := by decide +kernel
theorem dX5_restore_95 : decode cX5_restore 95 = .ok (.iload_n 2, 1) := by decide +kernel
theorem dX5_restore_96 : decode cX5_restore 96 = .ok (.iadd, 1) := by decide +kernel
theorem dX5_restore_97 : decode cX5_restore 97 = .ok (.iaload, 1) := by decide +kernel
theorem dX5_restore_98 : decode cX5_restore 98 = .ok (.iastore, 1) := by decide +kernel
theorem dX5_restore_99 : decode cX5_restore 99 = .ok (.iinc 2 1, 3) := by decide +kernel
theorem dX5_restore_102 : decode cX5_restore 102 = .ok (.goto (-48), 3) := by decide +kernel
theorem dX5_restore_105 : decode cX5_restore 105 = .ok (.iconst 1, 1) := by decide +kernel
theorem dX5_restore_106 : decode cX5_restore 106 = .ok (.ireturn, 1) := by decide +kernel
set_option maxRecDepth 20000 in
theorem ggX5_count_X5_in : GoodIn wsX5_count wsX5_in := goodIn_r _ [11] (by decide +kernel) (by decide +kernel)
set_option maxRecDepth 20000 in
theorem gX5_count_X5_in : GoodIn wsX5_count (va_wsS RX5 36 yX5_in wsX5_in) := goodIn_app (goodIn_of _ (by decide +kernel)) ggX5_count_X5_in
set_option maxRecDepth 20000 in
theorem ggX5_count_X5_bits : GoodIn wsX5_count wsX5_bits := goodIn_r _ [14] (by decide +kernel) (by decide +kernel)
set_option maxRecDepth 20000 in
theorem gX5_count_X5_bits : GoodIn wsX5_count (va_wsS RX5 68 yX5_bits wsX5_bits) := goodIn_app (goodIn_of _ (by decide +kernel)) ggX5_count_X5_bits
theorem dX5_count_0 : decode cX5_count 0 = .ok (.iload_n 1, 1) := by decide +kernel
theorem dX5_count_1 : decode cX5_count 1 = .ok (.bipush 10, 2) := by decide +kernel
theorem dX5_count_3 : decode cX5_count 3 = .ok (.bipush 9, 2) := by decide +kernel
theorem dX5_count_5 : decode cX5_count 5 = .ok (.aload_n 0, 1) := by decide +kernel
theorem dX5_count_6 : decode cX5_count 6 = .ok (.getfield 7, 3) := by decide +kernel
theorem dX5_count_9 : decode cX5_count 9 = .ok (.iadd, 1) := by decide +kernel
theorem dX5_count_10 : decode cX5_count 10 = .ok (.invokestatic 36, 3) := by decide +kernel
theorem dX5_count_13 : decode cX5_count 13 = .ok (.ifCond .eq 13, 3) := by decide +kernel
theorem dX5_count_16 : decode cX5_count 16 = .ok (.aload_n 0, 1) := by decide +kernel
theorem dX5_count_17 : decode cX5_count 17 = .ok (.getfield 17, 3) := by decide +kernel
theorem dX5_count_20 : decode cX5_count 20 = .ok (.iload_n 1, 1) := by decide +kernel
theorem dX5_count_21 : decode cX5_count 21 = .ok (.bipush 10, 2) := by decide +kernel
theorem dX5_count_23 : decode cX5_count 23 = .ok (.isub, 1) := by decide +kernel
theorem dX5_count_24 : decode cX5_count 24 = .ok (.iaload, 1) := by decide +kernel
theorem dX5_count_25 : decode cX5_count 25 = .ok (.ireturn, 1) := by decide +kernel
theorem dX5_count_26 : decode cX5_count 26 = .ok (.iconst 0, 1) := by decide +kernel
theorem dX5_count_27 : decode cX5_count 27 = .ok (.istore_n 2, 1) := by decide +kernel
theorem dX5_count_28 : decode cX5_count 28 = .ok (.iconst 0, 1) := by decide +kernel
theorem dX5_count_29 : decode cX5_count 29 = .ok (.istore_n 3, 1) := by decide +kernel
theorem dX5_count_30 : decode cX5_count 30 = .ok (.iconst 0, 1) := by decide +kernel
theorem dX5_count_31 : decode cX5_count 31 = .ok (.istore 4, 2) := by decide +kernel
theorem dX5_count_33 : decode cX5_count 33 = .ok (.iload 4, 2) := by decide +kernel
theorem dX5_count_35 : decode cX5_count 35 = .ok (.aload_n 0, 1) := by decide +kernel
theorem dX5_count_36 : decode cX5_count 36 = .ok (.getfield 7, 3) := by decide +kernel
theorem dX5_count_39 : decode cX5_count 39 = .ok (.if_icmp .ge 54, 3) := by decide +kernel
theorem dX5_count_42 : decode cX5_count 42 = .ok (.iload_n 2, 1) := by decide +kernel
theorem dX5_count_43 : decode cX5_count 43 = .ok (.aload_n 0, 1) := by decide +kernel
theorem dX5_count_44 : decode cX5_count 44 = .ok (.getfield 13, 3) := by decide +kernel
theorem dX5_count_47 : decode cX5_count 47 = .ok (.iload 4, 2) := by decide +kernel
theorem dX5_count_49 : decode cX5_count 49 = .ok (.iaload, 1) := by decide +kernel
theorem dX5_count_50 : decode cX5_count 50 = .ok (.ifCond .lt 7, 3) := by decide +kernel
theorem dX5_count_53 : decode cX5_count 53 = .ok (.iconst 1, 1) := by decide +kernel
theorem dX5_count_54 : decode cX5_count 54 = .ok (.goto 4, 3) := by decide +kernel
theorem dX5_count_57 : decode cX5_count 57 = .ok (.iconst 0, 1) := by decide +kernel
theorem dX5_count_58 : decode cX5_count 58 = .ok (.iadd, 1) := by decide +kernel
theorem dX5_count_59 : decode cX5_count 59 = .ok (.istore_n 2, 1) := by decide +kernel
theorem dX5_count_60 : decode cX5_count 60 = .ok (.iload_n 3, 1) := by decide +kernel
theorem dX5_count_61 : decode cX5_count 61 = .ok (.aload_n 0, 1) := by decide +kernel
theorem dX5_count_62 : decode cX5_count 62 = .ok (.getfield 13, 3) := by decide +kernel
theorem dX5_count_65 : decode cX5_count 65 = .ok (.iload 4, 2) := by decide +kernel
theorem dX5_count_67 : decode cX5_count 67 = .ok (.iaload, 1) := by decide +kernel
theorem dX5_count_68 : decode cX5_count 68 = .ok (.ifCond .lt 16, 3) := by decide +kernel
theorem dX5_count_71 : decode cX5_count 71 = .ok (.aload_n 0, 1) := by decide +kernel
theorem dX5_count_72 : decode cX5_count 72 = .ok (.getfield 13, 3) := by decide +kernel
theorem dX5_count_75 : decode cX5_count 75 = .ok (.iload 4, 2) := by decide +kernel
theorem dX5_count_77 : decode cX5_count 77 = .ok (.iaload, 1) := by decide +kernel
theorem dX5_count_78 : decode cX5_count 78 = .ok (.invokestatic 68, 3) := by decide +kernel
theorem dX5_count_81 : decode cX5_count 81 = .ok (.goto 4, 3) := by decide +kernel
theorem dX5_count_84 : decode cX5_count 84 = .ok (.iconst 0, 1) := by decide +kernel
theorem dX5_count_85 : decode cX5_count 85 = .ok (.iadd, 1) := by decide +kernel
theorem dX5_count_86 : decode cX5_count 86 = .ok (.istore_n 3, 1) := by decide +kernel
theorem dX5_count_87 : decode cX5_count 87 = .ok (.iinc 4 1, 3) := by decide +kernel
theorem dX5_count_90 : decode cX5_count 90 = .ok (.goto (-57), 3) := by decide +kernel
theorem dX5_count_93 : decode cX5_count 93 = .ok (.iload_n 1, 1) := by decide +kernel
theorem dX5_count_94 : decode cX5_count 94 = .ok (.tableswitch 96 0 6 #[42, 47, 52, 54, 56, 61, 66], 42) := by decide +kernel
theorem dX5_count_136 : decode cX5_count 136 = .ok (.aload_n 0, 1) := by decide +kernel
theorem dX5_count_137 : decode cX5_count 137 = .ok (.getfield 7, 3) := by decide +kernel
theorem dX5_count_140 : decode cX5_count 140 = .ok (.ireturn, 1) := by decide +kernel
theorem dX5_count_141 : decode cX5_count 141 = .ok (.aload_n 0, 1) := by decide +kernel
theorem dX5_count_142 : decode cX5_count 142 = .ok (.getfield 44, 3) := by decide +kernel
theorem dX5_count_145 : decode cX5_count 145 = .ok (.ireturn, 1) := by decide +kernel
theorem dX5_count_146 : decode cX5_count 146 = .ok (.iload_n 2, 1) := by decide +kernel
theorem dX5_count_147 : decode cX5_count 147 = .ok (.ireturn, 1) := by decide +kernel
theorem dX5_count_148 : decode cX5_count 148 = .ok (.iload_n 3, 1) := by decide +kernel
theorem dX5_count_149 : decode cX5_count 149 = .ok (.ireturn, 1) := by decide +kernel
theorem dX5_count_150 : decode cX5_count 150 = .ok (.aload_n 0, 1) := by decide +kernel
theorem dX5_count_151 : decode cX5_count 151 = .ok (.getfield 47, 3) := by decide +kernel
theorem dX5_count_154 : decode cX5_count 154 = .ok (.ireturn, 1) := by decide +kernel
theorem dX5_count_155 : decode cX5_count 155 = .ok (.aload_n 0, 1) := by decide +kernel
theorem dX5_count_156 : decode cX5_count 156 = .ok (.getfield 23, 3) := by decide +kernel
theorem dX5_count_159 : decode cX5_count 159 = .ok (.ireturn, 1) := by decide +kernel
theorem dX5_count_160 : decode cX5_count 160 = .ok (.aload_n 0, 1) := by decide +kernel
theorem dX5_count_161 : decode cX5_count 161 = .ok (.getfield 33, 3) := by decide +kernel
theorem dX5_count_164 : decode cX5_count 164 = .ok (.iconst 0, 1) := by decide +kernel
theorem dX5_count_165 : decode cX5_count 165 = .ok (.baload, 1) := by decide +kernel
theorem dX5_count_166 : decode cX5_count 166 = .ok (.ifCond .eq 7, 3) := by decide +kernel
theorem dX5_count_169 : decode cX5_count 169 = .ok (.iconst 1, 1) := by decide +kernel
theorem dX5_count_170 : decode cX5_count 170 = .ok (.goto 4, 3) := by decide +kernel
theorem dX5_count_173 : decode cX5_count 173 = .ok (.iconst 0, 1) := by decide +kernel
theorem dX5_count_174 : decode cX5_count 174 = .ok (.aload_n 0, 1) := by decide +kernel
theorem dX5_count_175 : decode cX5_count 175 = .ok (.getfield 33, 3) := by decide +kernel
theorem dX5_count_178 : decode cX5_count 178 = .ok (.iconst 1, 1) := by decide +kernel
theorem dX5_count_179 : decode cX5_count 179 = .ok (.baload, 1) := by decide +kernel
theorem dX5_count_180 : decode cX5_count 180 = .ok (.ifCond .eq 7, 3) := by decide +kernel
theorem dX5_count_183 : decode cX5_count 183 = .ok (.iconst 2, 1) := by decide +kernel
theorem dX5_count_184 : decode cX5_count 184 = .ok (.goto 4, 3) := by decide +kernel
theorem dX5_count_187 : decode cX5_count 187 = .ok (.iconst 0, 1) := by decide +kernel
theorem dX5_count_188 : decode cX5_count 188 = .ok (.iadd, 1) := by decide +kernel
theorem dX5_count_189 : decode cX5_count 189 = .ok (.ireturn, 1) := by decide +kernel
theorem dX5_count_190 : decode cX5_count 190 = .ok (.bipush (-2), 2) := by decide +kernel
theorem dX5_count_192 : decode cX5_count 192 = .ok (.ireturn, 1) := by decide +kernel
theorem dJ6_bitCount_0f7a4_0 : decode cJ6_bitCount_0f7a4 0 = .ok (.iload_n 0, 1) := by decide +kernel
theorem dJ6_bitCount_0f7a4_1 : decode cJ6_bitCount_0f7a4 1 = .ok (.iload_n 0, 1) := by decide +kernel
theorem dJ6_bitCount_0f7a4_2 : decode cJ6_bitCount_0f7a4 2 = .ok (.iconst 1, 1) := by decide +kernel
theorem dJ6_bitCount_0f7a4_3 : decode cJ6_bitCount_0f7a4 3 = .ok (.iushr, 1) := by decide +kernel
theorem dJ6_bitCount_0f7a4_4 : decode cJ6_bitCount_0f7a4 4 = .ok (.ldc_w 265, 3) := by decide +kernel
theorem dJ6_bitCount_0f7a4_7 : decode cJ6_bitCount_0f7a4 7 = .ok (.iand, 1) := by decide +kernel
theorem dJ6_bitCount_0f7a4_8 : decode cJ6_bitCount_0f7a4 8 = .ok (.isub, 1) := by decide +kernel
theorem dJ6_bitCount_0f7a4_9 : decode cJ6_bitCount_0f7a4 9 = .ok (.istore_n 0, 1) := by decide +kernel
theorem dJ6_bitCount_0f7a4_10 : decode cJ6_bitCount_0f7a4 10 = .ok (.iload_n 0, 1) := by decide +kernel
theorem dJ6_bitCount_0f7a4_11 : decode cJ6_bitCount_0f7a4 11 = .ok (.ldc_w 266, 3) := by decide +kernel
theorem dJ6_bitCount_0f7a4_14 : decode cJ6_bitCount_0f7a4 14 = .ok (.iand, 1) := by decide +kernel
theorem dJ6_bitCount_0f7a4_15 : decode cJ6_bitCount_0f7a4 15 = .ok (.iload_n 0, 1) := by decide +kernel
theorem dJ6_bitCount_0f7a4_16 : decode cJ6_bitCount_0f7a4 16 = .ok (.iconst 2, 1) := by decide +kernel
theorem dJ6_bitCount_0f7a4_17 : decode cJ6_bitCount_0f7a4 17 = .ok (.iushr, 1) := by decide +kernel
theorem dJ6_bitCount_0f7a4_18 : decode cJ6_bitCount_0f7a4 18 = .ok (.ldc_w 266, 3) := by decide +kernel
theorem dJ6_bitCount_0f7a4_21 : decode cJ6_bitCount_0f7a4 21 = .ok (.iand, 1) := by decide +kernel
theorem dJ6_bitCount_0f7a4_22 : decode cJ6_bitCount_0f7a4 22 = .ok (.iadd, 1) := by decide +kernel
theorem dJ6_bitCount_0f7a4_23 : decode cJ6_bitCount_0f7a4 23 = .ok (.istore_n 0, 1) := by decide +kernel
theorem dJ6_bitCount_0f7a4_24 : decode cJ6_bitCount_0f7a4 24 = .ok (.iload_n 0, 1) := by decide +kernel
theorem dJ6_bitCount_0f7a4_25 : decode cJ6_bitCount_0f7a4 25 = .ok (.iload_n 0, 1) := by decide +kernel
theorem dJ6_bitCount_0f7a4_26 : decode cJ6_bitCount_0f7a4 26 = .ok (.iconst 4, 1) := by decide +kernel
theorem dJ6_bitCount_0f7a4_27 : decode cJ6_bitCount_0f7a4 27 = .ok (.iushr, 1) := by decide +kernel
theorem dJ6_bitCount_0f7a4_28 : decode cJ6_bitCount_0f7a4 28 = .ok (.iadd, 1) := by decide +kernel
theorem dJ6_bitCount_0f7a4_29 : decode cJ6_bitCount_0f7a4 29 = .ok (.ldc_w 267, 3) := by decide +kernel
theorem dJ6_bitCount_0f7a4_32 : decode cJ6_bitCount_0f7a4 32 = .ok (.iand, 1) := by decide +kernel
theorem dJ6_bitCount_0f7a4_33 : decode cJ6_bitCount_0f7a4 33 = .ok (.istore_n 0, 1) := by decide +kernel
theorem dJ6_bitCount_0f7a4_34 : decode cJ6_bitCount_0f7a4 34 = .ok (.iload_n 0, 1) := by decide +kernel
theorem dJ6_bitCount_0f7a4_35 : decode cJ6_bitCount_0f7a4 35 = .ok (.iload_n 0, 1) := by decide +kernel
theorem dJ6_bitCount_0f7a4_36 : decode cJ6_bitCount_0f7a4 36 = .ok (.bipush 8, 2) := by decide +kernel
theorem dJ6_bitCount_0f7a4_38 : decode cJ6_bitCount_0f7a4 38 = .ok (.iushr, 1) := by decide +kernel
theorem dJ6_bitCount_0f7a4_39 : decode cJ6_bitCount_0f7a4 39 = .ok (.iadd, 1) := by decide +kernel
theorem dJ6_bitCount_0f7a4_40 : decode cJ6_bitCount_0f7a4 40 = .ok (.istore_n 0, 1) := by decide +kernel
theorem dJ6_bitCount_0f7a4_41 : decode cJ6_bitCount_0f7a4 41 = .ok (.iload_n 0, 1) := by decide +kernel
theorem dJ6_bitCount_0f7a4_42 : decode cJ6_bitCount_0f7a4 42 = .ok (.iload_n 0, 1) := by decide +kernel
theorem dJ6_bitCount_0f7a4_43 : decode cJ6_bitCount_0f7a4 43 = .ok (.bipush 16, 2) := by decide +kernel
theorem dJ6_bitCount_0f7a4_45 : decode cJ6_bitCount_0f7a4 45 = .ok (.iushr, 1) := by decide +kernel
theorem dJ6_bitCount_0f7a4_46 : decode cJ6_bitCount_0f7a4 46 = .ok (.iadd, 1) := by decide +kernel
theorem dJ6_bitCount_0f7a4_47 : decode cJ6_bitCount_0f7a4 47 = .ok (.istore_n 0, 1) := by decide +kernel
theorem dJ6_bitCount_0f7a4_48 : decode cJ6_bitCount_0f7a4 48 = .ok (.iload_n 0, 1) := by decide +kernel
theorem dJ6_bitCount_0f7a4_49 : decode cJ6_bitCount_0f7a4 49 = .ok (.bipush 63, 2) := by decide +kernel
theorem dJ6_bitCount_0f7a4_51 : decode cJ6_bitCount_0f7a4 51 = .ok (.iand, 1) := by decide +kernel
theorem dJ6_bitCount_0f7a4_52 : decode cJ6_bitCount_0f7a4 52 = .ok (.ireturn, 1) := by decide +kernel
set_option maxRecDepth 20000 in
theorem ggL_law_X4_init : GoodIn wsL_law wsX4_init := goodIn_r _ [8, 9, 10, 11, 12, 13, 14, 15, 16, 17, 18, 19, 20, 21, 22, 23, 24, 25, 26, 27, 28, 29, 30, 31, 32, 33, 34, 35, 36, 37, 38, 39, 40, 41, 42, 43, 44, 45, 46, 47, 48, 49, 50, 51, 52, 53, 54, 55, 56, 57, 58, 488, 489, 490, 491, 492, 470, 471, 472, 473, 474, 475, 476, 477, 493, 494, 495, 496, 497, 498, 499, 500] (by decide +kernel) (by decide +kernel)
set_option maxRecDepth 20000 in
theorem gL_law_X4_init : GoodIn wsL_law (wsX4_init) := ggL_law_X4_init
set_option maxRecDepth 20000 in
theorem ggL_law_X5_init : GoodIn wsL_law wsX5_init := goodIn_r _ [61, 62, 10, 11, 63, 38, 64, 65, 66, 67, 68, 69, 70, 71, 478, 479, 480, 481, 482, 483, 484, 485, 486, 487] (by decide +kernel) (by decide +kernel)
set_option maxRecDepth 20000 in
theorem gL_law_X5_init : GoodIn wsL_law (wsX5_init) := ggL_law_X5_init
set_option maxRecDepth 20000 in
theorem ggL_law_X4_size : GoodIn wsL_law wsX4_size := goodIn_r _ [75, 15, 31, 76, 14, 77, 78, 35, 36, 40, 39, 79, 80, 81, 82, 83, 84, 85, 86, 37, 470, 471, 472, 473, 474, 475, 476, 477, 488, 489, 490, 491, 492] (by decide +kernel) (by decide +kernel)
set_option maxRecDepth 20000 in
theorem gL_law_X4_size : GoodIn wsL_law (wsV RL 13 RX4 yX4_size wsX4_size) := goodIn_app (goodIn_of _ (by decide +kernel)) ggL_law_X4_size
set_option maxRecDepth 20000 in
theorem ggL_law_X5_size : GoodIn wsL_law wsX5_size := goodIn_r _ [90, 63, 64, 65, 91, 92, 93, 5, 94, 95, 96, 97, 98, 478, 479, 480, 481, 482, 483, 484, 485, 486, 487] (by decide +kernel) (by decide +kernel)
set_option maxRecDepth 20000 in
theorem gL_law_X5_size : GoodIn wsL_law (wsV RL 17 RX5 yX5_size wsX5_size) := goodIn_app (goodIn_of _ (by decide +kernel)) ggL_law_X5_size
set_option maxRecDepth 20000 in
theorem ggL_law_X4_say : GoodIn wsL_law wsX4_say := goodIn_r _ [102, 20, 103, 19, 104, 105, 45, 44, 470, 471, 472, 473, 474, 475, 476, 477, 493, 494] (by decide +kernel) (by decide +kernel)
set_option maxRecDepth 20000 in
theorem gL_law_X4_say : GoodIn wsL_law (wsV RL 18 RX4 yX4_say wsX4_say) := goodIn_app (goodIn_of _ (by decide +kernel)) ggL_law_X4_say
set_option maxRecDepth 20000 in
theorem ggL_law_X5_say : GoodIn wsL_law wsX5_say := goodIn_r _ [109, 110, 66, 92, 93, 5, 94, 478, 479, 480, 481, 482, 483, 484, 485, 486, 487] (by decide +kernel) (by decide +kernel)
set_option maxRecDepth 20000 in
theorem gL_law_X5_say : GoodIn wsL_law (wsV RL 21 RX5 yX5_say wsX5_say) := goodIn_app (goodIn_of _ (by decide +kernel)) ggL_law_X5_say
set_option maxRecDepth 20000 in
theorem ggL_law_X4_wipe : GoodIn wsL_law wsX4_wipe := goodIn_r _ [114, 20, 470, 471, 472, 473, 474, 475, 476, 477, 493, 494] (by decide +kernel) (by decide +kernel)
set_option maxRecDepth 20000 in
theorem gL_law_X4_wipe : GoodIn wsL_law (wsV RL 22 RX4 yX4_wipe wsX4_wipe) := goodIn_app (goodIn_of _ (by decide +kernel)) ggL_law_X4_wipe
set_option maxRecDepth 20000 in
theorem ggL_law_X5_wipe : GoodIn wsL_law wsX5_wipe := goodIn_r _ [118, 110, 478, 479, 480, 481, 482, 483, 484, 485, 486, 487] (by decide +kernel) (by decide +kernel)
set_option maxRecDepth 20000 in
theorem gL_law_X5_wipe : GoodIn wsL_law (wsV RL 26 RX5 yX5_wipe wsX5_wipe) := goodIn_app (goodIn_of _ (by decide +kernel)) ggL_law_X5_wipe
set_option maxRecDepth 20000 in
theorem ggL_law_X4_define : GoodIn wsL_law wsX4_define := goodIn_r _ [122, 20, 15, 30, 31, 123, 19, 124, 125, 45, 44, 126, 127, 128, 129, 130, 131, 132, 133, 134, 135, 84, 14, 85, 86, 40, 37, 136, 137, 138, 139, 140, 141, 142, 143, 144, 145, 146, 147, 148, 149, 150, 151, 470, 471, 472, 473, 474, 475, 476, 477, 488, 489, 490, 491, 492, 493, 494] (by decide +kernel) (by decide +kernel)
set_option maxRecDepth 20000 in
theorem gL_law_X4_define : GoodIn wsL_law (wsV RL 27 RX4 yX4_define wsX4_define) := goodIn_app (goodIn_of _ (by decide +kernel)) ggL_law_X4_define
set_option maxRecDepth 20000 in
theorem ggL_law_X5_define : GoodIn wsL_law wsX5_define := goodIn_r _ [155, 67, 66, 64, 110, 156, 157, 158, 5, 159, 160, 161, 162, 163, 164, 165, 166, 167, 63, 92, 93, 94, 168, 169, 170, 171, 172, 173, 174, 175, 176, 177, 478, 479, 480, 481, 482, 483, 484, 485, 486, 487] (by decide +kernel) (by decide +kernel)
set_option maxRecDepth 20000 in
theorem gL_law_X5_define : GoodIn wsL_law (wsV RL 30 RX5 yX5_define wsX5_define) := goodIn_app (goodIn_of _ (by decide +kernel)) ggL_law_X5_define
set_option maxRecDepth 20000 in
theorem ggL_law_X4_fault : GoodIn wsL_law wsX4_fault := goodIn_r _ [181, 20, 15, 123, 19, 124, 125, 45, 44, 126, 127, 128, 129, 130, 131, 132, 470, 471, 472, 473, 474, 475, 476, 477, 488, 489, 490, 491, 492, 493, 494] (by decide +kernel) (by decide +kernel)
set_option maxRecDepth 20000 in
theorem gL_law_X4_fault : GoodIn wsL_law (wsV RL 31 RX4 yX4_fault wsX4_fault) := goodIn_app (goodIn_of _ (by decide +kernel)) ggL_law_X4_fault
set_option maxRecDepth 20000 in
theorem ggL_law_X5_fault : GoodIn wsL_law wsX5_fault := goodIn_r _ [185, 156, 157, 158, 5, 159, 110, 160, 161, 162, 163, 66, 164, 165, 166, 167, 63, 92, 93, 94, 168, 169, 170, 171, 172, 173, 174, 478, 479, 480, 481, 482, 483, 484, 485, 486, 487] (by decide +kernel) (by decide +kernel)
set_option maxRecDepth 20000 in
theorem gL_law_X5_fault : GoodIn wsL_law (wsV RL 34 RX5 yX5_fault wsX5_fault) := goodIn_app (goodIn_of _ (by decide +kernel)) ggL_law_X5_fault
set_option maxRecDepth 20000 in
theorem ggL_law_X4_uses : GoodIn wsL_law wsX4_uses := goodIn_r _ [189, 15, 190, 14, 191, 192, 35, 142, 143, 144, 37, 470, 471, 472, 473, 474, 475, 476, 477, 488, 489, 490, 491, 492] (by decide +kernel) (by decide +kernel)
set_option maxRecDepth 20000 in
theorem gL_law_X4_uses : GoodIn wsL_law (wsV RL 35 RX4 yX4_uses wsX4_uses) := goodIn_app (goodIn_of _ (by decide +kernel)) ggL_law_X4_uses
set_option maxRecDepth 20000 in
theorem ggL_law_X5_uses : GoodIn wsL_law wsX5_uses := goodIn_r _ [196, 64, 164, 165, 166, 5, 167, 63, 92, 93, 94, 478, 479, 480, 481, 482, 483, 484, 485, 486, 487] (by decide +kernel) (by decide +kernel)
set_option maxRecDepth 20000 in
theorem gL_law_X5_uses : GoodIn wsL_law (wsV RL 38 RX5 yX5_uses wsX5_uses) := goodIn_app (goodIn_of _ (by decide +kernel)) ggL_law_X5_uses
set_option maxRecDepth 20000 in
theorem ggL_law_X4_users : GoodIn wsL_law wsX4_users := goodIn_r _ [200, 15, 190, 14, 191, 192, 35, 201, 202, 203, 40, 470, 471, 472, 473, 474, 475, 476, 477, 488, 489, 490, 491, 492] (by decide +kernel) (by decide +kernel)
set_option maxRecDepth 20000 in
theorem gL_law_X4_users : GoodIn wsL_law (wsV RL 39 RX4 yX4_users wsX4_users) := goodIn_app (goodIn_of _ (by decide +kernel)) ggL_law_X4_users
set_option maxRecDepth 20000 in
theorem ggL_law_X5_users : GoodIn wsL_law wsX5_users := goodIn_r _ [207, 164, 165, 166, 5, 167, 63, 92, 93, 94, 208, 209, 210, 211, 212, 213, 214, 215, 64, 172, 173, 174, 478, 479, 480, 481, 482, 483, 484, 485, 486, 487] (by decide +kernel) (by decide +kernel)
set_option maxRecDepth 20000 in
theorem gL_law_X5_users : GoodIn wsL_law (wsV RL 42 RX5 yX5_users wsX5_users) := goodIn_app (goodIn_of _ (by decide +kernel)) ggL_law_X5_users
set_option maxRecDepth 20000 in
theorem ggL_law_X4_cost : GoodIn wsL_law wsX4_cost := goodIn_r _ [219, 15, 190, 14, 191, 192, 35, 470, 471, 472, 473, 474, 475, 476, 477, 488, 489, 490, 491, 492] (by decide +kernel) (by decide +kernel)
set_option maxRecDepth 20000 in
theorem gL_law_X4_cost : GoodIn wsL_law (wsV RL 43 RX4 yX4_cost wsX4_cost) := goodIn_app (goodIn_of _ (by decide +kernel)) ggL_law_X4_cost
set_option maxRecDepth 20000 in
theorem ggL_law_X5_cost : GoodIn wsL_law wsX5_cost := goodIn_r _ [223, 65, 164, 165, 166, 5, 167, 63, 92, 93, 94, 478, 479, 480, 481, 482, 483, 484, 485, 486, 487] (by decide +kernel) (by decide +kernel)
set_option maxRecDepth 20000 in
theorem gL_law_X5_cost : GoodIn wsL_law (wsV RL 47 RX5 yX5_cost wsX5_cost) := goodIn_app (goodIn_of _ (by decide +kernel)) ggL_law_X5_cost
set_option maxRecDepth 20000 in
theorem ggL_law_X4_grounds : GoodIn wsL_law wsX4_grounds := goodIn_r _ [227, 15, 228, 14, 229, 230, 79, 80, 81, 82, 35, 231, 232, 233, 234, 235, 236, 237, 40, 238, 142, 143, 144, 37, 470, 471, 472, 473, 474, 475, 476, 477, 488, 489, 490, 491, 492] (by decide +kernel) (by decide +kernel)
set_option maxRecDepth 20000 in
theorem gL_law_X4_grounds : GoodIn wsL_law (wsV RL 48 RX4 yX4_grounds wsX4_grounds) := goodIn_app (goodIn_of _ (by decide +kernel)) ggL_law_X4_grounds
set_option maxRecDepth 20000 in
theorem ggL_law_X5_grounds : GoodIn wsL_law wsX5_grounds := goodIn_r _ [242, 243, 244, 245, 5, 246, 95, 96, 97, 98, 63, 92, 93, 94, 247, 248, 249, 250, 251, 252, 253, 254, 64, 478, 479, 480, 481, 482, 483, 484, 485, 486, 487] (by decide +kernel) (by decide +kernel)
set_option maxRecDepth 20000 in
theorem gL_law_X5_grounds : GoodIn wsL_law (wsV RL 51 RX5 yX5_grounds wsX5_grounds) := goodIn_app (goodIn_of _ (by decide +kernel)) ggL_law_X5_grounds
set_option maxRecDepth 20000 in
theorem ggL_law_X4_day : GoodIn wsL_law wsX4_day := goodIn_r _ [258, 15, 190, 14, 191, 192, 35, 228, 229, 230, 79, 80, 81, 82, 259, 260, 261, 234, 235, 236, 237, 40, 238, 142, 143, 144, 37, 470, 471, 472, 473, 474, 475, 476, 477, 488, 489, 490, 491, 492] (by decide +kernel) (by decide +kernel)
set_option maxRecDepth 20000 in
theorem gL_law_X4_day : GoodIn wsL_law (wsV RL 52 RX4 yX4_day wsX4_day) := goodIn_app (goodIn_of _ (by decide +kernel)) ggL_law_X4_day
set_option maxRecDepth 20000 in
theorem ggL_law_X5_day : GoodIn wsL_law wsX5_day := goodIn_r _ [265, 164, 165, 166, 5, 167, 63, 92, 93, 94, 243, 244, 245, 246, 95, 96, 97, 98, 247, 248, 249, 250, 251, 252, 253, 254, 64, 172, 173, 174, 478, 479, 480, 481, 482, 483, 484, 485, 486, 487] (by decide +kernel) (by decide +kernel)
set_option maxRecDepth 20000 in
theorem gL_law_X5_day : GoodIn wsL_law (wsV RL 55 RX5 yX5_day wsX5_day) := goodIn_app (goodIn_of _ (by decide +kernel)) ggL_law_X5_day
set_option maxRecDepth 20000 in
theorem ggL_law_X4_learned : GoodIn wsL_law wsX4_learned := goodIn_r _ [269, 15, 228, 14, 229, 230, 79, 80, 81, 82, 35, 235, 236, 237, 40, 238, 142, 143, 144, 37, 470, 471, 472, 473, 474, 475, 476, 477, 488, 489, 490, 491, 492] (by decide +kernel) (by decide +kernel)
set_option maxRecDepth 20000 in
theorem gL_law_X4_learned : GoodIn wsL_law (wsV RL 56 RX4 yX4_learned wsX4_learned) := goodIn_app (goodIn_of _ (by decide +kernel)) ggL_law_X4_learned
set_option maxRecDepth 20000 in
theorem ggL_law_X5_learned : GoodIn wsL_law wsX5_learned := goodIn_r _ [273, 243, 244, 245, 5, 246, 95, 96, 97, 98, 63, 92, 93, 94, 247, 248, 249, 250, 251, 252, 253, 254, 64, 478, 479, 480, 481, 482, 483, 484, 485, 486, 487] (by decide +kernel) (by decide +kernel)
set_option maxRecDepth 20000 in
theorem gL_law_X5_learned : GoodIn wsL_law (wsV RL 59 RX5 yX5_learned wsX5_learned) := goodIn_app (goodIn_of _ (by decide +kernel)) ggL_law_X5_learned
set_option maxRecDepth 20000 in
theorem ggL_law_X4_know : GoodIn wsL_law wsX4_know := goodIn_r _ [277, 15, 228, 14, 229, 230, 79, 80, 81, 82, 35, 470, 471, 472, 473, 474, 475, 476, 477, 488, 489, 490, 491, 492] (by decide +kernel) (by decide +kernel)
set_option maxRecDepth 20000 in
theorem gL_law_X4_know : GoodIn wsL_law (wsV RL 60 RX4 yX4_know wsX4_know) := goodIn_app (goodIn_of _ (by decide +kernel)) ggL_law_X4_know
set_option maxRecDepth 20000 in
theorem ggL_law_X5_know : GoodIn wsL_law wsX5_know := goodIn_r _ [281, 91, 243, 244, 245, 5, 246, 95, 96, 97, 98, 63, 92, 93, 94, 478, 479, 480, 481, 482, 483, 484, 485, 486, 487] (by decide +kernel) (by decide +kernel)
set_option maxRecDepth 20000 in
theorem gL_law_X5_know : GoodIn wsL_law (wsV RL 63 RX5 yX5_know wsX5_know) := goodIn_app (goodIn_of _ (by decide +kernel)) ggL_law_X5_know
set_option maxRecDepth 20000 in
theorem ggL_law_X4_plan : GoodIn wsL_law wsX4_plan := goodIn_r _ [285, 15, 286, 287, 288, 2, 289, 31, 28, 290, 291, 292, 293, 24, 294, 23, 295, 296, 49, 50, 51, 297, 27, 298, 299, 55, 56, 80, 14, 81, 82, 35, 300, 146, 147, 148, 149, 150, 151, 301, 302, 303, 304, 305, 306, 307, 308, 58, 309, 310, 311, 312, 313, 314, 315, 316, 317, 318, 319, 320, 321, 322, 39, 145, 259, 260, 261, 234, 235, 236, 237, 40, 238, 142, 143, 144, 37, 470, 471, 472, 473, 474, 475, 476, 477, 488, 489, 490, 491, 492, 495, 496, 497, 498, 499, 500] (by decide +kernel) (by decide +kernel)
set_option maxRecDepth 20000 in
theorem gL_law_X4_plan : GoodIn wsL_law (wsV RL 64 RX4 yX4_plan wsX4_plan) := goodIn_app (goodIn_of _ (by decide +kernel)) ggL_law_X4_plan
set_option maxRecDepth 20000 in
theorem ggL_law_X5_plan : GoodIn wsL_law wsX5_plan := goodIn_r _ [326, 91, 92, 93, 5, 94, 327, 328, 329, 330, 95, 96, 97, 98, 63, 331, 332, 333, 334, 335, 336, 337, 338, 65, 172, 173, 174, 175, 176, 177, 247, 248, 249, 250, 251, 252, 253, 254, 64, 478, 479, 480, 481, 482, 483, 484, 485, 486, 487] (by decide +kernel) (by decide +kernel)
set_option maxRecDepth 20000 in
theorem gL_law_X5_plan : GoodIn wsL_law (wsV RL 67 RX5 yX5_plan wsX5_plan) := goodIn_app (goodIn_of _ (by decide +kernel)) ggL_law_X5_plan
set_option maxRecDepth 20000 in
theorem ggL_law_X4_saves : GoodIn wsL_law wsX4_saves := goodIn_r _ [342, 15, 190, 14, 191, 192, 35, 286, 287, 288, 2, 289, 31, 28, 290, 291, 292, 293, 24, 294, 23, 295, 296, 49, 50, 51, 297, 27, 298, 299, 55, 56, 80, 81, 82, 300, 146, 147, 148, 149, 150, 151, 301, 302, 303, 304, 305, 306, 307, 308, 58, 309, 310, 311, 312, 313, 314, 315, 316, 317, 318, 319, 320, 321, 322, 39, 470, 471, 472, 473, 474, 475, 476, 477, 488, 489, 490, 491, 492, 495, 496, 497, 498, 499, 500] (by decide +kernel) (by decide +kernel)
set_option maxRecDepth 20000 in
theorem gL_law_X4_saves : GoodIn wsL_law (wsV RL 68 RX4 yX4_saves wsX4_saves) := goodIn_app (goodIn_of _ (by decide +kernel)) ggL_law_X4_saves
set_option maxRecDepth 20000 in
theorem ggL_law_X5_saves : GoodIn wsL_law wsX5_saves := goodIn_r _ [346, 91, 164, 165, 166, 5, 167, 63, 92, 93, 94, 327, 328, 329, 330, 95, 96, 97, 98, 331, 332, 333, 334, 335, 336, 337, 338, 65, 172, 173, 174, 175, 176, 177, 247, 248, 249, 250, 251, 252, 253, 254, 64, 478, 479, 480, 481, 482, 483, 484, 485, 486, 487] (by decide +kernel) (by decide +kernel)
set_option maxRecDepth 20000 in
theorem gL_law_X5_saves : GoodIn wsL_law (wsV RL 71 RX5 yX5_saves wsX5_saves) := goodIn_app (goodIn_of _ (by decide +kernel)) ggL_law_X5_saves
set_option maxRecDepth 20000 in
theorem ggL_law_X4_least : GoodIn wsL_law wsX4_least := goodIn_r _ [350, 15, 190, 14, 191, 192, 35, 286, 287, 288, 2, 289, 31, 28, 290, 291, 292, 293, 24, 294, 23, 295, 296, 49, 50, 51, 297, 27, 298, 299, 55, 56, 80, 81, 82, 300, 146, 147, 148, 149, 150, 151, 301, 302, 303, 304, 305, 306, 307, 308, 58, 309, 310, 311, 312, 313, 314, 315, 316, 351, 352, 353, 354, 355, 356, 357, 358, 359, 360, 470, 471, 472, 473, 474, 475, 476, 477, 488, 489, 490, 491, 492, 495, 496, 497, 498, 499, 500] (by decide +kernel) (by decide +kernel)
set_option maxRecDepth 20000 in
theorem gL_law_X4_least : GoodIn wsL_law (wsV RL 72 RX4 yX4_least wsX4_least) := goodIn_app (goodIn_of _ (by decide +kernel)) ggL_law_X4_least
set_option maxRecDepth 20000 in
theorem ggL_law_X5_least : GoodIn wsL_law wsX5_least := goodIn_r _ [364, 63, 69, 92, 93, 5, 94, 95, 96, 97, 98, 247, 248, 249, 250, 251, 252, 253, 254, 64, 365, 366, 367, 368, 172, 173, 174, 175, 176, 177, 478, 479, 480, 481, 482, 483, 484, 485, 486, 487] (by decide +kernel) (by decide +kernel)
set_option maxRecDepth 20000 in
theorem gL_law_X5_least : GoodIn wsL_law (wsV RL 75 RX5 yX5_least wsX5_least) := goodIn_app (goodIn_of _ (by decide +kernel)) ggL_law_X5_least
set_option maxRecDepth 20000 in
theorem ggL_law_X4_way : GoodIn wsL_law wsX4_way := goodIn_r _ [372, 15, 190, 14, 191, 192, 35, 373, 374, 375, 40, 376, 377, 378, 379, 470, 471, 472, 473, 474, 475, 476, 477, 488, 489, 490, 491, 492] (by decide +kernel) (by decide +kernel)
set_option maxRecDepth 20000 in
theorem gL_law_X4_way : GoodIn wsL_law (wsV RL 76 RX4 yX4_way wsX4_way) := goodIn_app (goodIn_of _ (by decide +kernel)) ggL_law_X4_way
set_option maxRecDepth 20000 in
theorem ggL_law_X5_way : GoodIn wsL_law wsX5_way := goodIn_r _ [383, 164, 165, 166, 5, 167, 63, 92, 93, 94, 384, 385, 386, 387, 388, 389, 390, 391, 64, 172, 173, 174, 478, 479, 480, 481, 482, 483, 484, 485, 486, 487] (by decide +kernel) (by decide +kernel)
set_option maxRecDepth 20000 in
theorem gL_law_X5_way : GoodIn wsL_law (wsV RL 79 RX5 yX5_way wsX5_way) := goodIn_app (goodIn_of _ (by decide +kernel)) ggL_law_X5_way
set_option maxRecDepth 20000 in
theorem ggL_law_X4_ring : GoodIn wsL_law wsX4_ring := goodIn_r _ [395, 290, 291, 292, 2, 293, 24, 15, 294, 23, 295, 296, 49, 50, 51, 396, 397, 398, 399, 400, 401, 402, 403, 404, 405, 470, 471, 472, 473, 474, 475, 476, 477, 488, 489, 490, 491, 492, 495, 496, 497] (by decide +kernel) (by decide +kernel)
set_option maxRecDepth 20000 in
theorem gL_law_X4_ring : GoodIn wsL_law (wsV RL 80 RX4 yX4_ring wsX4_ring) := goodIn_app (goodIn_of _ (by decide +kernel)) ggL_law_X4_ring
set_option maxRecDepth 20000 in
theorem ggL_law_X5_ring : GoodIn wsL_law wsX5_ring := goodIn_r _ [409, 63, 410, 411, 412, 5, 413, 384, 385, 386, 387, 388, 389, 390, 391, 64, 172, 173, 174, 478, 479, 480, 481, 482, 483, 484, 485, 486, 487] (by decide +kernel) (by decide +kernel)
set_option maxRecDepth 20000 in
theorem gL_law_X5_ring : GoodIn wsL_law (wsV RL 83 RX5 yX5_ring wsX5_ring) := goodIn_app (goodIn_of _ (by decide +kernel)) ggL_law_X5_ring
set_option maxRecDepth 20000 in
theorem ggL_law_X4_lie : GoodIn wsL_law wsX4_lie := goodIn_r _ [417, 15, 290, 291, 292, 2, 293, 24, 294, 23, 295, 296, 49, 50, 51, 418, 419, 420, 421, 422, 423, 80, 14, 81, 82, 35, 424, 425, 426, 40, 495, 496, 497, 470, 471, 472, 473, 474, 475, 476, 477, 488, 489, 490, 491, 492] (by decide +kernel) (by decide +kernel)
set_option maxRecDepth 20000 in
theorem gL_law_X4_lie : GoodIn wsL_law (wsV RL 84 RX4 yX4_lie wsX4_lie) := goodIn_app (goodIn_of _ (by decide +kernel)) ggL_law_X4_lie
set_option maxRecDepth 20000 in
theorem ggL_law_X5_lie : GoodIn wsL_law wsX5_lie := goodIn_r _ [430, 63, 64, 92, 93, 5, 94, 410, 411, 412, 413, 384, 385, 386, 387, 388, 389, 390, 391, 172, 173, 174, 208, 209, 210, 211, 212, 213, 214, 215, 431, 432, 433, 434, 435, 436, 437, 438, 478, 479, 480, 481, 482, 483, 484, 485, 486, 487] (by decide +kernel) (by decide +kernel)
set_option maxRecDepth 20000 in
theorem gL_law_X5_lie : GoodIn wsL_law (wsV RL 87 RX5 yX5_lie wsX5_lie) := goodIn_app (goodIn_of _ (by decide +kernel)) ggL_law_X5_lie
set_option maxRecDepth 20000 in
theorem ggL_law_X4_image : GoodIn wsL_law wsX4_image := goodIn_r _ [442, 16, 15, 29, 443, 14, 444, 445, 35, 36, 37, 39, 40, 470, 471, 472, 473, 474, 475, 476, 477, 488, 489, 490, 491, 492] (by decide +kernel) (by decide +kernel)
set_option maxRecDepth 20000 in
theorem gL_law_X4_image : GoodIn wsL_law (wsV RL 88 RX4 yX4_image wsX4_image) := goodIn_app (goodIn_of _ (by decide +kernel)) ggL_law_X4_image
set_option maxRecDepth 20000 in
theorem ggL_law_X5_image : GoodIn wsL_law wsX5_image := goodIn_r _ [449, 70, 63, 91, 64, 65, 71, 92, 93, 5, 94, 478, 479, 480, 481, 482, 483, 484, 485, 486, 487] (by decide +kernel) (by decide +kernel)
set_option maxRecDepth 20000 in
theorem gL_law_X5_image : GoodIn wsL_law (wsV RL 91 RX5 yX5_image wsX5_image) := goodIn_app (goodIn_of _ (by decide +kernel)) ggL_law_X5_image
set_option maxRecDepth 20000 in
theorem ggL_law_X4_restore : GoodIn wsL_law wsX4_restore := goodIn_r _ [453, 29, 15, 16, 31, 443, 14, 444, 445, 35, 36, 37, 39, 40, 470, 471, 472, 473, 474, 475, 476, 477, 488, 489, 490, 491, 492] (by decide +kernel) (by decide +kernel)
set_option maxRecDepth 20000 in
theorem gL_law_X4_restore : GoodIn wsL_law (wsV RL 92 RX4 yX4_restore wsX4_restore) := goodIn_app (goodIn_of _ (by decide +kernel)) ggL_law_X4_restore
set_option maxRecDepth 20000 in
theorem ggL_law_X5_restore : GoodIn wsL_law wsX5_restore := goodIn_r _ [457, 71, 70, 63, 91, 64, 65, 92, 93, 5, 94, 478, 479, 480, 481, 482, 483, 484, 485, 486, 487] (by decide +kernel) (by decide +kernel)
set_option maxRecDepth 20000 in
theorem gL_law_X5_restore : GoodIn wsL_law (wsV RL 95 RX5 yX5_restore wsX5_restore) := goodIn_app (goodIn_of _ (by decide +kernel)) ggL_law_X5_restore
set_option maxRecDepth 20000 in
theorem ggL_law_X4_count : GoodIn wsL_law wsX4_count := goodIn_r _ [461, 15, 20, 30, 29, 145, 146, 147, 148, 149, 150, 151, 462, 14, 463, 464, 35, 40, 465, 190, 191, 192, 470, 471, 472, 473, 474, 475, 476, 477, 488, 489, 490, 491, 492, 493, 494] (by decide +kernel) (by decide +kernel)
set_option maxRecDepth 20000 in
theorem gL_law_X4_count : GoodIn wsL_law (wsV RL 96 RX4 yX4_count wsX4_count) := goodIn_app (goodIn_of _ (by decide +kernel)) ggL_law_X4_count
set_option maxRecDepth 20000 in
theorem ggL_law_X5_count : GoodIn wsL_law wsX5_count := goodIn_r _ [469, 63, 65, 64, 91, 110, 67, 71, 92, 93, 5, 94, 175, 176, 177, 478, 479, 480, 481, 482, 483, 484, 485, 486, 487] (by decide +kernel) (by decide +kernel)
set_option maxRecDepth 20000 in
theorem gL_law_X5_count : GoodIn wsL_law (wsV RL 99 RX5 yX5_count wsX5_count) := goodIn_app (goodIn_of _ (by decide +kernel)) ggL_law_X5_count
theorem dL_law_0 : decode cL_law 0 = .ok (.new 7, 3) := by decide +kernel
theorem dL_law_3 : decode cL_law 3 = .ok (.dup, 1) := by decide +kernel
theorem dL_law_4 : decode cL_law 4 = .ok (.invokespecial 9, 3) := by decide +kernel
theorem dL_law_7 : decode cL_law 7 = .ok (.astore_n 1, 1) := by decide +kernel
theorem dL_law_8 : decode cL_law 8 = .ok (.new 10, 3) := by decide +kernel
theorem dL_law_11 : decode cL_law 11 = .ok (.dup, 1) := by decide +kernel
theorem dL_law_12 : decode cL_law 12 = .ok (.invokespecial 12, 3) := by decide +kernel
theorem dL_law_15 : decode cL_law 15 = .ok (.astore_n 2, 1) := by decide +kernel
theorem dL_law_16 : decode cL_law 16 = .ok (.iconst 0, 1) := by decide +kernel
theorem dL_law_17 : decode cL_law 17 = .ok (.istore_n 3, 1) := by decide +kernel
theorem dL_law_18 : decode cL_law 18 = .ok (.iload_n 3, 1) := by decide +kernel
theorem dL_law_19 : decode cL_law 19 = .ok (.aload_n 0, 1) := by decide +kernel
theorem dL_law_20 : decode cL_law 20 = .ok (.arraylength, 1) := by decide +kernel
theorem dL_law_21 : decode cL_law 21 = .ok (.iconst 3, 1) := by decide +kernel
theorem dL_law_22 : decode cL_law 22 = .ok (.isub, 1) := by decide +kernel
theorem dL_law_23 : decode cL_law 23 = .ok (.if_icmp .gt 608, 3) := by decide +kernel
theorem dL_law_26 : decode cL_law 26 = .ok (.aload_n 0, 1) := by decide +kernel
theorem dL_law_27 : decode cL_law 27 = .ok (.iload_n 3, 1) := by decide +kernel
theorem dL_law_28 : decode cL_law 28 = .ok (.iaload, 1) := by decide +kernel
theorem dL_law_29 : decode cL_law 29 = .ok (.bipush 31, 2) := by decide +kernel
theorem dL_law_31 : decode cL_law 31 = .ok (.iand, 1) := by decide +kernel
theorem dL_law_32 : decode cL_law 32 = .ok (.tableswitch 593 0 20 #[100, 123, 146, 159, 172, 185, 208, 231, 264, 287, 320, 353, 376, 399, 422, 445, 478, 501, 524, 547, 570], 100) := by decide +kernel
theorem dL_law_132 : decode cL_law 132 = .ok (.aload_n 1, 1) := by decide +kernel
theorem dL_law_133 : decode cL_law 133 = .ok (.aload_n 0, 1) := by decide +kernel
theorem dL_law_134 : decode cL_law 134 = .ok (.iload_n 3, 1) := by decide +kernel
theorem dL_law_135 : decode cL_law 135 = .ok (.iconst 1, 1) := by decide +kernel
theorem dL_law_136 : decode cL_law 136 = .ok (.iadd, 1) := by decide +kernel
theorem dL_law_137 : decode cL_law 137 = .ok (.iaload, 1) := by decide +kernel
theorem dL_law_138 : decode cL_law 138 = .ok (.invokevirtual 13, 3) := by decide +kernel
theorem dL_law_141 : decode cL_law 141 = .ok (.aload_n 2, 1) := by decide +kernel
theorem dL_law_142 : decode cL_law 142 = .ok (.aload_n 0, 1) := by decide +kernel
theorem dL_law_143 : decode cL_law 143 = .ok (.iload_n 3, 1) := by decide +kernel
theorem dL_law_144 : decode cL_law 144 = .ok (.iconst 1, 1) := by decide +kernel
theorem dL_law_145 : decode cL_law 145 = .ok (.iadd, 1) := by decide +kernel
theorem dL_law_146 : decode cL_law 146 = .ok (.iaload, 1) := by decide +kernel
theorem dL_law_147 : decode cL_law 147 = .ok (.invokevirtual 17, 3) := by decide +kernel
theorem dL_law_150 : decode cL_law 150 = .ok (.if_icmp .eq 475, 3) := by decide +kernel
theorem dL_law_153 : decode cL_law 153 = .ok (.iconst 0, 1) := by decide +kernel
theorem dL_law_154 : decode cL_law 154 = .ok (.ireturn, 1) := by decide +kernel
theorem dL_law_155 : decode cL_law 155 = .ok (.aload_n 1, 1) := by decide +kernel
theorem dL_law_156 : decode cL_law 156 = .ok (.aload_n 0, 1) := by decide +kernel
theorem dL_law_157 : decode cL_law 157 = .ok (.iload_n 3, 1) := by decide +kernel
theorem dL_law_158 : decode cL_law 158 = .ok (.iconst 1, 1) := by decide +kernel
theorem dL_law_159 : decode cL_law 159 = .ok (.iadd, 1) := by decide +kernel
theorem dL_law_160 : decode cL_law 160 = .ok (.iaload, 1) := by decide +kernel
theorem dL_law_161 : decode cL_law 161 = .ok (.invokevirtual 18, 3) := by decide +kernel
theorem dL_law_164 : decode cL_law 164 = .ok (.aload_n 2, 1) := by decide +kernel
theorem dL_law_165 : decode cL_law 165 = .ok (.aload_n 0, 1) := by decide +kernel
theorem dL_law_166 : decode cL_law 166 = .ok (.iload_n 3, 1) := by decide +kernel
theorem dL_law_167 : decode cL_law 167 = .ok (.iconst 1, 1) := by decide +kernel
theorem dL_law_168 : decode cL_law 168 = .ok (.iadd, 1) := by decide +kernel
theorem dL_law_169 : decode cL_law 169 = .ok (.iaload, 1) := by decide +kernel
theorem dL_law_170 : decode cL_law 170 = .ok (.invokevirtual 21, 3) := by decide +kernel
theorem dL_law_173 : decode cL_law 173 = .ok (.if_icmp .eq 452, 3) := by decide +kernel
theorem dL_law_176 : decode cL_law 176 = .ok (.iconst 0, 1) := by decide +kernel
theorem dL_law_177 : decode cL_law 177 = .ok (.ireturn, 1) := by decide +kernel
theorem dL_law_178 : decode cL_law 178 = .ok (.aload_n 1, 1) := by decide +kernel
theorem dL_law_179 : decode cL_law 179 = .ok (.invokevirtual 22, 3) := by decide +kernel
theorem dL_law_182 : decode cL_law 182 = .ok (.aload_n 2, 1) := by decide +kernel
theorem dL_law_183 : decode cL_law 183 = .ok (.invokevirtual 26, 3) := by decide +kernel
theorem dL_law_186 : decode cL_law 186 = .ok (.if_icmp .eq 439, 3) := by decide +kernel
theorem dL_law_189 : decode cL_law 189 = .ok (.iconst 0, 1) := by decide +kernel
theorem dL_law_190 : decode cL_law 190 = .ok (.ireturn, 1) := by decide +kernel
theorem dL_law_191 : decode cL_law 191 = .ok (.aload_n 1, 1) := by decide +kernel
theorem dL_law_192 : decode cL_law 192 = .ok (.invokevirtual 27, 3) := by decide +kernel
theorem dL_law_195 : decode cL_law 195 = .ok (.aload_n 2, 1) := by decide +kernel
theorem dL_law_196 : decode cL_law 196 = .ok (.invokevirtual 30, 3) := by decide +kernel
theorem dL_law_199 : decode cL_law 199 = .ok (.if_icmp .eq 426, 3) := by decide +kernel
theorem dL_law_202 : decode cL_law 202 = .ok (.iconst 0, 1) := by decide +kernel
theorem dL_law_203 : decode cL_law 203 = .ok (.ireturn, 1) := by decide +kernel
theorem dL_law_204 : decode cL_law 204 = .ok (.aload_n 1, 1) := by decide +kernel
theorem dL_law_205 : decode cL_law 205 = .ok (.invokevirtual 31, 3) := by decide +kernel
theorem dL_law_208 : decode cL_law 208 = .ok (.aload_n 2, 1) := by decide +kernel
theorem dL_law_209 : decode cL_law 209 = .ok (.invokevirtual 34, 3) := by decide +kernel
theorem dL_law_212 : decode cL_law 212 = .ok (.if_icmp .eq 413, 3) := by decide +kernel
theorem dL_law_215 : decode cL_law 215 = .ok (.iconst 0, 1) := by decide +kernel
theorem dL_law_216 : decode cL_law 216 = .ok (.ireturn, 1) := by decide +kernel
theorem dL_law_217 : decode cL_law 217 = .ok (.aload_n 1, 1) := by decide +kernel
theorem dL_law_218 : decode cL_law 218 = .ok (.aload_n 0, 1) := by decide +kernel
theorem dL_law_219 : decode cL_law 219 = .ok (.iload_n 3, 1) := by decide +kernel
theorem dL_law_220 : decode cL_law 220 = .ok (.iconst 1, 1) := by decide +kernel
theorem dL_law_221 : decode cL_law 221 = .ok (.iadd, 1) := by decide +kernel
theorem dL_law_222 : decode cL_law 222 = .ok (.iaload, 1) := by decide +kernel
theorem dL_law_223 : decode cL_law 223 = .ok (.invokevirtual 35, 3) := by decide +kernel
theorem dL_law_226 : decode cL_law 226 = .ok (.aload_n 2, 1) := by decide +kernel
theorem dL_law_227 : decode cL_law 227 = .ok (.aload_n 0, 1) := by decide +kernel
theorem dL_law_228 : decode cL_law 228 = .ok (.iload_n 3, 1) := by decide +kernel
theorem dL_law_229 : decode cL_law 229 = .ok (.iconst 1, 1) := by decide +kernel
theorem dL_law_230 : decode cL_law 230 = .ok (.iadd, 1) := by decide +kernel
theorem dL_law_231 : decode cL_law 231 = .ok (.iaload, 1) := by decide +kernel
theorem dL_law_232 : decode cL_law 232 = .ok (.invokevirtual 38, 3) := by decide +kernel
theorem dL_law_235 : decode cL_law 235 = .ok (.if_icmp .eq 390, 3) := by decide +kernel
theorem dL_law_238 : decode cL_law 238 = .ok (.iconst 0, 1) := by decide +kernel
theorem dL_law_239 : decode cL_law 239 = .ok (.ireturn, 1) := by decide +kernel
theorem dL_law_240 : decode cL_law 240 = .ok (.aload_n 1, 1) := by decide +kernel
theorem dL_law_241 : decode cL_law 241 = .ok (.aload_n 0, 1) := by decide +kernel
theorem dL_law_242 : decode cL_law 242 = .ok (.iload_n 3, 1) := by decide +kernel
theorem dL_law_243 : decode cL_law 243 = .ok (.iconst 1, 1) := by decide +kernel
theorem dL_law_244 : decode cL_law 244 = .ok (.iadd, 1) := by decide +kernel
theorem dL_law_245 : decode cL_law 245 = .ok (.iaload, 1) := by decide +kernel
theorem dL_law_246 : decode cL_law 246 = .ok (.invokevirtual 39, 3) := by decide +kernel
theorem dL_law_249 : decode cL_law 249 = .ok (.aload_n 2, 1) := by decide +kernel
theorem dL_law_250 : decode cL_law 250 = .ok (.aload_n 0, 1) := by decide +kernel
theorem dL_law_251 : decode cL_law 251 = .ok (.iload_n 3, 1) := by decide +kernel
theorem dL_law_252 : decode cL_law 252 = .ok (.iconst 1, 1) := by decide +kernel
theorem dL_law_253 : decode cL_law 253 = .ok (.iadd, 1) := by decide +kernel
theorem dL_law_254 : decode cL_law 254 = .ok (.iaload, 1) := by decide +kernel
theorem dL_law_255 : decode cL_law 255 = .ok (.invokevirtual 42, 3) := by decide +kernel
theorem dL_law_258 : decode cL_law 258 = .ok (.if_icmp .eq 367, 3) := by decide +kernel
theorem dL_law_261 : decode cL_law 261 = .ok (.iconst 0, 1) := by decide +kernel
theorem dL_law_262 : decode cL_law 262 = .ok (.ireturn, 1) := by decide +kernel
theorem dL_law_263 : decode cL_law 263 = .ok (.aload_n 1, 1) := by decide +kernel
theorem dL_law_264 : decode cL_law 264 = .ok (.aload_n 0, 1) := by decide +kernel
theorem dL_law_265 : decode cL_law 265 = .ok (.iload_n 3, 1) := by decide +kernel
theorem dL_law_266 : decode cL_law 266 = .ok (.iconst 1, 1) := by decide +kernel
theorem dL_law_267 : decode cL_law 267 = .ok (.iadd, 1) := by decide +kernel
theorem dL_law_268 : decode cL_law 268 = .ok (.iaload, 1) := by decide +kernel
theorem dL_law_269 : decode cL_law 269 = .ok (.aload_n 0, 1) := by decide +kernel
theorem dL_law_270 : decode cL_law 270 = .ok (.iload_n 3, 1) := by decide +kernel
theorem dL_law_271 : decode cL_law 271 = .ok (.iconst 2, 1) := by decide +kernel
theorem dL_law_272 : decode cL_law 272 = .ok (.iadd, 1) := by decide +kernel
theorem dL_law_273 : decode cL_law 273 = .ok (.iaload, 1) := by decide +kernel
theorem dL_law_274 : decode cL_law 274 = .ok (.invokevirtual 43, 3) := by decide +kernel
theorem dL_law_277 : decode cL_law 277 = .ok (.aload_n 2, 1) := by decide +kernel
theorem dL_law_278 : decode cL_law 278 = .ok (.aload_n 0, 1) := by decide +kernel
theorem dL_law_279 : decode cL_law 279 = .ok (.iload_n 3, 1) := by decide +kernel
theorem dL_law_280 : decode cL_law 280 = .ok (.iconst 1, 1) := by decide +kernel
theorem dL_law_281 : decode cL_law 281 = .ok (.iadd, 1) := by decide +kernel
theorem dL_law_282 : decode cL_law 282 = .ok (.iaload, 1) := by decide +kernel
theorem dL_law_283 : decode cL_law 283 = .ok (.aload_n 0, 1) := by decide +kernel
theorem dL_law_284 : decode cL_law 284 = .ok (.iload_n 3, 1) := by decide +kernel
theorem dL_law_285 : decode cL_law 285 = .ok (.iconst 2, 1) := by decide +kernel
theorem dL_law_286 : decode cL_law 286 = .ok (.iadd, 1) := by decide +kernel
theorem dL_law_287 : decode cL_law 287 = .ok (.iaload, 1) := by decide +kernel
theorem dL_law_288 : decode cL_law 288 = .ok (.invokevirtual 47, 3) := by decide +kernel
theorem dL_law_291 : decode cL_law 291 = .ok (.if_icmp .eq 334, 3) := by decide +kernel
theorem dL_law_294 : decode cL_law 294 = .ok (.iconst 0, 1) := by decide +kernel
theorem dL_law_295 : decode cL_law 295 = .ok (.ireturn, 1) := by decide +kernel
theorem dL_law_296 : decode cL_law 296 = .ok (.aload_n 1, 1) := by decide +kernel
theorem dL_law_297 : decode cL_law 297 = .ok (.aload_n 0, 1) := by decide +kernel
theorem dL_law_298 : decode cL_law 298 = .ok (.iload_n 3, 1) := by decide +kernel
theorem dL_law_299 : decode cL_law 299 = .ok (.iconst 1, 1) := by decide +kernel
theorem dL_law_300 : decode cL_law 300 = .ok (.iadd, 1) := by decide +kernel
theorem dL_law_301 : decode cL_law 301 = .ok (.iaload, 1) := by decide +kernel
theorem dL_law_302 : decode cL_law 302 = .ok (.invokevirtual 48, 3) := by decide +kernel
theorem dL_law_305 : decode cL_law 305 = .ok (.aload_n 2, 1) := by decide +kernel
theorem dL_law_306 : decode cL_law 306 = .ok (.aload_n 0, 1) := by decide +kernel
theorem dL_law_307 : decode cL_law 307 = .ok (.iload_n 3, 1) := by decide +kernel
theorem dL_law_308 : decode cL_law 308 = .ok (.iconst 1, 1) := by decide +kernel
theorem dL_law_309 : decode cL_law 309 = .ok (.iadd, 1) := by decide +kernel
theorem dL_law_310 : decode cL_law 310 = .ok (.iaload, 1) := by decide +kernel
theorem dL_law_311 : decode cL_law 311 = .ok (.invokevirtual 51, 3) := by decide +kernel
theorem dL_law_314 : decode cL_law 314 = .ok (.if_icmp .eq 311, 3) := by decide +kernel
theorem dL_law_317 : decode cL_law 317 = .ok (.iconst 0, 1) := by decide +kernel
theorem dL_law_318 : decode cL_law 318 = .ok (.ireturn, 1) := by decide +kernel
theorem dL_law_319 : decode cL_law 319 = .ok (.aload_n 1, 1) := by decide +kernel
theorem dL_law_320 : decode cL_law 320 = .ok (.aload_n 0, 1) := by decide +kernel
theorem dL_law_321 : decode cL_law 321 = .ok (.iload_n 3, 1) := by decide +kernel
theorem dL_law_322 : decode cL_law 322 = .ok (.iconst 1, 1) := by decide +kernel
theorem dL_law_323 : decode cL_law 323 = .ok (.iadd, 1) := by decide +kernel
theorem dL_law_324 : decode cL_law 324 = .ok (.iaload, 1) := by decide +kernel
theorem dL_law_325 : decode cL_law 325 = .ok (.aload_n 0, 1) := by decide +kernel
theorem dL_law_326 : decode cL_law 326 = .ok (.iload_n 3, 1) := by decide +kernel
theorem dL_law_327 : decode cL_law 327 = .ok (.iconst 2, 1) := by decide +kernel
theorem dL_law_328 : decode cL_law 328 = .ok (.iadd, 1) := by decide +kernel
theorem dL_law_329 : decode cL_law 329 = .ok (.iaload, 1) := by decide +kernel
theorem dL_law_330 : decode cL_law 330 = .ok (.invokevirtual 52, 3) := by decide +kernel
theorem dL_law_333 : decode cL_law 333 = .ok (.aload_n 2, 1) := by decide +kernel
theorem dL_law_334 : decode cL_law 334 = .ok (.aload_n 0, 1) := by decide +kernel
theorem dL_law_335 : decode cL_law 335 = .ok (.iload_n 3, 1) := by decide +kernel
theorem dL_law_336 : decode cL_law 336 = .ok (.iconst 1, 1) := by decide +kernel
theorem dL_law_337 : decode cL_law 337 = .ok (.iadd, 1) := by decide +kernel
theorem dL_law_338 : decode cL_law 338 = .ok (.iaload, 1) := by decide +kernel
theorem dL_law_339 : decode cL_law 339 = .ok (.aload_n 0, 1) := by decide +kernel
theorem dL_law_340 : decode cL_law 340 = .ok (.iload_n 3, 1) := by decide +kernel
theorem dL_law_341 : decode cL_law 341 = .ok (.iconst 2, 1) := by decide +kernel
theorem dL_law_342 : decode cL_law 342 = .ok (.iadd, 1) := by decide +kernel
theorem dL_law_343 : decode cL_law 343 = .ok (.iaload, 1) := by decide +kernel
theorem dL_law_344 : decode cL_law 344 = .ok (.invokevirtual 55, 3) := by decide +kernel
theorem dL_law_347 : decode cL_law 347 = .ok (.if_icmp .eq 278, 3) := by decide +kernel
theorem dL_law_350 : decode cL_law 350 = .ok (.iconst 0, 1) := by decide +kernel
theorem dL_law_351 : decode cL_law 351 = .ok (.ireturn, 1) := by decide +kernel
theorem dL_law_352 : decode cL_law 352 = .ok (.aload_n 1, 1) := by decide +kernel
theorem dL_law_353 : decode cL_law 353 = .ok (.aload_n 0, 1) := by decide +kernel
theorem dL_law_354 : decode cL_law 354 = .ok (.iload_n 3, 1) := by decide +kernel
theorem dL_law_355 : decode cL_law 355 = .ok (.iconst 1, 1) := by decide +kernel
theorem dL_law_356 : decode cL_law 356 = .ok (.iadd, 1) := by decide +kernel
theorem dL_law_357 : decode cL_law 357 = .ok (.iaload, 1) := by decide +kernel
theorem dL_law_358 : decode cL_law 358 = .ok (.aload_n 0, 1) := by decide +kernel
theorem dL_law_359 : decode cL_law 359 = .ok (.iload_n 3, 1) := by decide +kernel
theorem dL_law_360 : decode cL_law 360 = .ok (.iconst 2, 1) := by decide +kernel
theorem dL_law_361 : decode cL_law 361 = .ok (.iadd, 1) := by decide +kernel
theorem dL_law_362 : decode cL_law 362 = .ok (.iaload, 1) := by decide +kernel
theorem dL_law_363 : decode cL_law 363 = .ok (.invokevirtual 56, 3) := by decide +kernel
theorem dL_law_366 : decode cL_law 366 = .ok (.aload_n 2, 1) := by decide +kernel
theorem dL_law_367 : decode cL_law 367 = .ok (.aload_n 0, 1) := by decide +kernel
theorem dL_law_368 : decode cL_law 368 = .ok (.iload_n 3, 1) := by decide +kernel
theorem dL_law_369 : decode cL_law 369 = .ok (.iconst 1, 1) := by decide +kernel
theorem dL_law_370 : decode cL_law 370 = .ok (.iadd, 1) := by decide +kernel
theorem dL_law_371 : decode cL_law 371 = .ok (.iaload, 1) := by decide +kernel
theorem dL_law_372 : decode cL_law 372 = .ok (.aload_n 0, 1) := by decide +kernel
theorem dL_law_373 : decode cL_law 373 = .ok (.iload_n 3, 1) := by decide +kernel
theorem dL_law_374 : decode cL_law 374 = .ok (.iconst 2, 1) := by decide +kernel
theorem dL_law_375 : decode cL_law 375 = .ok (.iadd, 1) := by decide +kernel
theorem dL_law_376 : decode cL_law 376 = .ok (.iaload, 1) := by decide +kernel
theorem dL_law_377 : decode cL_law 377 = .ok (.invokevirtual 59, 3) := by decide +kernel
theorem dL_law_380 : decode cL_law 380 = .ok (.if_icmp .eq 245, 3) := by decide +kernel
theorem dL_law_383 : decode cL_law 383 = .ok (.iconst 0, 1) := by decide +kernel
theorem dL_law_384 : decode cL_law 384 = .ok (.ireturn, 1) := by decide +kernel
theorem dL_law_385 : decode cL_law 385 = .ok (.aload_n 1, 1) := by decide +kernel
theorem dL_law_386 : decode cL_law 386 = .ok (.aload_n 0, 1) := by decide +kernel
theorem dL_law_387 : decode cL_law 387 = .ok (.iload_n 3, 1) := by decide +kernel
theorem dL_law_388 : decode cL_law 388 = .ok (.iconst 1, 1) := by decide +kernel
theorem dL_law_389 : decode cL_law 389 = .ok (.iadd, 1) := by decide +kernel
theorem dL_law_390 : decode cL_law 390 = .ok (.iaload, 1) := by decide +kernel
theorem dL_law_391 : decode cL_law 391 = .ok (.invokevirtual 60, 3) := by decide +kernel
theorem dL_law_394 : decode cL_law 394 = .ok (.aload_n 2, 1) := by decide +kernel
theorem dL_law_395 : decode cL_law 395 = .ok (.aload_n 0, 1) := by decide +kernel
theorem dL_law_396 : decode cL_law 396 = .ok (.iload_n 3, 1) := by decide +kernel
theorem dL_law_397 : decode cL_law 397 = .ok (.iconst 1, 1) := by decide +kernel
theorem dL_law_398 : decode cL_law 398 = .ok (.iadd, 1) := by decide +kernel
theorem dL_law_399 : decode cL_law 399 = .ok (.iaload, 1) := by decide +kernel
theorem dL_law_400 : decode cL_law 400 = .ok (.invokevirtual 63, 3) := by decide +kernel
theorem dL_law_403 : decode cL_law 403 = .ok (.if_icmp .eq 222, 3) := by decide +kernel
theorem dL_law_406 : decode cL_law 406 = .ok (.iconst 0, 1) := by decide +kernel
theorem dL_law_407 : decode cL_law 407 = .ok (.ireturn, 1) := by decide +kernel
theorem dL_law_408 : decode cL_law 408 = .ok (.aload_n 1, 1) := by decide +kernel
theorem dL_law_409 : decode cL_law 409 = .ok (.aload_n 0, 1) := by decide +kernel
theorem dL_law_410 : decode cL_law 410 = .ok (.iload_n 3, 1) := by decide +kernel
theorem dL_law_411 : decode cL_law 411 = .ok (.iconst 1, 1) := by decide +kernel
theorem dL_law_412 : decode cL_law 412 = .ok (.iadd, 1) := by decide +kernel
theorem dL_law_413 : decode cL_law 413 = .ok (.iaload, 1) := by decide +kernel
theorem dL_law_414 : decode cL_law 414 = .ok (.invokevirtual 64, 3) := by decide +kernel
theorem dL_law_417 : decode cL_law 417 = .ok (.aload_n 2, 1) := by decide +kernel
theorem dL_law_418 : decode cL_law 418 = .ok (.aload_n 0, 1) := by decide +kernel
theorem dL_law_419 : decode cL_law 419 = .ok (.iload_n 3, 1) := by decide +kernel
theorem dL_law_420 : decode cL_law 420 = .ok (.iconst 1, 1) := by decide +kernel
theorem dL_law_421 : decode cL_law 421 = .ok (.iadd, 1) := by decide +kernel
theorem dL_law_422 : decode cL_law 422 = .ok (.iaload, 1) := by decide +kernel
theorem dL_law_423 : decode cL_law 423 = .ok (.invokevirtual 67, 3) := by decide +kernel
theorem dL_law_426 : decode cL_law 426 = .ok (.if_icmp .eq 199, 3) := by decide +kernel
theorem dL_law_429 : decode cL_law 429 = .ok (.iconst 0, 1) := by decide +kernel
theorem dL_law_430 : decode cL_law 430 = .ok (.ireturn, 1) := by decide +kernel
theorem dL_law_431 : decode cL_law 431 = .ok (.aload_n 1, 1) := by decide +kernel
theorem dL_law_432 : decode cL_law 432 = .ok (.aload_n 0, 1) := by decide +kernel
theorem dL_law_433 : decode cL_law 433 = .ok (.iload_n 3, 1) := by decide +kernel
theorem dL_law_434 : decode cL_law 434 = .ok (.iconst 1, 1) := by decide +kernel
theorem dL_law_435 : decode cL_law 435 = .ok (.iadd, 1) := by decide +kernel
theorem dL_law_436 : decode cL_law 436 = .ok (.iaload, 1) := by decide +kernel
theorem dL_law_437 : decode cL_law 437 = .ok (.invokevirtual 68, 3) := by decide +kernel
theorem dL_law_440 : decode cL_law 440 = .ok (.aload_n 2, 1) := by decide +kernel
theorem dL_law_441 : decode cL_law 441 = .ok (.aload_n 0, 1) := by decide +kernel
theorem dL_law_442 : decode cL_law 442 = .ok (.iload_n 3, 1) := by decide +kernel
theorem dL_law_443 : decode cL_law 443 = .ok (.iconst 1, 1) := by decide +kernel
theorem dL_law_444 : decode cL_law 444 = .ok (.iadd, 1) := by decide +kernel
theorem dL_law_445 : decode cL_law 445 = .ok (.iaload, 1) := by decide +kernel
theorem dL_law_446 : decode cL_law 446 = .ok (.invokevirtual 71, 3) := by decide +kernel
theorem dL_law_449 : decode cL_law 449 = .ok (.if_icmp .eq 176, 3) := by decide +kernel
theorem dL_law_452 : decode cL_law 452 = .ok (.iconst 0, 1) := by decide +kernel
theorem dL_law_453 : decode cL_law 453 = .ok (.ireturn, 1) := by decide +kernel
theorem dL_law_454 : decode cL_law 454 = .ok (.aload_n 1, 1) := by decide +kernel
theorem dL_law_455 : decode cL_law 455 = .ok (.aload_n 0, 1) := by decide +kernel
theorem dL_law_456 : decode cL_law 456 = .ok (.iload_n 3, 1) := by decide +kernel
theorem dL_law_457 : decode cL_law 457 = .ok (.iconst 1, 1) := by decide +kernel
theorem dL_law_458 : decode cL_law 458 = .ok (.iadd, 1) := by decide +kernel
theorem dL_law_459 : decode cL_law 459 = .ok (.iaload, 1) := by decide +kernel
theorem dL_law_460 : decode cL_law 460 = .ok (.invokevirtual 72, 3) := by decide +kernel
theorem dL_law_463 : decode cL_law 463 = .ok (.aload_n 2, 1) := by decide +kernel
theorem dL_law_464 : decode cL_law 464 = .ok (.aload_n 0, 1) := by decide +kernel
theorem dL_law_465 : decode cL_law 465 = .ok (.iload_n 3, 1) := by decide +kernel
theorem dL_law_466 : decode cL_law 466 = .ok (.iconst 1, 1) := by decide +kernel
theorem dL_law_467 : decode cL_law 467 = .ok (.iadd, 1) := by decide +kernel
theorem dL_law_468 : decode cL_law 468 = .ok (.iaload, 1) := by decide +kernel
theorem dL_law_469 : decode cL_law 469 = .ok (.invokevirtual 75, 3) := by decide +kernel
theorem dL_law_472 : decode cL_law 472 = .ok (.if_icmp .eq 153, 3) := by decide +kernel
theorem dL_law_475 : decode cL_law 475 = .ok (.iconst 0, 1) := by decide +kernel
theorem dL_law_476 : decode cL_law 476 = .ok (.ireturn, 1) := by decide +kernel
theorem dL_law_477 : decode cL_law 477 = .ok (.aload_n 1, 1) := by decide +kernel
theorem dL_law_478 : decode cL_law 478 = .ok (.aload_n 0, 1) := by decide +kernel
theorem dL_law_479 : decode cL_law 479 = .ok (.iload_n 3, 1) := by decide +kernel
theorem dL_law_480 : decode cL_law 480 = .ok (.iconst 1, 1) := by decide +kernel
theorem dL_law_481 : decode cL_law 481 = .ok (.iadd, 1) := by decide +kernel
theorem dL_law_482 : decode cL_law 482 = .ok (.iaload, 1) := by decide +kernel
theorem dL_law_483 : decode cL_law 483 = .ok (.aload_n 0, 1) := by decide +kernel
theorem dL_law_484 : decode cL_law 484 = .ok (.iload_n 3, 1) := by decide +kernel
theorem dL_law_485 : decode cL_law 485 = .ok (.iconst 2, 1) := by decide +kernel
theorem dL_law_486 : decode cL_law 486 = .ok (.iadd, 1) := by decide +kernel
theorem dL_law_487 : decode cL_law 487 = .ok (.iaload, 1) := by decide +kernel
theorem dL_law_488 : decode cL_law 488 = .ok (.invokevirtual 76, 3) := by decide +kernel
theorem dL_law_491 : decode cL_law 491 = .ok (.aload_n 2, 1) := by decide +kernel
theorem dL_law_492 : decode cL_law 492 = .ok (.aload_n 0, 1) := by decide +kernel
theorem dL_law_493 : decode cL_law 493 = .ok (.iload_n 3, 1) := by decide +kernel
theorem dL_law_494 : decode cL_law 494 = .ok (.iconst 1, 1) := by decide +kernel
theorem dL_law_495 : decode cL_law 495 = .ok (.iadd, 1) := by decide +kernel
theorem dL_law_496 : decode cL_law 496 = .ok (.iaload, 1) := by decide +kernel
theorem dL_law_497 : decode cL_law 497 = .ok (.aload_n 0, 1) := by decide +kernel
theorem dL_law_498 : decode cL_law 498 = .ok (.iload_n 3, 1) := by decide +kernel
theorem dL_law_499 : decode cL_law 499 = .ok (.iconst 2, 1) := by decide +kernel
theorem dL_law_500 : decode cL_law 500 = .ok (.iadd, 1) := by decide +kernel
theorem dL_law_501 : decode cL_law 501 = .ok (.iaload, 1) := by decide +kernel
theorem dL_law_502 : decode cL_law 502 = .ok (.invokevirtual 79, 3) := by decide +kernel
theorem dL_law_505 : decode cL_law 505 = .ok (.if_icmp .eq 120, 3) := by decide +kernel
theorem dL_law_508 : decode cL_law 508 = .ok (.iconst 0, 1) := by decide +kernel
theorem dL_law_509 : decode cL_law 509 = .ok (.ireturn, 1) := by decide +kernel
theorem dL_law_510 : decode cL_law 510 = .ok (.aload_n 1, 1) := by decide +kernel
theorem dL_law_511 : decode cL_law 511 = .ok (.aload_n 0, 1) := by decide +kernel
theorem dL_law_512 : decode cL_law 512 = .ok (.iload_n 3, 1) := by decide +kernel
theorem dL_law_513 : decode cL_law 513 = .ok (.iconst 1, 1) := by decide +kernel
theorem dL_law_514 : decode cL_law 514 = .ok (.iadd, 1) := by decide +kernel
theorem dL_law_515 : decode cL_law 515 = .ok (.iaload, 1) := by decide +kernel
theorem dL_law_516 : decode cL_law 516 = .ok (.invokevirtual 80, 3) := by decide +kernel
theorem dL_law_519 : decode cL_law 519 = .ok (.aload_n 2, 1) := by decide +kernel
theorem dL_law_520 : decode cL_law 520 = .ok (.aload_n 0, 1) := by decide +kernel
theorem dL_law_521 : decode cL_law 521 = .ok (.iload_n 3, 1) := by decide +kernel
theorem dL_law_522 : decode cL_law 522 = .ok (.iconst 1, 1) := by decide +kernel
theorem dL_law_523 : decode cL_law 523 = .ok (.iadd, 1) := by decide +kernel
theorem dL_law_524 : decode cL_law 524 = .ok (.iaload, 1) := by decide +kernel
theorem dL_law_525 : decode cL_law 525 = .ok (.invokevirtual 83, 3) := by decide +kernel
theorem dL_law_528 : decode cL_law 528 = .ok (.if_icmp .eq 97, 3) := by decide +kernel
theorem dL_law_531 : decode cL_law 531 = .ok (.iconst 0, 1) := by decide +kernel
theorem dL_law_532 : decode cL_law 532 = .ok (.ireturn, 1) := by decide +kernel
theorem dL_law_533 : decode cL_law 533 = .ok (.aload_n 1, 1) := by decide +kernel
theorem dL_law_534 : decode cL_law 534 = .ok (.aload_n 0, 1) := by decide +kernel
theorem dL_law_535 : decode cL_law 535 = .ok (.iload_n 3, 1) := by decide +kernel
theorem dL_law_536 : decode cL_law 536 = .ok (.iconst 1, 1) := by decide +kernel
theorem dL_law_537 : decode cL_law 537 = .ok (.iadd, 1) := by decide +kernel
theorem dL_law_538 : decode cL_law 538 = .ok (.iaload, 1) := by decide +kernel
theorem dL_law_539 : decode cL_law 539 = .ok (.invokevirtual 84, 3) := by decide +kernel
theorem dL_law_542 : decode cL_law 542 = .ok (.aload_n 2, 1) := by decide +kernel
theorem dL_law_543 : decode cL_law 543 = .ok (.aload_n 0, 1) := by decide +kernel
theorem dL_law_544 : decode cL_law 544 = .ok (.iload_n 3, 1) := by decide +kernel
theorem dL_law_545 : decode cL_law 545 = .ok (.iconst 1, 1) := by decide +kernel
theorem dL_law_546 : decode cL_law 546 = .ok (.iadd, 1) := by decide +kernel
theorem dL_law_547 : decode cL_law 547 = .ok (.iaload, 1) := by decide +kernel
theorem dL_law_548 : decode cL_law 548 = .ok (.invokevirtual 87, 3) := by decide +kernel
theorem dL_law_551 : decode cL_law 551 = .ok (.if_icmp .eq 74, 3) := by decide +kernel
theorem dL_law_554 : decode cL_law 554 = .ok (.iconst 0, 1) := by decide +kernel
theorem dL_law_555 : decode cL_law 555 = .ok (.ireturn, 1) := by decide +kernel
theorem dL_law_556 : decode cL_law 556 = .ok (.aload_n 1, 1) := by decide +kernel
theorem dL_law_557 : decode cL_law 557 = .ok (.aload_n 0, 1) := by decide +kernel
theorem dL_law_558 : decode cL_law 558 = .ok (.iload_n 3, 1) := by decide +kernel
theorem dL_law_559 : decode cL_law 559 = .ok (.iconst 1, 1) := by decide +kernel
theorem dL_law_560 : decode cL_law 560 = .ok (.iadd, 1) := by decide +kernel
theorem dL_law_561 : decode cL_law 561 = .ok (.iaload, 1) := by decide +kernel
theorem dL_law_562 : decode cL_law 562 = .ok (.invokevirtual 88, 3) := by decide +kernel
theorem dL_law_565 : decode cL_law 565 = .ok (.aload_n 2, 1) := by decide +kernel
theorem dL_law_566 : decode cL_law 566 = .ok (.aload_n 0, 1) := by decide +kernel
theorem dL_law_567 : decode cL_law 567 = .ok (.iload_n 3, 1) := by decide +kernel
theorem dL_law_568 : decode cL_law 568 = .ok (.iconst 1, 1) := by decide +kernel
theorem dL_law_569 : decode cL_law 569 = .ok (.iadd, 1) := by decide +kernel
theorem dL_law_570 : decode cL_law 570 = .ok (.iaload, 1) := by decide +kernel
theorem dL_law_571 : decode cL_law 571 = .ok (.invokevirtual 91, 3) := by decide +kernel
theorem dL_law_574 : decode cL_law 574 = .ok (.if_icmp .eq 51, 3) := by decide +kernel
theorem dL_law_577 : decode cL_law 577 = .ok (.iconst 0, 1) := by decide +kernel
theorem dL_law_578 : decode cL_law 578 = .ok (.ireturn, 1) := by decide +kernel
theorem dL_law_579 : decode cL_law 579 = .ok (.aload_n 1, 1) := by decide +kernel
theorem dL_law_580 : decode cL_law 580 = .ok (.aload_n 0, 1) := by decide +kernel
theorem dL_law_581 : decode cL_law 581 = .ok (.iload_n 3, 1) := by decide +kernel
theorem dL_law_582 : decode cL_law 582 = .ok (.iconst 1, 1) := by decide +kernel
theorem dL_law_583 : decode cL_law 583 = .ok (.iadd, 1) := by decide +kernel
theorem dL_law_584 : decode cL_law 584 = .ok (.iaload, 1) := by decide +kernel
theorem dL_law_585 : decode cL_law 585 = .ok (.invokevirtual 92, 3) := by decide +kernel
theorem dL_law_588 : decode cL_law 588 = .ok (.aload_n 2, 1) := by decide +kernel
theorem dL_law_589 : decode cL_law 589 = .ok (.aload_n 0, 1) := by decide +kernel
theorem dL_law_590 : decode cL_law 590 = .ok (.iload_n 3, 1) := by decide +kernel
theorem dL_law_591 : decode cL_law 591 = .ok (.iconst 1, 1) := by decide +kernel
theorem dL_law_592 : decode cL_law 592 = .ok (.iadd, 1) := by decide +kernel
theorem dL_law_593 : decode cL_law 593 = .ok (.iaload, 1) := by decide +kernel
theorem dL_law_594 : decode cL_law 594 = .ok (.invokevirtual 95, 3) := by decide +kernel
theorem dL_law_597 : decode cL_law 597 = .ok (.if_icmp .eq 28, 3) := by decide +kernel
theorem dL_law_600 : decode cL_law 600 = .ok (.iconst 0, 1) := by decide +kernel
theorem dL_law_601 : decode cL_law 601 = .ok (.ireturn, 1) := by decide +kernel
theorem dL_law_602 : decode cL_law 602 = .ok (.aload_n 1, 1) := by decide +kernel
theorem dL_law_603 : decode cL_law 603 = .ok (.aload_n 0, 1) := by decide +kernel
theorem dL_law_604 : decode cL_law 604 = .ok (.iload_n 3, 1) := by decide +kernel
theorem dL_law_605 : decode cL_law 605 = .ok (.iconst 1, 1) := by decide +kernel
theorem dL_law_606 : decode cL_law 606 = .ok (.iadd, 1) := by decide +kernel
theorem dL_law_607 : decode cL_law 607 = .ok (.iaload, 1) := by decide +kernel
theorem dL_law_608 : decode cL_law 608 = .ok (.invokevirtual 96, 3) := by decide +kernel
theorem dL_law_611 : decode cL_law 611 = .ok (.aload_n 2, 1) := by decide +kernel
theorem dL_law_612 : decode cL_law 612 = .ok (.aload_n 0, 1) := by decide +kernel
theorem dL_law_613 : decode cL_law 613 = .ok (.iload_n 3, 1) := by decide +kernel
theorem dL_law_614 : decode cL_law 614 = .ok (.iconst 1, 1) := by decide +kernel
theorem dL_law_615 : decode cL_law 615 = .ok (.iadd, 1) := by decide +kernel
theorem dL_law_616 : decode cL_law 616 = .ok (.iaload, 1) := by decide +kernel
theorem dL_law_617 : decode cL_law 617 = .ok (.invokevirtual 99, 3) := by decide +kernel
theorem dL_law_620 : decode cL_law 620 = .ok (.if_icmp .eq 5, 3) := by decide +kernel
theorem dL_law_623 : decode cL_law 623 = .ok (.iconst 0, 1) := by decide +kernel
theorem dL_law_624 : decode cL_law 624 = .ok (.ireturn, 1) := by decide +kernel
theorem dL_law_625 : decode cL_law 625 = .ok (.iinc 3 3, 3) := by decide +kernel
theorem dL_law_628 : decode cL_law 628 = .ok (.goto (-610), 3) := by decide +kernel
theorem dL_law_631 : decode cL_law 631 = .ok (.iconst 1, 1) := by decide +kernel
theorem dL_law_632 : decode cL_law 632 = .ok (.ireturn, 1) := by decide +kernel
abbrev vwCl : List vw_C := [(RX0, TX0, 3), (RX1, TX1, 3), (RX2, TX2, 2), (RX3, TX3, 5), (RX4, TX4, 8), (RX5, TX5, 10)]
end
section
/-! the worlds' common words: nest links, array classes, contracts' starts and ends; the mirrors' own steps -/
def nw_l : List Cond := [.methodLinkNest RX4 9 yX3_init "WordGrounds",
  .fieldLinkNest RX0 22 "WordGrounds$Words" "total" "I" "WordGrounds",
  .fieldLinkNest RX4 52 "WordGrounds$Words" "total" "I" "WordGrounds",
  .fieldLinkNest RX1 54 "WordGrounds$Words" "total" "I" "WordGrounds",
  .fieldLinkNest RX4 122 "WordGrounds$Words" "known" "I" "WordGrounds",
  .fieldLinkNest RX1 28 "WordGrounds$Words" "defined" "I" "WordGrounds",
  .fieldLinkNest RX4 170 "WordGrounds$Words" "defined" "I" "WordGrounds",
  .fieldLinkNest RX4 106 "WordGrounds$Words" "costs" "[I" "WordGrounds",
  .fieldLinkNest RX0 25 "WordGrounds$Words" "definitions" "[I" "WordGrounds",
  .fieldLinkNest RX1 57 "WordGrounds$Words" "definitions" "[I" "WordGrounds",
  .fieldLinkNest RX4 91 "WordGrounds$Words" "definitions" "[I" "WordGrounds",
  .methodLinkNest RX4 22 yX2_init "WordGrounds",
  .fieldLinkNest RX4 59 "WordGrounds$Text" "length" "I" "WordGrounds",
  .methodLinkNest RX4 29 yX0_init "WordGrounds",
  .fieldLinkNest RX1 31 "WordGrounds$Rings" "inRings" "I" "WordGrounds",
  .fieldLinkNest RX4 158 "WordGrounds$Rings" "inRings" "I" "WordGrounds",
  .methodLinkNest RX4 36 yX1_init "WordGrounds",
  .methodLinkNest RX4 55 yX3_resize "WordGrounds",
  .methodLinkNest RX4 62 yX2_append "WordGrounds",
  .methodLinkNest RX4 65 yX2_faultPlace "WordGrounds",
  .methodLinkNest RX4 69 yX2_toldWord "WordGrounds",
  .methodLinkNest RX4 73 yX2_tellsBare "WordGrounds",
  .methodLinkNest RX4 77 yX3_makeBare "WordGrounds",
  .methodLinkNest RX4 80 yX2_toldSet "WordGrounds",
  .methodLinkNest RX4 83 yX3_setDefinition "WordGrounds",
  .methodLinkNest RX4 87 yX3_isBare "WordGrounds",
  .methodLinkNest RX4 100 yX3_has "WordGrounds",
  .methodLinkNest RX4 103 yX3_usersOf "WordGrounds",
  .methodLinkNest RX4 109 yX3_hasAll "WordGrounds",
  .methodLinkNest RX4 112 yX3_groundedBy "WordGrounds",
  .methodLinkNest RX4 115 yX3_daysTill "WordGrounds",
  .methodLinkNest RX4 119 yX3_nextDay "WordGrounds",
  .methodLinkNest RX4 180 yX0_trace "WordGrounds",
  .methodLinkNest RX4 183 yX1_find "WordGrounds",
  .methodLinkNest RX1 22 yX3_all "WordGrounds",
  .methodLinkNest RX4 129 yX1_cheapest "WordGrounds",
  .methodLinkNest RX1 67 yX3_costOf "WordGrounds",
  .methodLinkNest RX4 133 yX3_costOf "WordGrounds",
  .methodLinkNest RX4 136 yX3_all "WordGrounds",
  .methodLinkNest RX4 139 yX1_greatestLeast "WordGrounds",
  .methodLinkNest RX4 142 yX1_leastWith "WordGrounds",
  .methodLinkNest RX4 145 yX3_stepsBetween "WordGrounds",
  .methodLinkNest RX4 152 yX0_howMany "WordGrounds",
  .methodLinkNest RX4 155 yX0_numbered "WordGrounds",
  .methodLinkNest RX4 161 yX0_before "WordGrounds",
  .methodLinkNest RX4 164 yX0_behind "WordGrounds",
  .methodLinkNest RX4 167 yX3_used "WordGrounds",
  .methodLinkNest RX4 173 yX3_copyFrom "WordGrounds",
  .methodLinkNest RX4 177 yX3_howOftenUsed "WordGrounds"]
def nw_ok (w : Cond) : Bool := match w with
  | .fieldLinkNest .. => true
  | .methodLinkNest .. => true
  | _ => false
theorem nw_l_ok : ∀ w ∈ nw_l, nw_ok w = true := by decide +kernel
def NW (U : State) : Prop := (∀ w ∈ nw_l, va_Nw w U) ∧ va_AO RX3 U
theorem NW.warm {s U : State} (h : NW s) (hW : s.WarmedH U.vm) : NW U := by
  refine ⟨fun w hw => ?_, h.2.moved hW.alike⟩
  have h1 := h.1 w hw
  have h2 := nw_l_ok w hw
  cases w <;> first | exact va_Nw.warmF hW h1 | exact va_Nw.warmM hW h1 | (exfalso; revert h2; simp [nw_ok]; done)
theorem NW.call {U : State} {g : JFrame} {mk : MethodId} {a : Array Value} (h : NW U) : NW (U.calling g mk a) := by
  refine ⟨fun w hw => ?_, h.2.moved (Vm.Alike.refl U.vm)⟩
  have h1 := h.1 w hw
  have h2 := nw_l_ok w hw
  cases w <;> first | exact va_Nw.same rfl (u := U) rfl h1 | (exfalso; revert h2; simp [nw_ok]; done)
abbrev K4t (cI cZ cJ cW : ClassId) : List (ClassId × FieldType) := [(cI, .int), (cZ, .boolean), (cJ, .long), (cW, .object RX3)]
def RP (D : va_G) (cI cZ cJ cW : ClassId) (ws : va_W) (U : State) : Prop := va_P D vwCl ws U.heap ∧ va_K D vwCl (K4t cI cZ cJ cW) U ∧ NW U
def MP (D : va_G) (cI cZ cJ cW : ClassId) (sz : Nat) (ws : va_W) (U : State) : Prop := U.heap.size = sz ∧ va_P D vwCl ws U.heap ∧ va_K D vwCl (K4t cI cZ cJ cW) U ∧ NW U ∧ va_D (fun _ => True) ws
def PB (D : va_G) (A : Nat → Prop) (ws : va_W) : Unit → State → Prop := fun _ t => va_P D vwCl ws t.heap ∧ va_D A ws
def PBr (D : va_G) (r0 : Nat) (A : Nat → Prop) (ws : va_W) : Unit → Nat → State → Prop := fun _ a t => r0 = a ∧ va_P D vwCl ws t.heap ∧ va_D A ws
theorem TP.blind {av : List Value} : FrameBlind (va_Pc av (fun _ => True)) := fun _ _ _ _ q => ⟨q.1, trivial⟩
theorem RP.blind {av : List Value} {D : va_G} {cI cZ cJ cW : ClassId} {ws : va_W} : FrameBlind (va_Pc av (RP D cI cZ cJ cW ws)) := by
  intro a U g mk q
  obtain ⟨q0, qP, qK, qN⟩ := q
  exact ⟨q0, qP, va_K.moved (u := U) (U := U.calling g mk a) (Vm.Alike.refl U.vm) qK, qN.call⟩
theorem MP.blind {av : List Value} {D : va_G} {cI cZ cJ cW : ClassId} {sz : Nat} {ws : va_W} : FrameBlind (va_Pc av (MP D cI cZ cJ cW sz ws)) := by
  intro a U g mk q
  obtain ⟨q0, q1, qP, qK, qN, qD⟩ := q
  exact ⟨q0, q1, qP, va_K.moved (u := U) (U := U.calling g mk a) (Vm.Alike.refl U.vm) qK, qN.call, qD⟩
theorem K4.I {D : va_G} {cl : List vw_C} {cI cZ cJ cW cA : ClassId} {s : State} (h : va_K D cl (K4t cI cZ cJ cW) s) (h2 : va_K D cl (K4t cI cZ cJ cW ++ [(cA, .int)]) s) : cI = cA := Option.some.inj ((h.2 0 _ rfl).2.symm.trans (h2.2 4 _ rfl).2)
theorem K4.Z {D : va_G} {cl : List vw_C} {cI cZ cJ cW cA : ClassId} {s : State} (h : va_K D cl (K4t cI cZ cJ cW) s) (h2 : va_K D cl (K4t cI cZ cJ cW ++ [(cA, .boolean)]) s) : cZ = cA := Option.some.inj ((h.2 1 _ rfl).2.symm.trans (h2.2 4 _ rfl).2)
theorem K4.J {D : va_G} {cl : List vw_C} {cI cZ cJ cW cA : ClassId} {s : State} (h : va_K D cl (K4t cI cZ cJ cW) s) (h2 : va_K D cl (K4t cI cZ cJ cW ++ [(cA, .long)]) s) : cJ = cA := Option.some.inj ((h.2 2 _ rfl).2.symm.trans (h2.2 4 _ rfl).2)
theorem K4.A {D : va_G} {cl : List vw_C} {cI cZ cJ cW cA : ClassId} {s : State} (h : va_K D cl (K4t cI cZ cJ cW) s) (h2 : va_K D cl (K4t cI cZ cJ cW ++ [(cA, .object RX3)]) s) : cW = cA := by
  obtain ⟨_, _, _, _, _, e1⟩ := (h.2 3 _ rfl).2
  obtain ⟨_, _, _, _, _, e2⟩ := (h2.2 4 _ rfl).2
  exact Option.some.inj (e1.symm.trans e2)
def im2 (a b : Nat) : Nat → Option Nat := fun k => if k = 0 then some a else if k = 1 then some b else none
theorem im2_eq (a b : Nat) : va_up (va_up (fun _ => none) (0 : Int32).toNatClampNeg (some a)) (1 : Int32).toNatClampNeg (some b) = im2 a b := by
  funext k
  show (if k = 1 then some b else if k = 0 then some a else none) = im2 a b k
  unfold im2
  by_cases h0 : k = 0
  · subst h0; rfl
  · by_cases h1 : k = 1
    · subst h1; rfl
    · simp only [if_neg h0, if_neg h1]
theorem ob_none {α : Type} {r : α} (h : (none : Option α) = some r) : False := by cases h
theorem ob_pos {α : Type} {c : Prop} [Decidable c] {a b : Option α} {r : α} (hc : c) (h : (if c then a else b) = some r) : a = some r := by rwa [if_pos hc] at h
theorem ob_neg {α : Type} {c : Prop} [Decidable c] {a b : Option α} {r : α} (hc : ¬ c) (h : (if c then a else b) = some r) : b = some r := by rwa [if_neg hc] at h
theorem ob_get {α : Type} {c : Prop} [Decidable c] {a : Option α} {r : α} (h : (if c then none else a) = some r) : ¬ c ∧ a = some r := by
  by_cases hc : c
  · rw [if_pos hc] at h; cases h
  · rw [if_neg hc] at h; exact ⟨hc, h⟩
theorem ob_zr {α : Type} {c : Prop} [Decidable c] {a : Option α} {r : α} (h : (if c then a else none) = some r) : c ∧ a = some r := by
  by_cases hc : c
  · rw [if_pos hc] at h; exact ⟨hc, h⟩
  · rw [if_neg hc] at h; cases h
theorem ob_bind {α β : Type} {o : Option α} {f : α → Option β} {b : β} (h : o.bind f = some b) : ∃ a, o = some a ∧ f a = some b := by
  cases o with
  | none => cases h
  | some a => exact ⟨a, rfl, h⟩
theorem nar_b {v : Int32} (h : v = 0 ∨ v = 1) : narrow .boolean (.int v) = .int v := by
  rcases h with h | h <;> subst h <;> rfl
end
section
/-! J6_bitCount_0f7a4 -/
def M_J6_bitCount_0f7a4 (p0 : Int32) : Option (Int32) := some ((((((((p0 - (((Int32.toUInt32 p0 >>> (Int32.toUInt32 1 &&& Int32.toUInt32 31)).toInt32) &&& 1431655765)) &&& 858993459) + (((Int32.toUInt32 (p0 - (((Int32.toUInt32 p0 >>> (Int32.toUInt32 1 &&& Int32.toUInt32 31)).toInt32) &&& 1431655765)) >>> (Int32.toUInt32 2 &&& Int32.toUInt32 31)).toInt32) &&& 858993459)) + ((Int32.toUInt32 (((p0 - (((Int32.toUInt32 p0 >>> (Int32.toUInt32 1 &&& Int32.toUInt32 31)).toInt32) &&& 1431655765)) &&& 858993459) + (((Int32.toUInt32 (p0 - (((Int32.toUInt32 p0 >>> (Int32.toUInt32 1 &&& Int32.toUInt32 31)).toInt32) &&& 1431655765)) >>> (Int32.toUInt32 2 &&& Int32.toUInt32 31)).toInt32) &&& 858993459)) >>> (Int32.toUInt32 4 &&& Int32.toUInt32 31)).toInt32)) &&& 252645135) + ((Int32.toUInt32 (((((p0 - (((Int32.toUInt32 p0 >>> (Int32.toUInt32 1 &&& Int32.toUInt32 31)).toInt32) &&& 1431655765)) &&& 858993459) + (((Int32.toUInt32 (p0 - (((Int32.toUInt32 p0 >>> (Int32.toUInt32 1 &&& Int32.toUInt32 31)).toInt32) &&& 1431655765)) >>> (Int32.toUInt32 2 &&& Int32.toUInt32 31)).toInt32) &&& 858993459)) + ((Int32.toUInt32 (((p0 - (((Int32.toUInt32 p0 >>> (Int32.toUInt32 1 &&& Int32.toUInt32 31)).toInt32) &&& 1431655765)) &&& 858993459) + (((Int32.toUInt32 (p0 - (((Int32.toUInt32 p0 >>> (Int32.toUInt32 1 &&& Int32.toUInt32 31)).toInt32) &&& 1431655765)) >>> (Int32.toUInt32 2 &&& Int32.toUInt32 31)).toInt32) &&& 858993459)) >>> (Int32.toUInt32 4 &&& Int32.toUInt32 31)).toInt32)) &&& 252645135) >>> (Int32.toUInt32 8 &&& Int32.toUInt32 31)).toInt32)) + ((Int32.toUInt32 ((((((p0 - (((Int32.toUInt32 p0 >>> (Int32.toUInt32 1 &&& Int32.toUInt32 31)).toInt32) &&& 1431655765)) &&& 858993459) + (((Int32.toUInt32 (p0 - (((Int32.toUInt32 p0 >>> (Int32.toUInt32 1 &&& Int32.toUInt32 31)).toInt32) &&& 1431655765)) >>> (Int32.toUInt32 2 &&& Int32.toUInt32 31)).toInt32) &&& 858993459)) + ((Int32.toUInt32 (((p0 - (((Int32.toUInt32 p0 >>> (Int32.toUInt32 1 &&& Int32.toUInt32 31)).toInt32) &&& 1431655765)) &&& 858993459) + (((Int32.toUInt32 (p0 - (((Int32.toUInt32 p0 >>> (Int32.toUInt32 1 &&& Int32.toUInt32 31)).toInt32) &&& 1431655765)) >>> (Int32.toUInt32 2 &&& Int32.toUInt32 31)).toInt32) &&& 858993459)) >>> (Int32.toUInt32 4 &&& Int32.toUInt32 31)).toInt32)) &&& 252645135) + ((Int32.toUInt32 (((((p0 - (((Int32.toUInt32 p0 >>> (Int32.toUInt32 1 &&& Int32.toUInt32 31)).toInt32) &&& 1431655765)) &&& 858993459) + (((Int32.toUInt32 (p0 - (((Int32.toUInt32 p0 >>> (Int32.toUInt32 1 &&& Int32.toUInt32 31)).toInt32) &&& 1431655765)) >>> (Int32.toUInt32 2 &&& Int32.toUInt32 31)).toInt32) &&& 858993459)) + ((Int32.toUInt32 (((p0 - (((Int32.toUInt32 p0 >>> (Int32.toUInt32 1 &&& Int32.toUInt32 31)).toInt32) &&& 1431655765)) &&& 858993459) + (((Int32.toUInt32 (p0 - (((Int32.toUInt32 p0 >>> (Int32.toUInt32 1 &&& Int32.toUInt32 31)).toInt32) &&& 1431655765)) >>> (Int32.toUInt32 2 &&& Int32.toUInt32 31)).toInt32) &&& 858993459)) >>> (Int32.toUInt32 4 &&& Int32.toUInt32 31)).toInt32)) &&& 252645135) >>> (Int32.toUInt32 8 &&& Int32.toUInt32 31)).toInt32)) >>> (Int32.toUInt32 16 &&& Int32.toUInt32 31)).toInt32)) &&& 63)
abbrev rm_J6_bitCount_0f7a4 : Room := { frames := 0, cells := 0, slots := 0, locals := 0 }
set_option maxHeartbeats 4000000 in
set_option maxRecDepth 100000 in
theorem c_J6_bitCount_0f7a4 (l : Launch) (dC : Nat → ClassId) (dI : Nat → Nat → Nat) (cI cZ cJ cW : ClassId) (p0 : Int32) (R : Int32) (hM : M_J6_bitCount_0f7a4 p0 = some R) : Met l yJ6_bitCount_0f7a4 wsJ6_bitCount_0f7a4 rm_J6_bitCount_0f7a4 (va_Pc [.int p0] (fun _ => True)) (vp_Si (fun r => R = r)) 0 0 (fun _ => False) := by
  refine Met.ofW (cc := cJ6_bitCount_0f7a4) (maxL := 1) (ret := (some .int)) (by decide) rfl ?_
  intro p e s m args below meth c s₁ B hml hv
  obtain ⟨rfl, -⟩ := hv
  have hx := B.exec
  have hb := B.bytes
  have hr := B.returns
  have hts := atoms_spec (ws := wsJ6_bitCount_0f7a4) B.pre
  have hown : s.vm.findClass RJ6 = some m.cls := findClass_of_methodNamed B.named
  have hlocks := B.notSynchronized
  have hl := lv_entry ([.int p0]) (n := 1) (Nat.le_of_ble_eq_true rfl)
  rw [lg_entry_eq]
  generalize (lg_sl ([.int p0]) ++ List.replicate (1 - (lg_sl ([.int p0])).length) Slot.unset).toArray = ls at hl ⊢
  have hl : lv_has ls 1 [(0, .int p0)] := hl
  have hM : (some ((((((((p0 - (((Int32.toUInt32 p0 >>> (Int32.toUInt32 1 &&& Int32.toUInt32 31)).toInt32) &&& 1431655765)) &&& 858993459) + (((Int32.toUInt32 (p0 - (((Int32.toUInt32 p0 >>> (Int32.toUInt32 1 &&& Int32.toUInt32 31)).toInt32) &&& 1431655765)) >>> (Int32.toUInt32 2 &&& Int32.toUInt32 31)).toInt32) &&& 858993459)) + ((Int32.toUInt32 (((p0 - (((Int32.toUInt32 p0 >>> (Int32.toUInt32 1 &&& Int32.toUInt32 31)).toInt32) &&& 1431655765)) &&& 858993459) + (((Int32.toUInt32 (p0 - (((Int32.toUInt32 p0 >>> (Int32.toUInt32 1 &&& Int32.toUInt32 31)).toInt32) &&& 1431655765)) >>> (Int32.toUInt32 2 &&& Int32.toUInt32 31)).toInt32) &&& 858993459)) >>> (Int32.toUInt32 4 &&& Int32.toUInt32 31)).toInt32)) &&& 252645135) + ((Int32.toUInt32 (((((p0 - (((Int32.toUInt32 p0 >>> (Int32.toUInt32 1 &&& Int32.toUInt32 31)).toInt32) &&& 1431655765)) &&& 858993459) + (((Int32.toUInt32 (p0 - (((Int32.toUInt32 p0 >>> (Int32.toUInt32 1 &&& Int32.toUInt32 31)).toInt32) &&& 1431655765)) >>> (Int32.toUInt32 2 &&& Int32.toUInt32 31)).toInt32) &&& 858993459)) + ((Int32.toUInt32 (((p0 - (((Int32.toUInt32 p0 >>> (Int32.toUInt32 1 &&& Int32.toUInt32 31)).toInt32) &&& 1431655765)) &&& 858993459) + (((Int32.toUInt32 (p0 - (((Int32.toUInt32 p0 >>> (Int32.toUInt32 1 &&& Int32.toUInt32 31)).toInt32) &&& 1431655765)) >>> (Int32.toUInt32 2 &&& Int32.toUInt32 31)).toInt32) &&& 858993459)) >>> (Int32.toUInt32 4 &&& Int32.toUInt32 31)).toInt32)) &&& 252645135) >>> (Int32.toUInt32 8 &&& Int32.toUInt32 31)).toInt32)) + ((Int32.toUInt32 ((((((p0 - (((Int32.toUInt32 p0 >>> (Int32.toUInt32 1 &&& Int32.toUInt32 31)).toInt32) &&& 1431655765)) &&& 858993459) + (((Int32.toUInt32 (p0 - (((Int32.toUInt32 p0 >>> (Int32.toUInt32 1 &&& Int32.toUInt32 31)).toInt32) &&& 1431655765)) >>> (Int32.toUInt32 2 &&& Int32.toUInt32 31)).toInt32) &&& 858993459)) + ((Int32.toUInt32 (((p0 - (((Int32.toUInt32 p0 >>> (Int32.toUInt32 1 &&& Int32.toUInt32 31)).toInt32) &&& 1431655765)) &&& 858993459) + (((Int32.toUInt32 (p0 - (((Int32.toUInt32 p0 >>> (Int32.toUInt32 1 &&& Int32.toUInt32 31)).toInt32) &&& 1431655765)) >>> (Int32.toUInt32 2 &&& Int32.toUInt32 31)).toInt32) &&& 858993459)) >>> (Int32.toUInt32 4 &&& Int32.toUInt32 31)).toInt32)) &&& 252645135) + ((Int32.toUInt32 (((((p0 - (((Int32.toUInt32 p0 >>> (Int32.toUInt32 1 &&& Int32.toUInt32 31)).toInt32) &&& 1431655765)) &&& 858993459) + (((Int32.toUInt32 (p0 - (((Int32.toUInt32 p0 >>> (Int32.toUInt32 1 &&& Int32.toUInt32 31)).toInt32) &&& 1431655765)) >>> (Int32.toUInt32 2 &&& Int32.toUInt32 31)).toInt32) &&& 858993459)) + ((Int32.toUInt32 (((p0 - (((Int32.toUInt32 p0 >>> (Int32.toUInt32 1 &&& Int32.toUInt32 31)).toInt32) &&& 1431655765)) &&& 858993459) + (((Int32.toUInt32 (p0 - (((Int32.toUInt32 p0 >>> (Int32.toUInt32 1 &&& Int32.toUInt32 31)).toInt32) &&& 1431655765)) >>> (Int32.toUInt32 2 &&& Int32.toUInt32 31)).toInt32) &&& 858993459)) >>> (Int32.toUInt32 4 &&& Int32.toUInt32 31)).toInt32)) &&& 252645135) >>> (Int32.toUInt32 8 &&& Int32.toUInt32 31)).toInt32)) >>> (Int32.toUInt32 16 &&& Int32.toUInt32 31)).toInt32)) &&& 63)) = some R := hM
  refine lv_iload_n hx hb dJ6_bitCount_0f7a4_0 rfl (lv_at hl 0 rfl) ?_
  refine lv_iload_n hx hb dJ6_bitCount_0f7a4_1 rfl (lv_at hl 0 rfl) ?_
  refine lv_iconst (v := 1) hx hb dJ6_bitCount_0f7a4_2 (by decide) ?_
  refine lv_iushr (v := ((Int32.toUInt32 p0 >>> (Int32.toUInt32 1 &&& Int32.toUInt32 31)).toInt32)) hx hb dJ6_bitCount_0f7a4_3 rfl ?_
  refine lv_ldcw (v := 1431655765) hx hb hown (hts (.constant RJ6 265 (1431655765)) (by decide +kernel)) dJ6_bitCount_0f7a4_4 ?_
  refine lv_iand hx hb dJ6_bitCount_0f7a4_7 ?_
  refine lv_isub hx hb dJ6_bitCount_0f7a4_8 ?_
  refine lv_istore_n (lv' := [(0, .int (p0 - (((Int32.toUInt32 p0 >>> (Int32.toUInt32 1 &&& Int32.toUInt32 31)).toInt32) &&& 1431655765)))]) hx hb dJ6_bitCount_0f7a4_9 rfl hl (by decide) rfl (fun ls hl => ?_)
  refine lv_iload_n hx hb dJ6_bitCount_0f7a4_10 rfl (lv_at hl 0 rfl) ?_
  refine lv_ldcw (v := 858993459) hx hb hown (hts (.constant RJ6 266 (858993459)) (by decide +kernel)) dJ6_bitCount_0f7a4_11 ?_
  refine lv_iand hx hb dJ6_bitCount_0f7a4_14 ?_
  refine lv_iload_n hx hb dJ6_bitCount_0f7a4_15 rfl (lv_at hl 0 rfl) ?_
  refine lv_iconst (v := 2) hx hb dJ6_bitCount_0f7a4_16 (by decide) ?_
  refine lv_iushr (v := ((Int32.toUInt32 (p0 - (((Int32.toUInt32 p0 >>> (Int32.toUInt32 1 &&& Int32.toUInt32 31)).toInt32) &&& 1431655765)) >>> (Int32.toUInt32 2 &&& Int32.toUInt32 31)).toInt32)) hx hb dJ6_bitCount_0f7a4_17 rfl ?_
  refine lv_ldcw (v := 858993459) hx hb hown (hts (.constant RJ6 266 (858993459)) (by decide +kernel)) dJ6_bitCount_0f7a4_18 ?_
  refine lv_iand hx hb dJ6_bitCount_0f7a4_21 ?_
  refine lv_iadd hx hb dJ6_bitCount_0f7a4_22 ?_
  refine lv_istore_n (lv' := [(0, .int (((p0 - (((Int32.toUInt32 p0 >>> (Int32.toUInt32 1 &&& Int32.toUInt32 31)).toInt32) &&& 1431655765)) &&& 858993459) + (((Int32.toUInt32 (p0 - (((Int32.toUInt32 p0 >>> (Int32.toUInt32 1 &&& Int32.toUInt32 31)).toInt32) &&& 1431655765)) >>> (Int32.toUInt32 2 &&& Int32.toUInt32 31)).toInt32) &&& 858993459)))]) hx hb dJ6_bitCount_0f7a4_23 rfl hl (by decide) rfl (fun ls hl => ?_)
  refine lv_iload_n hx hb dJ6_bitCount_0f7a4_24 rfl (lv_at hl 0 rfl) ?_
  refine lv_iload_n hx hb dJ6_bitCount_0f7a4_25 rfl (lv_at hl 0 rfl) ?_
  refine lv_iconst (v := 4) hx hb dJ6_bitCount_0f7a4_26 (by decide) ?_
  refine lv_iushr (v := ((Int32.toUInt32 (((p0 - (((Int32.toUInt32 p0 >>> (Int32.toUInt32 1 &&& Int32.toUInt32 31)).toInt32) &&& 1431655765)) &&& 858993459) + (((Int32.toUInt32 (p0 - (((Int32.toUInt32 p0 >>> (Int32.toUInt32 1 &&& Int32.toUInt32 31)).toInt32) &&& 1431655765)) >>> (Int32.toUInt32 2 &&& Int32.toUInt32 31)).toInt32) &&& 858993459)) >>> (Int32.toUInt32 4 &&& Int32.toUInt32 31)).toInt32)) hx hb dJ6_bitCount_0f7a4_27 rfl ?_
  refine lv_iadd hx hb dJ6_bitCount_0f7a4_28 ?_
  refine lv_ldcw (v := 252645135) hx hb hown (hts (.constant RJ6 267 (252645135)) (by decide +kernel)) dJ6_bitCount_0f7a4_29 ?_
  refine lv_iand hx hb dJ6_bitCount_0f7a4_32 ?_
  refine lv_istore_n (lv' := [(0, .int (((((p0 - (((Int32.toUInt32 p0 >>> (Int32.toUInt32 1 &&& Int32.toUInt32 31)).toInt32) &&& 1431655765)) &&& 858993459) + (((Int32.toUInt32 (p0 - (((Int32.toUInt32 p0 >>> (Int32.toUInt32 1 &&& Int32.toUInt32 31)).toInt32) &&& 1431655765)) >>> (Int32.toUInt32 2 &&& Int32.toUInt32 31)).toInt32) &&& 858993459)) + ((Int32.toUInt32 (((p0 - (((Int32.toUInt32 p0 >>> (Int32.toUInt32 1 &&& Int32.toUInt32 31)).toInt32) &&& 1431655765)) &&& 858993459) + (((Int32.toUInt32 (p0 - (((Int32.toUInt32 p0 >>> (Int32.toUInt32 1 &&& Int32.toUInt32 31)).toInt32) &&& 1431655765)) >>> (Int32.toUInt32 2 &&& Int32.toUInt32 31)).toInt32) &&& 858993459)) >>> (Int32.toUInt32 4 &&& Int32.toUInt32 31)).toInt32)) &&& 252645135))]) hx hb dJ6_bitCount_0f7a4_33 rfl hl (by decide) rfl (fun ls hl => ?_)
  refine lv_iload_n hx hb dJ6_bitCount_0f7a4_34 rfl (lv_at hl 0 rfl) ?_
  refine lv_iload_n hx hb dJ6_bitCount_0f7a4_35 rfl (lv_at hl 0 rfl) ?_
  refine lv_bipush (v := 8) hx hb dJ6_bitCount_0f7a4_36 (by decide) ?_
  refine lv_iushr (v := ((Int32.toUInt32 (((((p0 - (((Int32.toUInt32 p0 >>> (Int32.toUInt32 1 &&& Int32.toUInt32 31)).toInt32) &&& 1431655765)) &&& 858993459) + (((Int32.toUInt32 (p0 - (((Int32.toUInt32 p0 >>> (Int32.toUInt32 1 &&& Int32.toUInt32 31)).toInt32) &&& 1431655765)) >>> (Int32.toUInt32 2 &&& Int32.toUInt32 31)).toInt32) &&& 858993459)) + ((Int32.toUInt32 (((p0 - (((Int32.toUInt32 p0 >>> (Int32.toUInt32 1 &&& Int32.toUInt32 31)).toInt32) &&& 1431655765)) &&& 858993459) + (((Int32.toUInt32 (p0 - (((Int32.toUInt32 p0 >>> (Int32.toUInt32 1 &&& Int32.toUInt32 31)).toInt32) &&& 1431655765)) >>> (Int32.toUInt32 2 &&& Int32.toUInt32 31)).toInt32) &&& 858993459)) >>> (Int32.toUInt32 4 &&& Int32.toUInt32 31)).toInt32)) &&& 252645135) >>> (Int32.toUInt32 8 &&& Int32.toUInt32 31)).toInt32)) hx hb dJ6_bitCount_0f7a4_38 rfl ?_
  refine lv_iadd hx hb dJ6_bitCount_0f7a4_39 ?_
  refine lv_istore_n (lv' := [(0, .int ((((((p0 - (((Int32.toUInt32 p0 >>> (Int32.toUInt32 1 &&& Int32.toUInt32 31)).toInt32) &&& 1431655765)) &&& 858993459) + (((Int32.toUInt32 (p0 - (((Int32.toUInt32 p0 >>> (Int32.toUInt32 1 &&& Int32.toUInt32 31)).toInt32) &&& 1431655765)) >>> (Int32.toUInt32 2 &&& Int32.toUInt32 31)).toInt32) &&& 858993459)) + ((Int32.toUInt32 (((p0 - (((Int32.toUInt32 p0 >>> (Int32.toUInt32 1 &&& Int32.toUInt32 31)).toInt32) &&& 1431655765)) &&& 858993459) + (((Int32.toUInt32 (p0 - (((Int32.toUInt32 p0 >>> (Int32.toUInt32 1 &&& Int32.toUInt32 31)).toInt32) &&& 1431655765)) >>> (Int32.toUInt32 2 &&& Int32.toUInt32 31)).toInt32) &&& 858993459)) >>> (Int32.toUInt32 4 &&& Int32.toUInt32 31)).toInt32)) &&& 252645135) + ((Int32.toUInt32 (((((p0 - (((Int32.toUInt32 p0 >>> (Int32.toUInt32 1 &&& Int32.toUInt32 31)).toInt32) &&& 1431655765)) &&& 858993459) + (((Int32.toUInt32 (p0 - (((Int32.toUInt32 p0 >>> (Int32.toUInt32 1 &&& Int32.toUInt32 31)).toInt32) &&& 1431655765)) >>> (Int32.toUInt32 2 &&& Int32.toUInt32 31)).toInt32) &&& 858993459)) + ((Int32.toUInt32 (((p0 - (((Int32.toUInt32 p0 >>> (Int32.toUInt32 1 &&& Int32.toUInt32 31)).toInt32) &&& 1431655765)) &&& 858993459) + (((Int32.toUInt32 (p0 - (((Int32.toUInt32 p0 >>> (Int32.toUInt32 1 &&& Int32.toUInt32 31)).toInt32) &&& 1431655765)) >>> (Int32.toUInt32 2 &&& Int32.toUInt32 31)).toInt32) &&& 858993459)) >>> (Int32.toUInt32 4 &&& Int32.toUInt32 31)).toInt32)) &&& 252645135) >>> (Int32.toUInt32 8 &&& Int32.toUInt32 31)).toInt32)))]) hx hb dJ6_bitCount_0f7a4_40 rfl hl (by decide) rfl (fun ls hl => ?_)
  refine lv_iload_n hx hb dJ6_bitCount_0f7a4_41 rfl (lv_at hl 0 rfl) ?_
  refine lv_iload_n hx hb dJ6_bitCount_0f7a4_42 rfl (lv_at hl 0 rfl) ?_
  refine lv_bipush (v := 16) hx hb dJ6_bitCount_0f7a4_43 (by decide) ?_
  refine lv_iushr (v := ((Int32.toUInt32 ((((((p0 - (((Int32.toUInt32 p0 >>> (Int32.toUInt32 1 &&& Int32.toUInt32 31)).toInt32) &&& 1431655765)) &&& 858993459) + (((Int32.toUInt32 (p0 - (((Int32.toUInt32 p0 >>> (Int32.toUInt32 1 &&& Int32.toUInt32 31)).toInt32) &&& 1431655765)) >>> (Int32.toUInt32 2 &&& Int32.toUInt32 31)).toInt32) &&& 858993459)) + ((Int32.toUInt32 (((p0 - (((Int32.toUInt32 p0 >>> (Int32.toUInt32 1 &&& Int32.toUInt32 31)).toInt32) &&& 1431655765)) &&& 858993459) + (((Int32.toUInt32 (p0 - (((Int32.toUInt32 p0 >>> (Int32.toUInt32 1 &&& Int32.toUInt32 31)).toInt32) &&& 1431655765)) >>> (Int32.toUInt32 2 &&& Int32.toUInt32 31)).toInt32) &&& 858993459)) >>> (Int32.toUInt32 4 &&& Int32.toUInt32 31)).toInt32)) &&& 252645135) + ((Int32.toUInt32 (((((p0 - (((Int32.toUInt32 p0 >>> (Int32.toUInt32 1 &&& Int32.toUInt32 31)).toInt32) &&& 1431655765)) &&& 858993459) + (((Int32.toUInt32 (p0 - (((Int32.toUInt32 p0 >>> (Int32.toUInt32 1 &&& Int32.toUInt32 31)).toInt32) &&& 1431655765)) >>> (Int32.toUInt32 2 &&& Int32.toUInt32 31)).toInt32) &&& 858993459)) + ((Int32.toUInt32 (((p0 - (((Int32.toUInt32 p0 >>> (Int32.toUInt32 1 &&& Int32.toUInt32 31)).toInt32) &&& 1431655765)) &&& 858993459) + (((Int32.toUInt32 (p0 - (((Int32.toUInt32 p0 >>> (Int32.toUInt32 1 &&& Int32.toUInt32 31)).toInt32) &&& 1431655765)) >>> (Int32.toUInt32 2 &&& Int32.toUInt32 31)).toInt32) &&& 858993459)) >>> (Int32.toUInt32 4 &&& Int32.toUInt32 31)).toInt32)) &&& 252645135) >>> (Int32.toUInt32 8 &&& Int32.toUInt32 31)).toInt32)) >>> (Int32.toUInt32 16 &&& Int32.toUInt32 31)).toInt32)) hx hb dJ6_bitCount_0f7a4_45 rfl ?_
  refine lv_iadd hx hb dJ6_bitCount_0f7a4_46 ?_
  refine lv_istore_n (lv' := [(0, .int (((((((p0 - (((Int32.toUInt32 p0 >>> (Int32.toUInt32 1 &&& Int32.toUInt32 31)).toInt32) &&& 1431655765)) &&& 858993459) + (((Int32.toUInt32 (p0 - (((Int32.toUInt32 p0 >>> (Int32.toUInt32 1 &&& Int32.toUInt32 31)).toInt32) &&& 1431655765)) >>> (Int32.toUInt32 2 &&& Int32.toUInt32 31)).toInt32) &&& 858993459)) + ((Int32.toUInt32 (((p0 - (((Int32.toUInt32 p0 >>> (Int32.toUInt32 1 &&& Int32.toUInt32 31)).toInt32) &&& 1431655765)) &&& 858993459) + (((Int32.toUInt32 (p0 - (((Int32.toUInt32 p0 >>> (Int32.toUInt32 1 &&& Int32.toUInt32 31)).toInt32) &&& 1431655765)) >>> (Int32.toUInt32 2 &&& Int32.toUInt32 31)).toInt32) &&& 858993459)) >>> (Int32.toUInt32 4 &&& Int32.toUInt32 31)).toInt32)) &&& 252645135) + ((Int32.toUInt32 (((((p0 - (((Int32.toUInt32 p0 >>> (Int32.toUInt32 1 &&& Int32.toUInt32 31)).toInt32) &&& 1431655765)) &&& 858993459) + (((Int32.toUInt32 (p0 - (((Int32.toUInt32 p0 >>> (Int32.toUInt32 1 &&& Int32.toUInt32 31)).toInt32) &&& 1431655765)) >>> (Int32.toUInt32 2 &&& Int32.toUInt32 31)).toInt32) &&& 858993459)) + ((Int32.toUInt32 (((p0 - (((Int32.toUInt32 p0 >>> (Int32.toUInt32 1 &&& Int32.toUInt32 31)).toInt32) &&& 1431655765)) &&& 858993459) + (((Int32.toUInt32 (p0 - (((Int32.toUInt32 p0 >>> (Int32.toUInt32 1 &&& Int32.toUInt32 31)).toInt32) &&& 1431655765)) >>> (Int32.toUInt32 2 &&& Int32.toUInt32 31)).toInt32) &&& 858993459)) >>> (Int32.toUInt32 4 &&& Int32.toUInt32 31)).toInt32)) &&& 252645135) >>> (Int32.toUInt32 8 &&& Int32.toUInt32 31)).toInt32)) + ((Int32.toUInt32 ((((((p0 - (((Int32.toUInt32 p0 >>> (Int32.toUInt32 1 &&& Int32.toUInt32 31)).toInt32) &&& 1431655765)) &&& 858993459) + (((Int32.toUInt32 (p0 - (((Int32.toUInt32 p0 >>> (Int32.toUInt32 1 &&& Int32.toUInt32 31)).toInt32) &&& 1431655765)) >>> (Int32.toUInt32 2 &&& Int32.toUInt32 31)).toInt32) &&& 858993459)) + ((Int32.toUInt32 (((p0 - (((Int32.toUInt32 p0 >>> (Int32.toUInt32 1 &&& Int32.toUInt32 31)).toInt32) &&& 1431655765)) &&& 858993459) + (((Int32.toUInt32 (p0 - (((Int32.toUInt32 p0 >>> (Int32.toUInt32 1 &&& Int32.toUInt32 31)).toInt32) &&& 1431655765)) >>> (Int32.toUInt32 2 &&& Int32.toUInt32 31)).toInt32) &&& 858993459)) >>> (Int32.toUInt32 4 &&& Int32.toUInt32 31)).toInt32)) &&& 252645135) + ((Int32.toUInt32 (((((p0 - (((Int32.toUInt32 p0 >>> (Int32.toUInt32 1 &&& Int32.toUInt32 31)).toInt32) &&& 1431655765)) &&& 858993459) + (((Int32.toUInt32 (p0 - (((Int32.toUInt32 p0 >>> (Int32.toUInt32 1 &&& Int32.toUInt32 31)).toInt32) &&& 1431655765)) >>> (Int32.toUInt32 2 &&& Int32.toUInt32 31)).toInt32) &&& 858993459)) + ((Int32.toUInt32 (((p0 - (((Int32.toUInt32 p0 >>> (Int32.toUInt32 1 &&& Int32.toUInt32 31)).toInt32) &&& 1431655765)) &&& 858993459) + (((Int32.toUInt32 (p0 - (((Int32.toUInt32 p0 >>> (Int32.toUInt32 1 &&& Int32.toUInt32 31)).toInt32) &&& 1431655765)) >>> (Int32.toUInt32 2 &&& Int32.toUInt32 31)).toInt32) &&& 858993459)) >>> (Int32.toUInt32 4 &&& Int32.toUInt32 31)).toInt32)) &&& 252645135) >>> (Int32.toUInt32 8 &&& Int32.toUInt32 31)).toInt32)) >>> (Int32.toUInt32 16 &&& Int32.toUInt32 31)).toInt32)))]) hx hb dJ6_bitCount_0f7a4_47 rfl hl (by decide) rfl (fun ls hl => ?_)
  refine lv_iload_n hx hb dJ6_bitCount_0f7a4_48 rfl (lv_at hl 0 rfl) ?_
  refine lv_bipush (v := 63) hx hb dJ6_bitCount_0f7a4_49 (by decide) ?_
  refine lv_iand hx hb dJ6_bitCount_0f7a4_51 ?_
  exact W.iret (v := ((((((((p0 - (((Int32.toUInt32 p0 >>> (Int32.toUInt32 1 &&& Int32.toUInt32 31)).toInt32) &&& 1431655765)) &&& 858993459) + (((Int32.toUInt32 (p0 - (((Int32.toUInt32 p0 >>> (Int32.toUInt32 1 &&& Int32.toUInt32 31)).toInt32) &&& 1431655765)) >>> (Int32.toUInt32 2 &&& Int32.toUInt32 31)).toInt32) &&& 858993459)) + ((Int32.toUInt32 (((p0 - (((Int32.toUInt32 p0 >>> (Int32.toUInt32 1 &&& Int32.toUInt32 31)).toInt32) &&& 1431655765)) &&& 858993459) + (((Int32.toUInt32 (p0 - (((Int32.toUInt32 p0 >>> (Int32.toUInt32 1 &&& Int32.toUInt32 31)).toInt32) &&& 1431655765)) >>> (Int32.toUInt32 2 &&& Int32.toUInt32 31)).toInt32) &&& 858993459)) >>> (Int32.toUInt32 4 &&& Int32.toUInt32 31)).toInt32)) &&& 252645135) + ((Int32.toUInt32 (((((p0 - (((Int32.toUInt32 p0 >>> (Int32.toUInt32 1 &&& Int32.toUInt32 31)).toInt32) &&& 1431655765)) &&& 858993459) + (((Int32.toUInt32 (p0 - (((Int32.toUInt32 p0 >>> (Int32.toUInt32 1 &&& Int32.toUInt32 31)).toInt32) &&& 1431655765)) >>> (Int32.toUInt32 2 &&& Int32.toUInt32 31)).toInt32) &&& 858993459)) + ((Int32.toUInt32 (((p0 - (((Int32.toUInt32 p0 >>> (Int32.toUInt32 1 &&& Int32.toUInt32 31)).toInt32) &&& 1431655765)) &&& 858993459) + (((Int32.toUInt32 (p0 - (((Int32.toUInt32 p0 >>> (Int32.toUInt32 1 &&& Int32.toUInt32 31)).toInt32) &&& 1431655765)) >>> (Int32.toUInt32 2 &&& Int32.toUInt32 31)).toInt32) &&& 858993459)) >>> (Int32.toUInt32 4 &&& Int32.toUInt32 31)).toInt32)) &&& 252645135) >>> (Int32.toUInt32 8 &&& Int32.toUInt32 31)).toInt32)) + ((Int32.toUInt32 ((((((p0 - (((Int32.toUInt32 p0 >>> (Int32.toUInt32 1 &&& Int32.toUInt32 31)).toInt32) &&& 1431655765)) &&& 858993459) + (((Int32.toUInt32 (p0 - (((Int32.toUInt32 p0 >>> (Int32.toUInt32 1 &&& Int32.toUInt32 31)).toInt32) &&& 1431655765)) >>> (Int32.toUInt32 2 &&& Int32.toUInt32 31)).toInt32) &&& 858993459)) + ((Int32.toUInt32 (((p0 - (((Int32.toUInt32 p0 >>> (Int32.toUInt32 1 &&& Int32.toUInt32 31)).toInt32) &&& 1431655765)) &&& 858993459) + (((Int32.toUInt32 (p0 - (((Int32.toUInt32 p0 >>> (Int32.toUInt32 1 &&& Int32.toUInt32 31)).toInt32) &&& 1431655765)) >>> (Int32.toUInt32 2 &&& Int32.toUInt32 31)).toInt32) &&& 858993459)) >>> (Int32.toUInt32 4 &&& Int32.toUInt32 31)).toInt32)) &&& 252645135) + ((Int32.toUInt32 (((((p0 - (((Int32.toUInt32 p0 >>> (Int32.toUInt32 1 &&& Int32.toUInt32 31)).toInt32) &&& 1431655765)) &&& 858993459) + (((Int32.toUInt32 (p0 - (((Int32.toUInt32 p0 >>> (Int32.toUInt32 1 &&& Int32.toUInt32 31)).toInt32) &&& 1431655765)) >>> (Int32.toUInt32 2 &&& Int32.toUInt32 31)).toInt32) &&& 858993459)) + ((Int32.toUInt32 (((p0 - (((Int32.toUInt32 p0 >>> (Int32.toUInt32 1 &&& Int32.toUInt32 31)).toInt32) &&& 1431655765)) &&& 858993459) + (((Int32.toUInt32 (p0 - (((Int32.toUInt32 p0 >>> (Int32.toUInt32 1 &&& Int32.toUInt32 31)).toInt32) &&& 1431655765)) >>> (Int32.toUInt32 2 &&& Int32.toUInt32 31)).toInt32) &&& 858993459)) >>> (Int32.toUInt32 4 &&& Int32.toUInt32 31)).toInt32)) &&& 252645135) >>> (Int32.toUInt32 8 &&& Int32.toUInt32 31)).toInt32)) >>> (Int32.toUInt32 16 &&& Int32.toUInt32 31)).toInt32)) &&& 63)) hx hb hr (fun t ht hW => ⟨_, rfl, (Option.some.inj hM).symm, ht⟩) (fun _ h => by cases h) dJ6_bitCount_0f7a4_52

/-! X3_all -/
def M_X3_all (w_t : Int32) : Option (Int32) := some (((1 : Int32) <<< (w_t &&& 31)) - 1)
abbrev rm_X3_all : Room := { frames := 0, cells := 0, slots := 0, locals := 0 }
theorem in_X3_all_3 : ∀ w ∈ u_ws RX3 TX3 5, w ∈ wsX3_all := by decide +kernel
set_option maxHeartbeats 4000000 in
set_option maxRecDepth 100000 in
theorem c_X3_all (l : Launch) (dC : Nat → ClassId) (dI : Nat → Nat → Nat) (cI cZ cJ cW : ClassId) (w_a w_cs_a w_ds_a : Nat) (w_t : Int32) (w_k : Int32) (w_f : Int32) (w_cs : Nat → Int32) (w_ds : Nat → Int32) (R : Int32) (hM : M_X3_all w_t = some R) : Met l yX3_all wsX3_all rm_X3_all (va_Pc [.ref w_a] (RP (dC, dI) cI cZ cJ cW [(w_a, .inr (3, [.int w_t, .int w_k, .int w_f, .ref w_cs_a, .ref w_ds_a])), (w_cs_a, .inl (cI, 14, .inl w_cs)), (w_ds_a, .inl (cI, 14, .inl w_ds))])) (vp_Si (fun r => R = r)) 0 0 (fun _ => False) := by
  refine Met.ofW (cc := cX3_all) (maxL := 1) (ret := (some .int)) (by decide) rfl ?_
  intro p e s m args below meth c s₁ B hml hv
  obtain ⟨rfl, hP, hK, hN⟩ := hv
  have hx := B.exec
  have hb := B.bytes
  have hr := B.returns
  have hts := atoms_spec (ws := wsX3_all) B.pre
  have hown : s.vm.findClass RX3 = some m.cls := findClass_of_methodNamed B.named
  have hlocks := B.notSynchronized
  have hf9 := hts (.fieldLink RX3 9 "WordGrounds$Words" "total" "I") (by decide +kernel)
  have hl := lv_entry ([.ref w_a]) (n := 1) (Nat.le_of_ble_eq_true rfl)
  rw [lg_entry_eq]
  generalize (lg_sl ([.ref w_a]) ++ List.replicate (1 - (lg_sl ([.ref w_a])).length) Slot.unset).toArray = ls at hl ⊢
  have hl : lv_has ls 1 [(0, .ref w_a)] := hl
  have hM : (some (((1 : Int32) <<< (w_t &&& 31)) - 1)) = some R := hM
  refine lv_iconst (v := 1) hx hb dX3_all_0 (by decide) ?_
  refine lv_aload_n hx hb dX3_all_1 rfl (lv_at hl 0 rfl) ?_
  refine va_get (D := (dC, dI)) (ci := 3) (v := .int w_t) (C := RX3) (T := TX3) (N := 5) hx hb hts in_X3_all_3 hown hK hP 0 rfl rfl 0 (by decide) hf9 (fun _ h9 => h9) rfl dX3_all_2 ?_
  refine lv_ishl hx hb dX3_all_5 ?_
  refine lv_iconst (v := 1) hx hb dX3_all_6 (by decide) ?_
  refine lv_isub hx hb dX3_all_7 ?_
  exact W.iret (v := (((1 : Int32) <<< (w_t &&& 31)) - 1)) hx hb hr (fun t ht hW => ⟨_, rfl, (Option.some.inj hM).symm, ht⟩) (fun _ h => by cases h) dX3_all_8

/-! X3_has -/
def M_X3_has (w_t : Int32) (p1 : Int32) : Option (Int32) := if p1 < 0 then (some 0) else (if w_t ≤ p1 then (some 0) else (some 1))
abbrev rm_X3_has : Room := { frames := 0, cells := 0, slots := 0, locals := 0 }
theorem in_X3_has_3 : ∀ w ∈ u_ws RX3 TX3 5, w ∈ wsX3_has := by decide +kernel
set_option maxHeartbeats 4000000 in
set_option maxRecDepth 100000 in
theorem c_X3_has (l : Launch) (dC : Nat → ClassId) (dI : Nat → Nat → Nat) (cI cZ cJ cW : ClassId) (w_a w_cs_a w_ds_a : Nat) (w_t : Int32) (w_k : Int32) (w_f : Int32) (w_cs : Nat → Int32) (w_ds : Nat → Int32) (p1 : Int32) (R : Int32) (hM : M_X3_has w_t p1 = some R) : Met l yX3_has wsX3_has rm_X3_has (va_Pc [.ref w_a, .int p1] (RP (dC, dI) cI cZ cJ cW [(w_a, .inr (3, [.int w_t, .int w_k, .int w_f, .ref w_cs_a, .ref w_ds_a])), (w_cs_a, .inl (cI, 14, .inl w_cs)), (w_ds_a, .inl (cI, 14, .inl w_ds))])) (vp_Si (fun r => R = r)) 0 0 (fun _ => False) := by
  refine Met.ofW (cc := cX3_has) (maxL := 2) (ret := (some .boolean)) (by decide) rfl ?_
  intro p e s m args below meth c s₁ B hml hv
  obtain ⟨rfl, hP, hK, hN⟩ := hv
  have hx := B.exec
  have hb := B.bytes
  have hr := B.returns
  have hts := atoms_spec (ws := wsX3_has) B.pre
  have hown : s.vm.findClass RX3 = some m.cls := findClass_of_methodNamed B.named
  have hlocks := B.notSynchronized
  have hf9 := hts (.fieldLink RX3 9 "WordGrounds$Words" "total" "I") (by decide +kernel)
  have hl := lv_entry ([.ref w_a, .int p1]) (n := 2) (Nat.le_of_ble_eq_true rfl)
  rw [lg_entry_eq]
  generalize (lg_sl ([.ref w_a, .int p1]) ++ List.replicate (2 - (lg_sl ([.ref w_a, .int p1])).length) Slot.unset).toArray = ls at hl ⊢
  have hl : lv_has ls 2 [(0, .ref w_a), (1, .int p1)] := hl
  have hM : (if p1 < 0 then (some 0) else (if w_t ≤ p1 then (some 0) else (some 1))) = some R := hM
  refine lv_iload_n hx hb dX3_has_0 rfl (lv_at hl 1 rfl) ?_
  refine lv_if_lt (tgt := 16) hx hb dX3_has_1 (by decide) (fun c_1 => ?_) (fun c_1 => ?_)
  · replace hM := ob_pos c_1 hM
    refine lv_iconst (v := 0) hx hb dX3_has_16 (by decide) ?_
    exact W.zret (v := 0) hx hb hr (by rfl) (fun t ht hW => ⟨_, rfl, (Option.some.inj hM).symm, ht⟩) (fun _ h => by cases h) dX3_has_17
  · replace hM := ob_neg c_1 hM
    refine lv_iload_n hx hb dX3_has_4 rfl (lv_at hl 1 rfl) ?_
    refine lv_aload_n hx hb dX3_has_5 rfl (lv_at hl 0 rfl) ?_
    refine va_get (D := (dC, dI)) (ci := 3) (v := .int w_t) (C := RX3) (T := TX3) (N := 5) hx hb hts in_X3_has_3 hown hK hP 0 rfl rfl 0 (by decide) hf9 (fun _ h9 => h9) rfl dX3_has_6 ?_
    refine lv_icmp_ge (tgt := 16) hx hb dX3_has_9 (by decide) (fun c_2 => ?_) (fun c_2 => ?_)
    · replace hM := ob_pos c_2 hM
      refine lv_iconst (v := 0) hx hb dX3_has_16 (by decide) ?_
      exact W.zret (v := 0) hx hb hr (by rfl) (fun t ht hW => ⟨_, rfl, (Option.some.inj hM).symm, ht⟩) (fun _ h => by cases h) dX3_has_17
    · replace hM := ob_neg c_2 hM
      refine lv_iconst (v := 1) hx hb dX3_has_12 (by decide) ?_
      refine lv_goto (tgt := 17) hx hb dX3_has_13 (by decide) ?_
      exact W.zret (v := 1) hx hb hr (by rfl) (fun t ht hW => ⟨_, rfl, (Option.some.inj hM).symm, ht⟩) (fun _ h => by cases h) dX3_has_17

/-! X3_hasAll -/
def M_X3_hasAll (w_t : Int32) (p1 : Int32) : Option (Int32) := (M_X3_all w_t).bind (fun q_1 => if (p1 &&& (q_1 ^^^ (-1))) = 0 then (some 1) else (some 0))
abbrev rm_X3_hasAll : Room := { frames := 1, cells := 0, slots := 0, locals := 20 }
set_option maxHeartbeats 4000000 in
set_option maxRecDepth 100000 in
theorem c_X3_hasAll (l : Launch) (dC : Nat → ClassId) (dI : Nat → Nat → Nat) (cI cZ cJ cW : ClassId) (w_a w_cs_a w_ds_a : Nat) (w_t : Int32) (w_k : Int32) (w_f : Int32) (w_cs : Nat → Int32) (w_ds : Nat → Int32) (p1 : Int32) (R : Int32) (hM : M_X3_hasAll w_t p1 = some R) : Met l yX3_hasAll wsX3_hasAll rm_X3_hasAll (va_Pc [.ref w_a, .int p1] (RP (dC, dI) cI cZ cJ cW [(w_a, .inr (3, [.int w_t, .int w_k, .int w_f, .ref w_cs_a, .ref w_ds_a])), (w_cs_a, .inl (cI, 14, .inl w_cs)), (w_ds_a, .inl (cI, 14, .inl w_ds))])) (vp_Si (fun r => R = r)) 0 0 (fun _ => False) := by
  refine Met.ofW (cc := cX3_hasAll) (maxL := 2) (ret := (some .boolean)) (by decide) rfl ?_
  intro p e s m args below meth c s₁ B hml hv
  obtain ⟨rfl, hP, hK, hN⟩ := hv
  have hx := B.exec
  have hb := B.bytes
  have hr := B.returns
  have hts := atoms_spec (ws := wsX3_hasAll) B.pre
  have hown : s.vm.findClass RX3 = some m.cls := findClass_of_methodNamed B.named
  have hlocks := B.notSynchronized
  have hl := lv_entry ([.ref w_a, .int p1]) (n := 2) (Nat.le_of_ble_eq_true rfl)
  rw [lg_entry_eq]
  generalize (lg_sl ([.ref w_a, .int p1]) ++ List.replicate (2 - (lg_sl ([.ref w_a, .int p1])).length) Slot.unset).toArray = ls at hl ⊢
  have hl : lv_has ls 2 [(0, .ref w_a), (1, .int p1)] := hl
  have hM : ((M_X3_all w_t).bind (fun q_1 => if (p1 &&& (q_1 ^^^ (-1))) = 0 then (some 1) else (some 0))) = some R := hM
  refine lv_iload_n hx hb dX3_hasAll_0 rfl (lv_at hl 1 rfl) ?_
  refine lv_aload_n hx hb dX3_hasAll_1 rfl (lv_at hl 0 rfl) ?_
  obtain ⟨q_1, hv_2, hM⟩ := ob_bind hM
  refine vp_callSi (va_Run.run (va_runV (As := []) (rest := [.int p1]) ⟨hx, hb, hml, hown, hts⟩ (c_X3_all l dC dI cI cZ cJ cW w_a w_cs_a w_ds_a w_t w_k w_f w_cs w_ds q_1 hv_2) (cwV 0 hts gX3_hasAll_X3_all rfl rfl rfl (by decide +kernel) ⟨Nat.le_of_ble_eq_true rfl, Nat.le_of_ble_eq_true rfl⟩) ⟨RP.blind, va_recv hK hP (ci := 3) (q0 := 0) rfl rfl, fun U hU hW => ⟨rfl, by rw [hU]; exact hP.sub (ws' := [(w_a, .inr (3, [.int w_t, .int w_k, .int w_f, .ref w_cs_a, .ref w_ds_a])), (w_cs_a, .inl (cI, 14, .inl w_cs)), (w_ds_a, .inl (cI, 14, .inl w_ds))]) [0, 1, 2] rfl, va_K.moved hW.alike hK, hN.warm hW⟩⟩ rfl rfl hl.1 rfl (lv_room (Nat.le_of_ble_eq_true rfl)) dX3_hasAll_2 ⟨Nat.le_of_ble_eq_true rfl, Nat.le_of_ble_eq_true rfl⟩)) (fun r hr => ?_)
  subst hr
  refine lv_iconst (v := (-1)) hx hb dX3_hasAll_5 (by decide) ?_
  refine lv_ixor hx hb dX3_hasAll_6 ?_
  refine lv_iand hx hb dX3_hasAll_7 ?_
  refine lv_if_ne (tgt := 15) hx hb dX3_hasAll_8 (by decide) (fun c_3 => ?_) (fun c_3 => ?_)
  · replace hM := ob_neg c_3 hM
    refine lv_iconst (v := 0) hx hb dX3_hasAll_15 (by decide) ?_
    exact W.zret (v := 0) hx hb hr (by rfl) (fun t ht hW => ⟨_, rfl, (Option.some.inj hM).symm, ht⟩) (fun _ h => by cases h) dX3_hasAll_16
  · replace hM := ob_pos c_3 hM
    refine lv_iconst (v := 1) hx hb dX3_hasAll_11 (by decide) ?_
    refine lv_goto (tgt := 16) hx hb dX3_hasAll_12 (by decide) ?_
    exact W.zret (v := 1) hx hb hr (by rfl) (fun t ht hW => ⟨_, rfl, (Option.some.inj hM).symm, ht⟩) (fun _ h => by cases h) dX3_hasAll_16

/-! X3_isBare -/
def M_X3_isBare (w_f : Int32) (p1 : Int32) : Option (Int32) := if ((w_f >>> (p1 &&& 31)) &&& 1) = 0 then (some 1) else (some 0)
abbrev rm_X3_isBare : Room := { frames := 0, cells := 0, slots := 0, locals := 0 }
theorem in_X3_isBare_3 : ∀ w ∈ u_ws RX3 TX3 5, w ∈ wsX3_isBare := by decide +kernel
set_option maxHeartbeats 4000000 in
set_option maxRecDepth 100000 in
theorem c_X3_isBare (l : Launch) (dC : Nat → ClassId) (dI : Nat → Nat → Nat) (cI cZ cJ cW : ClassId) (w_a w_cs_a w_ds_a : Nat) (w_t : Int32) (w_k : Int32) (w_f : Int32) (w_cs : Nat → Int32) (w_ds : Nat → Int32) (p1 : Int32) (R : Int32) (hM : M_X3_isBare w_f p1 = some R) : Met l yX3_isBare wsX3_isBare rm_X3_isBare (va_Pc [.ref w_a, .int p1] (RP (dC, dI) cI cZ cJ cW [(w_a, .inr (3, [.int w_t, .int w_k, .int w_f, .ref w_cs_a, .ref w_ds_a])), (w_cs_a, .inl (cI, 14, .inl w_cs)), (w_ds_a, .inl (cI, 14, .inl w_ds))])) (vp_Si (fun r => R = r)) 0 0 (fun _ => False) := by
  refine Met.ofW (cc := cX3_isBare) (maxL := 2) (ret := (some .boolean)) (by decide) rfl ?_
  intro p e s m args below meth c s₁ B hml hv
  obtain ⟨rfl, hP, hK, hN⟩ := hv
  have hx := B.exec
  have hb := B.bytes
  have hr := B.returns
  have hts := atoms_spec (ws := wsX3_isBare) B.pre
  have hown : s.vm.findClass RX3 = some m.cls := findClass_of_methodNamed B.named
  have hlocks := B.notSynchronized
  have hf18 := hts (.fieldLink RX3 18 "WordGrounds$Words" "defined" "I") (by decide +kernel)
  have hl := lv_entry ([.ref w_a, .int p1]) (n := 2) (Nat.le_of_ble_eq_true rfl)
  rw [lg_entry_eq]
  generalize (lg_sl ([.ref w_a, .int p1]) ++ List.replicate (2 - (lg_sl ([.ref w_a, .int p1])).length) Slot.unset).toArray = ls at hl ⊢
  have hl : lv_has ls 2 [(0, .ref w_a), (1, .int p1)] := hl
  have hM : (if ((w_f >>> (p1 &&& 31)) &&& 1) = 0 then (some 1) else (some 0)) = some R := hM
  refine lv_aload_n hx hb dX3_isBare_0 rfl (lv_at hl 0 rfl) ?_
  refine va_get (D := (dC, dI)) (ci := 3) (v := .int w_f) (C := RX3) (T := TX3) (N := 5) hx hb hts in_X3_isBare_3 hown hK hP 0 rfl rfl 2 (by decide) hf18 (fun _ h9 => h9) rfl dX3_isBare_1 ?_
  refine lv_iload_n hx hb dX3_isBare_4 rfl (lv_at hl 1 rfl) ?_
  refine lv_ishr hx hb dX3_isBare_5 ?_
  refine lv_iconst (v := 1) hx hb dX3_isBare_6 (by decide) ?_
  refine lv_iand hx hb dX3_isBare_7 ?_
  refine lv_if_ne (tgt := 15) hx hb dX3_isBare_8 (by decide) (fun c_1 => ?_) (fun c_1 => ?_)
  · replace hM := ob_neg c_1 hM
    refine lv_iconst (v := 0) hx hb dX3_isBare_15 (by decide) ?_
    exact W.zret (v := 0) hx hb hr (by rfl) (fun t ht hW => ⟨_, rfl, (Option.some.inj hM).symm, ht⟩) (fun _ h => by cases h) dX3_isBare_16
  · replace hM := ob_pos c_1 hM
    refine lv_iconst (v := 1) hx hb dX3_isBare_11 (by decide) ?_
    refine lv_goto (tgt := 16) hx hb dX3_isBare_12 (by decide) ?_
    exact W.zret (v := 1) hx hb hr (by rfl) (fun t ht hW => ⟨_, rfl, (Option.some.inj hM).symm, ht⟩) (fun _ h => by cases h) dX3_isBare_16

/-! X3_usersOf -/
def L_X3_usersOf_4 (w_t : Int32) (w_ds : Nat → Int32) (p1 : Int32) (K4 : Int32 → Int32 → Option (Int32)) : Nat → Int32 → Int32 → Option (Int32)
  | 0, _, _ => none
  | k4 + 1, v3_4, v2_4 => if w_t ≤ v3_4 then (K4 v3_4 v2_4) else (if v3_4 < 0 ∨ 14 ≤ (v3_4).toNatClampNeg then none else (L_X3_usersOf_4 w_t w_ds p1 K4 k4 (v3_4 + 1) (v2_4 ||| ((((w_ds (v3_4).toNatClampNeg) >>> (p1 &&& 31)) &&& 1) <<< (v3_4 &&& 31)))))

def M_X3_usersOf (w_t : Int32) (w_ds : Nat → Int32) (p1 : Int32) : Option (Int32) := L_X3_usersOf_4 w_t w_ds p1 (fun (v3_4 : Int32) (v2_4 : Int32) => some v2_4) 40 0 0
abbrev rm_X3_usersOf : Room := { frames := 0, cells := 0, slots := 0, locals := 0 }
theorem in_X3_usersOf_3 : ∀ w ∈ u_ws RX3 TX3 5, w ∈ wsX3_usersOf := by decide +kernel
set_option maxHeartbeats 4000000 in
set_option maxRecDepth 100000 in
theorem c_X3_usersOf (l : Launch) (dC : Nat → ClassId) (dI : Nat → Nat → Nat) (cI cZ cJ cW : ClassId) (w_a w_cs_a w_ds_a : Nat) (w_t : Int32) (w_k : Int32) (w_f : Int32) (w_cs : Nat → Int32) (w_ds : Nat → Int32) (p1 : Int32) (R : Int32) (hM : M_X3_usersOf w_t w_ds p1 = some R) : Met l yX3_usersOf wsX3_usersOf rm_X3_usersOf (va_Pc [.ref w_a, .int p1] (RP (dC, dI) cI cZ cJ cW [(w_a, .inr (3, [.int w_t, .int w_k, .int w_f, .ref w_cs_a, .ref w_ds_a])), (w_cs_a, .inl (cI, 14, .inl w_cs)), (w_ds_a, .inl (cI, 14, .inl w_ds))])) (vp_Si (fun r => R = r)) 0 0 (fun _ => False) := by
  refine Met.ofW (cc := cX3_usersOf) (maxL := 4) (ret := (some .int)) (by decide) rfl ?_
  intro p e s m args below meth c s₁ B hml hv
  obtain ⟨rfl, hP, hK, hN⟩ := hv
  have hx := B.exec
  have hb := B.bytes
  have hr := B.returns
  have hts := atoms_spec (ws := wsX3_usersOf) B.pre
  have hown : s.vm.findClass RX3 = some m.cls := findClass_of_methodNamed B.named
  have hlocks := B.notSynchronized
  have hf9 := hts (.fieldLink RX3 9 "WordGrounds$Words" "total" "I") (by decide +kernel)
  have hf25 := hts (.fieldLink RX3 25 "WordGrounds$Words" "definitions" "[I") (by decide +kernel)
  have hl := lv_entry ([.ref w_a, .int p1]) (n := 4) (Nat.le_of_ble_eq_true rfl)
  rw [lg_entry_eq]
  generalize (lg_sl ([.ref w_a, .int p1]) ++ List.replicate (4 - (lg_sl ([.ref w_a, .int p1])).length) Slot.unset).toArray = ls at hl ⊢
  have hl : lv_has ls 4 [(0, .ref w_a), (1, .int p1)] := hl
  have hM : (L_X3_usersOf_4 w_t w_ds p1 (fun (v3_4 : Int32) (v2_4 : Int32) => some v2_4) 40 0 0) = some R := hM
  refine lv_iconst (v := 0) hx hb dX3_usersOf_0 (by decide) ?_
  refine lv_istore_n (lv' := [(2, .int 0), (0, .ref w_a), (1, .int p1)]) hx hb dX3_usersOf_1 rfl hl (by decide) rfl (fun ls hl => ?_)
  refine lv_iconst (v := 0) hx hb dX3_usersOf_2 (by decide) ?_
  refine lv_istore_n (lv' := [(3, .int 0), (2, .int 0), (0, .ref w_a), (1, .int p1)]) hx hb dX3_usersOf_3 rfl hl (by decide) rfl (fun ls hl => ?_)
  obtain ⟨K4, hK4⟩ : ∃ K : Int32 → Int32 → Option (Int32), K = (fun (v3_4 : Int32) (v2_4 : Int32) => some v2_4) := ⟨_, rfl⟩
  have hM : L_X3_usersOf_4 w_t w_ds p1 K4 40 0 0 = some R := by rw [hK4]; exact hM
  have hL4 : ∀ (k4 : Nat) (v3_4 : Int32) (v2_4 : Int32) (ls : Array Slot), L_X3_usersOf_4 w_t w_ds p1 K4 k4 v3_4 v2_4 = some R → lv_has ls 4 [(3, .int v3_4), (2, .int v2_4), (0, .ref w_a), (1, .int p1)] → W p l e rm_X3_usersOf s m ([.ref w_a, .int p1] : List Value).toArray below meth c s.heap [] 0 0 (MQ below (vp_Si (fun r => R = r)) ([.ref w_a, .int p1] : List Value).toArray s 0 0 (fun _ => False)) (F0 m 4 ls []) := by
    intro k4
    induction k4 with
    | zero => intro v3_4 v2_4 ls hM; exact (ob_none hM).elim
    | succ k4 ih4 =>
      intro v3_4 v2_4 ls hM hl
      have hM : (if w_t ≤ v3_4 then (K4 v3_4 v2_4) else (if v3_4 < 0 ∨ 14 ≤ (v3_4).toNatClampNeg then none else (L_X3_usersOf_4 w_t w_ds p1 K4 k4 (v3_4 + 1) (v2_4 ||| ((((w_ds (v3_4).toNatClampNeg) >>> (p1 &&& 31)) &&& 1) <<< (v3_4 &&& 31)))))) = some R := hM
      refine lv_iload_n hx hb dX3_usersOf_4 rfl (lv_at hl 0 rfl) ?_
      refine lv_aload_n hx hb dX3_usersOf_5 rfl (lv_at hl 2 rfl) ?_
      refine va_get (D := (dC, dI)) (ci := 3) (v := .int w_t) (C := RX3) (T := TX3) (N := 5) hx hb hts in_X3_usersOf_3 hown hK hP 0 rfl rfl 0 (by decide) hf9 (fun _ h9 => h9) rfl dX3_usersOf_6 ?_
      refine lv_icmp_ge (tgt := 33) hx hb dX3_usersOf_9 (by decide) (fun c_1 => ?_) (fun c_1 => ?_)
      · replace hM := ob_pos c_1 hM
        have hM : (some v2_4) = some R := by rw [hK4] at hM; exact hM
        refine lv_iload_n hx hb dX3_usersOf_33 rfl (lv_at hl 1 rfl) ?_
        exact W.iret (v := v2_4) hx hb hr (fun t ht hW => ⟨_, rfl, (Option.some.inj hM).symm, ht⟩) (fun _ h => by cases h) dX3_usersOf_34
      · replace hM := ob_neg c_1 hM
        refine lv_iload_n hx hb dX3_usersOf_12 rfl (lv_at hl 1 rfl) ?_
        refine lv_aload_n hx hb dX3_usersOf_13 rfl (lv_at hl 2 rfl) ?_
        refine va_get (D := (dC, dI)) (ci := 3) (v := .ref w_ds_a) (C := RX3) (T := TX3) (N := 5) hx hb hts in_X3_usersOf_3 hown hK hP 0 rfl rfl 4 (by decide) hf25 (fun _ h9 => h9) rfl dX3_usersOf_14 ?_
        refine lv_iload_n hx hb dX3_usersOf_17 rfl (lv_at hl 0 rfl) ?_
        obtain ⟨h_2, hM⟩ := ob_get hM
        refine va_iald hx hb hK hP 2 0 rfl rfl h_2 dX3_usersOf_18 ?_
        refine lv_iload_n hx hb dX3_usersOf_19 rfl (lv_at hl 3 rfl) ?_
        refine lv_ishr hx hb dX3_usersOf_20 ?_
        refine lv_iconst (v := 1) hx hb dX3_usersOf_21 (by decide) ?_
        refine lv_iand hx hb dX3_usersOf_22 ?_
        refine lv_iload_n hx hb dX3_usersOf_23 rfl (lv_at hl 0 rfl) ?_
        refine lv_ishl hx hb dX3_usersOf_24 ?_
        refine lv_ior hx hb dX3_usersOf_25 ?_
        refine lv_istore_n (lv' := [(2, .int (v2_4 ||| ((((w_ds (v3_4).toNatClampNeg) >>> (p1 &&& 31)) &&& 1) <<< (v3_4 &&& 31)))), (3, .int v3_4), (0, .ref w_a), (1, .int p1)]) hx hb dX3_usersOf_26 rfl hl (by decide) rfl (fun ls hl => ?_)
        refine lv_iinc (v := (v3_4 + 1)) (lv' := [(3, .int (v3_4 + 1)), (2, .int (v2_4 ||| ((((w_ds (v3_4).toNatClampNeg) >>> (p1 &&& 31)) &&& 1) <<< (v3_4 &&& 31)))), (0, .ref w_a), (1, .int p1)]) hx hb dX3_usersOf_27 hl (k := 1) rfl (by rfl) (by decide) rfl (fun ls hl => ?_)
        refine lv_goto (tgt := 4) hx hb dX3_usersOf_30 (by decide) ?_
        exact ih4 (v3_4 + 1) (v2_4 ||| ((((w_ds (v3_4).toNatClampNeg) >>> (p1 &&& 31)) &&& 1) <<< (v3_4 &&& 31))) _ hM (lv_sub hl [0, 1, 2, 3] rfl)
  exact hL4 40 0 0 _ hM (lv_sub hl [0, 1, 2, 3] rfl)
end
