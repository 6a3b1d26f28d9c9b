section
-- ===== PART A: goes FIRST, ahead of the names: the tables' words, and 'selects' of the private methods out of them =====
/-- a private method of a class that the tables say can be made, by its rows of tables_1 -/
def lw_okq (q : MethodName × Nat) : Prop := (q.1.cls ≠ "java/lang/invoke/MethodHandle" ∧ q.1.cls ≠ "java/lang/invoke/VarHandle") ∧ Cond.instantiable q.1.cls q.2 ∈ tables_1 ∧ Cond.privateMethod q.1 ∈ tables_1 ∧ Cond.instanceMethod q.1 ∈ tables_1
theorem lw_p0 : lw_okq (⟨"DaisyChain$Text", "nextToken", "()V"⟩, 9) := ⟨⟨by decide +kernel, by decide +kernel⟩, List.mem_of_getElem? (i := 20) (by decide +kernel), List.mem_of_getElem? (i := 243) (by decide +kernel), List.mem_of_getElem? (i := 244) (by decide +kernel)⟩
theorem lw_p1 : lw_okq (⟨"DaisyChain$Text", "nextNumber", "()V"⟩, 9) := ⟨⟨by decide +kernel, by decide +kernel⟩, List.mem_of_getElem? (i := 20) (by decide +kernel), List.mem_of_getElem? (i := 250) (by decide +kernel), List.mem_of_getElem? (i := 251) (by decide +kernel)⟩
theorem lw_p2 : lw_okq (⟨"DaisyChain$Text", "readsItem", "()Z"⟩, 9) := ⟨⟨by decide +kernel, by decide +kernel⟩, List.mem_of_getElem? (i := 20) (by decide +kernel), List.mem_of_getElem? (i := 257) (by decide +kernel), List.mem_of_getElem? (i := 258) (by decide +kernel)⟩
theorem lw_p3 : lw_okq (⟨"DaisyChain$Text", "readsFlower", "()Z"⟩, 9) := ⟨⟨by decide +kernel, by decide +kernel⟩, List.mem_of_getElem? (i := 20) (by decide +kernel), List.mem_of_getElem? (i := 261) (by decide +kernel), List.mem_of_getElem? (i := 262) (by decide +kernel)⟩
theorem lw_p4 : lw_okq (⟨"DaisyChain$Text", "readsNumber", "(II)Z"⟩, 9) := ⟨⟨by decide +kernel, by decide +kernel⟩, List.mem_of_getElem? (i := 20) (by decide +kernel), List.mem_of_getElem? (i := 265) (by decide +kernel), List.mem_of_getElem? (i := 266) (by decide +kernel)⟩
theorem lw_p5 : lw_okq (⟨"DaisyChain$Text", "readsItemEnd", "()Z"⟩, 9) := ⟨⟨by decide +kernel, by decide +kernel⟩, List.mem_of_getElem? (i := 20) (by decide +kernel), List.mem_of_getElem? (i := 270) (by decide +kernel), List.mem_of_getElem? (i := 271) (by decide +kernel)⟩
theorem lw_p6 : lw_okq (⟨"DaisyChain$Text", "readsWilt", "()Z"⟩, 9) := ⟨⟨by decide +kernel, by decide +kernel⟩, List.mem_of_getElem? (i := 20) (by decide +kernel), List.mem_of_getElem? (i := 274) (by decide +kernel), List.mem_of_getElem? (i := 275) (by decide +kernel)⟩
theorem lw_p7 : lw_okq (⟨"DaisyChain", "isFlower", "(I)Z"⟩, 12) := ⟨⟨by decide +kernel, by decide +kernel⟩, List.mem_of_getElem? (i := 12) (by decide +kernel), List.mem_of_getElem? (i := 293) (by decide +kernel), List.mem_of_getElem? (i := 294) (by decide +kernel)⟩
theorem lw_p8 : lw_okq (⟨"DaisyChain", "holds", "(I)I"⟩, 12) := ⟨⟨by decide +kernel, by decide +kernel⟩, List.mem_of_getElem? (i := 12) (by decide +kernel), List.mem_of_getElem? (i := 305) (by decide +kernel), List.mem_of_getElem? (i := 306) (by decide +kernel)⟩
theorem lw_p9 : lw_okq (⟨"DaisyChain", "holdsLater", "(II)I"⟩, 12) := ⟨⟨by decide +kernel, by decide +kernel⟩, List.mem_of_getElem? (i := 12) (by decide +kernel), List.mem_of_getElem? (i := 309) (by decide +kernel), List.mem_of_getElem? (i := 310) (by decide +kernel)⟩
theorem lw_p10 : lw_okq (⟨"DaisyChain", "freshHold", "(I)I"⟩, 12) := ⟨⟨by decide +kernel, by decide +kernel⟩, List.mem_of_getElem? (i := 12) (by decide +kernel), List.mem_of_getElem? (i := 313) (by decide +kernel), List.mem_of_getElem? (i := 314) (by decide +kernel)⟩
theorem lw_p11 : lw_okq (⟨"DaisyChain", "isOpen", "(I)Z"⟩, 12) := ⟨⟨by decide +kernel, by decide +kernel⟩, List.mem_of_getElem? (i := 12) (by decide +kernel), List.mem_of_getElem? (i := 317) (by decide +kernel), List.mem_of_getElem? (i := 318) (by decide +kernel)⟩
theorem lw_p12 : lw_okq (⟨"DaisyChain", "inches", "()I"⟩, 12) := ⟨⟨by decide +kernel, by decide +kernel⟩, List.mem_of_getElem? (i := 12) (by decide +kernel), List.mem_of_getElem? (i := 335) (by decide +kernel), List.mem_of_getElem? (i := 336) (by decide +kernel)⟩
theorem lw_p13 : lw_okq (⟨"DaisyChain", "canBeThreaded", "()I"⟩, 12) := ⟨⟨by decide +kernel, by decide +kernel⟩, List.mem_of_getElem? (i := 12) (by decide +kernel), List.mem_of_getElem? (i := 349) (by decide +kernel), List.mem_of_getElem? (i := 350) (by decide +kernel)⟩
theorem lw_p14 : lw_okq (⟨"DaisyChain", "fitsBehind", "(I)Z"⟩, 12) := ⟨⟨by decide +kernel, by decide +kernel⟩, List.mem_of_getElem? (i := 12) (by decide +kernel), List.mem_of_getElem? (i := 353) (by decide +kernel), List.mem_of_getElem? (i := 354) (by decide +kernel)⟩
theorem lw_p15 : lw_okq (⟨"DaisyChain$Moment", "isAmong", "(II)Z"⟩, 8) := ⟨⟨by decide +kernel, by decide +kernel⟩, List.mem_of_getElem? (i := 97) (by decide +kernel), List.mem_of_getElem? (i := 361) (by decide +kernel), List.mem_of_getElem? (i := 362) (by decide +kernel)⟩
def lw_privs_1 : List (MethodName × Nat) := [(⟨"DaisyChain$Text", "nextToken", "()V"⟩, 9), (⟨"DaisyChain$Text", "nextNumber", "()V"⟩, 9), (⟨"DaisyChain$Text", "readsItem", "()Z"⟩, 9), (⟨"DaisyChain$Text", "readsFlower", "()Z"⟩, 9), (⟨"DaisyChain$Text", "readsNumber", "(II)Z"⟩, 9), (⟨"DaisyChain$Text", "readsItemEnd", "()Z"⟩, 9), (⟨"DaisyChain$Text", "readsWilt", "()Z"⟩, 9), (⟨"DaisyChain", "isFlower", "(I)Z"⟩, 12), (⟨"DaisyChain", "holds", "(I)I"⟩, 12), (⟨"DaisyChain", "holdsLater", "(II)I"⟩, 12), (⟨"DaisyChain", "freshHold", "(I)I"⟩, 12), (⟨"DaisyChain", "isOpen", "(I)Z"⟩, 12), (⟨"DaisyChain", "inches", "()I"⟩, 12), (⟨"DaisyChain", "canBeThreaded", "()I"⟩, 12), (⟨"DaisyChain", "fitsBehind", "(I)Z"⟩, 12), (⟨"DaisyChain$Moment", "isAmong", "(II)Z"⟩, 8)]
theorem lw_r1 : ∀ q ∈ lw_privs_1, lw_okq q := List.forall_mem_cons.mpr ⟨lw_p0, List.forall_mem_cons.mpr ⟨lw_p1, List.forall_mem_cons.mpr ⟨lw_p2, List.forall_mem_cons.mpr ⟨lw_p3, List.forall_mem_cons.mpr ⟨lw_p4, List.forall_mem_cons.mpr ⟨lw_p5, List.forall_mem_cons.mpr ⟨lw_p6, List.forall_mem_cons.mpr ⟨lw_p7, List.forall_mem_cons.mpr ⟨lw_p8, List.forall_mem_cons.mpr ⟨lw_p9, List.forall_mem_cons.mpr ⟨lw_p10, List.forall_mem_cons.mpr ⟨lw_p11, List.forall_mem_cons.mpr ⟨lw_p12, List.forall_mem_cons.mpr ⟨lw_p13, List.forall_mem_cons.mpr ⟨lw_p14, List.forall_mem_cons.mpr ⟨lw_p15, fun _ h => absurd h List.not_mem_nil⟩⟩⟩⟩⟩⟩⟩⟩⟩⟩⟩⟩⟩⟩⟩⟩
theorem lw_p16 : lw_okq (⟨"DaisyChain", "takes", "(II)Z"⟩, 12) := ⟨⟨by decide +kernel, by decide +kernel⟩, List.mem_of_getElem? (i := 12) (by decide +kernel), List.mem_of_getElem? (i := 365) (by decide +kernel), List.mem_of_getElem? (i := 366) (by decide +kernel)⟩
theorem lw_p17 : lw_okq (⟨"DaisyChain", "remember", "()V"⟩, 12) := ⟨⟨by decide +kernel, by decide +kernel⟩, List.mem_of_getElem? (i := 12) (by decide +kernel), List.mem_of_getElem? (i := 373) (by decide +kernel), List.mem_of_getElem? (i := 374) (by decide +kernel)⟩
theorem lw_p18 : lw_okq (⟨"DaisyChain", "dryBy", "(I)V"⟩, 12) := ⟨⟨by decide +kernel, by decide +kernel⟩, List.mem_of_getElem? (i := 12) (by decide +kernel), List.mem_of_getElem? (i := 408) (by decide +kernel), List.mem_of_getElem? (i := 409) (by decide +kernel)⟩
theorem lw_p19 : lw_okq (⟨"DaisyChain", "weakestLink", "(I)I"⟩, 12) := ⟨⟨by decide +kernel, by decide +kernel⟩, List.mem_of_getElem? (i := 12) (by decide +kernel), List.mem_of_getElem? (i := 424) (by decide +kernel), List.mem_of_getElem? (i := 425) (by decide +kernel)⟩
theorem lw_p20 : lw_okq (⟨"DaisyChain", "leastProps", "()I"⟩, 12) := ⟨⟨by decide +kernel, by decide +kernel⟩, List.mem_of_getElem? (i := 12) (by decide +kernel), List.mem_of_getElem? (i := 440) (by decide +kernel), List.mem_of_getElem? (i := 441) (by decide +kernel)⟩
theorem lw_p21 : lw_okq (⟨"DaisyChain", "bearsHungFrom", "(I)Z"⟩, 12) := ⟨⟨by decide +kernel, by decide +kernel⟩, List.mem_of_getElem? (i := 12) (by decide +kernel), List.mem_of_getElem? (i := 444) (by decide +kernel), List.mem_of_getElem? (i := 445) (by decide +kernel)⟩
theorem lw_p22 : lw_okq (⟨"DaisyChain$RowSearch", "canBegin", "(II)Z"⟩, 3) := ⟨⟨by decide +kernel, by decide +kernel⟩, List.mem_of_getElem? (i := 140) (by decide +kernel), List.mem_of_getElem? (i := 476) (by decide +kernel), List.mem_of_getElem? (i := 477) (by decide +kernel)⟩
theorem lw_p23 : lw_okq (⟨"DaisyChain$RowSearch", "mostFrom", "(LDaisyChain$Told;II)I"⟩, 3) := ⟨⟨by decide +kernel, by decide +kernel⟩, List.mem_of_getElem? (i := 140) (by decide +kernel), List.mem_of_getElem? (i := 483) (by decide +kernel), List.mem_of_getElem? (i := 484) (by decide +kernel)⟩
theorem lw_p24 : lw_okq (⟨"DaisyChain$RowSearch", "inchesWith", "(III)I"⟩, 3) := ⟨⟨by decide +kernel, by decide +kernel⟩, List.mem_of_getElem? (i := 140) (by decide +kernel), List.mem_of_getElem? (i := 487) (by decide +kernel), List.mem_of_getElem? (i := 488) (by decide +kernel)⟩
theorem lw_p25 : lw_okq (⟨"DaisyChain$RowSearch", "reaches", "(II)Z"⟩, 3) := ⟨⟨by decide +kernel, by decide +kernel⟩, List.mem_of_getElem? (i := 140) (by decide +kernel), List.mem_of_getElem? (i := 501) (by decide +kernel), List.mem_of_getElem? (i := 502) (by decide +kernel)⟩
theorem lw_p26 : lw_okq (⟨"DaisyChain$RowSearch", "firstThatReaches", "(IIII)I"⟩, 3) := ⟨⟨by decide +kernel, by decide +kernel⟩, List.mem_of_getElem? (i := 140) (by decide +kernel), List.mem_of_getElem? (i := 517) (by decide +kernel), List.mem_of_getElem? (i := 518) (by decide +kernel)⟩
theorem lw_p27 : lw_okq (⟨"DaisyChain$RowSearch", "mostOfSize", "(IIII)I"⟩, 3) := ⟨⟨by decide +kernel, by decide +kernel⟩, List.mem_of_getElem? (i := 140) (by decide +kernel), List.mem_of_getElem? (i := 521) (by decide +kernel), List.mem_of_getElem? (i := 522) (by decide +kernel)⟩
theorem lw_p28 : lw_okq (⟨"DaisyChain", "agreesWithAllSeen", "(I)Z"⟩, 12) := ⟨⟨by decide +kernel, by decide +kernel⟩, List.mem_of_getElem? (i := 12) (by decide +kernel), List.mem_of_getElem? (i := 537) (by decide +kernel), List.mem_of_getElem? (i := 538) (by decide +kernel)⟩
theorem lw_p29 : lw_okq (⟨"DaisyChain", "countWays", "(II)V"⟩, 12) := ⟨⟨by decide +kernel, by decide +kernel⟩, List.mem_of_getElem? (i := 12) (by decide +kernel), List.mem_of_getElem? (i := 550) (by decide +kernel), List.mem_of_getElem? (i := 551) (by decide +kernel)⟩
theorem lw_p30 : lw_okq (⟨"DaisyChain", "rateFlower", "(I)I"⟩, 12) := ⟨⟨by decide +kernel, by decide +kernel⟩, List.mem_of_getElem? (i := 12) (by decide +kernel), List.mem_of_getElem? (i := 559) (by decide +kernel), List.mem_of_getElem? (i := 560) (by decide +kernel)⟩
theorem lw_p31 : lw_okq (⟨"DaisyChain", "rateStalk", "(I)I"⟩, 12) := ⟨⟨by decide +kernel, by decide +kernel⟩, List.mem_of_getElem? (i := 12) (by decide +kernel), List.mem_of_getElem? (i := 563) (by decide +kernel), List.mem_of_getElem? (i := 564) (by decide +kernel)⟩
def lw_privs_2 : List (MethodName × Nat) := [(⟨"DaisyChain", "takes", "(II)Z"⟩, 12), (⟨"DaisyChain", "remember", "()V"⟩, 12), (⟨"DaisyChain", "dryBy", "(I)V"⟩, 12), (⟨"DaisyChain", "weakestLink", "(I)I"⟩, 12), (⟨"DaisyChain", "leastProps", "()I"⟩, 12), (⟨"DaisyChain", "bearsHungFrom", "(I)Z"⟩, 12), (⟨"DaisyChain$RowSearch", "canBegin", "(II)Z"⟩, 3), (⟨"DaisyChain$RowSearch", "mostFrom", "(LDaisyChain$Told;II)I"⟩, 3), (⟨"DaisyChain$RowSearch", "inchesWith", "(III)I"⟩, 3), (⟨"DaisyChain$RowSearch", "reaches", "(II)Z"⟩, 3), (⟨"DaisyChain$RowSearch", "firstThatReaches", "(IIII)I"⟩, 3), (⟨"DaisyChain$RowSearch", "mostOfSize", "(IIII)I"⟩, 3), (⟨"DaisyChain", "agreesWithAllSeen", "(I)Z"⟩, 12), (⟨"DaisyChain", "countWays", "(II)V"⟩, 12), (⟨"DaisyChain", "rateFlower", "(I)I"⟩, 12), (⟨"DaisyChain", "rateStalk", "(I)I"⟩, 12)]
theorem lw_r2 : ∀ q ∈ lw_privs_2, lw_okq q := List.forall_mem_cons.mpr ⟨lw_p16, List.forall_mem_cons.mpr ⟨lw_p17, List.forall_mem_cons.mpr ⟨lw_p18, List.forall_mem_cons.mpr ⟨lw_p19, List.forall_mem_cons.mpr ⟨lw_p20, List.forall_mem_cons.mpr ⟨lw_p21, List.forall_mem_cons.mpr ⟨lw_p22, List.forall_mem_cons.mpr ⟨lw_p23, List.forall_mem_cons.mpr ⟨lw_p24, List.forall_mem_cons.mpr ⟨lw_p25, List.forall_mem_cons.mpr ⟨lw_p26, List.forall_mem_cons.mpr ⟨lw_p27, List.forall_mem_cons.mpr ⟨lw_p28, List.forall_mem_cons.mpr ⟨lw_p29, List.forall_mem_cons.mpr ⟨lw_p30, List.forall_mem_cons.mpr ⟨lw_p31, fun _ h => absurd h List.not_mem_nil⟩⟩⟩⟩⟩⟩⟩⟩⟩⟩⟩⟩⟩⟩⟩⟩
theorem lw_p32 : lw_okq (⟨"DaisyChain", "rateHead", "(I)I"⟩, 12) := ⟨⟨by decide +kernel, by decide +kernel⟩, List.mem_of_getElem? (i := 12) (by decide +kernel), List.mem_of_getElem? (i := 568) (by decide +kernel), List.mem_of_getElem? (i := 569) (by decide +kernel)⟩
theorem lw_p33 : lw_okq (⟨"DaisyChain", "rateNail", "(I)I"⟩, 12) := ⟨⟨by decide +kernel, by decide +kernel⟩, List.mem_of_getElem? (i := 12) (by decide +kernel), List.mem_of_getElem? (i := 573) (by decide +kernel), List.mem_of_getElem? (i := 574) (by decide +kernel)⟩
theorem lw_p34 : lw_okq (⟨"DaisyChain", "rateCrown", "(I)I"⟩, 12) := ⟨⟨by decide +kernel, by decide +kernel⟩, List.mem_of_getElem? (i := 12) (by decide +kernel), List.mem_of_getElem? (i := 578) (by decide +kernel), List.mem_of_getElem? (i := 579) (by decide +kernel)⟩
theorem lw_p35 : lw_okq (⟨"DaisyChain", "rateBud", "(I)I"⟩, 12) := ⟨⟨by decide +kernel, by decide +kernel⟩, List.mem_of_getElem? (i := 12) (by decide +kernel), List.mem_of_getElem? (i := 583) (by decide +kernel), List.mem_of_getElem? (i := 584) (by decide +kernel)⟩
theorem lw_p36 : lw_okq (⟨"DaisyChainModel", "advances", "()V"⟩, 24) := ⟨⟨by decide +kernel, by decide +kernel⟩, List.mem_of_getElem? (i := 604) (by decide +kernel), List.mem_of_getElem? (i := 698) (by decide +kernel), List.mem_of_getElem? (i := 699) (by decide +kernel)⟩
theorem lw_p37 : lw_okq (⟨"DaisyChainModel", "letterAt", "(I)I"⟩, 24) := ⟨⟨by decide +kernel, by decide +kernel⟩, List.mem_of_getElem? (i := 604) (by decide +kernel), List.mem_of_getElem? (i := 702) (by decide +kernel), List.mem_of_getElem? (i := 703) (by decide +kernel)⟩
theorem lw_p38 : lw_okq (⟨"DaisyChainModel", "isWell", "()Z"⟩, 24) := ⟨⟨by decide +kernel, by decide +kernel⟩, List.mem_of_getElem? (i := 604) (by decide +kernel), List.mem_of_getElem? (i := 706) (by decide +kernel), List.mem_of_getElem? (i := 707) (by decide +kernel)⟩
theorem lw_p39 : lw_okq (⟨"DaisyChainModel", "takes", "(Z)I"⟩, 24) := ⟨⟨by decide +kernel, by decide +kernel⟩, List.mem_of_getElem? (i := 604) (by decide +kernel), List.mem_of_getElem? (i := 710) (by decide +kernel), List.mem_of_getElem? (i := 711) (by decide +kernel)⟩
theorem lw_p40 : lw_okq (⟨"DaisyChainModel", "readsItem", "(I)V"⟩, 24) := ⟨⟨by decide +kernel, by decide +kernel⟩, List.mem_of_getElem? (i := 604) (by decide +kernel), List.mem_of_getElem? (i := 714) (by decide +kernel), List.mem_of_getElem? (i := 715) (by decide +kernel)⟩
theorem lw_p41 : lw_okq (⟨"DaisyChainModel", "number", "(II)I"⟩, 24) := ⟨⟨by decide +kernel, by decide +kernel⟩, List.mem_of_getElem? (i := 604) (by decide +kernel), List.mem_of_getElem? (i := 718) (by decide +kernel), List.mem_of_getElem? (i := 719) (by decide +kernel)⟩
theorem lw_p42 : lw_okq (⟨"DaisyChainModel", "settles", "()V"⟩, 24) := ⟨⟨by decide +kernel, by decide +kernel⟩, List.mem_of_getElem? (i := 604) (by decide +kernel), List.mem_of_getElem? (i := 722) (by decide +kernel), List.mem_of_getElem? (i := 723) (by decide +kernel)⟩
theorem lw_p43 : lw_okq (⟨"DaisyChainModel", "isFlower", "(I)Z"⟩, 24) := ⟨⟨by decide +kernel, by decide +kernel⟩, List.mem_of_getElem? (i := 604) (by decide +kernel), List.mem_of_getElem? (i := 730) (by decide +kernel), List.mem_of_getElem? (i := 731) (by decide +kernel)⟩
theorem lw_p44 : lw_okq (⟨"DaisyChainModel", "isPicked", "(I)Z"⟩, 24) := ⟨⟨by decide +kernel, by decide +kernel⟩, List.mem_of_getElem? (i := 604) (by decide +kernel), List.mem_of_getElem? (i := 734) (by decide +kernel), List.mem_of_getElem? (i := 735) (by decide +kernel)⟩
theorem lw_p45 : lw_okq (⟨"DaisyChainModel", "isSlit", "(I)Z"⟩, 24) := ⟨⟨by decide +kernel, by decide +kernel⟩, List.mem_of_getElem? (i := 604) (by decide +kernel), List.mem_of_getElem? (i := 738) (by decide +kernel), List.mem_of_getElem? (i := 739) (by decide +kernel)⟩
theorem lw_p46 : lw_okq (⟨"DaisyChainModel", "holds", "(I)I"⟩, 24) := ⟨⟨by decide +kernel, by decide +kernel⟩, List.mem_of_getElem? (i := 604) (by decide +kernel), List.mem_of_getElem? (i := 742) (by decide +kernel), List.mem_of_getElem? (i := 743) (by decide +kernel)⟩
theorem lw_p47 : lw_okq (⟨"DaisyChainModel", "holdsBy", "(IIIII)I"⟩, 24) := ⟨⟨by decide +kernel, by decide +kernel⟩, List.mem_of_getElem? (i := 604) (by decide +kernel), List.mem_of_getElem? (i := 746) (by decide +kernel), List.mem_of_getElem? (i := 747) (by decide +kernel)⟩
def lw_privs_3 : List (MethodName × Nat) := [(⟨"DaisyChain", "rateHead", "(I)I"⟩, 12), (⟨"DaisyChain", "rateNail", "(I)I"⟩, 12), (⟨"DaisyChain", "rateCrown", "(I)I"⟩, 12), (⟨"DaisyChain", "rateBud", "(I)I"⟩, 12), (⟨"DaisyChainModel", "advances", "()V"⟩, 24), (⟨"DaisyChainModel", "letterAt", "(I)I"⟩, 24), (⟨"DaisyChainModel", "isWell", "()Z"⟩, 24), (⟨"DaisyChainModel", "takes", "(Z)I"⟩, 24), (⟨"DaisyChainModel", "readsItem", "(I)V"⟩, 24), (⟨"DaisyChainModel", "number", "(II)I"⟩, 24), (⟨"DaisyChainModel", "settles", "()V"⟩, 24), (⟨"DaisyChainModel", "isFlower", "(I)Z"⟩, 24), (⟨"DaisyChainModel", "isPicked", "(I)Z"⟩, 24), (⟨"DaisyChainModel", "isSlit", "(I)Z"⟩, 24), (⟨"DaisyChainModel", "holds", "(I)I"⟩, 24), (⟨"DaisyChainModel", "holdsBy", "(IIIII)I"⟩, 24)]
theorem lw_r3 : ∀ q ∈ lw_privs_3, lw_okq q := List.forall_mem_cons.mpr ⟨lw_p32, List.forall_mem_cons.mpr ⟨lw_p33, List.forall_mem_cons.mpr ⟨lw_p34, List.forall_mem_cons.mpr ⟨lw_p35, List.forall_mem_cons.mpr ⟨lw_p36, List.forall_mem_cons.mpr ⟨lw_p37, List.forall_mem_cons.mpr ⟨lw_p38, List.forall_mem_cons.mpr ⟨lw_p39, List.forall_mem_cons.mpr ⟨lw_p40, List.forall_mem_cons.mpr ⟨lw_p41, List.forall_mem_cons.mpr ⟨lw_p42, List.forall_mem_cons.mpr ⟨lw_p43, List.forall_mem_cons.mpr ⟨lw_p44, List.forall_mem_cons.mpr ⟨lw_p45, List.forall_mem_cons.mpr ⟨lw_p46, List.forall_mem_cons.mpr ⟨lw_p47, fun _ h => absurd h List.not_mem_nil⟩⟩⟩⟩⟩⟩⟩⟩⟩⟩⟩⟩⟩⟩⟩⟩
theorem lw_p48 : lw_okq (⟨"DaisyChainModel", "canThread", "(I)Z"⟩, 24) := ⟨⟨by decide +kernel, by decide +kernel⟩, List.mem_of_getElem? (i := 604) (by decide +kernel), List.mem_of_getElem? (i := 758) (by decide +kernel), List.mem_of_getElem? (i := 759) (by decide +kernel)⟩
theorem lw_p49 : lw_okq (⟨"DaisyChainModel", "chained", "()I"⟩, 24) := ⟨⟨by decide +kernel, by decide +kernel⟩, List.mem_of_getElem? (i := 604) (by decide +kernel), List.mem_of_getElem? (i := 762) (by decide +kernel), List.mem_of_getElem? (i := 763) (by decide +kernel)⟩
theorem lw_p50 : lw_okq (⟨"DaisyChainModel", "isOpen", "(I)Z"⟩, 24) := ⟨⟨by decide +kernel, by decide +kernel⟩, List.mem_of_getElem? (i := 604) (by decide +kernel), List.mem_of_getElem? (i := 766) (by decide +kernel), List.mem_of_getElem? (i := 767) (by decide +kernel)⟩
theorem lw_p51 : lw_okq (⟨"DaisyChainModel", "inchesNow", "()I"⟩, 24) := ⟨⟨by decide +kernel, by decide +kernel⟩, List.mem_of_getElem? (i := 604) (by decide +kernel), List.mem_of_getElem? (i := 770) (by decide +kernel), List.mem_of_getElem? (i := 771) (by decide +kernel)⟩
theorem lw_p52 : lw_okq (⟨"DaisyChainModel", "notes", "()V"⟩, 24) := ⟨⟨by decide +kernel, by decide +kernel⟩, List.mem_of_getElem? (i := 604) (by decide +kernel), List.mem_of_getElem? (i := 778) (by decide +kernel), List.mem_of_getElem? (i := 779) (by decide +kernel)⟩
theorem lw_p53 : lw_okq (⟨"DaisyChainModel", "isLink", "(I)Z"⟩, 24) := ⟨⟨by decide +kernel, by decide +kernel⟩, List.mem_of_getElem? (i := 604) (by decide +kernel), List.mem_of_getElem? (i := 789) (by decide +kernel), List.mem_of_getElem? (i := 790) (by decide +kernel)⟩
theorem lw_p54 : lw_okq (⟨"DaisyChainModel", "load", "(II)I"⟩, 24) := ⟨⟨by decide +kernel, by decide +kernel⟩, List.mem_of_getElem? (i := 604) (by decide +kernel), List.mem_of_getElem? (i := 821) (by decide +kernel), List.mem_of_getElem? (i := 822) (by decide +kernel)⟩
theorem lw_p55 : lw_okq (⟨"DaisyChainModel", "bestPlace", "(III)I"⟩, 24) := ⟨⟨by decide +kernel, by decide +kernel⟩, List.mem_of_getElem? (i := 604) (by decide +kernel), List.mem_of_getElem? (i := 845) (by decide +kernel), List.mem_of_getElem? (i := 846) (by decide +kernel)⟩
theorem lw_p56 : lw_okq (⟨"DaisyChainModel", "puts", "(I)V"⟩, 24) := ⟨⟨by decide +kernel, by decide +kernel⟩, List.mem_of_getElem? (i := 604) (by decide +kernel), List.mem_of_getElem? (i := 853) (by decide +kernel), List.mem_of_getElem? (i := 854) (by decide +kernel)⟩
theorem lw_p57 : lw_okq (⟨"DaisyChainModel", "mostOf", "(I)I"⟩, 24) := ⟨⟨by decide +kernel, by decide +kernel⟩, List.mem_of_getElem? (i := 604) (by decide +kernel), List.mem_of_getElem? (i := 857) (by decide +kernel), List.mem_of_getElem? (i := 858) (by decide +kernel)⟩
theorem lw_p58 : lw_okq (⟨"DaisyChainModel", "fewestOf", "(II)I"⟩, 24) := ⟨⟨by decide +kernel, by decide +kernel⟩, List.mem_of_getElem? (i := 604) (by decide +kernel), List.mem_of_getElem? (i := 865) (by decide +kernel), List.mem_of_getElem? (i := 866) (by decide +kernel)⟩
theorem lw_p59 : lw_okq (⟨"DaisyChainModel", "stops", "(III)I"⟩, 24) := ⟨⟨by decide +kernel, by decide +kernel⟩, List.mem_of_getElem? (i := 604) (by decide +kernel), List.mem_of_getElem? (i := 873) (by decide +kernel), List.mem_of_getElem? (i := 874) (by decide +kernel)⟩
theorem lw_p60 : lw_okq (⟨"DaisyChainModel", "tears", "(II)Z"⟩, 24) := ⟨⟨by decide +kernel, by decide +kernel⟩, List.mem_of_getElem? (i := 604) (by decide +kernel), List.mem_of_getElem? (i := 889) (by decide +kernel), List.mem_of_getElem? (i := 890) (by decide +kernel)⟩
def lw_privs_4 : List (MethodName × Nat) := [(⟨"DaisyChainModel", "canThread", "(I)Z"⟩, 24), (⟨"DaisyChainModel", "chained", "()I"⟩, 24), (⟨"DaisyChainModel", "isOpen", "(I)Z"⟩, 24), (⟨"DaisyChainModel", "inchesNow", "()I"⟩, 24), (⟨"DaisyChainModel", "notes", "()V"⟩, 24), (⟨"DaisyChainModel", "isLink", "(I)Z"⟩, 24), (⟨"DaisyChainModel", "load", "(II)I"⟩, 24), (⟨"DaisyChainModel", "bestPlace", "(III)I"⟩, 24), (⟨"DaisyChainModel", "puts", "(I)V"⟩, 24), (⟨"DaisyChainModel", "mostOf", "(I)I"⟩, 24), (⟨"DaisyChainModel", "fewestOf", "(II)I"⟩, 24), (⟨"DaisyChainModel", "stops", "(III)I"⟩, 24), (⟨"DaisyChainModel", "tears", "(II)Z"⟩, 24)]
theorem lw_r4 : ∀ q ∈ lw_privs_4, lw_okq q := List.forall_mem_cons.mpr ⟨lw_p48, List.forall_mem_cons.mpr ⟨lw_p49, List.forall_mem_cons.mpr ⟨lw_p50, List.forall_mem_cons.mpr ⟨lw_p51, List.forall_mem_cons.mpr ⟨lw_p52, List.forall_mem_cons.mpr ⟨lw_p53, List.forall_mem_cons.mpr ⟨lw_p54, List.forall_mem_cons.mpr ⟨lw_p55, List.forall_mem_cons.mpr ⟨lw_p56, List.forall_mem_cons.mpr ⟨lw_p57, List.forall_mem_cons.mpr ⟨lw_p58, List.forall_mem_cons.mpr ⟨lw_p59, List.forall_mem_cons.mpr ⟨lw_p60, fun _ h => absurd h List.not_mem_nil⟩⟩⟩⟩⟩⟩⟩⟩⟩⟩⟩⟩⟩
def lw_privs : List (MethodName × Nat) := lw_privs_1 ++ (lw_privs_2 ++ (lw_privs_3 ++ (lw_privs_4)))
def lw_tbl : List Cond := k2_sels lw_privs ++ tables_1
theorem lw_privs_ok : ∀ q ∈ lw_privs, lw_okq q := by
  show ∀ q ∈ lw_privs_1 ++ (lw_privs_2 ++ (lw_privs_3 ++ (lw_privs_4))), lw_okq q
  exact List.forall_mem_append.mpr ⟨lw_r1, List.forall_mem_append.mpr ⟨lw_r2, List.forall_mem_append.mpr ⟨lw_r3, lw_r4⟩⟩⟩
-- ===== end of PART A; then your names; then what follows =====
def RX0 : String := "DaisyChain$Moment"
def TX0 : u_T := fun k => match k with
  | 0 => ("DaisyChain$Moment", "minute", "I", false)
  | 1 => ("DaisyChain$Moment", "water", "I", false)
  | 2 => ("DaisyChain$Moment", "picked", "I", false)
  | 3 => ("DaisyChain$Moment", "dry", "[I", true)
  | 4 => ("DaisyChain$Moment", "slitPlace", "[I", true)
  | 5 => ("DaisyChain$Moment", "slitLength", "[I", true)
  | 6 => ("DaisyChain$Moment", "chain", "[I", true)
  | _ => ("DaisyChain$Moment", "chained", "I", false)
def tyX0 : Nat → FieldType := fun k => match k with
  | 0 => .int
  | 1 => .int
  | 2 => .int
  | 3 => .array .int
  | 4 => .array .int
  | 5 => .array .int
  | 6 => .array .int
  | _ => .int
abbrev wsX00 : List Cond := u_ws RX0 TX0 8
theorem nmX0 : ∀ a, a < 8 → ∀ b, b < 8 → a ≠ b → (TX0 a).2.1 ≠ (TX0 b).2.1 := by decide +kernel
theorem tyX0_ok : ∀ k, k < 8 → parseFieldDescriptor (TX0 k).2.2.1 = some (tyX0 k) := by decide +kernel
abbrev cX0_init : ByteArray := prog_2_method_1_code
def yX0_init : MethodName := ⟨RX0, "<init>", "()V"⟩
abbrev cX0_restart : ByteArray := prog_2_method_2_code
def yX0_restart : MethodName := ⟨RX0, "restart", "()V"⟩
abbrev cX0_take : ByteArray := prog_2_method_3_code
def yX0_take : MethodName := ⟨RX0, "take", "(LDaisyChain$Moment;)V"⟩
abbrev cX0_isPicked : ByteArray := prog_2_method_4_code
def yX0_isPicked : MethodName := ⟨RX0, "isPicked", "(I)Z"⟩
abbrev cX0_isSlit : ByteArray := prog_2_method_5_code
def yX0_isSlit : MethodName := ⟨RX0, "isSlit", "(I)Z"⟩
abbrev cX0_linkCount : ByteArray := prog_2_method_6_code
def yX0_linkCount : MethodName := ⟨RX0, "linkCount", "()I"⟩
abbrev cX0_lastOne : ByteArray := prog_2_method_7_code
def yX0_lastOne : MethodName := ⟨RX0, "lastOne", "()I"⟩
abbrev cX0_isInChain : ByteArray := prog_2_method_8_code
def yX0_isInChain : MethodName := ⟨RX0, "isInChain", "(I)Z"⟩
abbrev cX0_isLink : ByteArray := prog_2_method_9_code
def yX0_isLink : MethodName := ⟨RX0, "isLink", "(I)Z"⟩
abbrev cX0_isAmong : ByteArray := prog_2_method_10_code
def yX0_isAmong : MethodName := ⟨RX0, "isAmong", "(II)Z"⟩
def RX1 : String := "DaisyChain$RowSearch"
def TX1 : u_T := fun k => match k with
  | 0 => ("DaisyChain$RowSearch", "places", "[I", true)
  | 1 => ("DaisyChain$RowSearch", "inches", "[I", true)
  | _ => ("DaisyChain$RowSearch", "picked", "I", false)
def tyX1 : Nat → FieldType := fun k => match k with
  | 0 => .array .int
  | 1 => .array .int
  | _ => .int
abbrev wsX10 : List Cond := u_ws RX1 TX1 3
theorem nmX1 : ∀ a, a < 3 → ∀ b, b < 3 → a ≠ b → (TX1 a).2.1 ≠ (TX1 b).2.1 := by decide +kernel
theorem tyX1_ok : ∀ k, k < 3 → parseFieldDescriptor (TX1 k).2.2.1 = some (tyX1 k) := by decide +kernel
abbrev cX1_init : ByteArray := prog_3_method_1_code
def yX1_init : MethodName := ⟨RX1, "<init>", "()V"⟩
abbrev cX1_prepare : ByteArray := prog_3_method_2_code
def yX1_prepare : MethodName := ⟨RX1, "prepare", "(LDaisyChain$Told;LDaisyChain$Moment;I)V"⟩
abbrev cX1_canBegin : ByteArray := prog_3_method_3_code
def yX1_canBegin : MethodName := ⟨RX1, "canBegin", "(II)Z"⟩
abbrev cX1_mostFrom : ByteArray := prog_3_method_4_code
def yX1_mostFrom : MethodName := ⟨RX1, "mostFrom", "(LDaisyChain$Told;II)I"⟩
abbrev cX1_inchesWith : ByteArray := prog_3_method_5_code
def yX1_inchesWith : MethodName := ⟨RX1, "inchesWith", "(III)I"⟩
abbrev cX1_mostInches : ByteArray := prog_3_method_6_code
def yX1_mostInches : MethodName := ⟨RX1, "mostInches", "()I"⟩
abbrev cX1_fewestFlowers : ByteArray := prog_3_method_7_code
def yX1_fewestFlowers : MethodName := ⟨RX1, "fewestFlowers", "(I)I"⟩
abbrev cX1_reaches : ByteArray := prog_3_method_8_code
def yX1_reaches : MethodName := ⟨RX1, "reaches", "(II)Z"⟩
abbrev cX1_flowerOfFirstRow : ByteArray := prog_3_method_9_code
def yX1_flowerOfFirstRow : MethodName := ⟨RX1, "flowerOfFirstRow", "(III)I"⟩
abbrev cX1_firstThatReaches : ByteArray := prog_3_method_10_code
def yX1_firstThatReaches : MethodName := ⟨RX1, "firstThatReaches", "(IIII)I"⟩
abbrev cX1_mostOfSize : ByteArray := prog_3_method_11_code
def yX1_mostOfSize : MethodName := ⟨RX1, "mostOfSize", "(IIII)I"⟩
abbrev cX1_isIn : ByteArray := prog_3_method_12_code
def yX1_isIn : MethodName := ⟨RX1, "isIn", "(II)Z"⟩
def RX2 : String := "DaisyChain$Sight"
def TX2 : u_T := fun k => match k with
  | 0 => ("DaisyChain$Sight", "pull", "I", false)
  | 1 => ("DaisyChain$Sight", "tore", "Z", false)
  | 2 => ("DaisyChain$Sight", "links", "I", false)
  | 3 => ("DaisyChain$Sight", "fresh", "[I", true)
  | _ => ("DaisyChain$Sight", "dry", "[I", true)
def tyX2 : Nat → FieldType := fun k => match k with
  | 0 => .int
  | 1 => .boolean
  | 2 => .int
  | 3 => .array .int
  | _ => .array .int
abbrev wsX20 : List Cond := u_ws RX2 TX2 5
theorem nmX2 : ∀ a, a < 5 → ∀ b, b < 5 → a ≠ b → (TX2 a).2.1 ≠ (TX2 b).2.1 := by decide +kernel
theorem tyX2_ok : ∀ k, k < 5 → parseFieldDescriptor (TX2 k).2.2.1 = some (tyX2 k) := by decide +kernel
abbrev cX2_init : ByteArray := prog_4_method_1_code
def yX2_init : MethodName := ⟨RX2, "<init>", "()V"⟩
abbrev cX2_tearsBy : ByteArray := prog_4_method_2_code
def yX2_tearsBy : MethodName := ⟨RX2, "tearsBy", "(I)Z"⟩
def RX3 : String := "DaisyChain$Text"
def TX3 : u_T := fun k => match k with
  | 0 => ("DaisyChain$Text", "letters", "[I", true)
  | 1 => ("DaisyChain$Text", "size", "I", false)
  | 2 => ("DaisyChain$Text", "draft", "LDaisyChain$Told;", true)
  | 3 => ("DaisyChain$Text", "items", "I", false)
  | 4 => ("DaisyChain$Text", "wiltIsTold", "Z", false)
  | 5 => ("DaisyChain$Text", "at", "I", false)
  | 6 => ("DaisyChain$Text", "token", "I", false)
  | 7 => ("DaisyChain$Text", "tokenValue", "I", false)
  | _ => ("DaisyChain$Text", "tokenPlace", "I", false)
def tyX3 : Nat → FieldType := fun k => match k with
  | 0 => .array .int
  | 1 => .int
  | 2 => .object "DaisyChain$Told"
  | 3 => .int
  | 4 => .boolean
  | 5 => .int
  | 6 => .int
  | 7 => .int
  | _ => .int
abbrev wsX30 : List Cond := u_ws RX3 TX3 9
theorem nmX3 : ∀ a, a < 9 → ∀ b, b < 9 → a ≠ b → (TX3 a).2.1 ≠ (TX3 b).2.1 := by decide +kernel
theorem tyX3_ok : ∀ k, k < 9 → parseFieldDescriptor (TX3 k).2.2.1 = some (tyX3 k) := by decide +kernel
abbrev cX3_init : ByteArray := prog_5_method_1_code
def yX3_init : MethodName := ⟨RX3, "<init>", "()V"⟩
abbrev cX3_reads : ByteArray := prog_5_method_2_code
def yX3_reads : MethodName := ⟨RX3, "reads", "()Z"⟩
abbrev cX3_readsItem : ByteArray := prog_5_method_3_code
def yX3_readsItem : MethodName := ⟨RX3, "readsItem", "()Z"⟩
abbrev cX3_readsFlower : ByteArray := prog_5_method_4_code
def yX3_readsFlower : MethodName := ⟨RX3, "readsFlower", "()Z"⟩
abbrev cX3_readsWilt : ByteArray := prog_5_method_5_code
def yX3_readsWilt : MethodName := ⟨RX3, "readsWilt", "()Z"⟩
abbrev cX3_readsNumber : ByteArray := prog_5_method_6_code
def yX3_readsNumber : MethodName := ⟨RX3, "readsNumber", "(II)Z"⟩
abbrev cX3_readsItemEnd : ByteArray := prog_5_method_7_code
def yX3_readsItemEnd : MethodName := ⟨RX3, "readsItemEnd", "()Z"⟩
abbrev cX3_nextToken : ByteArray := prog_5_method_8_code
def yX3_nextToken : MethodName := ⟨RX3, "nextToken", "()V"⟩
abbrev cX3_nextNumber : ByteArray := prog_5_method_9_code
def yX3_nextNumber : MethodName := ⟨RX3, "nextNumber", "()V"⟩
abbrev cX3_isDigit : ByteArray := prog_5_method_10_code
def yX3_isDigit : MethodName := ⟨RX3, "isDigit", "(I)Z"⟩
def RX4 : String := "DaisyChain$Told"
def TX4 : u_T := fun k => match k with
  | 0 => ("DaisyChain$Told", "flowers", "I", false)
  | 1 => ("DaisyChain$Told", "wilt", "I", false)
  | 2 => ("DaisyChain$Told", "thick", "[I", true)
  | 3 => ("DaisyChain$Told", "stalk", "[I", true)
  | _ => ("DaisyChain$Told", "petals", "[I", true)
def tyX4 : Nat → FieldType := fun k => match k with
  | 0 => .int
  | 1 => .int
  | 2 => .array .int
  | 3 => .array .int
  | _ => .array .int
abbrev wsX40 : List Cond := u_ws RX4 TX4 5
theorem nmX4 : ∀ a, a < 5 → ∀ b, b < 5 → a ≠ b → (TX4 a).2.1 ≠ (TX4 b).2.1 := by decide +kernel
theorem tyX4_ok : ∀ k, k < 5 → parseFieldDescriptor (TX4 k).2.2.1 = some (tyX4 k) := by decide +kernel
abbrev cX4_init : ByteArray := prog_6_method_1_code
def yX4_init : MethodName := ⟨RX4, "<init>", "()V"⟩
abbrev cX4_restart : ByteArray := prog_6_method_2_code
def yX4_restart : MethodName := ⟨RX4, "restart", "()V"⟩
abbrev cX4_take : ByteArray := prog_6_method_3_code
def yX4_take : MethodName := ⟨RX4, "take", "(LDaisyChain$Told;)V"⟩
def RX5 : String := "DaisyChain"
def TX5 : u_T := fun k => match k with
  | 0 => ("DaisyChain", "text", "LDaisyChain$Text;", true)
  | 1 => ("DaisyChain", "told", "LDaisyChain$Told;", true)
  | 2 => ("DaisyChain", "moment", "LDaisyChain$Moment;", true)
  | 3 => ("DaisyChain", "past", "[LDaisyChain$Moment;", true)
  | 4 => ("DaisyChain", "known", "I", false)
  | 5 => ("DaisyChain", "images", "[LDaisyChain$Moment;", true)
  | 6 => ("DaisyChain", "kept", "[Z", true)
  | 7 => ("DaisyChain", "sights", "[LDaisyChain$Sight;", true)
  | 8 => ("DaisyChain", "sightCount", "I", false)
  | 9 => ("DaisyChain", "search", "LDaisyChain$RowSearch;", true)
  | 10 => ("DaisyChain", "ways", "[I", true)
  | _ => ("DaisyChain", "trace", "J", false)
def tyX5 : Nat → FieldType := fun k => match k with
  | 0 => .object "DaisyChain$Text"
  | 1 => .object "DaisyChain$Told"
  | 2 => .object "DaisyChain$Moment"
  | 3 => .array (.object "DaisyChain$Moment")
  | 4 => .int
  | 5 => .array (.object "DaisyChain$Moment")
  | 6 => .array .boolean
  | 7 => .array (.object "DaisyChain$Sight")
  | 8 => .int
  | 9 => .object "DaisyChain$RowSearch"
  | 10 => .array .int
  | _ => .long
abbrev wsX50 : List Cond := u_ws RX5 TX5 12
theorem nmX5 : ∀ a, a < 12 → ∀ b, b < 12 → a ≠ b → (TX5 a).2.1 ≠ (TX5 b).2.1 := by decide +kernel
theorem tyX5_ok : ∀ k, k < 12 → parseFieldDescriptor (TX5 k).2.2.1 = some (tyX5 k) := by decide +kernel
abbrev cX5_init : ByteArray := prog_1_method_1_code
def yX5_init : MethodName := ⟨RX5, "<init>", "()V"⟩
abbrev cX5_type : ByteArray := prog_1_method_2_code
def yX5_type : MethodName := ⟨RX5, "type", "(I)I"⟩
abbrev cX5_clear : ByteArray := prog_1_method_3_code
def yX5_clear : MethodName := ⟨RX5, "clear", "()I"⟩
abbrev cX5_meadow : ByteArray := prog_1_method_4_code
def yX5_meadow : MethodName := ⟨RX5, "meadow", "()I"⟩
abbrev cX5_flower : ByteArray := prog_1_method_5_code
def yX5_flower : MethodName := ⟨RX5, "flower", "(II)I"⟩
abbrev cX5_link : ByteArray := prog_1_method_6_code
def yX5_link : MethodName := ⟨RX5, "link", "(I)I"⟩
abbrev cX5_now : ByteArray := prog_1_method_7_code
def yX5_now : MethodName := ⟨RX5, "now", "(I)I"⟩
abbrev cX5_picks : ByteArray := prog_1_method_8_code
def yX5_picks : MethodName := ⟨RX5, "picks", "(I)I"⟩
abbrev cX5_slits : ByteArray := prog_1_method_9_code
def yX5_slits : MethodName := ⟨RX5, "slits", "(III)I"⟩
abbrev cX5_threads : ByteArray := prog_1_method_10_code
def yX5_threads : MethodName := ⟨RX5, "threads", "(I)I"⟩
abbrev cX5_pulls : ByteArray := prog_1_method_11_code
def yX5_pulls : MethodName := ⟨RX5, "pulls", "()I"⟩
abbrev cX5_minutes : ByteArray := prog_1_method_12_code
def yX5_minutes : MethodName := ⟨RX5, "minutes", "(I)I"⟩
abbrev cX5_water : ByteArray := prog_1_method_13_code
def yX5_water : MethodName := ⟨RX5, "water", "(I)I"⟩
abbrev cX5_undo : ByteArray := prog_1_method_14_code
def yX5_undo : MethodName := ⟨RX5, "undo", "()I"⟩
abbrev cX5_weakest : ByteArray := prog_1_method_15_code
def yX5_weakest : MethodName := ⟨RX5, "weakest", "(I)I"⟩
abbrev cX5_hung : ByteArray := prog_1_method_16_code
def yX5_hung : MethodName := ⟨RX5, "hung", "()I"⟩
abbrev cX5_inTime : ByteArray := prog_1_method_17_code
def yX5_inTime : MethodName := ⟨RX5, "inTime", "(I)I"⟩
abbrev cX5_props : ByteArray := prog_1_method_18_code
def yX5_props : MethodName := ⟨RX5, "props", "(I)I"⟩
abbrev cX5_ring : ByteArray := prog_1_method_19_code
def yX5_ring : MethodName := ⟨RX5, "ring", "()I"⟩
abbrev cX5_loves : ByteArray := prog_1_method_20_code
def yX5_loves : MethodName := ⟨RX5, "loves", "()I"⟩
abbrev cX5_bestSlit : ByteArray := prog_1_method_21_code
def yX5_bestSlit : MethodName := ⟨RX5, "bestSlit", "(III)I"⟩
abbrev cX5_longest : ByteArray := prog_1_method_22_code
def yX5_longest : MethodName := ⟨RX5, "longest", "(II)I"⟩
abbrev cX5_fewest : ByteArray := prog_1_method_23_code
def yX5_fewest : MethodName := ⟨RX5, "fewest", "(II)I"⟩
abbrev cX5_row : ByteArray := prog_1_method_24_code
def yX5_row : MethodName := ⟨RX5, "row", "(III)I"⟩
abbrev cX5_seen : ByteArray := prog_1_method_25_code
def yX5_seen : MethodName := ⟨RX5, "seen", "(II)I"⟩
abbrev cX5_forget : ByteArray := prog_1_method_26_code
def yX5_forget : MethodName := ⟨RX5, "forget", "()I"⟩
abbrev cX5_wilts : ByteArray := prog_1_method_27_code
def yX5_wilts : MethodName := ⟨RX5, "wilts", "()I"⟩
abbrev cX5_odds : ByteArray := prog_1_method_28_code
def yX5_odds : MethodName := ⟨RX5, "odds", "(III)I"⟩
abbrev cX5_rate : ByteArray := prog_1_method_29_code
def yX5_rate : MethodName := ⟨RX5, "rate", "(II)I"⟩
abbrev cX5_keep : ByteArray := prog_1_method_30_code
def yX5_keep : MethodName := ⟨RX5, "keep", "(I)I"⟩
abbrev cX5_back : ByteArray := prog_1_method_31_code
def yX5_back : MethodName := ⟨RX5, "back", "(I)I"⟩
abbrev cX5_count : ByteArray := prog_1_method_32_code
def yX5_count : MethodName := ⟨RX5, "count", "(I)I"⟩
abbrev cX5_trace : ByteArray := prog_1_method_33_code
def yX5_trace : MethodName := ⟨RX5, "trace", "()J"⟩
abbrev cX5_isWithin : ByteArray := prog_1_method_34_code
def yX5_isWithin : MethodName := ⟨RX5, "isWithin", "(III)Z"⟩
abbrev cX5_isHold : ByteArray := prog_1_method_35_code
def yX5_isHold : MethodName := ⟨RX5, "isHold", "(I)Z"⟩
abbrev cX5_isFlower : ByteArray := prog_1_method_36_code
def yX5_isFlower : MethodName := ⟨RX5, "isFlower", "(I)Z"⟩
abbrev cX5_strength : ByteArray := prog_1_method_37_code
def yX5_strength : MethodName := ⟨RX5, "strength", "(III)I"⟩
abbrev cX5_isOpen : ByteArray := prog_1_method_38_code
def yX5_isOpen : MethodName := ⟨RX5, "isOpen", "(I)Z"⟩
abbrev cX5_freshHold : ByteArray := prog_1_method_39_code
def yX5_freshHold : MethodName := ⟨RX5, "freshHold", "(I)I"⟩
abbrev cX5_holds : ByteArray := prog_1_method_40_code
def yX5_holds : MethodName := ⟨RX5, "holds", "(I)I"⟩
abbrev cX5_holdsLater : ByteArray := prog_1_method_41_code
def yX5_holdsLater : MethodName := ⟨RX5, "holdsLater", "(II)I"⟩
abbrev cX5_bestPlace : ByteArray := prog_1_method_42_code
def yX5_bestPlace : MethodName := ⟨RX5, "bestPlace", "(LDaisyChain$Told;LDaisyChain$Moment;III)I"⟩
abbrev cX5_takes : ByteArray := prog_1_method_43_code
def yX5_takes : MethodName := ⟨RX5, "takes", "(II)Z"⟩
abbrev cX5_fitsBehind : ByteArray := prog_1_method_44_code
def yX5_fitsBehind : MethodName := ⟨RX5, "fitsBehind", "(I)Z"⟩
abbrev cX5_canBeThreaded : ByteArray := prog_1_method_45_code
def yX5_canBeThreaded : MethodName := ⟨RX5, "canBeThreaded", "()I"⟩
abbrev cX5_inches : ByteArray := prog_1_method_46_code
def yX5_inches : MethodName := ⟨RX5, "inches", "()I"⟩
abbrev cX5_weakestLink : ByteArray := prog_1_method_47_code
def yX5_weakestLink : MethodName := ⟨RX5, "weakestLink", "(I)I"⟩
abbrev cX5_leastProps : ByteArray := prog_1_method_48_code
def yX5_leastProps : MethodName := ⟨RX5, "leastProps", "()I"⟩
abbrev cX5_bearsHungFrom : ByteArray := prog_1_method_49_code
def yX5_bearsHungFrom : MethodName := ⟨RX5, "bearsHungFrom", "(I)Z"⟩
abbrev cX5_dryBy : ByteArray := prog_1_method_50_code
def yX5_dryBy : MethodName := ⟨RX5, "dryBy", "(I)V"⟩
abbrev cX5_remember : ByteArray := prog_1_method_51_code
def yX5_remember : MethodName := ⟨RX5, "remember", "()V"⟩
abbrev cX5_agreesWithAllSeen : ByteArray := prog_1_method_52_code
def yX5_agreesWithAllSeen : MethodName := ⟨RX5, "agreesWithAllSeen", "(I)Z"⟩
abbrev cX5_countWays : ByteArray := prog_1_method_53_code
def yX5_countWays : MethodName := ⟨RX5, "countWays", "(II)V"⟩
abbrev cX5_rateFlower : ByteArray := prog_1_method_54_code
def yX5_rateFlower : MethodName := ⟨RX5, "rateFlower", "(I)I"⟩
abbrev cX5_rateStalk : ByteArray := prog_1_method_55_code
def yX5_rateStalk : MethodName := ⟨RX5, "rateStalk", "(I)I"⟩
abbrev cX5_rateHead : ByteArray := prog_1_method_56_code
def yX5_rateHead : MethodName := ⟨RX5, "rateHead", "(I)I"⟩
abbrev cX5_rateNail : ByteArray := prog_1_method_57_code
def yX5_rateNail : MethodName := ⟨RX5, "rateNail", "(I)I"⟩
abbrev cX5_rateCrown : ByteArray := prog_1_method_58_code
def yX5_rateCrown : MethodName := ⟨RX5, "rateCrown", "(I)I"⟩
abbrev cX5_rateBud : ByteArray := prog_1_method_59_code
def yX5_rateBud : MethodName := ⟨RX5, "rateBud", "(I)I"⟩
def RX6 : String := "DaisyChainModel"
def TX6 : u_T := fun k => match k with
  | 0 => ("DaisyChainModel", "thrown", "I", false)
  | 1 => ("DaisyChainModel", "trace", "J", false)
  | 2 => ("DaisyChainModel", "text", "[I", true)
  | 3 => ("DaisyChainModel", "typed", "I", false)
  | 4 => ("DaisyChainModel", "next", "I", false)
  | 5 => ("DaisyChainModel", "token", "I", false)
  | 6 => ("DaisyChainModel", "place", "I", false)
  | 7 => ("DaisyChainModel", "value", "I", false)
  | 8 => ("DaisyChainModel", "fault", "I", false)
  | 9 => ("DaisyChainModel", "many", "[I", true)
  | 10 => ("DaisyChainModel", "thick", "[I", true)
  | 11 => ("DaisyChainModel", "longs", "[I", true)
  | 12 => ("DaisyChainModel", "petals", "[I", true)
  | 13 => ("DaisyChainModel", "isWiltTold", "Z", false)
  | 14 => ("DaisyChainModel", "s", "[I", true)
  | 15 => ("DaisyChainModel", "kept", "[I", true)
  | 16 => ("DaisyChainModel", "isKept", "[Z", true)
  | 17 => ("DaisyChainModel", "undos", "[I", true)
  | 18 => ("DaisyChainModel", "undoMany", "I", false)
  | 19 => ("DaisyChainModel", "seenBy", "[I", true)
  | 20 => ("DaisyChainModel", "seenIs", "[I", true)
  | 21 => ("DaisyChainModel", "seenMany", "I", false)
  | 22 => ("DaisyChainModel", "inches", "[I", true)
  | _ => ("DaisyChainModel", "line", "[I", true)
def tyX6 : Nat → FieldType := fun k => match k with
  | 0 => .int
  | 1 => .long
  | 2 => .array .int
  | 3 => .int
  | 4 => .int
  | 5 => .int
  | 6 => .int
  | 7 => .int
  | 8 => .int
  | 9 => .array .int
  | 10 => .array .int
  | 11 => .array .int
  | 12 => .array .int
  | 13 => .boolean
  | 14 => .array .int
  | 15 => .array .int
  | 16 => .array .boolean
  | 17 => .array .int
  | 18 => .int
  | 19 => .array .int
  | 20 => .array .int
  | 21 => .int
  | 22 => .array .int
  | _ => .array .int
abbrev wsX60 : List Cond := u_ws RX6 TX6 24
theorem nmX6 : ∀ a, a < 24 → ∀ b, b < 24 → a ≠ b → (TX6 a).2.1 ≠ (TX6 b).2.1 := by decide +kernel
theorem tyX6_ok : ∀ k, k < 24 → parseFieldDescriptor (TX6 k).2.2.1 = some (tyX6 k) := by decide +kernel
abbrev cX6_init : ByteArray := prog_8_method_1_code
def yX6_init : MethodName := ⟨RX6, "<init>", "()V"⟩
abbrev cX6_in : ByteArray := prog_8_method_3_code
def yX6_in : MethodName := ⟨RX6, "in", "(III)Z"⟩
abbrev cX6_ones : ByteArray := prog_8_method_4_code
def yX6_ones : MethodName := ⟨RX6, "ones", "(I)I"⟩
abbrev cX6_type : ByteArray := prog_8_method_5_code
def yX6_type : MethodName := ⟨RX6, "type", "(I)I"⟩
abbrev cX6_clear : ByteArray := prog_8_method_6_code
def yX6_clear : MethodName := ⟨RX6, "clear", "()I"⟩
abbrev cX6_letterAt : ByteArray := prog_8_method_7_code
def yX6_letterAt : MethodName := ⟨RX6, "letterAt", "(I)I"⟩
abbrev cX6_advances : ByteArray := prog_8_method_8_code
def yX6_advances : MethodName := ⟨RX6, "advances", "()V"⟩
abbrev cX6_isWell : ByteArray := prog_8_method_9_code
def yX6_isWell : MethodName := ⟨RX6, "isWell", "()Z"⟩
abbrev cX6_takes : ByteArray := prog_8_method_10_code
def yX6_takes : MethodName := ⟨RX6, "takes", "(Z)I"⟩
abbrev cX6_number : ByteArray := prog_8_method_11_code
def yX6_number : MethodName := ⟨RX6, "number", "(II)I"⟩
abbrev cX6_readsItem : ByteArray := prog_8_method_12_code
def yX6_readsItem : MethodName := ⟨RX6, "readsItem", "(I)V"⟩
abbrev cX6_meadow : ByteArray := prog_8_method_13_code
def yX6_meadow : MethodName := ⟨RX6, "meadow", "()I"⟩
abbrev cX6_settles : ByteArray := prog_8_method_14_code
def yX6_settles : MethodName := ⟨RX6, "settles", "()V"⟩
abbrev cX6_isFlower : ByteArray := prog_8_method_15_code
def yX6_isFlower : MethodName := ⟨RX6, "isFlower", "(I)Z"⟩
abbrev cX6_isPicked : ByteArray := prog_8_method_16_code
def yX6_isPicked : MethodName := ⟨RX6, "isPicked", "(I)Z"⟩
abbrev cX6_isSlit : ByteArray := prog_8_method_17_code
def yX6_isSlit : MethodName := ⟨RX6, "isSlit", "(I)Z"⟩
abbrev cX6_isOpen : ByteArray := prog_8_method_18_code
def yX6_isOpen : MethodName := ⟨RX6, "isOpen", "(I)Z"⟩
abbrev cX6_holdsBy : ByteArray := prog_8_method_19_code
def yX6_holdsBy : MethodName := ⟨RX6, "holdsBy", "(IIIII)I"⟩
abbrev cX6_holds : ByteArray := prog_8_method_20_code
def yX6_holds : MethodName := ⟨RX6, "holds", "(I)I"⟩
abbrev cX6_flower : ByteArray := prog_8_method_21_code
def yX6_flower : MethodName := ⟨RX6, "flower", "(II)I"⟩
abbrev cX6_link : ByteArray := prog_8_method_22_code
def yX6_link : MethodName := ⟨RX6, "link", "(I)I"⟩
abbrev cX6_inchesNow : ByteArray := prog_8_method_23_code
def yX6_inchesNow : MethodName := ⟨RX6, "inchesNow", "()I"⟩
abbrev cX6_chained : ByteArray := prog_8_method_24_code
def yX6_chained : MethodName := ⟨RX6, "chained", "()I"⟩
abbrev cX6_canThread : ByteArray := prog_8_method_25_code
def yX6_canThread : MethodName := ⟨RX6, "canThread", "(I)Z"⟩
abbrev cX6_now : ByteArray := prog_8_method_26_code
def yX6_now : MethodName := ⟨RX6, "now", "(I)I"⟩
abbrev cX6_notes : ByteArray := prog_8_method_27_code
def yX6_notes : MethodName := ⟨RX6, "notes", "()V"⟩
abbrev cX6_picks : ByteArray := prog_8_method_28_code
def yX6_picks : MethodName := ⟨RX6, "picks", "(I)I"⟩
abbrev cX6_isLink : ByteArray := prog_8_method_29_code
def yX6_isLink : MethodName := ⟨RX6, "isLink", "(I)Z"⟩
abbrev cX6_slits : ByteArray := prog_8_method_30_code
def yX6_slits : MethodName := ⟨RX6, "slits", "(III)I"⟩
abbrev cX6_threads : ByteArray := prog_8_method_31_code
def yX6_threads : MethodName := ⟨RX6, "threads", "(I)I"⟩
abbrev cX6_pulls : ByteArray := prog_8_method_32_code
def yX6_pulls : MethodName := ⟨RX6, "pulls", "()I"⟩
abbrev cX6_minutes : ByteArray := prog_8_method_33_code
def yX6_minutes : MethodName := ⟨RX6, "minutes", "(I)I"⟩
abbrev cX6_water : ByteArray := prog_8_method_34_code
def yX6_water : MethodName := ⟨RX6, "water", "(I)I"⟩
abbrev cX6_undo : ByteArray := prog_8_method_35_code
def yX6_undo : MethodName := ⟨RX6, "undo", "()I"⟩
abbrev cX6_weakest : ByteArray := prog_8_method_36_code
def yX6_weakest : MethodName := ⟨RX6, "weakest", "(I)I"⟩
abbrev cX6_load : ByteArray := prog_8_method_37_code
def yX6_load : MethodName := ⟨RX6, "load", "(II)I"⟩
abbrev cX6_hung : ByteArray := prog_8_method_38_code
def yX6_hung : MethodName := ⟨RX6, "hung", "()I"⟩
abbrev cX6_inTime : ByteArray := prog_8_method_39_code
def yX6_inTime : MethodName := ⟨RX6, "inTime", "(I)I"⟩
abbrev cX6_props : ByteArray := prog_8_method_40_code
def yX6_props : MethodName := ⟨RX6, "props", "(I)I"⟩
abbrev cX6_ring : ByteArray := prog_8_method_41_code
def yX6_ring : MethodName := ⟨RX6, "ring", "()I"⟩
abbrev cX6_loves : ByteArray := prog_8_method_42_code
def yX6_loves : MethodName := ⟨RX6, "loves", "()I"⟩
abbrev cX6_bestPlace : ByteArray := prog_8_method_43_code
def yX6_bestPlace : MethodName := ⟨RX6, "bestPlace", "(III)I"⟩
abbrev cX6_bestSlit : ByteArray := prog_8_method_44_code
def yX6_bestSlit : MethodName := ⟨RX6, "bestSlit", "(III)I"⟩
abbrev cX6_puts : ByteArray := prog_8_method_45_code
def yX6_puts : MethodName := ⟨RX6, "puts", "(I)V"⟩
abbrev cX6_mostOf : ByteArray := prog_8_method_46_code
def yX6_mostOf : MethodName := ⟨RX6, "mostOf", "(I)I"⟩
abbrev cX6_longest : ByteArray := prog_8_method_47_code
def yX6_longest : MethodName := ⟨RX6, "longest", "(II)I"⟩
abbrev cX6_fewestOf : ByteArray := prog_8_method_48_code
def yX6_fewestOf : MethodName := ⟨RX6, "fewestOf", "(II)I"⟩
abbrev cX6_fewest : ByteArray := prog_8_method_49_code
def yX6_fewest : MethodName := ⟨RX6, "fewest", "(II)I"⟩
abbrev cX6_stops : ByteArray := prog_8_method_50_code
def yX6_stops : MethodName := ⟨RX6, "stops", "(III)I"⟩
abbrev cX6_row : ByteArray := prog_8_method_51_code
def yX6_row : MethodName := ⟨RX6, "row", "(III)I"⟩
abbrev cX6_seen : ByteArray := prog_8_method_52_code
def yX6_seen : MethodName := ⟨RX6, "seen", "(II)I"⟩
abbrev cX6_forget : ByteArray := prog_8_method_53_code
def yX6_forget : MethodName := ⟨RX6, "forget", "()I"⟩
abbrev cX6_tears : ByteArray := prog_8_method_54_code
def yX6_tears : MethodName := ⟨RX6, "tears", "(II)Z"⟩
abbrev cX6_wilts : ByteArray := prog_8_method_55_code
def yX6_wilts : MethodName := ⟨RX6, "wilts", "()I"⟩
abbrev cX6_power : ByteArray := prog_8_method_56_code
def yX6_power : MethodName := ⟨RX6, "power", "(II)I"⟩
abbrev cX6_choose : ByteArray := prog_8_method_57_code
def yX6_choose : MethodName := ⟨RX6, "choose", "(II)I"⟩
abbrev cX6_gcd : ByteArray := prog_8_method_58_code
def yX6_gcd : MethodName := ⟨RX6, "gcd", "(II)I"⟩
abbrev cX6_odds : ByteArray := prog_8_method_59_code
def yX6_odds : MethodName := ⟨RX6, "odds", "(III)I"⟩
abbrev cX6_rate : ByteArray := prog_8_method_60_code
def yX6_rate : MethodName := ⟨RX6, "rate", "(II)I"⟩
abbrev cX6_keep : ByteArray := prog_8_method_61_code
def yX6_keep : MethodName := ⟨RX6, "keep", "(I)I"⟩
abbrev cX6_back : ByteArray := prog_8_method_62_code
def yX6_back : MethodName := ⟨RX6, "back", "(I)I"⟩
abbrev cX6_count : ByteArray := prog_8_method_63_code
def yX6_count : MethodName := ⟨RX6, "count", "(I)I"⟩
abbrev cX6_trace : ByteArray := prog_8_method_64_code
def yX6_trace : MethodName := ⟨RX6, "trace", "()J"⟩
def RJ6 : String := "java/lang/Integer"
def TJ6 : u_T := fun k => match k with
  | _ => ("", "", "", false)
def tyJ6 : Nat → FieldType := fun k => match k with
  | _ => .int
abbrev wsJ60 : List Cond := u_ws RJ6 TJ6 0
theorem nmJ6 : ∀ a, a < 0 → ∀ b, b < 0 → a ≠ b → (TJ6 a).2.1 ≠ (TJ6 b).2.1 := by decide +kernel
theorem tyJ6_ok : ∀ k, k < 0 → parseFieldDescriptor (TJ6 k).2.2.1 = some (tyJ6 k) := by decide +kernel
abbrev cJ6_bitCount_0f7a4 : ByteArray := prog_9_method_49_code
def yJ6_bitCount_0f7a4 : MethodName := ⟨RJ6, "bitCount", "(I)I"⟩
def RJ9 : String := "java/lang/Math"
def TJ9 : u_T := fun k => match k with
  | _ => ("", "", "", false)
def tyJ9 : Nat → FieldType := fun k => match k with
  | _ => .int
abbrev wsJ90 : List Cond := u_ws RJ9 TJ9 0
theorem nmJ9 : ∀ a, a < 0 → ∀ b, b < 0 → a ≠ b → (TJ9 a).2.1 ≠ (TJ9 b).2.1 := by decide +kernel
theorem tyJ9_ok : ∀ k, k < 0 → parseFieldDescriptor (TJ9 k).2.2.1 = some (tyJ9 k) := by decide +kernel
abbrev cJ9_max_7cf53 : ByteArray := prog_10_method_65_code
def yJ9_max_7cf53 : MethodName := ⟨RJ9, "max", "(II)I"⟩
abbrev cJ9_min_7cf53 : ByteArray := prog_10_method_69_code
def yJ9_min_7cf53 : MethodName := ⟨RJ9, "min", "(II)I"⟩
def RJ10 : String := "java/lang/System"
def TJ10 : u_T := fun k => match k with
  | _ => ("", "", "", false)
def tyJ10 : Nat → FieldType := fun k => match k with
  | _ => .int
abbrev wsJ100 : List Cond := u_ws RJ10 TJ10 0
theorem nmJ10 : ∀ a, a < 0 → ∀ b, b < 0 → a ≠ b → (TJ10 a).2.1 ≠ (TJ10 b).2.1 := by decide +kernel
theorem tyJ10_ok : ∀ k, k < 0 → parseFieldDescriptor (TJ10 k).2.2.1 = some (tyJ10 k) := by decide +kernel
def RL : String := "DaisyChainLaw"
abbrev cL_law : ByteArray := code
def yL_law : MethodName := ⟨RL, "law", "([I)Z"⟩
end
section
/-! THE HEAP AS NUMBERS: cell o (in the order in which the law makes them), place k: an int, a long, a reference to another cell. Shapes are fixed ahead: (0, class), (1, n) int[n], (2, n) boolean[n], (3, n) Moment[n], (4, n) Sight[n]. -/
abbrev hp_G : Type := (Nat → Nat → Int32) × (Nat → Nat → Int64) × (Nat → Nat → Option Nat) × Nat
def hp_sh (o : Nat) : Nat × Nat := (bif Nat.blt o 56 then (bif Nat.blt o 28 then (bif Nat.blt o 14 then (bif Nat.blt o 7 then (bif Nat.blt o 3 then (bif Nat.blt o 1 then (0, 5) else (bif Nat.blt o 2 then (0, 3) else (1, 200))) else (bif Nat.blt o 5 then (bif Nat.blt o 4 then (0, 4) else (1, 7)) else (1, 7))) else (bif Nat.blt o 10 then (bif Nat.blt o 8 then (0, 4) else (1, 7)) else (bif Nat.blt o 12 then (bif Nat.blt o 11 then (1, 7) else (0, 0)) else (1, 7)))) else (bif Nat.blt o 21 then (bif Nat.blt o 17 then (bif Nat.blt o 15 then (1, 7) else (bif Nat.blt o 16 then (1, 7) else (3, 10))) else (bif Nat.blt o 19 then (bif Nat.blt o 18 then (3, 2) else (2, 2)) else (bif Nat.blt o 20 then (4, 5) else (0, 1)))) else (bif Nat.blt o 24 then (bif Nat.blt o 22 then (1, 49) else (bif Nat.blt o 23 then (1, 896) else (1, 8))) else (bif Nat.blt o 26 then (bif Nat.blt o 25 then (0, 0) else (1, 7)) else (1, 7))))) else (bif Nat.blt o 42 then (bif Nat.blt o 35 then (bif Nat.blt o 31 then (bif Nat.blt o 29 then (1, 7) else (bif Nat.blt o 30 then (0, 0) else (1, 7))) else (bif Nat.blt o 33 then (1, 7) else (bif Nat.blt o 34 then (1, 7) else (0, 0)))) else (bif Nat.blt o 38 then (1, 7) else (bif Nat.blt o 40 then (bif Nat.blt o 39 then (1, 7) else (0, 0)) else (1, 7)))) else (bif Nat.blt o 49 then (bif Nat.blt o 45 then (bif Nat.blt o 43 then (1, 7) else (bif Nat.blt o 44 then (1, 7) else (0, 0))) else (1, 7)) else (bif Nat.blt o 52 then (bif Nat.blt o 50 then (0, 0) else (1, 7)) else (bif Nat.blt o 54 then (1, 7) else (bif Nat.blt o 55 then (0, 0) else (1, 7))))))) else (bif Nat.blt o 84 then (bif Nat.blt o 70 then (bif Nat.blt o 63 then (bif Nat.blt o 59 then (1, 7) else (bif Nat.blt o 61 then (bif Nat.blt o 60 then (0, 0) else (1, 7)) else (1, 7))) else (bif Nat.blt o 66 then (bif Nat.blt o 64 then (1, 7) else (bif Nat.blt o 65 then (0, 0) else (1, 7))) else (bif Nat.blt o 68 then (1, 7) else (bif Nat.blt o 69 then (1, 7) else (0, 0))))) else (bif Nat.blt o 77 then (bif Nat.blt o 73 then (1, 7) else (bif Nat.blt o 75 then (bif Nat.blt o 74 then (1, 7) else (0, 0)) else (1, 7))) else (bif Nat.blt o 80 then (bif Nat.blt o 78 then (1, 7) else (bif Nat.blt o 79 then (1, 7) else (0, 0))) else (1, 7)))) else (bif Nat.blt o 98 then (bif Nat.blt o 91 then (bif Nat.blt o 87 then (bif Nat.blt o 85 then (0, 2) else (1, 7)) else (bif Nat.blt o 89 then (bif Nat.blt o 88 then (0, 2) else (1, 7)) else (bif Nat.blt o 90 then (1, 7) else (0, 2)))) else (bif Nat.blt o 94 then (bif Nat.blt o 92 then (1, 7) else (bif Nat.blt o 93 then (1, 7) else (0, 2))) else (bif Nat.blt o 96 then (1, 7) else (bif Nat.blt o 97 then (0, 2) else (1, 7))))) else (bif Nat.blt o 105 then (bif Nat.blt o 101 then (bif Nat.blt o 99 then (1, 7) else (bif Nat.blt o 100 then (0, 6) else (1, 200))) else (bif Nat.blt o 103 then (bif Nat.blt o 102 then (1, 4) else (1, 14)) else (1, 14))) else (bif Nat.blt o 109 then (bif Nat.blt o 107 then (bif Nat.blt o 106 then (1, 32) else (1, 64)) else (bif Nat.blt o 108 then (2, 2) else (1, 320))) else (bif Nat.blt o 111 then (1, 5) else (bif Nat.blt o 112 then (1, 896) else (1, 8))))))))
abbrev hp_cl : List vw_C := [(RX0, TX0, 8), (RX1, TX1, 3), (RX2, TX2, 5), (RX3, TX3, 9), (RX4, TX4, 5), (RX5, TX5, 12), (RX6, TX6, 24)]
def hp_n (ci : Nat) : Nat := match ci with
  | 0 => 8 | 1 => 3 | 2 => 5 | 3 => 9 | 4 => 5 | 5 => 12 | _ => 24
def hp_T (ci : Nat) : u_T := match ci with
  | 0 => TX0 | 1 => TX1 | 2 => TX2 | 3 => TX3 | 4 => TX4 | 5 => TX5 | _ => TX6
def hp_R (ci : Nat) : String := match ci with
  | 0 => RX0 | 1 => RX1 | 2 => RX2 | 3 => RX3 | 4 => RX4 | 5 => RX5 | _ => RX6
def hp_ty (ci : Nat) : Nat → FieldType := match ci with
  | 0 => tyX0 | 1 => tyX1 | 2 => tyX2 | 3 => tyX3 | 4 => tyX4 | 5 => tyX5 | _ => tyX6
theorem hp_clE {ci : Nat} (h : ci < 7) : hp_cl[ci]? = some (hp_R ci, hp_T ci, hp_n ci) := by
  match ci, h with
  | 0, _ => rfl | 1, _ => rfl | 2, _ => rfl | 3, _ => rfl | 4, _ => rfl | 5, _ => rfl | 6, _ => rfl
  | k + 7, h => omega
theorem hp_nm {ci : Nat} (h : ci < 7) : ∀ a, a < hp_n ci → ∀ b, b < hp_n ci → a ≠ b → (hp_T ci a).2.1 ≠ (hp_T ci b).2.1 := by
  match ci, h with
  | 0, _ => exact nmX0 | 1, _ => exact nmX1 | 2, _ => exact nmX2 | 3, _ => exact nmX3 | 4, _ => exact nmX4 | 5, _ => exact nmX5 | 6, _ => exact nmX6
  | k + 7, h => omega
theorem hp_tyok {ci : Nat} (h : ci < 7) : ∀ k, k < hp_n ci → parseFieldDescriptor (hp_T ci k).2.2.1 = some (hp_ty ci k) := by
  match ci, h with
  | 0, _ => exact tyX0_ok | 1, _ => exact tyX1_ok | 2, _ => exact tyX2_ok | 3, _ => exact tyX3_ok | 4, _ => exact tyX4_ok | 5, _ => exact tyX5_ok | 6, _ => exact tyX6_ok
  | k + 7, h => omega
def hw {α : Type} (f : Nat → Nat → α) (c k : Nat) (v : α) : Nat → Nat → α := fun c' k' => if c' = c then (if k' = k then v else f c' k') else f c' k'
def hz {α : Type} (f : Nat → Nat → α) (c : Nat) (v : α) : Nat → Nat → α := fun c' k' => if c' = c then v else f c' k'
def hy (f : Nat → Nat → Int32) (s d sp dp n : Nat) : Nat → Nat → Int32 := fun c' k' => if c' = d then va_cpy (f s) (f d) sp dp n k' else f c' k'
theorem hw_at {α : Type} (f : Nat → Nat → α) (c k : Nat) (v : α) : hw f c k v c = va_up (f c) k v := by funext j; simp [hw, va_up]
theorem hw_upd (f : Nat → Nat → Int32) (c k : Nat) (v : Int32) : hw f c k v c = upd (f c) k v := by funext j; simp [hw, upd]
theorem hw_ne {α : Type} (f : Nat → Nat → α) {c c' : Nat} (k : Nat) (v : α) (h : c' ≠ c) : hw f c k v c' = f c' := by funext j; simp [hw, h]
theorem hz_at {α : Type} (f : Nat → Nat → α) (c : Nat) (v : α) : hz f c v c = fun _ => v := by funext j; simp [hz]
theorem hz_ne {α : Type} (f : Nat → Nat → α) {c c' : Nat} (v : α) (h : c' ≠ c) : hz f c v c' = f c' := by funext j; simp [hz, h]
theorem hy_at (f : Nat → Nat → Int32) (s d sp dp n : Nat) : hy f s d sp dp n d = va_cpy (f s) (f d) sp dp n := by funext j; simp [hy]
theorem hy_ne (f : Nat → Nat → Int32) (s : Nat) {d c' : Nat} (sp dp n : Nat) (h : c' ≠ d) : hy f s d sp dp n c' = f c' := by funext j; simp [hy, h]
def hp_f (ba : Nat) (G : hp_G) (ci c k : Nat) : Value := match hp_ty ci k with
  | .int => .int (G.1 c k)
  | .boolean => .int (G.1 c k)
  | .long => .long (G.2.1 c k)
  | _ => va_rf ((G.2.2.1 c k).map (fun q => ba + q))
def hp_fs (ba : Nat) (G : hp_G) (ci c : Nat) : List Value := (List.range (hp_n ci)).map (hp_f ba G ci c)
def hp_e (cK : Nat → ClassId) (ba : Nat) (G : hp_G) (c : Nat) : va_E := match hp_sh c with
  | (0, ci) => .inr (ci, hp_fs ba G ci c)
  | (1, n) => .inl (cK 0, n, .inl (G.1 c))
  | (2, n) => .inl (cK 1, n, .inl (G.1 c))
  | (j + 3, n) => .inl (cK (j + 2), n, .inr (.inr (.inr (.inr (fun k => (G.2.2.1 c k).map (fun q => ba + q))))))
def hp_w (cK : Nat → ClassId) (ba : Nat) (G : hp_G) : va_W := (List.range G.2.2.2).map (fun c => (ba + c, hp_e cK ba G c))
def hp_tys (cK : Nat → ClassId) : List (ClassId × FieldType) := [(cK 0, .int), (cK 1, .boolean), (cK 2, .object RX0), (cK 3, .object RX2)]
theorem hp_wAt (cK : Nat → ClassId) (ba : Nat) {G : hp_G} {o : Nat} (h : o < G.2.2.2) : (hp_w cK ba G)[o]? = some (ba + o, hp_e cK ba G o) := by
  simp [hp_w, List.getElem?_map, List.getElem?_range h]
theorem hp_wIn {cK : Nat → ClassId} {ba : Nat} {G : hp_G} {o : Nat} {q : Nat × va_E} (h : (hp_w cK ba G)[o]? = some q) : o < G.2.2.2 ∧ q = (ba + o, hp_e cK ba G o) := by
  have hl : o < (hp_w cK ba G).length := (List.getElem?_eq_some_iff.mp h).1
  have hl : o < G.2.2.2 := by simpa [hp_w] using hl
  rw [hp_wAt cK ba hl] at h
  exact ⟨hl, (Option.some.inj h).symm⟩
theorem hp_D (cK : Nat → ClassId) (ba : Nat) (G : hp_G) : va_D (fun q => ba ≤ q) (hp_w cK ba G) := by
  refine ⟨fun i j p q hi hj h => ?_, fun k q h => ?_⟩
  · obtain ⟨-, rfl⟩ := hp_wIn hi
    obtain ⟨-, rfl⟩ := hp_wIn hj
    have h : ba + i = ba + j := h
    omega
  · obtain ⟨-, rfl⟩ := hp_wIn h
    exact Nat.le_add_right _ _
theorem hp_set {cK : Nat → ClassId} {ba : Nat} {G G' : hp_G} {o : Nat} {e : va_E} (hn : G'.2.2.2 = G.2.2.2) (ho : ∀ c, c ≠ o → hp_e cK ba G' c = hp_e cK ba G c) (he : hp_e cK ba G' o = e) : (hp_w cK ba G).set o (ba + o, e) = hp_w cK ba G' := by
  subst he
  apply List.ext_getElem?
  intro i
  by_cases hi : i < G.2.2.2
  · by_cases h : i = o
    · subst h
      rw [hp_wAt cK ba (by rw [hn]; exact hi), List.getElem?_set_self (by simpa [hp_w] using hi)]
    · rw [hp_wAt cK ba (by rw [hn]; exact hi), List.getElem?_set_ne (Ne.symm h), hp_wAt cK ba hi, ho i h]
  · rw [List.getElem?_eq_none (by simp [hp_w]; omega), List.getElem?_eq_none (by simp [hp_w, hn]; omega)]
theorem hp_push {cK : Nat → ClassId} {ba : Nat} {G G' : hp_G} {e : va_E} (hn : G'.2.2.2 = G.2.2.2 + 1) (ho : ∀ c, c ≠ G.2.2.2 → hp_e cK ba G' c = hp_e cK ba G c) (he : hp_e cK ba G' G.2.2.2 = e) : hp_w cK ba G ++ [(ba + G.2.2.2, e)] = hp_w cK ba G' := by
  subst he
  simp only [hp_w, hn, List.range_succ, List.map_append, List.map_cons, List.map_nil]
  congr 1
  apply List.map_congr_left
  intro c hc
  have := List.mem_range.mp hc
  rw [ho c (by omega)]
theorem hp_fsAt (ba : Nat) (G : hp_G) (ci c : Nat) {k : Nat} (h : k < hp_n ci) : (hp_fs ba G ci c)[k]? = some (hp_f ba G ci c k) := by
  simp [hp_fs, List.getElem?_map, List.getElem?_range h]
theorem hp_fsSet {ba : Nat} {G G' : hp_G} {ci c k : Nat} {v : Value} (ho : ∀ j, j ≠ k → hp_f ba G' ci c j = hp_f ba G ci c j) (hv : hp_f ba G' ci c k = v) : (hp_fs ba G ci c).set k v = hp_fs ba G' ci c := by
  subst hv
  apply List.ext_getElem?
  intro i
  by_cases hi : i < hp_n ci
  · by_cases h : i = k
    · subst h
      rw [hp_fsAt ba G' ci c hi, List.getElem?_set_self (by simpa [hp_fs] using hi)]
    · rw [hp_fsAt ba G' ci c hi, List.getElem?_set_ne (Ne.symm h), hp_fsAt ba G ci c hi, ho i h]
  · rw [List.getElem?_eq_none (by simp [hp_fs]; omega), List.getElem?_eq_none (by simp [hp_fs]; omega)]
theorem hp_eO {cK : Nat → ClassId} {ba : Nat} {G : hp_G} {c ci : Nat} (h : hp_sh c = (0, ci)) : hp_e cK ba G c = .inr (ci, hp_fs ba G ci c) := by
  simp [hp_e, h]
theorem hp_eI {cK : Nat → ClassId} {ba : Nat} {G : hp_G} {c n : Nat} (h : hp_sh c = (1, n)) : hp_e cK ba G c = .inl (cK 0, n, .inl (G.1 c)) := by
  simp [hp_e, h]
theorem hp_eZ {cK : Nat → ClassId} {ba : Nat} {G : hp_G} {c n : Nat} (h : hp_sh c = (2, n)) : hp_e cK ba G c = .inl (cK 1, n, .inl (G.1 c)) := by
  simp [hp_e, h]
theorem hp_eR {cK : Nat → ClassId} {ba : Nat} {G : hp_G} {c j n : Nat} (h : hp_sh c = (j + 3, n)) : hp_e cK ba G c = .inl (cK (j + 2), n, .inr (.inr (.inr (.inr (fun k => (G.2.2.1 c k).map (fun q => ba + q)))))) := by
  simp [hp_e, h]
theorem hp_eX {cK : Nat → ClassId} {ba : Nat} {G G' : hp_G} {c : Nat} (h1 : G'.1 c = G.1 c) (h2 : G'.2.1 c = G.2.1 c) (h3 : G'.2.2.1 c = G.2.2.1 c) : hp_e cK ba G' c = hp_e cK ba G c := by
  have hf : ∀ ci, hp_fs ba G' ci c = hp_fs ba G ci c := by
    intro ci
    have hg : hp_f ba G' ci c = hp_f ba G ci c := by funext k; simp only [hp_f, h1, h2, h3]
    simp only [hp_fs, hg]
  simp only [hp_e, hf, h1, h3]
def hp_sz (o : Nat) : Nat := match hp_sh o with
  | (0, ci) => hp_n ci
  | (_, n) => n
def hp_tot : Nat → Nat
  | 0 => 0
  | n + 1 => hp_tot n + hp_sz n
theorem hp_totLe {a b : Nat} (h : a ≤ b) : hp_tot a ≤ hp_tot b := by
  induction b with
  | zero => simp [Nat.le_zero.mp h]
  | succ b ih =>
    rcases Nat.lt_or_ge b a with q | q
    · have : a = b + 1 := by omega
      subst this; exact Nat.le_refl _
    · exact Nat.le_trans (ih q) (Nat.le_add_right _ _)
end
section
/-! ONE STEP OF A METHOD, over the heap as numbers: a table of its instructions (with what the pool says), its callees as functions -/
abbrev sx_S : Type := Nat × List (Nat × Value) × List Value × hp_G
abbrev sx_R : Type := Option Value × hp_G
abbrev sx_O : Type := Option (sx_R ⊕ sx_S)
abbrev sx_F : Type := List Value → hp_G → Option sx_R
/-- name, bytes, locals, answer, frames below, locals' words below, how many arguments with 'this' -/
abbrev sx_M : Type := MethodName × ByteArray × Nat × Option FieldType × Nat × Nat × Nat
abbrev sx_E : Type := Instr × Nat × Nat × List (Int32 × Nat)
abbrev sx_in (i : Int32) (n : Nat) : Prop := ¬ (i < 0 ∨ n ≤ i.toNatClampNeg)
abbrev sx_01 (x : Int32) : Prop := x = 0 ∨ x = 1
abbrev sx_is (G : hp_G) (o : Nat) (w : Nat × Nat) : Prop := o < G.2.2.2 ∧ hp_sh o = w
abbrev sx_ar (G : hp_G) (o : Nat) (j : Nat) (i : Int32) : Prop := o < G.2.2.2 ∧ (hp_sh o).1 = j ∧ sx_in i (hp_sh o).2
def gi (G : hp_G) (o k : Nat) (x : Int32) : hp_G := (hw G.1 o k x, G.2)
def gl (G : hp_G) (o k : Nat) (x : Int64) : hp_G := (G.1, hw G.2.1 o k x, G.2.2)
def gr (G : hp_G) (o k : Nat) (x : Option Nat) : hp_G := (G.1, G.2.1, hw G.2.2.1 o k x, G.2.2.2)
def gy (G : hp_G) (s d sp dp n : Nat) : hp_G := (hy G.1 s d sp dp n, G.2)
def gn (G : hp_G) : hp_G := (hz G.1 G.2.2.2 0, hz G.2.1 G.2.2.2 0, hz G.2.2.1 G.2.2.2 none, G.2.2.2 + 1)
def lk : List (Nat × Value) → Nat → Option Value
  | [], _ => none
  | (j, v) :: r, i => bif Nat.beq j i then some v else lk r i
def dl (i : Nat) : List (Nat × Value) → List (Nat × Value)
  | [] => []
  | (j, v) :: r => bif Nat.beq j i then dl i r else (j, v) :: dl i r
def sl : List (Nat × Value) → Nat → Value → List (Nat × Value)
  | [], i, x => [(i, x)]
  | (j, v) :: r, i, x => bif Nat.beq j i then (i, x) :: dl i r else (j, v) :: sl r i x
def kp (n : Nat) : List (Nat × Value) → List (Nat × Value)
  | [] => []
  | (j, v) :: r => bif Nat.blt j n then (j, v) :: kp n r else kp n r
def tk : Nat → List Value → List Value → Option (List Value × List Value)
  | 0, st, as => some (as, st)
  | n + 1, v :: st, as => tk n st (v :: as)
  | _ + 1, [], _ => none
def o_co (v : Value) (n : Nat) : sx_S → sx_O := fun s => some (.inr (s.1 + n, s.2.1, v :: s.2.2.1, s.2.2.2))
def o_bi (k : Int32 → Int32 → Int32) : sx_S → sx_O := fun s => match s.2.2.1 with
  | .int y :: .int x :: r => some (.inr (s.1 + 1, s.2.1, .int (k x y) :: r, s.2.2.2))
  | _ => none
def o_dv (k : Int32 → Int32 → Int32) : sx_S → sx_O := fun s => match s.2.2.1 with
  | .int y :: .int x :: r => if y = 0 then none else some (.inr (s.1 + 1, s.2.1, .int (k x y) :: r, s.2.2.2))
  | _ => none
def o_ladd : sx_S → sx_O := fun s => match s.2.2.1 with
  | .long y :: .long x :: r => some (.inr (s.1 + 1, s.2.1, .long (x + y) :: r, s.2.2.2))
  | _ => none
def o_lcmp : sx_S → sx_O := fun s => match s.2.2.1 with
  | .long y :: .long x :: r => some (.inr (s.1 + 1, s.2.1, .int (lg_cmp x y) :: r, s.2.2.2))
  | _ => none
def o_ldi (i n : Nat) : sx_S → sx_O := fun s => match lk s.2.1 i with
  | some (.int x) => some (.inr (s.1 + n, s.2.1, .int x :: s.2.2.1, s.2.2.2))
  | _ => none
def o_lda (i n : Nat) : sx_S → sx_O := fun s => match lk s.2.1 i with
  | some (.ref x) => some (.inr (s.1 + n, s.2.1, .ref x :: s.2.2.1, s.2.2.2))
  | some (.float x) => some (.inr (s.1 + n, s.2.1, .float x :: s.2.2.1, s.2.2.2))
  | _ => none
def o_sti (i n : Nat) : sx_S → sx_O := fun s => match s.2.2.1 with
  | .int x :: r => some (.inr (s.1 + n, sl s.2.1 i (.int x), r, s.2.2.2))
  | _ => none
def o_sta (i n : Nat) : sx_S → sx_O := fun s => match s.2.2.1 with
  | .ref x :: r => some (.inr (s.1 + n, sl s.2.1 i (.ref x), r, s.2.2.2))
  | _ => none
def o_inc (i : Nat) (z : Int) : sx_S → sx_O := fun s => match lk s.2.1 i with
  | some (.int x) => some (.inr (s.1 + 3, sl s.2.1 i (.int (x + Int32.ofInt z)), s.2.2.1, s.2.2.2))
  | _ => none
def o_dup : sx_S → sx_O := fun s => match s.2.2.1 with
  | .int x :: r => some (.inr (s.1 + 1, s.2.1, .int x :: .int x :: r, s.2.2.2))
  | .ref x :: r => some (.inr (s.1 + 1, s.2.1, .ref x :: .ref x :: r, s.2.2.2))
  | _ => none
def o_dup2 : sx_S → sx_O := fun s => match s.2.2.1 with
  | .int x :: .ref y :: r => some (.inr (s.1 + 1, s.2.1, .int x :: .ref y :: .int x :: .ref y :: r, s.2.2.2))
  | _ => none
def o_pop : sx_S → sx_O := fun s => match s.2.2.1 with
  | .int _ :: r => some (.inr (s.1 + 1, s.2.1, r, s.2.2.2))
  | _ => none
def o_get (ci k : Nat) : sx_S → sx_O := fun s => match s.2.2.1 with
  | .ref o :: r => if sx_is s.2.2.2 o (0, ci) then (match hp_ty ci k with
      | .int => some (.inr (s.1 + 3, s.2.1, .int (s.2.2.2.1 o k) :: r, s.2.2.2))
      | .boolean => some (.inr (s.1 + 3, s.2.1, .int (s.2.2.2.1 o k) :: r, s.2.2.2))
      | .long => some (.inr (s.1 + 3, s.2.1, .long (s.2.2.2.2.1 o k) :: r, s.2.2.2))
      | .object _ => (match s.2.2.2.2.2.1 o k with
        | some q => some (.inr (s.1 + 3, s.2.1, .ref q :: r, s.2.2.2))
        | none => none)
      | .array _ => (match s.2.2.2.2.2.1 o k with
        | some q => some (.inr (s.1 + 3, s.2.1, .ref q :: r, s.2.2.2))
        | none => none)
      | _ => none) else none
  | _ => none
def o_put (ci k : Nat) : sx_S → sx_O := fun s => match s.2.2.1 with
  | .int x :: .ref o :: r => (match hp_ty ci k with
      | .int => if sx_is s.2.2.2 o (0, ci) then some (.inr (s.1 + 3, s.2.1, r, gi s.2.2.2 o k x)) else none
      | .boolean => if sx_is s.2.2.2 o (0, ci) ∧ sx_01 x then some (.inr (s.1 + 3, s.2.1, r, gi s.2.2.2 o k x)) else none
      | _ => none)
  | .long x :: .ref o :: r => (match hp_ty ci k with
      | .long => if sx_is s.2.2.2 o (0, ci) then some (.inr (s.1 + 3, s.2.1, r, gl s.2.2.2 o k x)) else none
      | _ => none)
  | .ref x :: .ref o :: r => (match hp_ty ci k with
      | .object _ => if sx_is s.2.2.2 o (0, ci) then some (.inr (s.1 + 3, s.2.1, r, gr s.2.2.2 o k (some x))) else none
      | .array _ => if sx_is s.2.2.2 o (0, ci) then some (.inr (s.1 + 3, s.2.1, r, gr s.2.2.2 o k (some x))) else none
      | _ => none)
  | _ => none
def o_iald (sc : Option (Nat × (Nat → Int32))) : sx_S → sx_O := fun s => match s.2.2.1 with
  | .int i :: .ref o :: r => if sx_ar s.2.2.2 o 1 i then some (.inr (s.1 + 1, s.2.1, .int (s.2.2.2.1 o i.toNatClampNeg) :: r, s.2.2.2)) else none
  | .int i :: .float _ :: r => (match sc with
      | some (L, xs) => if sx_in i L then some (.inr (s.1 + 1, s.2.1, .int (xs i.toNatClampNeg) :: r, s.2.2.2)) else none
      | none => none)
  | _ => none
def o_alen (sc : Option (Nat × (Nat → Int32))) : sx_S → sx_O := fun s => match s.2.2.1 with
  | .float _ :: r => (match sc with
      | some (L, _) => some (.inr (s.1 + 1, s.2.1, .int (Int32.ofNat L) :: r, s.2.2.2))
      | none => none)
  | _ => none
def o_zald : sx_S → sx_O := fun s => match s.2.2.1 with
  | .int i :: .ref o :: r => if sx_ar s.2.2.2 o 2 i then some (.inr (s.1 + 1, s.2.1, .int (s.2.2.2.1 o i.toNatClampNeg) :: r, s.2.2.2)) else none
  | _ => none
def o_aald (j : Nat) : sx_S → sx_O := fun s => match s.2.2.1 with
  | .int i :: .ref o :: r => if sx_ar s.2.2.2 o (j + 3) i then (match s.2.2.2.2.2.1 o i.toNatClampNeg with
      | some q => some (.inr (s.1 + 1, s.2.1, .ref q :: r, s.2.2.2))
      | none => none) else none
  | _ => none
def o_iast : sx_S → sx_O := fun s => match s.2.2.1 with
  | .int x :: .int i :: .ref o :: r => if sx_ar s.2.2.2 o 1 i then some (.inr (s.1 + 1, s.2.1, r, gi s.2.2.2 o i.toNatClampNeg x)) else none
  | _ => none
def o_zast : sx_S → sx_O := fun s => match s.2.2.1 with
  | .int x :: .int i :: .ref o :: r => if sx_ar s.2.2.2 o 2 i ∧ sx_01 x then some (.inr (s.1 + 1, s.2.1, r, gi s.2.2.2 o i.toNatClampNeg x)) else none
  | _ => none
def o_aast (j ci : Nat) : sx_S → sx_O := fun s => match s.2.2.1 with
  | .ref q :: .int i :: .ref o :: r => if sx_ar s.2.2.2 o (j + 3) i ∧ sx_is s.2.2.2 q (0, ci) then some (.inr (s.1 + 1, s.2.1, r, gr s.2.2.2 o i.toNatClampNeg (some q))) else none
  | _ => none
def o_new (ci : Nat) : sx_S → sx_O := fun s => if hp_sh s.2.2.2.2.2.2 = (0, ci) then some (.inr (s.1 + 3, s.2.1, .ref s.2.2.2.2.2.2 :: s.2.2.1, gn s.2.2.2)) else none
def o_newa (j n : Nat) : sx_S → sx_O := fun s => match s.2.2.1 with
  | .int x :: r => if hp_sh s.2.2.2.2.2.2 = (j, x.toNatClampNeg) ∧ ¬ x < 0 ∧ x.toNatClampNeg ≤ 1000 then some (.inr (s.1 + n, s.2.1, .ref s.2.2.2.2.2.2 :: r, gn s.2.2.2)) else none
  | _ => none
def o_if (c : Jvm.ClassFile.Cond) (t : Nat) : sx_S → sx_O := fun s => match s.2.2.1 with
  | .int x :: r => (match c with
      | .eq => if x = 0 then some (.inr (t, s.2.1, r, s.2.2.2)) else some (.inr (s.1 + 3, s.2.1, r, s.2.2.2))
      | .ne => if x = 0 then some (.inr (s.1 + 3, s.2.1, r, s.2.2.2)) else some (.inr (t, s.2.1, r, s.2.2.2))
      | .lt => if x < 0 then some (.inr (t, s.2.1, r, s.2.2.2)) else some (.inr (s.1 + 3, s.2.1, r, s.2.2.2))
      | .ge => if 0 ≤ x then some (.inr (t, s.2.1, r, s.2.2.2)) else some (.inr (s.1 + 3, s.2.1, r, s.2.2.2))
      | .gt => if 0 < x then some (.inr (t, s.2.1, r, s.2.2.2)) else some (.inr (s.1 + 3, s.2.1, r, s.2.2.2))
      | .le => if x ≤ 0 then some (.inr (t, s.2.1, r, s.2.2.2)) else some (.inr (s.1 + 3, s.2.1, r, s.2.2.2)))
  | _ => none
def o_icmp (c : Jvm.ClassFile.Cond) (t : Nat) : sx_S → sx_O := fun s => match s.2.2.1 with
  | .int y :: .int x :: r => (match c with
      | .eq => if x = y then some (.inr (t, s.2.1, r, s.2.2.2)) else some (.inr (s.1 + 3, s.2.1, r, s.2.2.2))
      | .ne => if x = y then some (.inr (s.1 + 3, s.2.1, r, s.2.2.2)) else some (.inr (t, s.2.1, r, s.2.2.2))
      | .lt => if x < y then some (.inr (t, s.2.1, r, s.2.2.2)) else some (.inr (s.1 + 3, s.2.1, r, s.2.2.2))
      | .ge => if y ≤ x then some (.inr (t, s.2.1, r, s.2.2.2)) else some (.inr (s.1 + 3, s.2.1, r, s.2.2.2))
      | .gt => if y < x then some (.inr (t, s.2.1, r, s.2.2.2)) else some (.inr (s.1 + 3, s.2.1, r, s.2.2.2))
      | .le => if x ≤ y then some (.inr (t, s.2.1, r, s.2.2.2)) else some (.inr (s.1 + 3, s.2.1, r, s.2.2.2)))
  | _ => none
def o_goto (n t : Nat) : sx_S → sx_O := fun s => some (.inr (t, kp n s.2.1, s.2.2.1, s.2.2.2))
def o_swk (s : sx_S) (r : List Value) (d : Nat) (x : Int32) : List (Int32 × Nat) → sx_O
  | [] => some (.inr (d, s.2.1, r, s.2.2.2))
  | (k, t) :: l => if x = k then some (.inr (t, s.2.1, r, s.2.2.2)) else o_swk s r d x l
def o_sw (d : Nat) (l : List (Int32 × Nat)) : sx_S → sx_O := fun s => match s.2.2.1 with
  | .int x :: r => o_swk s r d x l
  | _ => none
def o_iret (rt : Option FieldType) : sx_S → sx_O := fun s => match s.2.2.1 with
  | [.int x] => (match rt with
      | some .int => some (.inl (some (.int x), s.2.2.2))
      | some .boolean => if sx_01 x then some (.inl (some (.int x), s.2.2.2)) else none
      | _ => none)
  | _ => none
def o_lret (rt : Option FieldType) : sx_S → sx_O := fun s => match s.2.2.1 with
  | [.long x] => (match rt with
      | some .long => some (.inl (some (.long x), s.2.2.2))
      | _ => none)
  | _ => none
def o_vret (rt : Option FieldType) : sx_S → sx_O := fun s => match s.2.2.1 with
  | [] => (match rt with
      | none => some (.inl (none, s.2.2.2))
      | _ => none)
  | _ => none
/-- behind a call: the answer's kind is the callee's -/
def o_back (s : sx_S) (rest : List Value) (rt : Option FieldType) (r : Option sx_R) : sx_O := match rt with
  | none => (match r with
      | some (none, G') => some (.inr (s.1 + 3, s.2.1, rest, G'))
      | _ => none)
  | some .long => (match r with
      | some (some (.long x), G') => some (.inr (s.1 + 3, s.2.1, .long x :: rest, G'))
      | _ => none)
  | some _ => (match r with
      | some (some (.int x), G') => some (.inr (s.1 + 3, s.2.1, .int x :: rest, G'))
      | _ => none)
def o_call (d : sx_M × sx_F) : sx_S → sx_O := fun s => match tk d.1.2.2.2.2.2.2 s.2.2.1 [] with
  | some (as, rest) => bif Nat.ble rest.length 4 then o_back s rest d.1.2.2.2.1 (d.2 as s.2.2.2) else none
  | none => none
def o_callV (d : sx_M × sx_F) (ci : Nat) : sx_S → sx_O := fun s => match tk d.1.2.2.2.2.2.2 s.2.2.1 [] with
  | some (.ref o :: as, rest) => bif Nat.ble rest.length 4 then (if sx_is s.2.2.2 o (0, ci) then o_back s rest d.1.2.2.2.1 (d.2 (.ref o :: as) s.2.2.2) else none) else none
  | _ => none
def o_callI (d : sx_M × sx_F) : sx_S → sx_O := fun s => match tk d.1.2.2.2.2.2.2 s.2.2.1 [] with
  | some (.ref o :: as, rest) => bif Nat.ble rest.length 4 then o_back s rest d.1.2.2.2.1 (d.2 (.ref o :: as) s.2.2.2) else none
  | _ => none
def o_obj : sx_S → sx_O := fun s => match s.2.2.1 with
  | .ref _ :: r => bif Nat.ble r.length 4 then some (.inr (s.1 + 3, s.2.1, r, s.2.2.2)) else none
  | _ => none
def o_max : sx_S → sx_O := fun s => match s.2.2.1 with
  | .int y :: .int x :: r => bif Nat.ble r.length 4 then some (.inr (s.1 + 3, s.2.1, .int (if x < y then y else x) :: r, s.2.2.2)) else none
  | _ => none
def o_min : sx_S → sx_O := fun s => match s.2.2.1 with
  | .int y :: .int x :: r => bif Nat.ble r.length 4 then some (.inr (s.1 + 3, s.2.1, .int (if y < x then y else x) :: r, s.2.2.2)) else none
  | _ => none
def o_copy : sx_S → sx_O := fun s => match s.2.2.1 with
  | .int n :: .int dp :: .ref d :: .int sp :: .ref q :: r => if Nat.ble r.length 4 = true ∧ (q < s.2.2.2.2.2.2 ∧ d < s.2.2.2.2.2.2) ∧ ((hp_sh q).1 = 1 ∧ (hp_sh d).1 = 1) ∧ (¬ sp < 0 ∧ ¬ dp < 0 ∧ ¬ n < 0) ∧ sp.toNatClampNeg + n.toNatClampNeg ≤ (hp_sh q).2 ∧ dp.toNatClampNeg + n.toNatClampNeg ≤ (hp_sh d).2 then some (.inr (s.1 + 3, s.2.1, r, gy s.2.2.2 q d sp.toNatClampNeg dp.toNatClampNeg n.toNatClampNeg)) else none
  | _ => none
def o_inv (cs : List (sx_M × sx_F)) (a : Nat) (k : sx_M × sx_F → sx_S → sx_O) : sx_S → sx_O := fun s => match cs[a]? with
  | some d => k d s
  | none => none
def o_stat (cs : List (sx_M × sx_F)) (a b : Nat) : sx_S → sx_O := match b with
  | 0 => o_inv cs a o_call
  | 1 => o_max
  | 2 => o_min
  | 3 => o_copy
  | _ => fun _ => none
def o_spec (cs : List (sx_M × sx_F)) (a b : Nat) : sx_S → sx_O := match b with
  | 0 => o_inv cs a o_callI
  | _ => o_obj
/-- what an instruction does -/
def sx_do (rt : Option FieldType) (cs : List (sx_M × sx_F)) (sc : Option (Nat × (Nat → Int32))) (kc : Nat → Int32) (kl : Nat → Int64) (e : sx_E) : sx_S → sx_O := match e.1 with
  | .iconst z => o_co (.int (Int32.ofInt z)) 1
  | .bipush z => o_co (.int (Int8.ofInt z).toInt32) 2
  | .sipush z => o_co (.int (Int16.ofInt z).toInt32) 3
  | .ldc i => o_co (.int (kc i)) 2
  | .ldc_w i => o_co (.int (kc i)) 3
  | .ldc2_w i => o_co (.long (kl i)) 3
  | .lconst n => o_co (.long (Int64.ofNat n)) 1
  | .iload i => o_ldi i 2
  | .iload_n i => o_ldi i 1
  | .aload i => o_lda i 2
  | .aload_n i => o_lda i 1
  | .istore i => o_sti i 2
  | .istore_n i => o_sti i 1
  | .astore i => o_sta i 2
  | .astore_n i => o_sta i 1
  | .iinc i z => o_inc i z
  | .iadd => o_bi (fun x y => x + y)
  | .isub => o_bi (fun x y => x - y)
  | .imul => o_bi (fun x y => x * y)
  | .iand => o_bi (fun x y => x &&& y)
  | .ior => o_bi (fun x y => x ||| y)
  | .ixor => o_bi (fun x y => x ^^^ y)
  | .ishl => o_bi (fun x y => x <<< (y &&& 31))
  | .ishr => o_bi (fun x y => x >>> (y &&& 31))
  | .iushr => o_bi (fun x y => (x.toUInt32 >>> (y.toUInt32 &&& Int32.toUInt32 31)).toInt32)
  | .idiv => o_dv (fun x y => x / y)
  | .irem => o_dv (fun x y => x - x / y * y)
  | .ladd => o_ladd
  | .lcmp => o_lcmp
  | .dup => o_dup
  | .dup2 => o_dup2
  | .pop => o_pop
  | .getfield _ => o_get e.2.1 e.2.2.1
  | .putfield _ => o_put e.2.1 e.2.2.1
  | .iaload => o_iald sc
  | .baload => o_zald
  | .aaload => o_aald e.2.1
  | .iastore => o_iast
  | .bastore => o_zast
  | .aastore => o_aast e.2.1 e.2.2.1
  | .arraylength => o_alen sc
  | .new _ => o_new e.2.1
  | .newarray _ => o_newa e.2.1 2
  | .anewarray _ => o_newa e.2.1 3
  | .ifCond c _ => o_if c e.2.1
  | .if_icmp c _ => o_icmp c e.2.1
  | .goto _ => o_goto e.2.1 e.2.2.1
  | .tableswitch _ _ _ _ => o_sw e.2.2.1 e.2.2.2
  | .lookupswitch _ _ => o_sw e.2.2.1 e.2.2.2
  | .ireturn => o_iret rt
  | .lreturn => o_lret rt
  | .return_ => o_vret rt
  | .invokevirtual _ => o_inv cs e.2.1 (fun d => o_callV d e.2.2.1)
  | .invokestatic _ => o_stat cs e.2.1 e.2.2.1
  | .invokespecial _ => o_spec cs e.2.1 e.2.2.1
  | _ => fun _ => none
/-- a method's own data: its answer, its callees, the script if it has one, its constants, its table -/
abbrev sx_P : Type := Option FieldType × List (sx_M × sx_F) × Option (Nat × (Nat → Int32)) × (Nat → Int32) × (Nat → Int64) × (Nat → Option sx_E)
def sx_one (P : sx_P) (s : sx_S) : sx_O := match P.2.2.2.2.2 s.1 with
  | some e => sx_do P.1 P.2.1 P.2.2.1 P.2.2.2.1 P.2.2.2.2.1 e s
  | none => none
def sx_run (P : sx_P) : Nat → sx_S → Option sx_R
  | 0, _ => none
  | n + 1, s => match sx_one P s with
    | none => none
    | some (.inl r) => some r
    | some (.inr s') => sx_run P n s'
theorem sx_mono {P : sx_P} : ∀ {n : Nat} {s : sx_S} {r : sx_R}, sx_run P n s = some r → ∀ k, sx_run P (n + k) s = some r
  | 0, _, _, h, _ => by cases h
  | n + 1, s, r, h, k => by
    rw [show n + 1 + k = (n + k) + 1 by omega]
    simp only [sx_run] at h ⊢
    cases ho : sx_one P s with
    | none => rw [ho] at h; cases h
    | some x =>
      rw [ho] at h
      cases x with
      | inl y => exact h
      | inr s' => exact sx_mono (n := n) h k
theorem sx_uniq {P : sx_P} {n k : Nat} {s : sx_S} {r r' : sx_R} (h : sx_run P n s = some r) (h' : sx_run P k s = some r') : r = r' := by
  have a := sx_mono h k
  have b := sx_mono h' n
  rw [Nat.add_comm k n, a] at b
  exact Option.some.inj b
/-- what a method comes to, whatever the number of steps -/
noncomputable def sx_ev (P : sx_P) (s : sx_S) : Option sx_R := Classical.epsilon (fun o => ∀ r, o = some r ↔ ∃ n, sx_run P n s = some r)
theorem sx_evI {P : sx_P} {s : sx_S} (r : sx_R) : sx_ev P s = some r ↔ ∃ n, sx_run P n s = some r := by
  have hex : ∃ o : Option sx_R, ∀ r, o = some r ↔ ∃ n, sx_run P n s = some r := by
    by_cases h : ∃ r, ∃ n, sx_run P n s = some r
    · obtain ⟨r0, n0, h0⟩ := h
      refine ⟨some r0, fun r => ⟨fun e => ⟨n0, by rw [h0]; exact e⟩, fun ⟨n, hn⟩ => by rw [sx_uniq h0 hn]⟩⟩
    · exact ⟨none, fun r => ⟨fun e => (by cases e), fun ⟨n, hn⟩ => absurd ⟨r, n, hn⟩ h⟩⟩
  exact Classical.epsilon_spec hex r
theorem sx_oext {a b : Option sx_R} (h : ∀ r, a = some r ↔ b = some r) : a = b := by
  cases a with
  | some x => exact ((h x).mp rfl).symm
  | none =>
    cases b with
    | none => rfl
    | some y => exact (h y).mpr rfl
theorem sx_fix (P : sx_P) (s : sx_S) : sx_ev P s = match sx_one P s with
    | none => none
    | some (.inl r) => some r
    | some (.inr s') => sx_ev P s' := by
  apply sx_oext
  intro r
  rw [sx_evI]
  cases ho : sx_one P s with
  | none =>
    refine ⟨fun ⟨n, h⟩ => ?_, fun h => by cases h⟩
    cases n with
    | zero => cases h
    | succ n => simp only [sx_run, ho] at h; cases h
  | some x =>
    cases x with
    | inl y =>
      refine ⟨fun ⟨n, h⟩ => ?_, fun h => ⟨1, by simp only [sx_run, ho]; exact h⟩⟩
      cases n with
      | zero => cases h
      | succ n => simp only [sx_run, ho] at h; exact h
    | inr s' =>
      simp only [sx_evI]
      refine ⟨fun ⟨n, h⟩ => ?_, fun ⟨n, h⟩ => ⟨n + 1, by simp only [sx_run, ho]; exact h⟩⟩
      cases n with
      | zero => cases h
      | succ n => simp only [sx_run, ho] at h; exact ⟨n, h⟩
theorem sx_go {P : sx_P} {s s' : sx_S} (h : sx_one P s = some (.inr s')) : sx_ev P s = sx_ev P s' := by rw [sx_fix, h]
theorem sx_end {P : sx_P} {s : sx_S} {r : sx_R} (h : sx_one P s = some (.inl r)) : sx_ev P s = some r := by rw [sx_fix, h]
end
section
/-! THE GROUND OF THE SOUNDNESS: what the tables say, values and cells, calls -/
def cv (ba b : Nat) : Value → Value
  | .ref r => .ref (ba + r)
  | .float _ => .ref b
  | v => v
theorem cv_cat (ba b : Nat) (v : Value) : (cv ba b v).category = v.category := by cases v <;> rfl
def sx_T (U : State) : Prop := (∀ w ∈ lw_tbl, goodWord w = true → ∀ A, w.before A U = true) ∧ (∀ a i x h, Cond.methodLinkNest a i x h ∈ lw_tbl → va_Nw (.methodLinkNest a i x h) U) ∧ va_AO RX0 U ∧ va_AO RX2 U
theorem sx_T.moved {s U : State} (hW : s.WarmedH U.vm) (h : sx_T s) : sx_T U := by
  obtain ⟨h1, h2, h3, h4⟩ := h
  refine ⟨fun w hw hg A => word_at hW (good_of_word hg) (h1 w hw hg A), fun a i x q hq => (h2 a i x q hq).warmM hW, h3.moved hW.alike, h4.moved hW.alike⟩
def sx_Pre (D : va_G) (cK : Nat → ClassId) (ba b : Nat) (As : List Value) (G : hp_G) : Array Value → State → Prop := fun v U => v = (As.map (cv ba b)).toArray ∧ U.heap.size = ba + G.2.2.2 ∧ va_P D hp_cl (hp_w cK ba G) U.heap ∧ va_K D hp_cl (hp_tys cK) U ∧ sx_T U
def sx_Q (D : va_G) (cK : Nat → ClassId) (ba b : Nat) (v : Option Value) (G' : hp_G) : Array Value → State → Outcome → State → Prop := fun _ st o t => o = .returned (v.map (cv ba b)) ∧ t.heap.size = ba + G'.2.2.2 ∧ va_P D hp_cl (hp_w cK ba G') t.heap ∧ ∀ q : Nat, q < ba → t.heap[q]? = st.heap[q]?
theorem sx_blind (D : va_G) (cK : Nat → ClassId) (ba b : Nat) (As : List Value) (G : hp_G) : FrameBlind (sx_Pre D cK ba b As G) := by
  intro a U g mk ⟨h1, h2, h3, h4, h5⟩
  exact ⟨h1, h2, h3, va_K.moved (u := U) (U := U.calling g mk a) (Vm.Alike.refl U.vm) h4, sx_T.moved (s := U) (U := U.calling g mk a) (State.WarmedH.refl U) h5⟩
/-- a method keeps its picture -/
def sx_ok (d : sx_M) (f : sx_F) : Prop := ∀ (As : List Value) (G : hp_G) (v : Option Value) (G' : hp_G), f As G = some (v, G') → G.2.2.2 ≤ G'.2.2.2 ∧ ∀ (l : Launch) (D : va_G) (cK : Nat → ClassId) (ba b : Nat),
  Met l d.1 [Cond.code d.1 d.2.1 d.2.2.1 d.2.2.2.1] ({ frames := d.2.2.2.2.1, cells := G'.2.2.2 - G.2.2.2, slots := hp_tot G'.2.2.2 - hp_tot G.2.2.2, locals := d.2.2.2.2.2.1 } : Room) (sx_Pre D cK ba b As G) (sx_Q D cK ba b v G') (G'.2.2.2 - G.2.2.2) (hp_tot G'.2.2.2 - hp_tot G.2.2.2) (fun q => ba ≤ q)
def sx_H (D : va_G) (cK : Nat → ClassId) (ba : Nat) (H0 : Heap) (n0 : Nat) (G : hp_G) (H : Heap) (locs : List Loc) (cells slots : Nat) : Prop :=
  va_P D hp_cl (hp_w cK ba G) H ∧ va_S (fun q => ba ≤ q) H0 H locs ∧ cells + n0 = G.2.2.2 ∧ slots + hp_tot n0 = hp_tot G.2.2.2
theorem sx_H.same {D : va_G} {cK : Nat → ClassId} {ba n0 : Nat} {H0 : Heap} {G G' : hp_G} {H H' : Heap} {locs locs' : List Loc} {cells slots : Nat} (h : sx_H D cK ba H0 n0 G H locs cells slots) (hN : G'.2.2.2 = G.2.2.2) (hP : va_P D hp_cl (hp_w cK ba G') H') (hS : va_S (fun q => ba ≤ q) H0 H' locs') : sx_H D cK ba H0 n0 G' H' locs' cells slots :=
  ⟨hP, hS, by rw [hN]; exact h.2.2.1, by rw [hN]; exact h.2.2.2⟩
/-- the heap's size, out of what the machine counts -/
theorem sx_size {p : Program} {l : Launch} {e : Env} {R : Room} {s : State} {m : MethodId} {args : Array Value} {below : List Frame} {meth : Method} {c : Code} {Q : State → Prop} {D : va_G} {cK : Nat → ClassId} {ba n0 : Nat} {G : hp_G} {H : Heap} {locs : List Loc} {cells slots : Nat} {g : JFrame} (hs0 : s.heap.size = ba + n0) (hH : sx_H D cK ba s.heap n0 G H locs cells slots)
    (k : H.size = ba + G.2.2.2 → W p l e R s m args below meth c H locs cells slots Q g) : W p l e R s m args below meth c H locs cells slots Q g := by
  intro T hT X
  have h1 := X.heapSize
  rw [hT, hs0] at h1
  obtain ⟨hP, hS, hc, -⟩ := hH
  refine k ?_ T hT X
  have h2 := hS.1
  rw [hs0] at h2
  rcases Nat.eq_zero_or_pos G.2.2.2 with h0 | h0
  · omega
  · have h3 := (hP (G.2.2.2 - 1) _ (hp_wAt cK ba (by omega))).lt
    dsimp only at h3
    omega
theorem sx_cat (st : List Value) : (st.map fun v => v.category).sum ≤ 2 * st.length := by
  induction st with
  | nil => simp
  | cons v r ih =>
    have : v.category ≤ 2 := by rcases lv_cat v with h | h <;> omega
    simp only [List.map_cons, List.sum_cons, List.length_cons]
    omega
theorem sx_cat8 {r : List Value} (h : Nat.ble r.length 4 = true) (ba b : Nat) : ((r.map (cv ba b)).map fun v => v.category).sum ≤ 8 := by
  have h1 := sx_cat (r.map (cv ba b))
  have h2 : r.length ≤ 4 := Nat.le_of_ble_eq_true h
  rw [List.length_map] at h1
  omega
def sx_m (ba b : Nat) (ls : List (Nat × Value)) : List (Nat × Value) := ls.map (fun q => (q.1, cv ba b q.2))
theorem sx_mAt {ba b : Nat} {ls : List (Nat × Value)} {i : Nat} {v : Value} (h : lk ls i = some v) : ∃ k : Nat, (sx_m ba b ls)[k]? = some (i, cv ba b v) := by
  induction ls with
  | nil => cases h
  | cons q r ih =>
    obtain ⟨j, w⟩ := q
    simp only [lk] at h
    cases hb : Nat.beq j i with
    | true =>
      rw [hb] at h
      have h : some w = some v := h
      cases h
      have := Nat.eq_of_beq_eq_true hb
      subst this
      exact ⟨0, rfl⟩
    | false =>
      rw [hb] at h
      obtain ⟨k, hk⟩ := ih h
      exact ⟨k + 1, hk⟩
theorem sx_has {ba b : Nat} {ls : List (Nat × Value)} {i nL : Nat} {v : Value} {lsA : Array Slot} (hl : lv_has lsA nL (sx_m ba b ls)) (h : lk ls i = some v) : lsA[i]? = some (.val (cv ba b v)) := by
  obtain ⟨k, hk⟩ := sx_mAt (ba := ba) (b := b) h
  exact lv_at hl k hk
theorem beq_ne {j i : Nat} (h : Nat.beq j i = false) : j ≠ i := fun e => by
  subst e
  rw [Nat.beq_refl] at h
  cases h
theorem dl_mem {ls : List (Nat × Value)} {i : Nat} {q : Nat × Value} (h : q ∈ dl i ls) : q ∈ ls ∧ q.1 ≠ i := by
  induction ls with
  | nil => cases h
  | cons p r ih =>
    obtain ⟨j, w⟩ := p
    simp only [dl] at h
    cases hb : Nat.beq j i with
    | true =>
      rw [hb] at h
      exact ⟨List.mem_cons_of_mem _ (ih h).1, (ih h).2⟩
    | false =>
      rw [hb] at h
      have h : q ∈ (j, w) :: dl i r := h
      rcases List.mem_cons.mp h with h | h
      · rw [h]; exact ⟨List.mem_cons_self, beq_ne hb⟩
      · exact ⟨List.mem_cons_of_mem _ (ih h).1, (ih h).2⟩
theorem sl_mem {ls : List (Nat × Value)} {i : Nat} {v : Value} {q : Nat × Value} (h : q ∈ sl ls i v) : q = (i, v) ∨ (q ∈ ls ∧ q.1 ≠ i) := by
  induction ls with
  | nil =>
    simp only [sl, List.mem_singleton] at h
    exact Or.inl h
  | cons p r ih =>
    obtain ⟨j, w⟩ := p
    simp only [sl] at h
    cases hb : Nat.beq j i with
    | true =>
      rw [hb] at h
      have h : q ∈ (i, v) :: dl i r := h
      rcases List.mem_cons.mp h with h | h
      · exact Or.inl h
      · exact Or.inr ⟨List.mem_cons_of_mem _ (dl_mem h).1, (dl_mem h).2⟩
    | false =>
      rw [hb] at h
      have h : q ∈ (j, w) :: sl r i v := h
      rcases List.mem_cons.mp h with h | h
      · exact Or.inr (by rw [h]; exact ⟨List.mem_cons_self, beq_ne hb⟩)
      · rcases ih h with h | h
        · exact Or.inl h
        · exact Or.inr ⟨List.mem_cons_of_mem _ h.1, h.2⟩
theorem kp_mem {n : Nat} {ls : List (Nat × Value)} {q : Nat × Value} (h : q ∈ kp n ls) : q ∈ ls := by
  induction ls with
  | nil => cases h
  | cons p r ih =>
    obtain ⟨j, w⟩ := p
    simp only [kp] at h
    cases hb : Nat.blt j n with
    | true =>
      rw [hb] at h
      have h : q ∈ (j, w) :: kp n r := h
      rcases List.mem_cons.mp h with h | h
      · rw [h]; exact List.mem_cons_self
      · exact List.mem_cons_of_mem _ (ih h)
    | false =>
      rw [hb] at h
      exact List.mem_cons_of_mem _ (ih h)
theorem kp_has {ba b n nL : Nat} {ls : List (Nat × Value)} {lsA : Array Slot} (hl : lv_has lsA nL (sx_m ba b ls)) : lv_has lsA nL (sx_m ba b (kp n ls)) := by
  refine ⟨hl.1, hl.2.1, fun q hq => ?_⟩
  obtain ⟨x, hx, rfl⟩ := List.mem_map.mp hq
  exact hl.2.2 _ (List.mem_map.mpr ⟨x, kp_mem hx, rfl⟩)
/-- the locals: what is listed is there; nothing of two words -/
def sx_L (ba b nL : Nat) (ls : List (Nat × Value)) (lsA : Array Slot) : Prop := lv_has lsA nL (sx_m ba b ls) ∧ ∀ q ∈ ls, q.2.category = 1
theorem sx_L.kp {ba b nL n : Nat} {ls : List (Nat × Value)} {lsA : Array Slot} (h : sx_L ba b nL ls lsA) : sx_L ba b nL (kp n ls) lsA := ⟨kp_has h.1, fun q hq => h.2 q (kp_mem hq)⟩
theorem sx_L.sl {ba b nL i : Nat} {ls : List (Nat × Value)} {lsA : Array Slot} {v : Value} (h : sx_L ba b nL ls lsA) (hv : v.category = 1) {ls' : Array Slot} (h' : lv_has ls' nL ((i, cv ba b v) :: (sx_m ba b ls).filter (fun q => !(q.1 == i) && !(q.1 + 1 == i && q.2.category == 2)))) : sx_L ba b nL (sl ls i v) ls' := by
  refine ⟨⟨h'.1, h'.2.1, fun q hq => ?_⟩, fun q hq => ?_⟩
  · obtain ⟨x, hx, rfl⟩ := List.mem_map.mp hq
    rcases sl_mem hx with rfl | ⟨h1, h2⟩
    · exact h'.2.2 _ List.mem_cons_self
    · refine h'.2.2 _ (List.mem_cons_of_mem _ (List.mem_filter.mpr ⟨List.mem_map.mpr ⟨x, h1, rfl⟩, ?_⟩))
      have := h.2 x h1
      simp [h2, cv_cat, this]
  · rcases sl_mem hq with rfl | ⟨h1, h2⟩
    · exact hv
    · exact h.2 q h1
end
section
/-! A STEP OF THE PICTURE IS A STEP OF THE MACHINE -/
section SXA
variable {p : Program} {l : Launch} {e : Env} {R : Room} {s : State} {m : MethodId} {args : Array Value} {below : List Frame} {meth : Method} {c : Code} {Q : State → Prop}
variable {D : va_G} {cK : Nat → ClassId} {ba b n0 nL : Nat} {H0 : Heap} {cc : ByteArray} {own : String}
/-- the machine, at a state of the picture, comes to Q -/
def sx_G (p : Program) (l : Launch) (e : Env) (R : Room) (s : State) (m : MethodId) (args : Array Value) (below : List Frame) (meth : Method) (c : Code) (Q : State → Prop) (D : va_G) (cK : Nat → ClassId) (ba b n0 nL : Nat) (H0 : Heap) (S : sx_S) : Prop :=
  ∀ (H : Heap) (locs : List Loc) (cells slots : Nat) (lsA : Array Slot), sx_H D cK ba H0 n0 S.2.2.2 H locs cells slots → sx_L ba b nL S.2.1 lsA → W p l e R s m args below meth c H locs cells slots Q (F0 m S.1 lsA (S.2.2.1.map (cv ba b)))
theorem g_co {v : Value} {n : Nat} {S S' : sx_S} (h : o_co v n S = some (.inr S')) (row : ∀ {H : Heap} {locs : List Loc} {cells slots : Nat} {ls : Array Slot} {rest : List Value}, W p l e R s m args below meth c H locs cells slots Q (F0 m (S.1 + n) ls (cv ba b v :: rest)) → W p l e R s m args below meth c H locs cells slots Q (F0 m S.1 ls rest))
    (k : sx_G p l e R s m args below meth c Q D cK ba b n0 nL H0 S') : sx_G p l e R s m args below meth c Q D cK ba b n0 nL H0 S := by
  cases h
  intro H locs cells slots lsA hH hL
  exact row (k H locs cells slots lsA hH hL)
theorem g_bi {f : Int32 → Int32 → Int32} {S S' : sx_S} (h : o_bi f S = some (.inr S')) (row : ∀ {H : Heap} {locs : List Loc} {cells slots : Nat} {ls : Array Slot} {rest : List Value} {x y : Int32}, W p l e R s m args below meth c H locs cells slots Q (F0 m (S.1 + 1) ls (.int (f x y) :: rest)) → W p l e R s m args below meth c H locs cells slots Q (F0 m S.1 ls (.int y :: .int x :: rest)))
    (k : sx_G p l e R s m args below meth c Q D cK ba b n0 nL H0 S') : sx_G p l e R s m args below meth c Q D cK ba b n0 nL H0 S := by
  obtain ⟨pc, ls, st, G⟩ := S
  simp only [o_bi] at h
  split at h
  · rename_i y x r
    cases h
    intro H locs cells slots lsA hH hL
    exact row (k H locs cells slots lsA hH hL)
  · cases h
theorem g_dv {f : Int32 → Int32 → Int32} {S S' : sx_S} (h : o_dv f S = some (.inr S')) (row : ∀ {H : Heap} {locs : List Loc} {cells slots : Nat} {ls : Array Slot} {rest : List Value} {x y : Int32}, ¬ y = 0 → W p l e R s m args below meth c H locs cells slots Q (F0 m (S.1 + 1) ls (.int (f x y) :: rest)) → W p l e R s m args below meth c H locs cells slots Q (F0 m S.1 ls (.int y :: .int x :: rest)))
    (k : sx_G p l e R s m args below meth c Q D cK ba b n0 nL H0 S') : sx_G p l e R s m args below meth c Q D cK ba b n0 nL H0 S := by
  obtain ⟨pc, ls, st, G⟩ := S
  simp only [o_dv] at h
  split at h
  · rename_i y x r
    split at h
    · cases h
    · rename_i hy
      cases h
      intro H locs cells slots lsA hH hL
      exact row hy (k H locs cells slots lsA hH hL)
  · cases h
theorem g_ladd (hx : p.tables.exec = Jvm.exec) (hb : c.code = cc) {S S' : sx_S} (h : o_ladd S = some (.inr S')) (hd : decode cc S.1 = .ok (.ladd, 1))
    (k : sx_G p l e R s m args below meth c Q D cK ba b n0 nL H0 S') : sx_G p l e R s m args below meth c Q D cK ba b n0 nL H0 S := by
  obtain ⟨pc, ls, st, G⟩ := S
  simp only [o_ladd] at h
  split at h
  · rename_i y x r
    cases h
    intro H locs cells slots lsA hH hL
    exact lv_ladd hx hb hd (k H locs cells slots lsA hH hL)
  · cases h
theorem g_lcmp (hx : p.tables.exec = Jvm.exec) (hb : c.code = cc) {S S' : sx_S} (h : o_lcmp S = some (.inr S')) (hd : decode cc S.1 = .ok (.lcmp, 1))
    (k : sx_G p l e R s m args below meth c Q D cK ba b n0 nL H0 S') : sx_G p l e R s m args below meth c Q D cK ba b n0 nL H0 S := by
  obtain ⟨pc, ls, st, G⟩ := S
  simp only [o_lcmp] at h
  split at h
  · rename_i y x r
    cases h
    intro H locs cells slots lsA hH hL
    exact W.lcmp hx hb hd (k H locs cells slots lsA hH hL)
  · cases h
theorem g_ldi {i n : Nat} {S S' : sx_S} (h : o_ldi i n S = some (.inr S')) (row : ∀ {H : Heap} {locs : List Loc} {cells slots : Nat} {ls : Array Slot} {rest : List Value} {x : Int32}, ls[i]? = some (.val (.int x)) → W p l e R s m args below meth c H locs cells slots Q (F0 m (S.1 + n) ls (.int x :: rest)) → W p l e R s m args below meth c H locs cells slots Q (F0 m S.1 ls rest))
    (k : sx_G p l e R s m args below meth c Q D cK ba b n0 nL H0 S') : sx_G p l e R s m args below meth c Q D cK ba b n0 nL H0 S := by
  obtain ⟨pc, ls, st, G⟩ := S
  simp only [o_ldi] at h
  split at h
  · rename_i x hl
    cases h
    intro H locs cells slots lsA hH hL
    exact row (sx_has hL.1 hl) (k H locs cells slots lsA hH hL)
  · cases h
theorem g_lda {i n : Nat} {S S' : sx_S} (h : o_lda i n S = some (.inr S')) (row : ∀ {H : Heap} {locs : List Loc} {cells slots : Nat} {ls : Array Slot} {rest : List Value} {x : Nat}, ls[i]? = some (.val (.ref x)) → W p l e R s m args below meth c H locs cells slots Q (F0 m (S.1 + n) ls (.ref x :: rest)) → W p l e R s m args below meth c H locs cells slots Q (F0 m S.1 ls rest))
    (k : sx_G p l e R s m args below meth c Q D cK ba b n0 nL H0 S') : sx_G p l e R s m args below meth c Q D cK ba b n0 nL H0 S := by
  obtain ⟨pc, ls, st, G⟩ := S
  simp only [o_lda] at h
  split at h
  · rename_i x hl
    cases h
    intro H locs cells slots lsA hH hL
    exact row (sx_has hL.1 hl) (k H locs cells slots lsA hH hL)
  · rename_i x hl
    cases h
    intro H locs cells slots lsA hH hL
    exact row (sx_has hL.1 hl) (k H locs cells slots lsA hH hL)
  · cases h
theorem g_sti {i n : Nat} {S S' : sx_S} (h : o_sti i n S = some (.inr S')) (row : ∀ {H : Heap} {locs : List Loc} {cells slots : Nat} {ls : Array Slot} {rest : List Value} {x : Int32} {lv : List (Nat × Value)}, lv_has ls nL lv → (∀ ls' : Array Slot, lv_has ls' nL ((i, Value.int x) :: lv.filter (fun q => !(q.1 == i) && !(q.1 + 1 == i && q.2.category == 2))) → W p l e R s m args below meth c H locs cells slots Q (F0 m (S.1 + n) ls' rest)) → W p l e R s m args below meth c H locs cells slots Q (F0 m S.1 ls (.int x :: rest)))
    (k : sx_G p l e R s m args below meth c Q D cK ba b n0 nL H0 S') : sx_G p l e R s m args below meth c Q D cK ba b n0 nL H0 S := by
  obtain ⟨pc, ls, st, G⟩ := S
  simp only [o_sti] at h
  split at h
  · rename_i x r
    cases h
    intro H locs cells slots lsA hH hL
    exact row hL.1 (fun ls' h' => k H locs cells slots ls' hH (hL.sl (v := .int x) rfl h'))
  · cases h
theorem g_sta {i n : Nat} {S S' : sx_S} (h : o_sta i n S = some (.inr S')) (row : ∀ {H : Heap} {locs : List Loc} {cells slots : Nat} {ls : Array Slot} {rest : List Value} {x : Nat} {lv : List (Nat × Value)}, lv_has ls nL lv → (∀ ls' : Array Slot, lv_has ls' nL ((i, Value.ref x) :: lv.filter (fun q => !(q.1 == i) && !(q.1 + 1 == i && q.2.category == 2))) → W p l e R s m args below meth c H locs cells slots Q (F0 m (S.1 + n) ls' rest)) → W p l e R s m args below meth c H locs cells slots Q (F0 m S.1 ls (.ref x :: rest)))
    (k : sx_G p l e R s m args below meth c Q D cK ba b n0 nL H0 S') : sx_G p l e R s m args below meth c Q D cK ba b n0 nL H0 S := by
  obtain ⟨pc, ls, st, G⟩ := S
  simp only [o_sta] at h
  split at h
  · rename_i x r
    cases h
    intro H locs cells slots lsA hH hL
    exact row hL.1 (fun ls' h' => k H locs cells slots ls' hH (hL.sl (v := .ref x) rfl h'))
  · cases h
theorem g_inc (hx : p.tables.exec = Jvm.exec) (hb : c.code = cc) {i : Nat} {z : Int} {S S' : sx_S} (h : o_inc i z S = some (.inr S')) (hi : i < nL) (hd : decode cc S.1 = .ok (.iinc i z, 3))
    (k : sx_G p l e R s m args below meth c Q D cK ba b n0 nL H0 S') : sx_G p l e R s m args below meth c Q D cK ba b n0 nL H0 S := by
  obtain ⟨pc, ls, st, G⟩ := S
  simp only [o_inc] at h
  split at h
  · rename_i x hl
    cases h
    intro H locs cells slots lsA hH hL
    obtain ⟨j, hj⟩ := sx_mAt (ba := ba) (b := b) hl
    exact lv_iinc hx hb hd hL.1 hj rfl hi rfl (fun ls' h' => k H locs cells slots ls' hH (hL.sl (v := .int (x + Int32.ofInt z)) rfl h'))
  · cases h
theorem g_dup (hx : p.tables.exec = Jvm.exec) (hb : c.code = cc) {S S' : sx_S} (h : o_dup S = some (.inr S')) (hd : decode cc S.1 = .ok (.dup, 1))
    (k : sx_G p l e R s m args below meth c Q D cK ba b n0 nL H0 S') : sx_G p l e R s m args below meth c Q D cK ba b n0 nL H0 S := by
  obtain ⟨pc, ls, st, G⟩ := S
  simp only [o_dup] at h
  split at h
  · rename_i x r
    cases h
    intro H locs cells slots lsA hH hL
    exact lv_dup hx hb hd rfl (k H locs cells slots lsA hH hL)
  · rename_i x r
    cases h
    intro H locs cells slots lsA hH hL
    exact lv_dup hx hb hd rfl (k H locs cells slots lsA hH hL)
  · cases h
theorem g_dup2 (hx : p.tables.exec = Jvm.exec) (hb : c.code = cc) {S S' : sx_S} (h : o_dup2 S = some (.inr S')) (hd : decode cc S.1 = .ok (.dup2, 1))
    (k : sx_G p l e R s m args below meth c Q D cK ba b n0 nL H0 S') : sx_G p l e R s m args below meth c Q D cK ba b n0 nL H0 S := by
  obtain ⟨pc, ls, st, G⟩ := S
  simp only [o_dup2] at h
  split at h
  · rename_i x y r
    cases h
    intro H locs cells slots lsA hH hL
    exact lv_dup2_11 hx hb hd rfl rfl (k H locs cells slots lsA hH hL)
  · cases h
theorem g_pop (hx : p.tables.exec = Jvm.exec) (hb : c.code = cc) {S S' : sx_S} (h : o_pop S = some (.inr S')) (hd : decode cc S.1 = .ok (.pop, 1))
    (k : sx_G p l e R s m args below meth c Q D cK ba b n0 nL H0 S') : sx_G p l e R s m args below meth c Q D cK ba b n0 nL H0 S := by
  obtain ⟨pc, ls, st, G⟩ := S
  simp only [o_pop] at h
  split at h
  · rename_i x r
    cases h
    intro H locs cells slots lsA hH hL
    exact lv_pop hx hb hd rfl (k H locs cells slots lsA hH hL)
  · cases h
theorem g_goto (hx : p.tables.exec = Jvm.exec) (hb : c.code = cc) {n t : Nat} {off : Int} {S S' : sx_S} (h : o_goto n t S = some (.inr S')) (hd : decode cc S.1 = .ok (.goto off, 3)) (ht : (S.1 : Int) + off = (t : Int))
    (k : sx_G p l e R s m args below meth c Q D cK ba b n0 nL H0 S') : sx_G p l e R s m args below meth c Q D cK ba b n0 nL H0 S := by
  obtain ⟨pc, ls, st, G⟩ := S
  cases h
  intro H locs cells slots lsA hH hL
  exact lv_goto hx hb hd ht (k H locs cells slots lsA hH hL.kp)
theorem g_if (hx : p.tables.exec = Jvm.exec) (hb : c.code = cc) {cd : Jvm.ClassFile.Cond} {t : Nat} {off : Int} {S S' : sx_S} (h : o_if cd t S = some (.inr S')) (hd : decode cc S.1 = .ok (.ifCond cd off, 3)) (ht : (S.1 : Int) + off = (t : Int))
    (k : sx_G p l e R s m args below meth c Q D cK ba b n0 nL H0 S') : sx_G p l e R s m args below meth c Q D cK ba b n0 nL H0 S := by
  obtain ⟨pc, ls, st, G⟩ := S
  simp only [o_if] at h
  split at h
  · rename_i x r
    intro H locs cells slots lsA hH hL
    cases cd <;> dsimp only at h <;> split at h <;> rename_i hc <;> cases h
    · exact lv_if_eq hx hb hd ht (fun _ => k H locs cells slots lsA hH hL) (fun z => absurd hc z)
    · exact lv_if_eq hx hb hd ht (fun z => absurd z hc) (fun _ => k H locs cells slots lsA hH hL)
    · exact lv_if_ne hx hb hd ht (fun z => absurd hc z) (fun _ => k H locs cells slots lsA hH hL)
    · exact lv_if_ne hx hb hd ht (fun _ => k H locs cells slots lsA hH hL) (fun z => absurd z hc)
    · exact lv_if_lt hx hb hd ht (fun _ => k H locs cells slots lsA hH hL) (fun z => absurd hc z)
    · exact lv_if_lt hx hb hd ht (fun z => absurd z hc) (fun _ => k H locs cells slots lsA hH hL)
    · exact lv_if_ge hx hb hd ht (fun _ => k H locs cells slots lsA hH hL) (fun z => absurd hc z)
    · exact lv_if_ge hx hb hd ht (fun z => absurd z hc) (fun _ => k H locs cells slots lsA hH hL)
    · exact lv_if_gt hx hb hd ht (fun _ => k H locs cells slots lsA hH hL) (fun z => absurd hc z)
    · exact lv_if_gt hx hb hd ht (fun z => absurd z hc) (fun _ => k H locs cells slots lsA hH hL)
    · exact lv_if_le hx hb hd ht (fun _ => k H locs cells slots lsA hH hL) (fun z => absurd hc z)
    · exact lv_if_le hx hb hd ht (fun z => absurd z hc) (fun _ => k H locs cells slots lsA hH hL)
  · cases h
theorem g_icmp (hx : p.tables.exec = Jvm.exec) (hb : c.code = cc) {cd : Jvm.ClassFile.Cond} {t : Nat} {off : Int} {S S' : sx_S} (h : o_icmp cd t S = some (.inr S')) (hd : decode cc S.1 = .ok (.if_icmp cd off, 3)) (ht : (S.1 : Int) + off = (t : Int))
    (k : sx_G p l e R s m args below meth c Q D cK ba b n0 nL H0 S') : sx_G p l e R s m args below meth c Q D cK ba b n0 nL H0 S := by
  obtain ⟨pc, ls, st, G⟩ := S
  simp only [o_icmp] at h
  split at h
  · rename_i y x r
    intro H locs cells slots lsA hH hL
    cases cd <;> dsimp only at h <;> split at h <;> rename_i hc <;> cases h
    · exact lv_icmp_eq hx hb hd ht (fun _ => k H locs cells slots lsA hH hL) (fun z => absurd hc z)
    · exact lv_icmp_eq hx hb hd ht (fun z => absurd z hc) (fun _ => k H locs cells slots lsA hH hL)
    · exact lv_icmp_ne hx hb hd ht (fun z => absurd hc z) (fun _ => k H locs cells slots lsA hH hL)
    · exact lv_icmp_ne hx hb hd ht (fun _ => k H locs cells slots lsA hH hL) (fun z => absurd z hc)
    · exact lv_icmp_lt hx hb hd ht (fun _ => k H locs cells slots lsA hH hL) (fun z => absurd hc z)
    · exact lv_icmp_lt hx hb hd ht (fun z => absurd z hc) (fun _ => k H locs cells slots lsA hH hL)
    · exact lv_icmp_ge hx hb hd ht (fun _ => k H locs cells slots lsA hH hL) (fun z => absurd hc z)
    · exact lv_icmp_ge hx hb hd ht (fun z => absurd z hc) (fun _ => k H locs cells slots lsA hH hL)
    · exact lv_icmp_gt hx hb hd ht (fun _ => k H locs cells slots lsA hH hL) (fun z => absurd hc z)
    · exact lv_icmp_gt hx hb hd ht (fun z => absurd z hc) (fun _ => k H locs cells slots lsA hH hL)
    · exact lv_icmp_le hx hb hd ht (fun _ => k H locs cells slots lsA hH hL) (fun z => absurd hc z)
    · exact lv_icmp_le hx hb hd ht (fun z => absurd z hc) (fun _ => k H locs cells slots lsA hH hL)
  · cases h
end SXA
end
section
/-! fields -/
section SXB
variable {p : Program} {l : Launch} {e : Env} {R : Room} {s : State} {m : MethodId} {args : Array Value} {below : List Frame} {meth : Method} {c : Code} {Q : State → Prop}
variable {D : va_G} {cK : Nat → ClassId} {ba b n0 nL : Nat} {H0 : Heap} {cc : ByteArray} {own : String}
theorem hp_in0 : ∀ w ∈ u_ws RX0 TX0 8, w ∈ lw_tbl ∧ goodWord w = true := by decide +kernel
theorem hp_in1 : ∀ w ∈ u_ws RX1 TX1 3, w ∈ lw_tbl ∧ goodWord w = true := by decide +kernel
theorem hp_in2 : ∀ w ∈ u_ws RX2 TX2 5, w ∈ lw_tbl ∧ goodWord w = true := by decide +kernel
theorem hp_in3 : ∀ w ∈ u_ws RX3 TX3 9, w ∈ lw_tbl ∧ goodWord w = true := by decide +kernel
theorem hp_in4 : ∀ w ∈ u_ws RX4 TX4 5, w ∈ lw_tbl ∧ goodWord w = true := by decide +kernel
theorem hp_in5 : ∀ w ∈ u_ws RX5 TX5 12, w ∈ lw_tbl ∧ goodWord w = true := by decide +kernel
theorem hp_in6 : ∀ w ∈ u_ws RX6 TX6 24, w ∈ lw_tbl ∧ goodWord w = true := by decide +kernel
theorem hp_in {ci : Nat} (h : ci < 7) : ∀ w ∈ u_ws (hp_R ci) (hp_T ci) (hp_n ci), w ∈ lw_tbl ∧ goodWord w = true := by
  match ci, h with
  | 0, _ => exact hp_in0 | 1, _ => exact hp_in1 | 2, _ => exact hp_in2 | 3, _ => exact hp_in3 | 4, _ => exact hp_in4 | 5, _ => exact hp_in5 | 6, _ => exact hp_in6
  | k + 7, h => omega
theorem hp_uws (hT : sx_T s) {ci : Nat} (h : ci < 7) (A : Array Value) : ∀ w ∈ u_ws (hp_R ci) (hp_T ci) (hp_n ci), w.before A s = true := fun w hw => hT.1 w (hp_in h w hw).1 (hp_in h w hw).2 A
theorem hp_at {G : hp_G} {o ci : Nat} (ho : sx_is G o (0, ci)) : (hp_w cK ba G)[o]? = some (ba + o, .inr (ci, hp_fs ba G ci o)) := by rw [hp_wAt cK ba ho.1, hp_eO ho.2]
theorem g_get0 (hx : p.tables.exec = Jvm.exec) (hb : c.code = cc) (hown : s.vm.findClass own = some m.cls) (hT : sx_T s) (hK : va_K D hp_cl (hp_tys cK) s) {ci k idx : Nat} (hci : ci < 7) (hk : k < hp_n ci) (hlk : (Cond.fieldLink own idx (hp_T ci k).1 (hp_T ci k).2.1 (hp_T ci k).2.2.1).before args s = true)
    {G : hp_G} {H : Heap} {locs : List Loc} {cells slots : Nat} (hH : sx_H D cK ba H0 n0 G H locs cells slots) {o : Nat} (ho : sx_is G o (0, ci)) {pc : Nat} {ls : Array Slot} {rest : List Value} (hd : decode cc pc = .ok (.getfield idx, 3))
    (kk : W p l e R s m args below meth c H locs cells slots Q (F0 m (pc + 3) ls (hp_f ba G ci o k :: rest))) : W p l e R s m args below meth c H locs cells slots Q (F0 m pc ls (.ref (ba + o) :: rest)) :=
  va_get (Ts := u_ws (hp_R ci) (hp_T ci) (hp_n ci)) hx hb (hp_uws hT hci args) (fun w h => h) hown hK hH.1 o (hp_at ho) (hp_clE hci) k hk hlk (fun x h => h) (hp_fsAt ba G ci o hk) hd kk
theorem g_get (hx : p.tables.exec = Jvm.exec) (hb : c.code = cc) (hown : s.vm.findClass own = some m.cls) (hT : sx_T s) (hK : va_K D hp_cl (hp_tys cK) s) {ci k idx : Nat} (hci : ci < 7) (hk : k < hp_n ci) (hlk : (Cond.fieldLink own idx (hp_T ci k).1 (hp_T ci k).2.1 (hp_T ci k).2.2.1).before args s = true)
    {S S' : sx_S} (h : o_get ci k S = some (.inr S')) (hd : decode cc S.1 = .ok (.getfield idx, 3))
    (kk : sx_G p l e R s m args below meth c Q D cK ba b n0 nL H0 S') : sx_G p l e R s m args below meth c Q D cK ba b n0 nL H0 S := by
  obtain ⟨pc, ls, st, G⟩ := S
  simp only [o_get] at h
  split at h
  · rename_i o r
    split at h
    · rename_i ho
      intro H locs cells slots lsA hH hL
      refine g_get0 hx hb hown hT hK hci hk hlk hH ho hd ?_
      have hf : hp_f ba G ci o k = hp_f ba G ci o k := rfl
      conv at hf => rhs; unfold hp_f
      split at h
      · rename_i ht
        cases h
        simp only [ht] at hf
        rw [hf]
        exact kk H locs cells slots lsA hH hL
      · rename_i ht
        cases h
        simp only [ht] at hf
        rw [hf]
        exact kk H locs cells slots lsA hH hL
      · rename_i ht
        cases h
        simp only [ht] at hf
        rw [hf]
        exact kk H locs cells slots lsA hH hL
      · rename_i ht
        split at h
        · rename_i q hq
          cases h
          simp only [ht, hq] at hf
          rw [hf]
          exact kk H locs cells slots lsA hH hL
        · cases h
      · rename_i ht
        split at h
        · rename_i q hq
          cases h
          simp only [ht, hq] at hf
          rw [hf]
          exact kk H locs cells slots lsA hH hL
        · cases h
      · cases h
    · cases h
  · cases h
theorem g_put0 (hx : p.tables.exec = Jvm.exec) (hb : c.code = cc) (hown : s.vm.findClass own = some m.cls) (hT : sx_T s) (hK : va_K D hp_cl (hp_tys cK) s) {ci k idx : Nat} (hci : ci < 7) (hk : k < hp_n ci) (hlk : (Cond.fieldLink own idx (hp_T ci k).1 (hp_T ci k).2.1 (hp_T ci k).2.2.1).before args s = true)
    (hfin : (hp_T ci k).2.2.2 = false ∨ ((hp_T ci k).2.2.2 = true ∧ meth.name = "<init>" ∧ (hp_T ci k).1 = own))
    {G G' : hp_G} {H : Heap} {locs : List Loc} {cells slots : Nat} (hH : sx_H D cK ba H0 n0 G H locs cells slots) {o : Nat} (ho : sx_is G o (0, ci)) {v : Value} (hn : narrow (hp_ty ci k) v = v) (hfit : fits (hp_ty ci k) v = true)
    (hN : G'.2.2.2 = G.2.2.2) (hoth : ∀ q, q ≠ o → hp_e cK ba G' q = hp_e cK ba G q) (hof : ∀ j, j ≠ k → hp_f ba G' ci o j = hp_f ba G ci o j) (hkv : hp_f ba G' ci o k = v)
    {pc : Nat} {ls : Array Slot} {rest : List Value} (hd : decode cc pc = .ok (.putfield idx, 3))
    (kk : ∀ (H' : Heap) (locs' : List Loc), sx_H D cK ba H0 n0 G' H' locs' cells slots → W p l e R s m args below meth c H' locs' cells slots Q (F0 m (pc + 3) ls rest)) : W p l e R s m args below meth c H locs cells slots Q (F0 m pc ls (v :: .ref (ba + o) :: rest)) := by
  have hset : (hp_w cK ba G).set o (ba + o, .inr (ci, (hp_fs ba G ci o).set k v)) = hp_w cK ba G' := hp_set hN hoth (by rw [hp_eO ho.2, hp_fsSet hof hkv])
  have hlen : k < (hp_fs ba G ci o).length := by simpa [hp_fs] using hk
  rcases hfin with hfin | ⟨hfin, hin2, hdecl⟩
  · exact va_put (Ts := u_ws (hp_R ci) (hp_T ci) (hp_n ci)) (A := fun q => ba ≤ q) hx hb (hp_uws hT hci args) (fun w h => h) (hp_ty ci) (hp_tyok hci) (hp_nm hci) hown hK hH.1 (hp_D cK ba G) hH.2.1 o (hp_at ho) (hp_clE hci) k hk hlk (fun x h => h) hfin (hp_tyok hci k hk) hn hfit hlen hd (fun H1 locs1 a1 _ a3 => kk H1 locs1 (hH.same hN (by rw [hset] at a1; exact a1) a3))
  · exact va_putF (Ts := u_ws (hp_R ci) (hp_T ci) (hp_n ci)) (A := fun q => ba ≤ q) hx hb (hp_uws hT hci args) (fun w h => h) (hp_ty ci) (hp_tyok hci) (hp_nm hci) hown hK hH.1 (hp_D cK ba G) hH.2.1 o (hp_at ho) (hp_clE hci) k hk hlk (fun x h => h) hfin hin2 hdecl (hp_tyok hci k hk) hn hfit hlen hd (fun H1 locs1 a1 _ a3 => kk H1 locs1 (hH.same hN (by rw [hset] at a1; exact a1) a3))
theorem gi_e {G : hp_G} {o k : Nat} {x : Int32} {q : Nat} (h : q ≠ o) : hp_e cK ba (gi G o k x) q = hp_e cK ba G q := hp_eX (hw_ne _ _ _ h) rfl rfl
theorem gl_e {G : hp_G} {o k : Nat} {x : Int64} {q : Nat} (h : q ≠ o) : hp_e cK ba (gl G o k x) q = hp_e cK ba G q := hp_eX rfl (hw_ne _ _ _ h) rfl
theorem gr_e {G : hp_G} {o k : Nat} {x : Option Nat} {q : Nat} (h : q ≠ o) : hp_e cK ba (gr G o k x) q = hp_e cK ba G q := hp_eX rfl rfl (hw_ne _ _ _ h)
theorem gi_f {G : hp_G} {ci o k j : Nat} {x : Int32} (h : j ≠ k) : hp_f ba (gi G o k x) ci o j = hp_f ba G ci o j := by simp [hp_f, gi, hw, h]
theorem gl_f {G : hp_G} {ci o k j : Nat} {x : Int64} (h : j ≠ k) : hp_f ba (gl G o k x) ci o j = hp_f ba G ci o j := by simp [hp_f, gl, hw, h]
theorem gr_f {G : hp_G} {ci o k j : Nat} {x : Option Nat} (h : j ≠ k) : hp_f ba (gr G o k x) ci o j = hp_f ba G ci o j := by simp [hp_f, gr, hw, h]
theorem g_put (hx : p.tables.exec = Jvm.exec) (hb : c.code = cc) (hown : s.vm.findClass own = some m.cls) (hT : sx_T s) (hK : va_K D hp_cl (hp_tys cK) s) {ci k idx : Nat} (hci : ci < 7) (hk : k < hp_n ci) (hlk : (Cond.fieldLink own idx (hp_T ci k).1 (hp_T ci k).2.1 (hp_T ci k).2.2.1).before args s = true)
    (hfin : (hp_T ci k).2.2.2 = false ∨ ((hp_T ci k).2.2.2 = true ∧ meth.name = "<init>" ∧ (hp_T ci k).1 = own))
    {S S' : sx_S} (h : o_put ci k S = some (.inr S')) (hd : decode cc S.1 = .ok (.putfield idx, 3))
    (kk : sx_G p l e R s m args below meth c Q D cK ba b n0 nL H0 S') : sx_G p l e R s m args below meth c Q D cK ba b n0 nL H0 S := by
  obtain ⟨pc, ls, st, G⟩ := S
  simp only [o_put] at h
  split at h
  · rename_i x o r
    split at h
    · rename_i ht
      split at h
      · rename_i ho
        cases h
        intro H locs cells slots lsA hH hL
        exact g_put0 (G' := gi G o k x) hx hb hown hT hK hci hk hlk hfin hH ho (by rw [ht]; rfl) (by rw [ht]; rfl) rfl (fun q hq => gi_e hq) (fun j hj => gi_f hj) (by simp [hp_f, ht, gi, hw, cv]) hd (fun H' locs' hH' => kk H' locs' cells slots lsA hH' hL)
      · cases h
    · rename_i ht
      split at h
      · rename_i ho
        cases h
        intro H locs cells slots lsA hH hL
        exact g_put0 (G' := gi G o k x) hx hb hown hT hK hci hk hlk hfin hH ho.1 (by rw [ht]; rcases ho.2 with rfl | rfl <;> rfl) (by rw [ht]; rcases ho.2 with rfl | rfl <;> rfl) rfl (fun q hq => gi_e hq) (fun j hj => gi_f hj) (by simp [hp_f, ht, gi, hw, cv]) hd (fun H' locs' hH' => kk H' locs' cells slots lsA hH' hL)
      · cases h
    · cases h
  · rename_i x o r
    split at h
    · rename_i ht
      split at h
      · rename_i ho
        cases h
        intro H locs cells slots lsA hH hL
        exact g_put0 (G' := gl G o k x) hx hb hown hT hK hci hk hlk hfin hH ho (by rw [ht]; rfl) (by rw [ht]; rfl) rfl (fun q hq => gl_e hq) (fun j hj => gl_f hj) (by simp [hp_f, ht, gl, hw, cv]) hd (fun H' locs' hH' => kk H' locs' cells slots lsA hH' hL)
      · cases h
    · cases h
  · rename_i x o r
    split at h
    · rename_i ht
      split at h
      · rename_i ho
        cases h
        intro H locs cells slots lsA hH hL
        exact g_put0 (G' := gr G o k (some x)) (v := .ref (ba + x)) hx hb hown hT hK hci hk hlk hfin hH ho (by rw [ht]; rfl) (by rw [ht]; rfl) rfl (fun q hq => gr_e hq) (fun j hj => gr_f hj) (by simp [hp_f, ht, gr, hw, va_rf]) hd (fun H' locs' hH' => kk H' locs' cells slots lsA hH' hL)
      · cases h
    · rename_i ht
      split at h
      · rename_i ho
        cases h
        intro H locs cells slots lsA hH hL
        exact g_put0 (G' := gr G o k (some x)) (v := .ref (ba + x)) hx hb hown hT hK hci hk hlk hfin hH ho (by rw [ht]; rfl) (by rw [ht]; rfl) rfl (fun q hq => gr_e hq) (fun j hj => gr_f hj) (by simp [hp_f, ht, gr, hw, va_rf]) hd (fun H' locs' hH' => kk H' locs' cells slots lsA hH' hL)
      · cases h
    · cases h
  · cases h
end SXB
end
section
/-! arrays -/
section SXC
variable {p : Program} {l : Launch} {e : Env} {R : Room} {s : State} {m : MethodId} {args : Array Value} {below : List Frame} {meth : Method} {c : Code} {Q : State → Prop}
variable {D : va_G} {cK : Nat → ClassId} {ba b n0 nL : Nat} {H0 : Heap} {cc : ByteArray} {own : String}
theorem sh_pair {o j : Nat} (h : (hp_sh o).1 = j) : hp_sh o = (j, (hp_sh o).2) := by rw [← h]
theorem hp_atI {G : hp_G} {o : Nat} (h1 : o < G.2.2.2) (h2 : (hp_sh o).1 = 1) : (hp_w cK ba G)[o]? = some (ba + o, .inl (cK 0, (hp_sh o).2, .inl (G.1 o))) := by rw [hp_wAt cK ba h1, hp_eI (sh_pair h2)]
theorem hp_atZ {G : hp_G} {o : Nat} (h1 : o < G.2.2.2) (h2 : (hp_sh o).1 = 2) : (hp_w cK ba G)[o]? = some (ba + o, .inl (cK 1, (hp_sh o).2, .inl (G.1 o))) := by rw [hp_wAt cK ba h1, hp_eZ (sh_pair h2)]
theorem hp_atR {G : hp_G} {o j : Nat} (h1 : o < G.2.2.2) (h2 : (hp_sh o).1 = j + 3) : (hp_w cK ba G)[o]? = some (ba + o, .inl (cK (j + 2), (hp_sh o).2, .inr (.inr (.inr (.inr (fun k => (G.2.2.1 o k).map (fun q => ba + q))))))) := by rw [hp_wAt cK ba h1, hp_eR (sh_pair h2)]
theorem g_iald (hx : p.tables.exec = Jvm.exec) (hb : c.code = cc) (hK : va_K D hp_cl (hp_tys cK) s) {sc : Option (Nat × (Nat → Int32))} (hsc : ∀ L xs, sc = some (L, xs) → va_X b L xs s H0 ∧ b < H0.size ∧ b < ba) {S S' : sx_S} (h : o_iald sc S = some (.inr S')) (hd : decode cc S.1 = .ok (.iaload, 1))
    (kk : sx_G p l e R s m args below meth c Q D cK ba b n0 nL H0 S') : sx_G p l e R s m args below meth c Q D cK ba b n0 nL H0 S := by
  obtain ⟨pc, ls, st, G⟩ := S
  simp only [o_iald] at h
  split at h
  · rename_i i o r
    split at h
    · rename_i ho
      cases h
      intro H locs cells slots lsA hH hL
      exact va_iald (t0 := 0) hx hb hK hH.1 o (hp_atI ho.1 ho.2.1) rfl ho.2.2 hd (kk H locs cells slots lsA hH hL)
    · cases h
  · rename_i i z r
    split at h
    · rename_i L xs
      split at h
      · rename_i hi
        cases h
        intro H locs cells slots lsA hH hL
        obtain ⟨h1, h2, h3⟩ := hsc L xs rfl
        exact va_sld (A := fun q => ba ≤ q) hx hb h1 h2 (Nat.not_le.mpr h3) hH.2.1 hi hd (kk H locs cells slots lsA hH hL)
      · cases h
    · cases h
  · cases h
theorem g_alen (hx : p.tables.exec = Jvm.exec) (hb : c.code = cc) {sc : Option (Nat × (Nat → Int32))} (hsc : ∀ L xs, sc = some (L, xs) → va_X b L xs s H0 ∧ b < H0.size ∧ b < ba) {S S' : sx_S} (h : o_alen sc S = some (.inr S')) (hd : decode cc S.1 = .ok (.arraylength, 1))
    (kk : sx_G p l e R s m args below meth c Q D cK ba b n0 nL H0 S') : sx_G p l e R s m args below meth c Q D cK ba b n0 nL H0 S := by
  obtain ⟨pc, ls, st, G⟩ := S
  simp only [o_alen] at h
  split at h
  · rename_i z r
    split at h
    · rename_i L xs
      cases h
      intro H locs cells slots lsA hH hL
      obtain ⟨h1, h2, h3⟩ := hsc L xs rfl
      exact va_slen (A := fun q => ba ≤ q) hx hb h1 h2 (Nat.not_le.mpr h3) hH.2.1 hd (kk H locs cells slots lsA hH hL)
    · cases h
  · cases h
theorem g_zald (hx : p.tables.exec = Jvm.exec) (hb : c.code = cc) (hK : va_K D hp_cl (hp_tys cK) s) {S S' : sx_S} (h : o_zald S = some (.inr S')) (hd : decode cc S.1 = .ok (.baload, 1))
    (kk : sx_G p l e R s m args below meth c Q D cK ba b n0 nL H0 S') : sx_G p l e R s m args below meth c Q D cK ba b n0 nL H0 S := by
  obtain ⟨pc, ls, st, G⟩ := S
  simp only [o_zald] at h
  split at h
  · rename_i i o r
    split at h
    · rename_i ho
      cases h
      intro H locs cells slots lsA hH hL
      exact va_zald (t0 := 1) hx hb hK hH.1 o (hp_atZ ho.1 ho.2.1) rfl ho.2.2 hd (kk H locs cells slots lsA hH hL)
    · cases h
  · cases h
theorem hp_tyR {j : Nat} (hj : j < 2) : (hp_tys cK)[j + 2]? = some (cK (j + 2), .object (if j = 0 then RX0 else RX2)) := by
  match j, hj with
  | 0, _ => rfl
  | 1, _ => rfl
theorem g_aald (hx : p.tables.exec = Jvm.exec) (hb : c.code = cc) (hK : va_K D hp_cl (hp_tys cK) s) {j : Nat} (hj : j < 2) {S S' : sx_S} (h : o_aald j S = some (.inr S')) (hd : decode cc S.1 = .ok (.aaload, 1))
    (kk : sx_G p l e R s m args below meth c Q D cK ba b n0 nL H0 S') : sx_G p l e R s m args below meth c Q D cK ba b n0 nL H0 S := by
  obtain ⟨pc, ls, st, G⟩ := S
  simp only [o_aald] at h
  split at h
  · rename_i i o r
    split at h
    · rename_i ho
      split at h
      · rename_i q hq
        cases h
        intro H locs cells slots lsA hH hL
        have := kk H locs cells slots lsA hH hL
        refine va_aldq (t0 := j + 2) hx hb hK hH.1 o (hp_atR ho.1 ho.2.1) (hp_tyR hj) ho.2.2 hd ?_
        rw [hq]
        exact this
      · cases h
    · cases h
  · cases h
theorem g_iast (hx : p.tables.exec = Jvm.exec) (hb : c.code = cc) (hK : va_K D hp_cl (hp_tys cK) s) {S S' : sx_S} (h : o_iast S = some (.inr S')) (hd : decode cc S.1 = .ok (.iastore, 1))
    (kk : sx_G p l e R s m args below meth c Q D cK ba b n0 nL H0 S') : sx_G p l e R s m args below meth c Q D cK ba b n0 nL H0 S := by
  obtain ⟨pc, ls, st, G⟩ := S
  simp only [o_iast] at h
  split at h
  · rename_i x i o r
    split at h
    · rename_i ho
      cases h
      intro H locs cells slots lsA hH hL
      refine va_iast (t0 := 0) (A := fun q => ba ≤ q) hx hb hK hH.1 (hp_D cK ba G) hH.2.1 o (hp_atI ho.1 ho.2.1) rfl ho.2.2 hd (fun H1 locs1 a1 _ a3 => ?_)
      rw [hp_set (G := G) (G' := gi G o i.toNatClampNeg x) (o := o) rfl (fun q hq => gi_e hq) (by rw [hp_eI (sh_pair ho.2.1), ← hw_upd]; rfl)] at a1
      exact kk H1 locs1 cells slots lsA (hH.same rfl a1 a3) hL
    · cases h
  · cases h
theorem g_zast (hx : p.tables.exec = Jvm.exec) (hb : c.code = cc) (hK : va_K D hp_cl (hp_tys cK) s) {S S' : sx_S} (h : o_zast S = some (.inr S')) (hd : decode cc S.1 = .ok (.bastore, 1))
    (kk : sx_G p l e R s m args below meth c Q D cK ba b n0 nL H0 S') : sx_G p l e R s m args below meth c Q D cK ba b n0 nL H0 S := by
  obtain ⟨pc, ls, st, G⟩ := S
  simp only [o_zast] at h
  split at h
  · rename_i x i o r
    split at h
    · rename_i ho
      obtain ⟨ho, hx1⟩ := ho
      cases h
      intro H locs cells slots lsA hH hL
      refine va_zast (t0 := 1) (A := fun q => ba ≤ q) hx hb hK hH.1 (hp_D cK ba G) hH.2.1 o (hp_atZ ho.1 ho.2.1) rfl ho.2.2 hd (fun H1 locs1 a1 _ a3 => ?_)
      have hnar : vp_nar .boolean x = x := by rcases hx1 with rfl | rfl <;> rfl
      rw [hnar, hp_set (G := G) (G' := gi G o i.toNatClampNeg x) (o := o) rfl (fun q hq => gi_e hq) (by rw [hp_eZ (sh_pair ho.2.1), ← hw_upd]; rfl)] at a1
      exact kk H1 locs1 cells slots lsA (hH.same rfl a1 a3) hL
    · cases h
  · cases h
theorem g_aast (hx : p.tables.exec = Jvm.exec) (hb : c.code = cc) (hK : va_K D hp_cl (hp_tys cK) s) {j ci : Nat} (hj : (j = 0 ∧ ci = 0) ∨ (j = 1 ∧ ci = 2)) {S S' : sx_S} (h : o_aast j ci S = some (.inr S')) (hd : decode cc S.1 = .ok (.aastore, 1))
    (kk : sx_G p l e R s m args below meth c Q D cK ba b n0 nL H0 S') : sx_G p l e R s m args below meth c Q D cK ba b n0 nL H0 S := by
  obtain ⟨pc, ls, st, G⟩ := S
  simp only [o_aast] at h
  split at h
  · rename_i v i o r
    split at h
    · rename_i ho
      obtain ⟨ho, hv⟩ := ho
      cases h
      intro H locs cells slots lsA hH hL
      have hci : ci < 7 := by omega
      have ht : (hp_tys cK)[j + 2]? = some (cK (j + 2), .object (hp_R ci, hp_T ci, hp_n ci).1) := by
        rcases hj with ⟨rfl, rfl⟩ | ⟨rfl, rfl⟩ <;> rfl
      refine va_astq (A := fun q => ba ≤ q) hx hb hK hH.1 (hp_D cK ba G) hH.2.1 o (j + 2) v ci (hp_atR ho.1 ho.2.1) ht (hp_at hv) (hp_clE hci) ho.2.2 hd (fun H1 locs1 a1 _ a3 => ?_)
      rw [hp_set (G := G) (G' := gr G o i.toNatClampNeg (some v)) (o := o) rfl (fun q hq => gr_e hq) (by
        rw [hp_eR (sh_pair ho.2.1)]
        congr 7
        funext k
        simp only [gr, hw, va_up]
        by_cases hk : k = i.toNatClampNeg <;> simp [hk])] at a1
      exact kk H1 locs1 cells slots lsA (hH.same rfl a1 a3) hL
    · cases h
  · cases h
theorem gy_e {G : hp_G} {q d sp dp n o : Nat} (h : o ≠ d) : hp_e cK ba (gy G q d sp dp n) o = hp_e cK ba G o := hp_eX (hy_ne _ _ _ _ _ h) rfl rfl
theorem g_copy (hx : p.tables.exec = Jvm.exec) (hb : c.code = cc) (hml : c.maxLocals = nL) (hown : s.vm.findClass own = some m.cls) (hK : va_K D hp_cl (hp_tys cK) s) {idx : Nat} (hlk : (Cond.methodLink own idx arraycopyName).before args s = true) (hnat : (Cond.native arraycopyName).before args s = true) (hstat : (Cond.static arraycopyName).before args s = true) (hini : (Cond.initialized "java/lang/System").before args s = true) (hfr : 1 ≤ R.frames) (hlo : 26 ≤ R.locals) {S S' : sx_S} (h : o_copy S = some (.inr S')) (hd : decode cc S.1 = .ok (.invokestatic idx, 3))
    (kk : sx_G p l e R s m args below meth c Q D cK ba b n0 nL H0 S') : sx_G p l e R s m args below meth c Q D cK ba b n0 nL H0 S := by
  obtain ⟨pc, ls, st, G⟩ := S
  simp only [o_copy] at h
  split at h
  · rename_i n dp d sp q r
    split at h
    · rename_i ho
      obtain ⟨hr, ⟨hq, hdd⟩, ⟨hs1, hs2⟩, ⟨h1, h2, h3⟩, h4, h5⟩ := ho
      cases h
      intro H locs cells slots lsA hH hL
      have hc8 := sx_cat8 hr ba b
      have hw7 : nativeFrameWords "java/lang/System" "arraycopy" 5 = 7 := by decide
      refine va_copyi (A := fun q => ba ≤ q) (rest := r.map (cv ba b)) hx hb (by rw [hml, hL.1.1]) hown hlk hnat hstat hini hK hH.1 (hp_D cK ba G) hH.2.1 q d 0 0 (hp_atI hq hs1) (hp_atI hdd hs2) rfl rfl rfl h1 h2 h3 h4 h5 (fun i hi => rfl) hfr (by omega) hd (fun H1 locs1 a1 a2 a3 => ?_)
      rw [hp_set (G := G) (G' := gy G q d sp.toNatClampNeg dp.toNatClampNeg n.toNatClampNeg) (o := d) rfl (fun o ho => gy_e ho) (by rw [hp_eI (sh_pair hs2), ← hy_at]; rfl)] at a1
      exact kk H1 locs1 cells slots lsA (hH.same rfl a1 a3) hL
    · cases h
  · cases h
end SXC
end
section
/-! new cells, answers, calls -/
section SXD
variable {p : Program} {l : Launch} {e : Env} {R : Room} {s : State} {m : MethodId} {args : Array Value} {below : List Frame} {meth : Method} {c : Code} {Q : State → Prop}
variable {D : va_G} {cK : Nat → ClassId} {ba b n0 nL nE : Nat} {cc : ByteArray} {own : String}
theorem sx_new {G : hp_G} {q : Nat} {z : va_E} {H1 : Heap} {locs : List Loc} {cells slots : Nat} {g : JFrame} (hs0 : s.heap.size = ba + n0) (hP : va_P D hp_cl (hp_w cK ba G ++ [(q, z)]) H1) (hD : va_D (fun q => ba ≤ q) (hp_w cK ba G ++ [(q, z)])) (hc : cells + n0 = G.2.2.2)
    (k : q = ba + G.2.2.2 → W p l e R s m args below meth c H1 locs (cells + 1) slots Q g) : W p l e R s m args below meth c H1 locs (cells + 1) slots Q g := by
  intro T hT X
  have h1 := X.heapSize
  rw [hT, hs0] at h1
  have hlen : (hp_w cK ba G).length = G.2.2.2 := by simp [hp_w]
  have hlast : (hp_w cK ba G ++ [(q, z)])[G.2.2.2]? = some (q, z) := by
    rw [List.getElem?_append_right (by omega), hlen, Nat.sub_self]
    rfl
  have h2 := (hP _ _ hlast).lt
  have h3 : ba ≤ q := hD.2 _ _ hlast
  dsimp only at h2
  refine k ?_ T hT X
  rcases Nat.lt_or_ge q (ba + G.2.2.2) with h | h
  · exfalso
    have hlt : q - ba < G.2.2.2 := by omega
    have h4 : (hp_w cK ba G ++ [(q, z)])[q - ba]? = some (ba + (q - ba), hp_e cK ba G (q - ba)) := by
      rw [List.getElem?_append_left (by omega), hp_wAt cK ba hlt]
    have := hD.1 _ _ _ _ hlast h4 (by dsimp only; omega)
    omega
  · omega
theorem gn_e {G : hp_G} {o : Nat} (h : o ≠ G.2.2.2) : hp_e cK ba (gn G) o = hp_e cK ba G o := hp_eX (hz_ne _ _ h) (hz_ne _ _ h) (hz_ne _ _ h)
theorem hp_dflt {ci : Nat} (hci : ci < 7) (G : hp_G) : ∀ j, j < hp_n ci → defaultValue (hp_ty ci j) = hp_f ba (gn G) ci G.2.2.2 j := by
  intro j hj
  simp only [hp_f, gn, hz_at]
  match ci, hci with
  | 0, _ =>
    have : ∀ j, j < 8 → hp_ty 0 j = .int ∨ hp_ty 0 j = .array .int := by decide +kernel
    rcases this j hj with h | h <;> rw [h] <;> rfl
  | 1, _ =>
    have : ∀ j, j < 3 → hp_ty 1 j = .int ∨ hp_ty 1 j = .array .int := by decide +kernel
    rcases this j hj with h | h <;> rw [h] <;> rfl
  | 2, _ =>
    have : ∀ j, j < 5 → hp_ty 2 j = .int ∨ hp_ty 2 j = .array .int ∨ hp_ty 2 j = .boolean := by decide +kernel
    rcases this j hj with h | h | h <;> rw [h] <;> rfl
  | 3, _ =>
    have : ∀ j, j < 9 → hp_ty 3 j = .int ∨ hp_ty 3 j = .array .int ∨ hp_ty 3 j = .boolean ∨ hp_ty 3 j = .object RX4 := by decide +kernel
    rcases this j hj with h | h | h | h <;> rw [h] <;> rfl
  | 4, _ =>
    have : ∀ j, j < 5 → hp_ty 4 j = .int ∨ hp_ty 4 j = .array .int := by decide +kernel
    rcases this j hj with h | h <;> rw [h] <;> rfl
  | 5, _ =>
    have : ∀ j, j < 12 → hp_ty 5 j = .int ∨ hp_ty 5 j = .array .int ∨ hp_ty 5 j = .array .boolean ∨ hp_ty 5 j = .long ∨ hp_ty 5 j = .object RX3 ∨ hp_ty 5 j = .object RX4 ∨ hp_ty 5 j = .object RX0 ∨ hp_ty 5 j = .object RX1 ∨ hp_ty 5 j = .array (.object RX0) ∨ hp_ty 5 j = .array (.object RX2) := by decide +kernel
    rcases this j hj with h | h | h | h | h | h | h | h | h | h <;> rw [h] <;> rfl
  | 6, _ =>
    have : ∀ j, j < 24 → hp_ty 6 j = .int ∨ hp_ty 6 j = .array .int ∨ hp_ty 6 j = .boolean ∨ hp_ty 6 j = .array .boolean ∨ hp_ty 6 j = .long := by decide +kernel
    rcases this j hj with h | h | h | h | h <;> rw [h] <;> rfl
  | k + 7, h => omega
/-- what the room must hold up to the last cell -/
def sx_rm (R : Room) (n0 nE : Nat) : Prop := nE ≤ n0 + R.cells ∧ hp_tot nE ≤ hp_tot n0 + R.slots
theorem g_new (hx : p.tables.exec = Jvm.exec) (hb : c.code = cc) (hown : s.vm.findClass own = some m.cls) (hT : sx_T s) (hK : va_K D hp_cl (hp_tys cK) s) (hs0 : s.heap.size = ba + n0) (hrm : sx_rm R n0 nE) {ci idx : Nat} (hci : ci < 7) (hcl : (Cond.classLink own idx (hp_R ci)).before args s = true) (hinst : (Cond.instantiable (hp_R ci) (hp_n ci)).before args s = true) (hini : (Cond.initialized (hp_R ci)).before args s = true)
    {S S' : sx_S} (h : o_new ci S = some (.inr S')) (hE : S'.2.2.2.2.2.2 ≤ nE) (hd : decode cc S.1 = .ok (.new idx, 3))
    (kk : sx_G p l e R s m args below meth c Q D cK ba b n0 nL s.heap S') : sx_G p l e R s m args below meth c Q D cK ba b n0 nL s.heap S := by
  obtain ⟨pc, ls, st, G⟩ := S
  simp only [o_new] at h
  split at h
  · rename_i hsh
    cases h
    intro H locs cells slots lsA hH hL
    obtain ⟨hP, hS, z2, z3⟩ := id hH
    have hE : G.2.2.2 + 1 ≤ nE := hE
    have hz : hp_sz G.2.2.2 = hp_n ci := by simp [hp_sz, hsh]
    have ht1 : hp_tot (G.2.2.2 + 1) = hp_tot G.2.2.2 + hp_n ci := by rw [← hz]; rfl
    have ht2 := hp_totLe hE
    have hr1 := hrm.1
    have hr2 := hrm.2
    dsimp only at z2 z3
    refine va_new (Ts := u_ws (hp_R ci) (hp_T ci) (hp_n ci)) (A := fun q => ba ≤ q) (fs := hp_fs ba (gn G) ci G.2.2.2) hx hb (hp_uws hT hci args) (fun w h => h) (hp_ty ci) (hp_tyok hci) hown hcl hinst hini hK hP (hp_D cK ba G) hS (fun q hq => by rw [hs0] at hq; exact Nat.le_trans (Nat.le_add_right _ _) hq) (hp_clE hci) (fun j hj => by rw [hp_dflt (ba := ba) hci G j hj]; simp [vp_V, List.getD, hp_fsAt ba (gn G) ci G.2.2.2 hj]) (by omega) (by omega) hd (fun q H1 a1 a2 a3 => ?_)
    refine sx_new hs0 a1 a2 z2 (fun hq => ?_)
    subst hq
    rw [hp_push (G := G) (G' := gn G) rfl (fun o ho => gn_e ho) (hp_eO hsh)] at a1
    exact kk H1 locs (cells + 1) (slots + hp_n ci) lsA ⟨a1, a3, by show cells + 1 + n0 = G.2.2.2 + 1; omega, by show slots + hp_n ci + hp_tot n0 = hp_tot (G.2.2.2 + 1); omega⟩ hL
  · cases h
theorem g_newa (hx : p.tables.exec = Jvm.exec) (hb : c.code = cc) (hK : va_K D hp_cl (hp_tys cK) s) (hs0 : s.heap.size = ba + n0) (hrm : sx_rm R n0 nE) {j : Nat} {aty : ArrayType} (hj : (j = 1 ∧ aty = .int) ∨ (j = 2 ∧ aty = .boolean)) (harr : (Cond.arrayClass (newarray.typeOf aty)).before args s = true)
    {S S' : sx_S} (h : o_newa j 2 S = some (.inr S')) (hE : S'.2.2.2.2.2.2 ≤ nE) (hd : decode cc S.1 = .ok (.newarray aty, 2))
    (kk : sx_G p l e R s m args below meth c Q D cK ba b n0 nL s.heap S') : sx_G p l e R s m args below meth c Q D cK ba b n0 nL s.heap S := by
  obtain ⟨pc, ls, st, G⟩ := S
  simp only [o_newa] at h
  split at h
  · rename_i x r
    split at h
    · rename_i hg
      obtain ⟨hsh, hx0, hx1⟩ := hg
      cases h
      intro H locs cells slots lsA hH hL
      obtain ⟨hP, hS, z2, z3⟩ := id hH
      have hE : G.2.2.2 + 1 ≤ nE := hE
      have hz : hp_sz G.2.2.2 = x.toNatClampNeg := by rcases hj with ⟨rfl, -⟩ | ⟨rfl, -⟩ <;> simp [hp_sz, hsh]
      have ht1 : hp_tot (G.2.2.2 + 1) = hp_tot G.2.2.2 + x.toNatClampNeg := by rw [← hz]; rfl
      have ht2 := hp_totLe hE
      have hr1 := hrm.1
      have hr2 := hrm.2
      dsimp only at z2 z3
      rcases hj with ⟨rfl, rfl⟩ | ⟨rfl, rfl⟩
      · refine va_newa (A := fun q => ba ≤ q) (a0 := (x.toNatClampNeg, .inl (fun _ => 0))) hx hb harr rfl hK hP (hp_D cK ba G) hS (fun q hq => by rw [hs0] at hq; exact Nat.le_trans (Nat.le_add_right _ _) hq) (fun cA => rfl) hx0 rfl (by show _ * 4 ≤ _; omega) (by omega) (by omega) hd (fun q cA H1 a0 a1 a2 a3 => ?_)
        refine sx_new hs0 a1 a2 z2 (fun hq => ?_)
        subst hq
        have hcA : cA = cK 0 := by
          have f1 : s.vm.findClass ("[" ++ FieldType.int.toString) = some cA := (a0.2 4 (cA, .int) rfl).2
          have f2 : s.vm.findClass ("[" ++ FieldType.int.toString) = some (cK 0) := (hK.2 0 (cK 0, .int) rfl).2
          exact Option.some.inj (f1.symm.trans f2)
        subst hcA
        rw [hp_push (G := G) (G' := gn G) rfl (fun o ho => gn_e ho) (by rw [hp_eI hsh]; simp only [gn, hz_at])] at a1
        exact kk H1 locs (cells + 1) (slots + x.toNatClampNeg) lsA ⟨a1, a3, by show cells + 1 + n0 = G.2.2.2 + 1; omega, by show slots + x.toNatClampNeg + hp_tot n0 = hp_tot (G.2.2.2 + 1); omega⟩ hL
      · refine va_newa (A := fun q => ba ≤ q) (a0 := (x.toNatClampNeg, .inl (fun _ => 0))) hx hb harr rfl hK hP (hp_D cK ba G) hS (fun q hq => by rw [hs0] at hq; exact Nat.le_trans (Nat.le_add_right _ _) hq) (fun cA => rfl) hx0 rfl (by show _ * 1 ≤ _; omega) (by omega) (by omega) hd (fun q cA H1 a0 a1 a2 a3 => ?_)
        refine sx_new hs0 a1 a2 z2 (fun hq => ?_)
        subst hq
        have hcA : cA = cK 1 := by
          have f1 : s.vm.findClass ("[" ++ FieldType.boolean.toString) = some cA := (a0.2 4 (cA, .boolean) rfl).2
          have f2 : s.vm.findClass ("[" ++ FieldType.boolean.toString) = some (cK 1) := (hK.2 1 (cK 1, .boolean) rfl).2
          exact Option.some.inj (f1.symm.trans f2)
        subst hcA
        rw [hp_push (G := G) (G' := gn G) rfl (fun o ho => gn_e ho) (by rw [hp_eZ hsh]; simp only [gn, hz_at])] at a1
        exact kk H1 locs (cells + 1) (slots + x.toNatClampNeg) lsA ⟨a1, a3, by show cells + 1 + n0 = G.2.2.2 + 1; omega, by show slots + x.toNatClampNeg + hp_tot n0 = hp_tot (G.2.2.2 + 1); omega⟩ hL
    · cases h
  · cases h
theorem g_newq (hx : p.tables.exec = Jvm.exec) (hb : c.code = cc) (hown : s.vm.findClass own = some m.cls) (hT : sx_T s) (hK : va_K D hp_cl (hp_tys cK) s) (hs0 : s.heap.size = ba + n0) (hrm : sx_rm R n0 nE) {j idx : Nat} (hj : j = 3 ∨ j = 4) (hcl : (Cond.classLink own idx (if j = 3 then RX0 else RX2)).before args s = true)
    {S S' : sx_S} (h : o_newa j 3 S = some (.inr S')) (hE : S'.2.2.2.2.2.2 ≤ nE) (hd : decode cc S.1 = .ok (.anewarray idx, 3))
    (kk : sx_G p l e R s m args below meth c Q D cK ba b n0 nL s.heap S') : sx_G p l e R s m args below meth c Q D cK ba b n0 nL s.heap S := by
  obtain ⟨pc, ls, st, G⟩ := S
  simp only [o_newa] at h
  split at h
  · rename_i x r
    split at h
    · rename_i hg
      obtain ⟨hsh, hx0, hx1⟩ := hg
      cases h
      intro H locs cells slots lsA hH hL
      obtain ⟨hP, hS, z2, z3⟩ := id hH
      have hE : G.2.2.2 + 1 ≤ nE := hE
      have hz : hp_sz G.2.2.2 = x.toNatClampNeg := by rcases hj with rfl | rfl <;> simp [hp_sz, hsh]
      have ht1 : hp_tot (G.2.2.2 + 1) = hp_tot G.2.2.2 + x.toNatClampNeg := by rw [← hz]; rfl
      have ht2 := hp_totLe hE
      have hr1 := hrm.1
      have hr2 := hrm.2
      dsimp only at z2 z3
      rcases hj with rfl | rfl
      · refine va_newq (C := RX0) (A := fun q => ba ≤ q) hx hb hown hcl hT.2.2.1 hK hP (hp_D cK ba G) hS (fun q hq => by rw [hs0] at hq; exact Nat.le_trans (Nat.le_add_right _ _) hq) hx0 rfl (by omega) (by omega) (by omega) hd (fun q cA H1 a0 a1 a2 a3 => ?_)
        refine sx_new hs0 a1 a2 z2 (fun hq => ?_)
        subst hq
        have hcA : cA = cK 2 := by
          obtain ⟨-, -, -, -, -, f1⟩ := (a0.2 4 (cA, .object RX0) rfl).2
          obtain ⟨-, -, -, -, -, f2⟩ := (hK.2 2 (cK 2, .object RX0) rfl).2
          exact Option.some.inj (f1.symm.trans f2)
        subst hcA
        rw [hp_push (G := G) (G' := gn G) rfl (fun o ho => gn_e ho) (by rw [hp_eR (j := 0) hsh]; simp only [gn, hz_at]; rfl)] at a1
        exact kk H1 locs (cells + 1) (slots + x.toNatClampNeg) lsA ⟨a1, a3, by show cells + 1 + n0 = G.2.2.2 + 1; omega, by show slots + x.toNatClampNeg + hp_tot n0 = hp_tot (G.2.2.2 + 1); omega⟩ hL
      · refine va_newq (C := RX2) (A := fun q => ba ≤ q) hx hb hown hcl hT.2.2.2 hK hP (hp_D cK ba G) hS (fun q hq => by rw [hs0] at hq; exact Nat.le_trans (Nat.le_add_right _ _) hq) hx0 rfl (by omega) (by omega) (by omega) hd (fun q cA H1 a0 a1 a2 a3 => ?_)
        refine sx_new hs0 a1 a2 z2 (fun hq => ?_)
        subst hq
        have hcA : cA = cK 3 := by
          obtain ⟨-, -, -, -, -, f1⟩ := (a0.2 4 (cA, .object RX2) rfl).2
          obtain ⟨-, -, -, -, -, f2⟩ := (hK.2 3 (cK 3, .object RX2) rfl).2
          exact Option.some.inj (f1.symm.trans f2)
        subst hcA
        rw [hp_push (G := G) (G' := gn G) rfl (fun o ho => gn_e ho) (by rw [hp_eR (j := 1) hsh]; simp only [gn, hz_at]; rfl)] at a1
        exact kk H1 locs (cells + 1) (slots + x.toNatClampNeg) lsA ⟨a1, a3, by show cells + 1 + n0 = G.2.2.2 + 1; omega, by show slots + x.toNatClampNeg + hp_tot n0 = hp_tot (G.2.2.2 + 1); omega⟩ hL
    · cases h
  · cases h
end SXD
end
section
/-! switches, answers, calls -/
section SXE
variable {p : Program} {l : Launch} {e : Env} {R : Room} {s : State} {m : MethodId} {args : Array Value} {below : List Frame} {meth : Method} {c : Code} {Q : State → Prop}
variable {D : va_G} {cK : Nat → ClassId} {ba b n0 nL nE : Nat} {cc : ByteArray} {own : String} {H0 : Heap}
theorem swk_spec {S S' : sx_S} {r : List Value} {d : Nat} {x : Int32} : ∀ {l : List (Int32 × Nat)}, o_swk S r d x l = some (.inr S') → ∃ t, S' = (t, S.2.1, r, S.2.2.2) ∧ ((∃ i : Nat, l[i]? = some (x, t)) ∨ ((∀ (i : Nat) (k : Int32) (t' : Nat), l[i]? = some (k, t') → x ≠ k) ∧ t = d))
  | [], h => by
    cases h
    exact ⟨d, rfl, Or.inr ⟨fun i k t' h => by simp at h, rfl⟩⟩
  | (k, t) :: l, h => by
    simp only [o_swk] at h
    split at h
    · rename_i hk
      cases h
      exact ⟨t, rfl, Or.inl ⟨0, by rw [hk]; rfl⟩⟩
    · rename_i hk
      obtain ⟨t1, h1, h2⟩ := swk_spec h
      refine ⟨t1, h1, ?_⟩
      rcases h2 with ⟨i, hi⟩ | ⟨h2, h3⟩
      · exact Or.inl ⟨i + 1, hi⟩
      · refine Or.inr ⟨fun i k' t' hi => ?_, h3⟩
        cases i with
        | zero => cases hi; exact hk
        | succ i => exact h2 i k' t' hi
def sw_T (pc : Nat) (dflt lo hi : Int) (offs : Array Int) (d : Nat) (l : List (Int32 × Nat)) : Bool :=
  decide ((pc : Int) + dflt = (d : Int)) && decide ((l.length : Int) = hi - lo + 1) && (List.range l.length).all (fun i => match l[i]?, offs[i]? with
    | some (k, t), some o => decide (k.toInt = lo + (i : Int)) && decide ((pc : Int) + o = (t : Int))
    | _, _ => false)
theorem sw_Tat {pc : Nat} {dflt lo hi : Int} {offs : Array Int} {d : Nat} {l : List (Int32 × Nat)} (h : sw_T pc dflt lo hi offs d l = true) {i : Nat} (hi' : i < l.length) : ∃ k t o, l[i]? = some (k, t) ∧ offs[i]? = some o ∧ k.toInt = lo + (i : Int) ∧ (pc : Int) + o = (t : Int) := by
  simp only [sw_T, Bool.and_eq_true] at h
  have h1 := List.all_eq_true.mp h.2 i (List.mem_range.mpr hi')
  cases hl : l[i]? with
  | none => rw [hl] at h1; simp at h1
  | some q =>
    cases ho : offs[i]? with
    | none => rw [hl, ho] at h1; simp at h1
    | some o =>
      rw [hl, ho] at h1
      simp only [Bool.and_eq_true, decide_eq_true_eq] at h1
      exact ⟨q.1, q.2, o, rfl, rfl, h1.1, h1.2⟩
theorem g_swT (hx : p.tables.exec = Jvm.exec) (hb : c.code = cc) {dflt lo hi : Int} {offs : Array Int} {len d : Nat} {sw : List (Int32 × Nat)} {S S' : sx_S} (h : o_sw d sw S = some (.inr S')) (hd : decode cc S.1 = .ok (.tableswitch dflt lo hi offs, len)) (hk : sw_T S.1 dflt lo hi offs d sw = true)
    (k : sx_G p l e R s m args below meth c Q D cK ba b n0 nL H0 S') : sx_G p l e R s m args below meth c Q D cK ba b n0 nL H0 S := by
  obtain ⟨pc, ls, st, G⟩ := S
  simp only [o_sw] at h
  split at h
  · rename_i x r
    intro H locs cells slots lsA hH hL
    have hk' := hk
    simp only [sw_T, Bool.and_eq_true, decide_eq_true_eq] at hk'
    obtain ⟨⟨hk1, hk2⟩, -⟩ := hk'
    obtain ⟨t, rfl, ht⟩ := swk_spec h
    rcases ht with ⟨i, hi'⟩ | ⟨hno, rfl⟩
    · have hil : i < sw.length := (List.getElem?_eq_some_iff.mp hi').1
      obtain ⟨k1, t1, o, a1, a2, a3, a4⟩ := sw_Tat hk hil
      rw [hi'] at a1
      cases a1
      refine lv_tableIn hx hb hd (by omega) (by omega) (off := o) ?_ a4 (k H locs cells slots lsA hH hL)
      rw [show (x.toInt - lo).toNat = i by omega]
      exact a2
    · refine lv_tableOut hx hb hd ?_ hk1 (k H locs cells slots lsA hH hL)
      rcases Int.lt_or_le x.toInt lo with q | q
      · exact Or.inl q
      · rcases Int.lt_or_le hi x.toInt with q2 | q2
        · exact Or.inr q2
        · exfalso
          have hil : (x.toInt - lo).toNat < sw.length := by omega
          obtain ⟨k1, t1, o, a1, a2, a3, a4⟩ := sw_Tat hk hil
          exact hno _ _ _ a1 (Int32.toInt_inj.mp (by omega))
  · cases h
def sw_L (pc : Nat) (dflt : Int) (ps : Array (Int × Int)) (d : Nat) (l : List (Int32 × Nat)) : Bool :=
  decide ((pc : Int) + dflt = (d : Int)) && (ps.toList.zip (ps.toList.drop 1)).all (fun (a, next) => a.1 < next.1) && decide (ps.toList = l.map (fun q => (q.1.toInt, (q.2 : Int) - (pc : Int))))
theorem sw_Loff {pc d : Nat} {dflt : Int} {x : Int32} {S S' : sx_S} {r : List Value} (hd : (pc : Int) + dflt = (d : Int)) : ∀ {l : List (Int32 × Nat)}, o_swk S r d x l = some (.inr S') → ∃ t : Nat, S' = (t, S.2.1, r, S.2.2.2) ∧ (pc : Int) + Op.lookupswitch.offset (l.map (fun q => (q.1.toInt, (q.2 : Int) - (pc : Int)))) dflt x.toInt = (t : Int)
  | [], h => by
    cases h
    exact ⟨d, rfl, hd⟩
  | (k, t) :: l, h => by
    simp only [o_swk] at h
    split at h
    · rename_i hk
      cases h
      refine ⟨t, rfl, ?_⟩
      rw [List.map_cons, Op.lookupswitch.offset_cons, if_pos (by rw [hk])]
      omega
    · rename_i hk
      obtain ⟨t1, h1, h2⟩ := sw_Loff hd h
      refine ⟨t1, h1, ?_⟩
      rw [List.map_cons, Op.lookupswitch.offset_cons, if_neg (fun q => hk (Int32.toInt_inj.mp q.symm))]
      exact h2
theorem g_swL (hx : p.tables.exec = Jvm.exec) (hb : c.code = cc) {dflt : Int} {ps : Array (Int × Int)} {len d : Nat} {sw : List (Int32 × Nat)} {S S' : sx_S} (h : o_sw d sw S = some (.inr S')) (hd : decode cc S.1 = .ok (.lookupswitch dflt ps, len)) (hk : sw_L S.1 dflt ps d sw = true)
    (k : sx_G p l e R s m args below meth c Q D cK ba b n0 nL H0 S') : sx_G p l e R s m args below meth c Q D cK ba b n0 nL H0 S := by
  obtain ⟨pc, ls, st, G⟩ := S
  simp only [o_sw] at h
  split at h
  · rename_i x r
    intro H locs cells slots lsA hH hL
    simp only [sw_L, Bool.and_eq_true, decide_eq_true_eq] at hk
    obtain ⟨⟨hk1, hk2⟩, hk3⟩ := hk
    obtain ⟨t, rfl, ht⟩ := sw_Loff (pc := pc) hk1 h
    exact lv_lookup hx hb hd hk2 (by rw [hk3]) ht (k H locs cells slots lsA hH hL)
  · cases h
/-- a method's end -/
def sx_rt (cc : ByteArray) (rt : Option FieldType) (v : Option Value) (pc : Nat) : Prop := (∃ x, v = some (.int x) ∧ decode cc pc = .ok (.ireturn, 1) ∧ (rt = some .int ∨ (rt = some .boolean ∧ sx_01 x))) ∨ (∃ x, v = some (.long x) ∧ decode cc pc = .ok (.lreturn, 1) ∧ rt = some .long) ∨ (v = none ∧ decode cc pc = .ok (.return_, 1) ∧ rt = none)
theorem iret_spec {rt : Option FieldType} {S : sx_S} {r : sx_R} (h : o_iret rt S = some (.inl r)) (hd : decode cc S.1 = .ok (.ireturn, 1)) : S.2.2.1 = r.1.toList ∧ r.2 = S.2.2.2 ∧ sx_rt cc rt r.1 S.1 := by
  obtain ⟨pc, ls, st, G⟩ := S
  simp only [o_iret] at h
  split at h
  · rename_i x
    split at h
    · cases h
      exact ⟨rfl, rfl, Or.inl ⟨x, rfl, hd, Or.inl rfl⟩⟩
    · split at h
      · rename_i hx
        cases h
        exact ⟨rfl, rfl, Or.inl ⟨x, rfl, hd, Or.inr ⟨rfl, hx⟩⟩⟩
      · cases h
    · cases h
  · cases h
theorem iret_no {rt : Option FieldType} {S S' : sx_S} (h : o_iret rt S = some (.inr S')) : False := by
  simp only [o_iret] at h
  split at h
  · split at h
    · cases h
    · split at h <;> cases h
    · cases h
  · cases h
theorem lret_spec {rt : Option FieldType} {S : sx_S} {r : sx_R} (h : o_lret rt S = some (.inl r)) (hd : decode cc S.1 = .ok (.lreturn, 1)) : S.2.2.1 = r.1.toList ∧ r.2 = S.2.2.2 ∧ sx_rt cc rt r.1 S.1 := by
  obtain ⟨pc, ls, st, G⟩ := S
  simp only [o_lret] at h
  split at h
  · rename_i x
    split at h
    · cases h
      exact ⟨rfl, rfl, Or.inr (Or.inl ⟨x, rfl, hd, rfl⟩)⟩
    · cases h
  · cases h
theorem lret_no {rt : Option FieldType} {S S' : sx_S} (h : o_lret rt S = some (.inr S')) : False := by
  simp only [o_lret] at h
  split at h
  · split at h <;> cases h
  · cases h
theorem vret_spec {rt : Option FieldType} {S : sx_S} {r : sx_R} (h : o_vret rt S = some (.inl r)) (hd : decode cc S.1 = .ok (.return_, 1)) : S.2.2.1 = r.1.toList ∧ r.2 = S.2.2.2 ∧ sx_rt cc rt r.1 S.1 := by
  obtain ⟨pc, ls, st, G⟩ := S
  simp only [o_vret] at h
  split at h
  · split at h
    · cases h
      exact ⟨rfl, rfl, Or.inr (Or.inr ⟨rfl, hd, rfl⟩)⟩
    · cases h
  · cases h
theorem vret_no {rt : Option FieldType} {S S' : sx_S} (h : o_vret rt S = some (.inr S')) : False := by
  simp only [o_vret] at h
  split at h
  · split at h <;> cases h
  · cases h
theorem back_spec {S S' : sx_S} {rest : List Value} {rt : Option FieldType} {r : Option sx_R} (h : o_back S rest rt r = some (.inr S')) : ∃ v G', r = some (v, G') ∧ S' = (S.1 + 3, S.2.1, v.toList ++ rest, G') := by
  simp only [o_back] at h
  split at h
  · split at h
    · cases h
      exact ⟨none, _, rfl, rfl⟩
    · cases h
  · split at h
    · cases h
      exact ⟨some (.long _), _, rfl, rfl⟩
    · cases h
  · split at h
    · cases h
      exact ⟨some (.int _), _, rfl, rfl⟩
    · cases h
theorem back_no {S : sx_S} {rest : List Value} {rt : Option FieldType} {r : Option sx_R} {z : sx_R} (h : o_back S rest rt r = some (.inl z)) : False := by
  simp only [o_back] at h
  split at h <;> split at h <;> cases h
theorem tk_spec : ∀ {n : Nat} {st as as' rest : List Value}, tk n st as = some (as', rest) → ∃ us : List Value, us.length = n ∧ st = us ++ rest ∧ as' = us.reverse ++ as
  | 0, st, as, as', rest, h => by
    cases h
    exact ⟨[], rfl, rfl, rfl⟩
  | n + 1, v :: st, as, as', rest, h => by
    obtain ⟨us, h1, h2, h3⟩ := tk_spec (n := n) h
    exact ⟨v :: us, by simp [h1], by simp [h2], by simp [h3]⟩
  | n + 1, [], as, as', rest, h => by cases h
theorem tk_0 {n : Nat} {st as rest : List Value} (h : tk n st [] = some (as, rest)) : as.length = n ∧ st = as.reverse ++ rest := by
  obtain ⟨us, h1, h2, h3⟩ := tk_spec h
  simp only [List.append_nil] at h3
  subst h3
  exact ⟨by simp [h1], by simp [h2]⟩
/-- behind a call -/
theorem g_run (hs0 : s.heap.size = ba + n0) {G G' : hp_G} {v : Option Value} {H : Heap} {locs : List Loc} {cells slots pc : Nat} {lsA : Array Slot} {st0 rest : List Value} {a : Array Value} (hH : sx_H D cK ba s.heap n0 G H locs cells slots) (hle : G.2.2.2 ≤ G'.2.2.2)
    (hr : va_Run p l e R s m args below meth c H locs cells slots (G'.2.2.2 - G.2.2.2) (hp_tot G'.2.2.2 - hp_tot G.2.2.2) (F0 m pc lsA st0) rest (sx_Q D cK ba b v G' a) (fun q => ba ≤ q))
    (kk : ∀ (H' : Heap) (locs' : List Loc) (cells' slots' : Nat), sx_H D cK ba s.heap n0 G' H' locs' cells' slots' → W p l e R s m args below meth c H' locs' cells' slots' Q (F0 m (pc + 3) lsA ((v.map (cv ba b)).toList ++ rest))) : W p l e R s m args below meth c H locs cells slots Q (F0 m pc lsA st0) := by
  intro T hT X
  obtain ⟨v', st₀, t, T', L, h0, X', hL, e1, e2, ⟨hv, hz, hP, hk⟩, st⟩ := hr T hT X
  cases hv
  obtain ⟨g1, g2, g3, g4⟩ := hH
  have ht := hp_totLe hle
  obtain ⟨t2, a1, b1⟩ := kk T'.heap (locs ++ L) _ _ ⟨by rw [e1]; exact hP, ⟨by rw [e1, hz, hs0]; omega, fun q h1 h2 => by
      rw [e1, hk q (Nat.not_le.mp h2), h0]
      exact g2.2.1 q h1 h2, fun q hq => by
      rcases List.mem_append.mp hq with h | h
      · exact g2.2.2 q h
      · exact hL q h⟩, by omega, by omega⟩ T' rfl X'
  exact ⟨t2, st t2 a1, b1⟩
/-- the words of a callee, and that it fits -/
def sx_cw (R : Room) (s : State) (args : Array Value) (own : String) (idx : Nat) (d : sx_M) (n : Nat) : Prop :=
  Cond.code d.1 d.2.1 d.2.2.1 d.2.2.2.1 ∈ lw_tbl ∧ goodWord (Cond.code d.1 d.2.1 d.2.2.1 d.2.2.2.1) = true ∧ (Cond.initialized d.1.cls).before args s = true ∧ (d.1.cls ≠ "java/lang/invoke/MethodHandle" ∧ d.1.cls ≠ "java/lang/invoke/VarHandle") ∧ (parseMethodDescriptor d.1.desc).map (fun d => d.parameters.length) = some n ∧ (d.2.2.2.2.1 + 1 ≤ R.frames ∧ 8 + (d.2.2.1 + 11) + d.2.2.2.2.2.1 ≤ R.locals)
theorem sx_cwB (hT : sx_T s) {idx n : Nat} {d : sx_M} (h : sx_cw R s args own idx d n) (hl : (Cond.methodLink own idx d.1).before args s = true) (mc ms : Nat) : CallB R s args own idx d.1 d.2.1 d.2.2.1 d.2.2.2.1 [Cond.code d.1 d.2.1 d.2.2.1 d.2.2.2.1] ({ frames := d.2.2.2.2.1, cells := mc, slots := ms, locals := d.2.2.2.2.2.1 } : Room) mc ms n := by
  obtain ⟨h1, h2, h3, h4, h5, h6, h7⟩ := h
  refine ⟨rfl, rfl, h6, h7, fun w hw a' U hW => ?_, List.mem_singleton.mpr rfl, hT.1 _ h1 h2 args, h3, h4, fun sig hs => ?_, hl⟩
  · rw [List.mem_singleton.mp hw]
    exact (hT.moved hW).1 _ h1 h2 a'
  · rw [hs] at h5
    exact (Option.some.inj h5).symm
theorem sx_cwN (hT : sx_T s) {idx n : Nat} {d : sx_M} {host : String} (h : sx_cw R s args own idx d n) (hl : va_Nw (.methodLinkNest own idx d.1 host) s) (mc ms : Nat) : va_CN R s args own idx d.1 host d.2.1 d.2.2.1 d.2.2.2.1 [Cond.code d.1 d.2.1 d.2.2.1 d.2.2.2.1] ({ frames := d.2.2.2.2.1, cells := mc, slots := ms, locals := d.2.2.2.2.2.1 } : Room) mc ms n := by
  obtain ⟨h1, h2, h3, h4, h5, h6, h7⟩ := h
  refine ⟨⟨rfl, rfl, h6, h7, fun w hw a' U hW => ?_, List.mem_singleton.mpr rfl⟩, hT.1 _ h1 h2 args, h3, h4, fun sig hs => ?_, va_Nw.use rfl hl⟩
  · rw [List.mem_singleton.mp hw]
    exact (hT.moved hW).1 _ h1 h2 a'
  · rw [hs] at h5
    exact (Option.some.inj h5).symm
theorem sx_pre {As : List Value} {G : hp_G} {H : Heap} (hT : sx_T s) (hK : va_K D hp_cl (hp_tys cK) s) (hz : H.size = ba + G.2.2.2) (hP : va_P D hp_cl (hp_w cK ba G) H) : PreS s H (sx_Pre D cK ba b As G) (As.map (cv ba b)) :=
  ⟨sx_blind D cK ba b As G, fun U hU hW => ⟨rfl, by rw [hU]; exact hz, by rw [hU]; exact hP, va_K.moved hW.alike hK, hT.moved hW⟩⟩
/-- a static call, of its own class or of a nest mate -/
theorem g_callS (hx : p.tables.exec = Jvm.exec) (hb : c.code = cc) (hml : c.maxLocals = nL) (hown : s.vm.findClass own = some m.cls) (hT : sx_T s) (hK : va_K D hp_cl (hp_tys cK) s) (hs0 : s.heap.size = ba + n0) (hrm : sx_rm R n0 nE) {idx : Nat} {d : sx_M} {f : sx_F} (hok : sx_ok d f) (hcw : sx_cw R s args own idx d d.2.2.2.2.2.2) (hst : (Cond.static d.1).before args s = true)
    (hl : (Cond.methodLink own idx d.1).before args s = true ∨ ∃ host, va_Nw (.methodLinkNest own idx d.1 host) s)
    {S S' : sx_S} (h : o_call (d, f) S = some (.inr S')) (hE : S'.2.2.2.2.2.2 ≤ nE) (hd : decode cc S.1 = .ok (.invokestatic idx, 3))
    (kk : sx_G p l e R s m args below meth c Q D cK ba b n0 nL s.heap S') : sx_G p l e R s m args below meth c Q D cK ba b n0 nL s.heap S := by
  obtain ⟨pc, ls, st, G⟩ := S
  simp only [o_call] at h
  split at h
  · rename_i as rest htk
    cases hr4 : Nat.ble rest.length 4 with
    | false => rw [hr4] at h; cases h
    | true =>
      rw [hr4] at h
      obtain ⟨v, G', hf, rfl⟩ := back_spec h
      obtain ⟨hlen, hstk⟩ := tk_0 htk
      obtain ⟨hle, hM⟩ := hok as G v G' hf
      have hE : G'.2.2.2 ≤ nE := hE
      have hr1 := hrm.1
      have hr2 := hrm.2
      have ht1 := hp_totLe hle
      have ht2 := hp_totLe hE
      subst hstk
      intro H locs cells slots lsA hH hL
      have z2 : cells + n0 = G.2.2.2 := hH.2.2.1
      have z3 : slots + hp_tot n0 = hp_tot G.2.2.2 := hH.2.2.2
      refine sx_size hs0 hH (fun hz => ?_)
      have hfx : CallFix p m c cc nL s args [] own := ⟨hx, hb, hml, hown, fun w hw => by cases hw⟩
      have hstk : (F0 m pc lsA ((as.reverse ++ rest).map (cv ba b))).stack = (as.map (cv ba b)).reverse ++ rest.map (cv ba b) := by
        show (as.reverse ++ rest).map (cv ba b) = _
        rw [List.map_append, List.map_reverse]
      have hfit : cells + (G'.2.2.2 - G.2.2.2) ≤ R.cells ∧ slots + (hp_tot G'.2.2.2 - hp_tot G.2.2.2) ≤ R.slots := ⟨by omega, by omega⟩
      have run : va_Run p l e R s m args below meth c H locs cells slots (G'.2.2.2 - G.2.2.2) (hp_tot G'.2.2.2 - hp_tot G.2.2.2) (F0 m pc lsA ((as.reverse ++ rest).map (cv ba b))) (rest.map (cv ba b)) (sx_Q D cK ba b v G' (as.map (cv ba b)).toArray) (fun q => ba ≤ q) := by
        rcases hl with hl | ⟨host, hl⟩
        · exact va_runS hfx (hM l D cK ba b) ⟨sx_cwB hT hcw hl _ _, hst⟩ (sx_pre hT hK hz hH.1) rfl (by rw [List.length_map, hlen]) hL.1.1 hstk (lv_room (sx_cat8 hr4 ba b)) hd hfit
        · exact va_runSN hfx (hM l D cK ba b) ⟨sx_cwN hT hcw hl _ _, hst, trivial⟩ (sx_pre hT hK hz hH.1) rfl (by rw [List.length_map, hlen]) hL.1.1 hstk (lv_room (sx_cat8 hr4 ba b)) hd hfit
      refine g_run hs0 hH hle run (fun H' locs' cells' slots' hH' => ?_)
      have := kk H' locs' cells' slots' lsA hH' hL
      cases v <;> exact this
  · cases h
/-- a call of an object's method -/
theorem g_callV (hx : p.tables.exec = Jvm.exec) (hb : c.code = cc) (hml : c.maxLocals = nL) (hown : s.vm.findClass own = some m.cls) (hT : sx_T s) (hK : va_K D hp_cl (hp_tys cK) s) (hs0 : s.heap.size = ba + n0) (hrm : sx_rm R n0 nE) {idx ci n : Nat} (hci : ci < 7) {d : sx_M} {f : sx_F} (hok : sx_ok d f) (hcw : sx_cw R s args own idx d n) (hn : n + 1 = d.2.2.2.2.2.2) (hin : (Cond.instanceMethod d.1).before args s = true) (hsel : (Cond.selects (hp_R ci) d.1 d.1).before args s = true)
    (hl : (Cond.methodLink own idx d.1).before args s = true)
    {S S' : sx_S} (h : o_callV (d, f) ci S = some (.inr S')) (hE : S'.2.2.2.2.2.2 ≤ nE) (hd : decode cc S.1 = .ok (.invokevirtual idx, 3))
    (kk : sx_G p l e R s m args below meth c Q D cK ba b n0 nL s.heap S') : sx_G p l e R s m args below meth c Q D cK ba b n0 nL s.heap S := by
  obtain ⟨pc, ls, st, G⟩ := S
  simp only [o_callV] at h
  split at h
  · rename_i o as rest htk
    cases hr4 : Nat.ble rest.length 4 with
    | false => rw [hr4] at h; cases h
    | true =>
      rw [hr4, cond_true] at h
      split at h
      · rename_i ho
        obtain ⟨v, G', hf, rfl⟩ := back_spec h
        obtain ⟨hlen, hstk⟩ := tk_0 htk
        obtain ⟨hle, hM⟩ := hok _ G v G' hf
        have hE : G'.2.2.2 ≤ nE := hE
        have hr1 := hrm.1
        have hr2 := hrm.2
        have ht1 := hp_totLe hle
        have ht2 := hp_totLe hE
        subst hstk
        intro H locs cells slots lsA hH hL
        have z2 : cells + n0 = G.2.2.2 := hH.2.2.1
        have z3 : slots + hp_tot n0 = hp_tot G.2.2.2 := hH.2.2.2
        refine sx_size hs0 hH (fun hz => ?_)
        have hfx : CallFix p m c cc nL s args [] own := ⟨hx, hb, hml, hown, fun w hw => by cases hw⟩
        have hstk : (F0 m pc lsA (((.ref o :: as).reverse ++ rest).map (cv ba b))).stack = (as.map (cv ba b)).reverse ++ .ref (ba + o) :: rest.map (cv ba b) := by
          show ((.ref o :: as).reverse ++ rest).map (cv ba b) = _
          simp [List.map_append, List.map_reverse, cv]
        have hfit : cells + (G'.2.2.2 - G.2.2.2) ≤ R.cells ∧ slots + (hp_tot G'.2.2.2 - hp_tot G.2.2.2) ≤ R.slots := ⟨by omega, by omega⟩
        have hp := sx_pre (As := .ref o :: as) (b := b) hT hK hz hH.1
        have run := va_runV (b := ba + o) hfx (hM l D cK ba b) (C := hp_R ci) (e := e) (below := below) (meth := meth) (locs := locs) (g := F0 m pc lsA (((.ref o :: as).reverse ++ rest).map (cv ba b))) (As := as.map (cv ba b)) (rest := rest.map (cv ba b)) ⟨sx_cwB hT hcw hl _ _, hin, hsel⟩ ⟨hp.1, va_recv hK hH.1 (hp_clE hci) (hp_at ho), hp.2⟩ rfl (by rw [List.length_map]; simp only [List.length_cons] at hlen; omega) hL.1.1 hstk (lv_room (sx_cat8 hr4 ba b)) hd hfit
        refine g_run hs0 hH hle run (fun H' locs' cells' slots' hH' => ?_)
        have := kk H' locs' cells' slots' lsA hH' hL
        cases v <;> exact this
      · cases h
  · cases h
/-- a constructor's call, of its own class or of a nest mate -/
theorem g_callI (hx : p.tables.exec = Jvm.exec) (hb : c.code = cc) (hml : c.maxLocals = nL) (hown : s.vm.findClass own = some m.cls) (hT : sx_T s) (hK : va_K D hp_cl (hp_tys cK) s) (hs0 : s.heap.size = ba + n0) (hrm : sx_rm R n0 nE) {idx n : Nat} {d : sx_M} {f : sx_F} (hok : sx_ok d f) (hcw : sx_cw R s args own idx d n) (hrt : d.2.2.2.1 = none) (hn : n + 1 = d.2.2.2.2.2.2) (hnm : d.1.name = "<init>") (hin : (Cond.instanceMethod d.1).before args s = true)
    (hl : (Cond.methodLink own idx d.1).before args s = true ∨ ∃ host, va_Nw (.methodLinkNest own idx d.1 host) s)
    {S S' : sx_S} (h : o_callI (d, f) S = some (.inr S')) (hE : S'.2.2.2.2.2.2 ≤ nE) (hd : decode cc S.1 = .ok (.invokespecial idx, 3))
    (kk : sx_G p l e R s m args below meth c Q D cK ba b n0 nL s.heap S') : sx_G p l e R s m args below meth c Q D cK ba b n0 nL s.heap S := by
  obtain ⟨pc, ls, st, G⟩ := S
  simp only [o_callI] at h
  split at h
  · rename_i o as rest htk
    cases hr4 : Nat.ble rest.length 4 with
    | false => rw [hr4] at h; cases h
    | true =>
      rw [hr4, cond_true] at h
      obtain ⟨v, G', hf, rfl⟩ := back_spec h
      obtain ⟨hlen, hstk⟩ := tk_0 htk
      obtain ⟨hle, hM⟩ := hok _ G v G' hf
      have hE : G'.2.2.2 ≤ nE := hE
      have hr1 := hrm.1
      have hr2 := hrm.2
      have ht1 := hp_totLe hle
      have ht2 := hp_totLe hE
      subst hstk
      intro H locs cells slots lsA hH hL
      have z2 : cells + n0 = G.2.2.2 := hH.2.2.1
      have z3 : slots + hp_tot n0 = hp_tot G.2.2.2 := hH.2.2.2
      refine sx_size hs0 hH (fun hz => ?_)
      have hfx : CallFix p m c cc nL s args [] own := ⟨hx, hb, hml, hown, fun w hw => by cases hw⟩
      have hstk : (F0 m pc lsA (((.ref o :: as).reverse ++ rest).map (cv ba b))).stack = (as.map (cv ba b)).reverse ++ .ref (ba + o) :: rest.map (cv ba b) := by
        show ((.ref o :: as).reverse ++ rest).map (cv ba b) = _
        simp [List.map_append, List.map_reverse, cv]
      have hfit : cells + (G'.2.2.2 - G.2.2.2) ≤ R.cells ∧ slots + (hp_tot G'.2.2.2 - hp_tot G.2.2.2) ≤ R.slots := ⟨by omega, by omega⟩
      have hp := sx_pre (As := .ref o :: as) (b := b) hT hK hz hH.1
      have hM := hM l D cK ba b
      have run : va_Run p l e R s m args below meth c H locs cells slots (G'.2.2.2 - G.2.2.2) (hp_tot G'.2.2.2 - hp_tot G.2.2.2) (F0 m pc lsA (((.ref o :: as).reverse ++ rest).map (cv ba b))) (rest.map (cv ba b)) (sx_Q D cK ba b v G' (.ref (ba + o) :: as.map (cv ba b)).toArray) (fun q => ba ≤ q) := by
        rcases hl with hl | ⟨host, hl⟩
        · have cb := sx_cwB hT hcw hl (G'.2.2.2 - G.2.2.2) (hp_tot G'.2.2.2 - hp_tot G.2.2.2)
          rw [hrt] at cb hM
          exact va_runI hfx hM ⟨cb, hnm, hin⟩ hp rfl (by rw [List.length_map]; simp only [List.length_cons] at hlen; omega) hL.1.1 hstk (lv_room (sx_cat8 hr4 ba b)) hd hfit
        · have cb := sx_cwN hT hcw hl (G'.2.2.2 - G.2.2.2) (hp_tot G'.2.2.2 - hp_tot G.2.2.2)
          rw [hrt] at cb hM
          exact va_runIN hfx hM ⟨cb, hnm, hin⟩ hp rfl (by rw [List.length_map]; simp only [List.length_cons] at hlen; omega) hL.1.1 hstk (lv_room (sx_cat8 hr4 ba b)) hd hfit
      refine g_run hs0 hH hle run (fun H' locs' cells' slots' hH' => ?_)
      have := kk H' locs' cells' slots' lsA hH' hL
      cases v <;> exact this
  · cases h
theorem g_obj (hx : p.tables.exec = Jvm.exec) (hb : c.code = cc) (hml : c.maxLocals = nL) (hown : s.vm.findClass own = some m.cls) {idx : Nat} (hl : (Cond.methodLink own idx Lib.objectInit).before args s = true) (hin : (Cond.instanceMethod Lib.objectInit).before args s = true) (hcode : (Cond.code Lib.objectInit ⟨#[0xb1]⟩ 1 none).before args s = true) (hfr : 1 ≤ R.frames) (hlo : 20 ≤ R.locals)
    {S S' : sx_S} (h : o_obj S = some (.inr S')) (hd : decode cc S.1 = .ok (.invokespecial idx, 3))
    (kk : sx_G p l e R s m args below meth c Q D cK ba b n0 nL H0 S') : sx_G p l e R s m args below meth c Q D cK ba b n0 nL H0 S := by
  obtain ⟨pc, ls, st, G⟩ := S
  simp only [o_obj] at h
  split at h
  · rename_i o r
    cases hr4 : Nat.ble r.length 4 with
    | false => rw [hr4] at h; cases h
    | true =>
      rw [hr4, cond_true] at h
      cases h
      intro H locs cells slots lsA hH hL
      have h8 := sx_cat8 hr4 ba b
      have h9 := lv_room (m := m) (pc := pc) (ls := lsA) (rest := (.ref (ba + o)) :: r.map (cv ba b)) h8
      exact W.objInit hx hb hown hl hin hcode (g := F0 m pc lsA (.ref (ba + o) :: r.map (cv ba b))) rfl (by rw [hml]; exact hL.1.1) (rest := r.map (cv ba b)) rfl hd hfr (by omega) (kk H locs cells slots lsA hH hL)
  · cases h
theorem g_max (hx : p.tables.exec = Jvm.exec) (hb : c.code = cc) (hml : c.maxLocals = nL) (hown : s.vm.findClass own = some m.cls) (hrm : sx_rm R n0 nE) {idx : Nat} (hl : (Cond.methodLink own idx Lib.Math.max.name).before args s = true) (hst : (Cond.static Lib.Math.max.name).before args s = true) (hin : (Cond.initialized "java/lang/Math").before args s = true) (hcode : (Cond.code Lib.Math.max.name Lib.Math.max.code 2 (some .int)).before args s = true) (hfr : 1 ≤ R.frames) (hlo : 21 ≤ R.locals)
    {S S' : sx_S} (h : o_max S = some (.inr S')) (hE : S'.2.2.2.2.2.2 ≤ nE) (hd : decode cc S.1 = .ok (.invokestatic idx, 3))
    (kk : sx_G p l e R s m args below meth c Q D cK ba b n0 nL H0 S') : sx_G p l e R s m args below meth c Q D cK ba b n0 nL H0 S := by
  obtain ⟨pc, ls, st, G⟩ := S
  simp only [o_max] at h
  split at h
  · rename_i y x r
    cases hr4 : Nat.ble r.length 4 with
    | false => rw [hr4] at h; cases h
    | true =>
      rw [hr4, cond_true] at h
      cases h
      intro H locs cells slots lsA hH hL
      have h8 := sx_cat8 hr4 ba b
      have hE : G.2.2.2 ≤ nE := hE
      have hr1 := hrm.1
      have hr2 := hrm.2
      have ht2 := hp_totLe hE
      have z2 : cells + n0 = G.2.2.2 := hH.2.2.1
      have z3 : slots + hp_tot n0 = hp_tot G.2.2.2 := hH.2.2.2
      exact va_mmax hx hb (by rw [hml]; exact hL.1.1.symm) hown hl hst hin hcode hfr (rest := r.map (cv ba b)) (by omega) (by omega) (by omega) hd (kk H locs cells slots lsA hH hL)
  · cases h
theorem g_min (hx : p.tables.exec = Jvm.exec) (hb : c.code = cc) (hml : c.maxLocals = nL) (hown : s.vm.findClass own = some m.cls) (hrm : sx_rm R n0 nE) {idx : Nat} (hl : (Cond.methodLink own idx Lib.Math.min.name).before args s = true) (hst : (Cond.static Lib.Math.min.name).before args s = true) (hin : (Cond.initialized "java/lang/Math").before args s = true) (hcode : (Cond.code Lib.Math.min.name Lib.Math.min.code 2 (some .int)).before args s = true) (hfr : 1 ≤ R.frames) (hlo : 21 ≤ R.locals)
    {S S' : sx_S} (h : o_min S = some (.inr S')) (hE : S'.2.2.2.2.2.2 ≤ nE) (hd : decode cc S.1 = .ok (.invokestatic idx, 3))
    (kk : sx_G p l e R s m args below meth c Q D cK ba b n0 nL H0 S') : sx_G p l e R s m args below meth c Q D cK ba b n0 nL H0 S := by
  obtain ⟨pc, ls, st, G⟩ := S
  simp only [o_min] at h
  split at h
  · rename_i y x r
    cases hr4 : Nat.ble r.length 4 with
    | false => rw [hr4] at h; cases h
    | true =>
      rw [hr4, cond_true] at h
      cases h
      intro H locs cells slots lsA hH hL
      have h8 := sx_cat8 hr4 ba b
      have hE : G.2.2.2 ≤ nE := hE
      have hr1 := hrm.1
      have hr2 := hrm.2
      have ht2 := hp_totLe hE
      have z2 : cells + n0 = G.2.2.2 := hH.2.2.1
      have z3 : slots + hp_tot n0 = hp_tot G.2.2.2 := hH.2.2.2
      exact va_mmin hx hb (by rw [hml]; exact hL.1.1.symm) hown hl hst hin hcode hfr (rest := r.map (cv ba b)) (by omega) (by omega) (by omega) hd (kk H locs cells slots lsA hH hL)
  · cases h
end SXE
end
section
/-! THE WORDS that the methods need, once each; that they are the tables' -/
def sx_ws (ws : List Cond) : Prop := ∀ w ∈ ws, w ∈ lw_tbl ∧ goodWord w = true
theorem wx_in {ws : List Cond} {is : List Nat} (h : ws = is.filterMap (fun i => lw_tbl[i]?)) : ∀ w ∈ ws, w ∈ lw_tbl := fun w hw => by
  rw [h] at hw
  obtain ⟨i, -, hi⟩ := List.mem_filterMap.mp hw
  exact List.mem_of_getElem? hi
theorem wx_of {ws : List Cond} (is : List Nat) (h : ws = is.filterMap (fun i => lw_tbl[i]?)) (hg : ws.all goodWord = true) : sx_ws ws := fun w hw => ⟨wx_in h w hw, List.all_eq_true.mp hg w hw⟩
def wn_l : List Cond := [.methodLinkNest RX5 11 yX3_init "DaisyChain", .methodLinkNest RX3 21 yX4_init "DaisyChain", .methodLinkNest RX5 18 yX4_init "DaisyChain", .methodLinkNest RX5 25 yX0_init "DaisyChain", .methodLinkNest RX5 56 yX1_init "DaisyChain", .methodLinkNest RX5 69 yX2_init "DaisyChain", .methodLinkNest RX3 83 yX5_isWithin "DaisyChain", .methodLinkNest RX1 33 yX5_bestPlace "DaisyChain", .methodLinkNest RX2 29 yX5_strength "DaisyChain"]
theorem wn_sub : ∀ w ∈ wn_l, w ∈ lw_tbl := wx_in (is := [82, 88, 156, 159, 202, 218, 329, 535, 605]) (by decide +kernel)
end
section
/-! THE CHECK of a table against the machine's tables, and the soundness of a run -/
def lw_in (w : Cond) : Bool := decide (w ∈ lw_tbl) && goodWord w
def wn (own : String) (idx : Nat) (y : MethodName) : Bool := decide (Cond.methodLinkNest own idx y "DaisyChain" ∈ wn_l)
/-- a word among a method's own -/
def wi (ws : List Cond) (w : Cond) : Bool := decide (w ∈ ws)
def ck_d (cc : ByteArray) (pc n : Nat) (i : Instr) : Bool := decide (decode cc pc = .ok (i, n))
def ck_cw (ws : List Cond) (own : String) (idx fr lo : Nat) (d : sx_M) (n : Nat) : Bool :=
  wi ws (Cond.code d.1 d.2.1 d.2.2.1 d.2.2.2.1) && wi ws (.initialized d.1.cls) && decide (d.1.cls ≠ "java/lang/invoke/MethodHandle") && decide (d.1.cls ≠ "java/lang/invoke/VarHandle") && decide ((parseMethodDescriptor d.1.desc).map (fun d => d.parameters.length) = some n) && decide (d.2.2.2.2.1 + 1 ≤ fr) && decide (8 + (d.2.2.1 + 11) + d.2.2.2.2.2.1 ≤ lo)
def ck_S (ws : List Cond) (own : String) (idx fr lo : Nat) (d : sx_M) : Bool := ck_cw ws own idx fr lo d d.2.2.2.2.2.2 && wi ws (.static d.1) && (wi ws (.methodLink own idx d.1) || wn own idx d.1)
def ck_V (ws : List Cond) (own : String) (idx fr lo ci : Nat) (d : sx_M) : Bool := ck_cw ws own idx fr lo d (d.2.2.2.2.2.2 - 1) && decide (0 < d.2.2.2.2.2.2) && decide (ci < 7) && wi ws (.instanceMethod d.1) && wi ws (.selects (hp_R ci) d.1 d.1) && wi ws (.methodLink own idx d.1)
def ck_I (ws : List Cond) (own : String) (idx fr lo : Nat) (d : sx_M) : Bool := ck_cw ws own idx fr lo d (d.2.2.2.2.2.2 - 1) && decide (0 < d.2.2.2.2.2.2) && decide (d.2.2.2.1 = none) && decide (d.1.name = "<init>") && wi ws (.instanceMethod d.1) && (wi ws (.methodLink own idx d.1) || wn own idx d.1)
def ck_m (ms : List sx_M) (a : Nat) (k : sx_M → Bool) : Bool := match ms[a]? with
  | some d => k d
  | none => false
def sx_ck (ws : List Cond) (own : String) (ini : Bool) (nL fr lo : Nat) (ms : List sx_M) (kc : Nat → Int32) (kl : Nat → Int64) (cc : ByteArray) (pc : Nat) (e : sx_E) : Bool := match e.1 with
  | .iconst _ => ck_d cc pc 1 e.1
  | .bipush _ => ck_d cc pc 2 e.1
  | .sipush _ => ck_d cc pc 3 e.1
  | .ldc i => ck_d cc pc 2 e.1 && wi ws (.constant own i (kc i))
  | .ldc_w i => ck_d cc pc 3 e.1 && wi ws (.constant own i (kc i))
  | .ldc2_w i => ck_d cc pc 3 e.1 && wi ws (.constantLong own i (kl i))
  | .lconst _ => ck_d cc pc 1 e.1
  | .iload _ => ck_d cc pc 2 e.1
  | .iload_n _ => ck_d cc pc 1 e.1
  | .aload _ => ck_d cc pc 2 e.1
  | .aload_n _ => ck_d cc pc 1 e.1
  | .istore i => ck_d cc pc 2 e.1 && decide (i < nL)
  | .istore_n i => ck_d cc pc 1 e.1 && decide (i.val < nL)
  | .astore i => ck_d cc pc 2 e.1 && decide (i < nL)
  | .astore_n i => ck_d cc pc 1 e.1 && decide (i.val < nL)
  | .iinc i _ => ck_d cc pc 3 e.1 && decide (i < nL)
  | .iadd => ck_d cc pc 1 e.1
  | .isub => ck_d cc pc 1 e.1
  | .imul => ck_d cc pc 1 e.1
  | .iand => ck_d cc pc 1 e.1
  | .ior => ck_d cc pc 1 e.1
  | .ixor => ck_d cc pc 1 e.1
  | .ishl => ck_d cc pc 1 e.1
  | .ishr => ck_d cc pc 1 e.1
  | .iushr => ck_d cc pc 1 e.1
  | .idiv => ck_d cc pc 1 e.1
  | .irem => ck_d cc pc 1 e.1
  | .ladd => ck_d cc pc 1 e.1
  | .lcmp => ck_d cc pc 1 e.1
  | .dup => ck_d cc pc 1 e.1
  | .dup2 => ck_d cc pc 1 e.1
  | .pop => ck_d cc pc 1 e.1
  | .getfield idx => ck_d cc pc 3 e.1 && decide (e.2.1 < 7) && decide (e.2.2.1 < hp_n e.2.1) && wi ws (.fieldLink own idx (hp_T e.2.1 e.2.2.1).1 (hp_T e.2.1 e.2.2.1).2.1 (hp_T e.2.1 e.2.2.1).2.2.1)
  | .putfield idx => ck_d cc pc 3 e.1 && decide (e.2.1 < 7) && decide (e.2.2.1 < hp_n e.2.1) && wi ws (.fieldLink own idx (hp_T e.2.1 e.2.2.1).1 (hp_T e.2.1 e.2.2.1).2.1 (hp_T e.2.1 e.2.2.1).2.2.1) && (!(hp_T e.2.1 e.2.2.1).2.2.2 || (ini && decide ((hp_T e.2.1 e.2.2.1).1 = own)))
  | .iaload => ck_d cc pc 1 e.1
  | .baload => ck_d cc pc 1 e.1
  | .aaload => ck_d cc pc 1 e.1 && decide (e.2.1 < 2)
  | .iastore => ck_d cc pc 1 e.1
  | .bastore => ck_d cc pc 1 e.1
  | .aastore => ck_d cc pc 1 e.1 && decide ((e.2.1 = 0 ∧ e.2.2.1 = 0) ∨ (e.2.1 = 1 ∧ e.2.2.1 = 2))
  | .arraylength => ck_d cc pc 1 e.1
  | .new idx => ck_d cc pc 3 e.1 && decide (e.2.1 < 7) && wi ws (.classLink own idx (hp_R e.2.1)) && wi ws (.instantiable (hp_R e.2.1) (hp_n e.2.1)) && wi ws (.initialized (hp_R e.2.1))
  | .newarray t => ck_d cc pc 2 e.1 && decide ((e.2.1 = 1 ∧ t = .int) ∨ (e.2.1 = 2 ∧ t = .boolean)) && wi ws (.arrayClass (newarray.typeOf t))
  | .anewarray idx => ck_d cc pc 3 e.1 && decide (e.2.1 = 3 ∨ e.2.1 = 4) && wi ws (.classLink own idx (if e.2.1 = 3 then RX0 else RX2))
  | .ifCond _ off => ck_d cc pc 3 e.1 && decide ((pc : Int) + off = (e.2.1 : Int))
  | .if_icmp _ off => ck_d cc pc 3 e.1 && decide ((pc : Int) + off = (e.2.1 : Int))
  | .goto off => ck_d cc pc 3 e.1 && decide ((pc : Int) + off = (e.2.2.1 : Int))
  | .tableswitch d lo' hi' offs => (match decode cc pc with
      | .ok (i, _) => decide (i = e.1)
      | _ => false) && sw_T pc d lo' hi' offs e.2.2.1 e.2.2.2
  | .lookupswitch d ps => (match decode cc pc with
      | .ok (i, _) => decide (i = e.1)
      | _ => false) && sw_L pc d ps e.2.2.1 e.2.2.2
  | .ireturn => ck_d cc pc 1 e.1
  | .lreturn => ck_d cc pc 1 e.1
  | .return_ => ck_d cc pc 1 e.1
  | .invokevirtual idx => ck_d cc pc 3 e.1 && ck_m ms e.2.1 (ck_V ws own idx fr lo e.2.2.1)
  | .invokestatic idx => ck_d cc pc 3 e.1 && (match e.2.2.1 with
      | 0 => ck_m ms e.2.1 (ck_S ws own idx fr lo)
      | 1 => wi ws (.methodLink own idx Lib.Math.max.name) && wi ws (.static Lib.Math.max.name) && wi ws (.initialized "java/lang/Math") && wi ws (.code Lib.Math.max.name Lib.Math.max.code 2 (some .int)) && decide (1 ≤ fr) && decide (21 ≤ lo)
      | 2 => wi ws (.methodLink own idx Lib.Math.min.name) && wi ws (.static Lib.Math.min.name) && wi ws (.initialized "java/lang/Math") && wi ws (.code Lib.Math.min.name Lib.Math.min.code 2 (some .int)) && decide (1 ≤ fr) && decide (21 ≤ lo)
      | 3 => wi ws (.methodLink own idx arraycopyName) && wi ws (.native arraycopyName) && wi ws (.static arraycopyName) && wi ws (.initialized "java/lang/System") && decide (1 ≤ fr) && decide (26 ≤ lo)
      | _ => false)
  | .invokespecial idx => ck_d cc pc 3 e.1 && (match e.2.2.1 with
      | 0 => ck_m ms e.2.1 (ck_I ws own idx fr lo)
      | _ => wi ws (.methodLink own idx Lib.objectInit) && wi ws (.instanceMethod Lib.objectInit) && wi ws (.code Lib.objectInit ⟨#[0xb1]⟩ 1 none) && decide (1 ≤ fr) && decide (20 ≤ lo))
  | _ => false
theorem wi_B {ws : List Cond} (hw : sx_ws ws) {w : Cond} {s : State} (hT : sx_T s) (h : wi ws w = true) (A : Array Value) : w.before A s = true := by
  have h := of_decide_eq_true h
  exact hT.1 w (hw w h).1 (hw w h).2 A
theorem ck_dD {cc : ByteArray} {pc n : Nat} {i : Instr} (h : ck_d cc pc n i = true) : decode cc pc = .ok (i, n) := of_decide_eq_true h
theorem ck_cwP {ws : List Cond} (hw : sx_ws ws) {own : String} {idx n : Nat} {R : Room} {s : State} {args : Array Value} {d : sx_M} (hT : sx_T s) (h : ck_cw ws own idx R.frames R.locals d n = true) : sx_cw R s args own idx d n := by
  simp only [ck_cw, Bool.and_eq_true, decide_eq_true_eq] at h
  obtain ⟨⟨⟨⟨⟨⟨h1, h2⟩, h3⟩, h4⟩, h5⟩, h6⟩, h7⟩ := h
  have h1' := hw _ (of_decide_eq_true h1)
  exact ⟨h1'.1, h1'.2, wi_B hw hT h2 args, ⟨h3, h4⟩, h5, h6, h7⟩
theorem lw_nestB {own : String} {idx : Nat} {y : MethodName} {s : State} (hT : sx_T s) (h : wn own idx y = true) : va_Nw (.methodLinkNest own idx y "DaisyChain") s := hT.2.1 _ _ _ _ (wn_sub _ (of_decide_eq_true h))
section SXF
variable {p : Program} {l : Launch} {e : Env} {R : Room} {s : State} {m : MethodId} {args : Array Value} {below : List Frame} {meth : Method} {c : Code} {Q : State → Prop}
variable {D : va_G} {cK : Nat → ClassId} {ba b n0 nL nE : Nat} {cc : ByteArray} {own : String}
set_option maxHeartbeats 4000000 in
theorem sx_step {ws : List Cond} (hw : sx_ws ws) (hx : p.tables.exec = Jvm.exec) (hb : c.code = cc) (hml : c.maxLocals = nL) (hown : s.vm.findClass own = some m.cls) (hT : sx_T s) (hK : va_K D hp_cl (hp_tys cK) s) (hs0 : s.heap.size = ba + n0) (hrm : sx_rm R n0 nE) {P : sx_P} (hsc : ∀ L xs, P.2.2.1 = some (L, xs) → va_X b L xs s s.heap ∧ b < s.heap.size ∧ b < ba) (hcs : ∀ q ∈ P.2.1, sx_ok q.1 q.2) {ini : Bool} (hini : ini = true → meth.name = "<init>") {en : sx_E} {S S' : sx_S} (hk : sx_ck ws own ini nL R.frames R.locals (P.2.1.map Prod.fst) P.2.2.2.1 P.2.2.2.2.1 cc S.1 en = true) (h : sx_do P.1 P.2.1 P.2.2.1 P.2.2.2.1 P.2.2.2.2.1 en S = some (.inr S')) (hE : S'.2.2.2.2.2.2 ≤ nE)
    (kk : sx_G p l e R s m args below meth c Q D cK ba b n0 nL s.heap S') : sx_G p l e R s m args below meth c Q D cK ba b n0 nL s.heap S := by
  have hms : ∀ {a : Nat} {k : sx_M → Bool} {k2 : sx_M × sx_F → sx_S → sx_O}, ck_m (P.2.1.map Prod.fst) a k = true → o_inv P.2.1 a k2 S = some (.inr S') → ∃ d f, sx_ok d f ∧ k d = true ∧ k2 (d, f) S = some (.inr S') := by
    intro a k k2 h1 h2
    simp only [ck_m, List.getElem?_map] at h1
    simp only [o_inv] at h2
    cases hq : P.2.1[a]? with
    | none => rw [hq] at h1; cases h1
    | some q =>
      rw [hq] at h1 h2
      obtain ⟨d, f⟩ := q
      exact ⟨d, f, hcs (d, f) (List.mem_of_getElem? hq), h1, h2⟩
  obtain ⟨i, ea, eb, sw⟩ := en
  cases i with
  | iconst z => exact g_co h (fun w => lv_iconst hx hb (ck_dD hk) rfl w) kk
  | bipush z => exact g_co h (fun w => lv_bipush hx hb (ck_dD hk) rfl w) kk
  | sipush z => exact g_co h (fun w => lv_sipush hx hb (ck_dD hk) rfl w) kk
  | ldc i =>
    simp only [sx_ck, Bool.and_eq_true] at hk
    exact g_co h (fun w => lv_ldc hx hb hown (wi_B hw hT hk.2 args) (ck_dD hk.1) w) kk
  | ldc_w i =>
    simp only [sx_ck, Bool.and_eq_true] at hk
    exact g_co h (fun w => lv_ldcw hx hb hown (wi_B hw hT hk.2 args) (ck_dD hk.1) w) kk
  | ldc2_w i =>
    simp only [sx_ck, Bool.and_eq_true] at hk
    exact g_co h (fun w => lv_ldc2 hx hb hown (wi_B hw hT hk.2 args) (ck_dD hk.1) w) kk
  | lconst n => exact g_co h (fun w => lv_lconst hx hb (ck_dD hk) rfl w) kk
  | iload i => exact g_ldi h (fun hl w => lv_iload hx hb (ck_dD hk) hl w) kk
  | iload_n i => exact g_ldi h (fun hl w => lv_iload_n hx hb (ck_dD hk) rfl hl w) kk
  | aload i => exact g_lda h (fun hl w => lv_aload hx hb (ck_dD hk) hl w) kk
  | aload_n i => exact g_lda h (fun hl w => lv_aload_n hx hb (ck_dD hk) rfl hl w) kk
  | istore i =>
    simp only [sx_ck, Bool.and_eq_true, decide_eq_true_eq] at hk
    exact g_sti h (fun hl w => lv_istore hx hb (ck_dD hk.1) hl hk.2 rfl w) kk
  | istore_n i =>
    simp only [sx_ck, Bool.and_eq_true, decide_eq_true_eq] at hk
    exact g_sti h (fun hl w => lv_istore_n hx hb (ck_dD hk.1) rfl hl hk.2 rfl w) kk
  | astore i =>
    simp only [sx_ck, Bool.and_eq_true, decide_eq_true_eq] at hk
    exact g_sta h (fun hl w => lv_astore hx hb (ck_dD hk.1) hl hk.2 rfl w) kk
  | astore_n i =>
    simp only [sx_ck, Bool.and_eq_true, decide_eq_true_eq] at hk
    exact g_sta h (fun hl w => lv_astore_n hx hb (ck_dD hk.1) rfl hl hk.2 rfl w) kk
  | iinc i z =>
    simp only [sx_ck, Bool.and_eq_true, decide_eq_true_eq] at hk
    exact g_inc hx hb h hk.2 (ck_dD hk.1) kk
  | iadd => exact g_bi h (fun w => lv_iadd hx hb (ck_dD hk) w) kk
  | isub => exact g_bi h (fun w => lv_isub hx hb (ck_dD hk) w) kk
  | imul => exact g_bi h (fun w => lv_imul hx hb (ck_dD hk) w) kk
  | iand => exact g_bi h (fun w => lv_iand hx hb (ck_dD hk) w) kk
  | ior => exact g_bi h (fun w => lv_ior hx hb (ck_dD hk) w) kk
  | ixor => exact g_bi h (fun w => lv_ixor hx hb (ck_dD hk) w) kk
  | ishl => exact g_bi h (fun w => lv_ishl hx hb (ck_dD hk) w) kk
  | ishr => exact g_bi h (fun w => lv_ishr hx hb (ck_dD hk) w) kk
  | iushr => exact g_bi h (fun w => lv_iushr hx hb (ck_dD hk) rfl w) kk
  | idiv => exact g_dv h (fun hy w => lv_idiv hx hb (ck_dD hk) hy w) kk
  | irem => exact g_dv h (fun hy w => lv_irem hx hb (ck_dD hk) hy w) kk
  | ladd => exact g_ladd hx hb h (ck_dD hk) kk
  | lcmp => exact g_lcmp hx hb h (ck_dD hk) kk
  | dup => exact g_dup hx hb h (ck_dD hk) kk
  | dup2 => exact g_dup2 hx hb h (ck_dD hk) kk
  | pop => exact g_pop hx hb h (ck_dD hk) kk
  | getfield idx =>
    simp only [sx_ck, Bool.and_eq_true, decide_eq_true_eq] at hk
    exact g_get hx hb hown hT hK hk.1.1.2 hk.1.2 (wi_B hw hT hk.2 args) h (ck_dD hk.1.1.1) kk
  | putfield idx =>
    simp only [sx_ck, Bool.and_eq_true, Bool.or_eq_true, Bool.not_eq_true', decide_eq_true_eq] at hk
    refine g_put hx hb hown hT hK hk.1.1.1.2 hk.1.1.2 (wi_B hw hT hk.1.2 args) ?_ h (ck_dD hk.1.1.1.1) kk
    rcases hk.2 with q | q
    · exact Or.inl q
    · cases hf : (hp_T ea eb).2.2.2 with
      | false => exact Or.inl rfl
      | true => exact Or.inr ⟨rfl, hini q.1, q.2⟩
  | iaload => exact g_iald hx hb hK hsc h (ck_dD hk) kk
  | baload => exact g_zald hx hb hK h (ck_dD hk) kk
  | aaload =>
    simp only [sx_ck, Bool.and_eq_true, decide_eq_true_eq] at hk
    exact g_aald hx hb hK hk.2 h (ck_dD hk.1) kk
  | iastore => exact g_iast hx hb hK h (ck_dD hk) kk
  | bastore => exact g_zast hx hb hK h (ck_dD hk) kk
  | aastore =>
    simp only [sx_ck, Bool.and_eq_true, decide_eq_true_eq] at hk
    exact g_aast hx hb hK hk.2 h (ck_dD hk.1) kk
  | arraylength => exact g_alen hx hb hsc h (ck_dD hk) kk
  | new idx =>
    simp only [sx_ck, Bool.and_eq_true, decide_eq_true_eq] at hk
    exact g_new hx hb hown hT hK hs0 hrm hk.1.1.1.2 (wi_B hw hT hk.1.1.2 args) (wi_B hw hT hk.1.2 args) (wi_B hw hT hk.2 args) h hE (ck_dD hk.1.1.1.1) kk
  | newarray t =>
    simp only [sx_ck, Bool.and_eq_true, decide_eq_true_eq] at hk
    exact g_newa hx hb hK hs0 hrm hk.1.2 (wi_B hw hT hk.2 args) h hE (ck_dD hk.1.1) kk
  | anewarray idx =>
    simp only [sx_ck, Bool.and_eq_true, decide_eq_true_eq] at hk
    exact g_newq hx hb hown hT hK hs0 hrm hk.1.2 (wi_B hw hT hk.2 args) h hE (ck_dD hk.1.1) kk
  | ifCond cd off =>
    simp only [sx_ck, Bool.and_eq_true, decide_eq_true_eq] at hk
    exact g_if hx hb h (ck_dD hk.1) hk.2 kk
  | if_icmp cd off =>
    simp only [sx_ck, Bool.and_eq_true, decide_eq_true_eq] at hk
    exact g_icmp hx hb h (ck_dD hk.1) hk.2 kk
  | goto off =>
    simp only [sx_ck, Bool.and_eq_true, decide_eq_true_eq] at hk
    exact g_goto hx hb h (ck_dD hk.1) hk.2 kk
  | tableswitch d lo' hi' offs =>
    simp only [sx_ck, Bool.and_eq_true] at hk
    cases hd : decode cc S.1 with
    | error z => rw [hd] at hk; cases hk.1
    | ok q =>
      rw [hd] at hk
      obtain ⟨i, len⟩ := q
      have := of_decide_eq_true hk.1
      subst this
      exact g_swT hx hb h hd hk.2 kk
  | lookupswitch d ps =>
    simp only [sx_ck, Bool.and_eq_true] at hk
    cases hd : decode cc S.1 with
    | error z => rw [hd] at hk; cases hk.1
    | ok q =>
      rw [hd] at hk
      obtain ⟨i, len⟩ := q
      have := of_decide_eq_true hk.1
      subst this
      exact g_swL hx hb h hd hk.2 kk
  | ireturn => exact absurd h (fun h => iret_no h)
  | lreturn => exact absurd h (fun h => lret_no h)
  | return_ => exact absurd h (fun h => vret_no h)
  | invokevirtual idx =>
    simp only [sx_ck, Bool.and_eq_true] at hk
    obtain ⟨d, f, h1, h2, h3⟩ := hms hk.2 h
    simp only [ck_V, Bool.and_eq_true, decide_eq_true_eq] at h2
    obtain ⟨⟨⟨⟨⟨a1, a2⟩, a3⟩, a4⟩, a5⟩, a6⟩ := h2
    exact g_callV hx hb hml hown hT hK hs0 hrm a3 h1 (ck_cwP hw hT a1) (by omega) (wi_B hw hT a4 args) (wi_B hw hT a5 args) (wi_B hw hT a6 args) h3 hE (ck_dD hk.1) kk
  | invokestatic idx =>
    simp only [sx_ck, Bool.and_eq_true] at hk
    obtain ⟨hk1, hk2⟩ := hk
    match eb, hk2, h with
    | 0, hk2, h =>
      obtain ⟨d, f, h1, h2, h3⟩ := hms hk2 h
      simp only [ck_S, Bool.and_eq_true, Bool.or_eq_true] at h2
      obtain ⟨⟨a1, a2⟩, a3⟩ := h2
      refine g_callS hx hb hml hown hT hK hs0 hrm h1 (ck_cwP hw hT a1) (wi_B hw hT a2 args) ?_ h3 hE (ck_dD hk1) kk
      rcases a3 with q | q
      · exact Or.inl (wi_B hw hT q args)
      · exact Or.inr ⟨_, lw_nestB hT q⟩
    | 1, hk2, h =>
      simp only [Bool.and_eq_true, decide_eq_true_eq] at hk2
      obtain ⟨⟨⟨⟨⟨a1, a2⟩, a3⟩, a4⟩, a5⟩, a6⟩ := hk2
      exact g_max hx hb hml hown hrm (wi_B hw hT a1 args) (wi_B hw hT a2 args) (wi_B hw hT a3 args) (wi_B hw hT a4 args) a5 a6 h hE (ck_dD hk1) kk
    | 2, hk2, h =>
      simp only [Bool.and_eq_true, decide_eq_true_eq] at hk2
      obtain ⟨⟨⟨⟨⟨a1, a2⟩, a3⟩, a4⟩, a5⟩, a6⟩ := hk2
      exact g_min hx hb hml hown hrm (wi_B hw hT a1 args) (wi_B hw hT a2 args) (wi_B hw hT a3 args) (wi_B hw hT a4 args) a5 a6 h hE (ck_dD hk1) kk
    | 3, hk2, h =>
      simp only [Bool.and_eq_true, decide_eq_true_eq] at hk2
      obtain ⟨⟨⟨⟨⟨a1, a2⟩, a3⟩, a4⟩, a5⟩, a6⟩ := hk2
      exact g_copy hx hb hml hown hK (wi_B hw hT a1 args) (wi_B hw hT a2 args) (wi_B hw hT a3 args) (wi_B hw hT a4 args) a5 a6 h (ck_dD hk1) kk
    | n + 4, hk2, h => cases hk2
  | invokespecial idx =>
    simp only [sx_ck, Bool.and_eq_true] at hk
    obtain ⟨hk1, hk2⟩ := hk
    match eb, hk2, h with
    | 0, hk2, h =>
      obtain ⟨d, f, h1, h2, h3⟩ := hms hk2 h
      simp only [ck_I, Bool.and_eq_true, Bool.or_eq_true, decide_eq_true_eq] at h2
      obtain ⟨⟨⟨⟨⟨a1, a2⟩, a3⟩, a4⟩, a5⟩, a6⟩ := h2
      refine g_callI hx hb hml hown hT hK hs0 hrm h1 (ck_cwP hw hT a1) a3 (by omega) a4 (wi_B hw hT a5 args) ?_ h3 hE (ck_dD hk1) kk
      rcases a6 with q | q
      · exact Or.inl (wi_B hw hT q args)
      · exact Or.inr ⟨_, lw_nestB hT q⟩
    | n + 1, hk2, h =>
      simp only [Bool.and_eq_true, decide_eq_true_eq] at hk2
      obtain ⟨⟨⟨⟨a1, a2⟩, a3⟩, a4⟩, a5⟩ := hk2
      exact g_obj hx hb hml hown (wi_B hw hT a1 args) (wi_B hw hT a2 args) (wi_B hw hT a3 args) a4 a5 h (ck_dD hk1) kk
  | _ => cases h
end SXF
end
section
/-! A RUN: cells are never given back; a method's soundness; the rows by which a method is read -/
theorem n_co {v : Value} {n : Nat} {S S' : sx_S} (h : o_co v n S = some (.inr S')) : S.2.2.2.2.2.2 ≤ S'.2.2.2.2.2.2 := by
  obtain ⟨pc, ls, st, G⟩ := S
  simp only [o_co] at h
  (repeat' split at h) <;> cases h <;> first | exact Nat.le_refl _ | exact Nat.le_succ _
theorem i_co {v : Value} {n : Nat} {S : sx_S} {r : sx_R} (h : o_co v n S = some (.inl r)) : False := by
  obtain ⟨pc, ls, st, G⟩ := S
  simp only [o_co] at h
  (repeat' split at h) <;> cases h
theorem n_bi {f : Int32 → Int32 → Int32} {S S' : sx_S} (h : o_bi f S = some (.inr S')) : S.2.2.2.2.2.2 ≤ S'.2.2.2.2.2.2 := by
  obtain ⟨pc, ls, st, G⟩ := S
  simp only [o_bi] at h
  (repeat' split at h) <;> cases h <;> first | exact Nat.le_refl _ | exact Nat.le_succ _
theorem i_bi {f : Int32 → Int32 → Int32} {S : sx_S} {r : sx_R} (h : o_bi f S = some (.inl r)) : False := by
  obtain ⟨pc, ls, st, G⟩ := S
  simp only [o_bi] at h
  (repeat' split at h) <;> cases h
theorem n_dv {f : Int32 → Int32 → Int32} {S S' : sx_S} (h : o_dv f S = some (.inr S')) : S.2.2.2.2.2.2 ≤ S'.2.2.2.2.2.2 := by
  obtain ⟨pc, ls, st, G⟩ := S
  simp only [o_dv] at h
  (repeat' split at h) <;> cases h <;> first | exact Nat.le_refl _ | exact Nat.le_succ _
theorem i_dv {f : Int32 → Int32 → Int32} {S : sx_S} {r : sx_R} (h : o_dv f S = some (.inl r)) : False := by
  obtain ⟨pc, ls, st, G⟩ := S
  simp only [o_dv] at h
  (repeat' split at h) <;> cases h
theorem n_ladd  {S S' : sx_S} (h : o_ladd  S = some (.inr S')) : S.2.2.2.2.2.2 ≤ S'.2.2.2.2.2.2 := by
  obtain ⟨pc, ls, st, G⟩ := S
  simp only [o_ladd] at h
  (repeat' split at h) <;> cases h <;> first | exact Nat.le_refl _ | exact Nat.le_succ _
theorem i_ladd  {S : sx_S} {r : sx_R} (h : o_ladd  S = some (.inl r)) : False := by
  obtain ⟨pc, ls, st, G⟩ := S
  simp only [o_ladd] at h
  (repeat' split at h) <;> cases h
theorem n_lcmp  {S S' : sx_S} (h : o_lcmp  S = some (.inr S')) : S.2.2.2.2.2.2 ≤ S'.2.2.2.2.2.2 := by
  obtain ⟨pc, ls, st, G⟩ := S
  simp only [o_lcmp] at h
  (repeat' split at h) <;> cases h <;> first | exact Nat.le_refl _ | exact Nat.le_succ _
theorem i_lcmp  {S : sx_S} {r : sx_R} (h : o_lcmp  S = some (.inl r)) : False := by
  obtain ⟨pc, ls, st, G⟩ := S
  simp only [o_lcmp] at h
  (repeat' split at h) <;> cases h
theorem n_ldi {i n : Nat} {S S' : sx_S} (h : o_ldi i n S = some (.inr S')) : S.2.2.2.2.2.2 ≤ S'.2.2.2.2.2.2 := by
  obtain ⟨pc, ls, st, G⟩ := S
  simp only [o_ldi] at h
  (repeat' split at h) <;> cases h <;> first | exact Nat.le_refl _ | exact Nat.le_succ _
theorem i_ldi {i n : Nat} {S : sx_S} {r : sx_R} (h : o_ldi i n S = some (.inl r)) : False := by
  obtain ⟨pc, ls, st, G⟩ := S
  simp only [o_ldi] at h
  (repeat' split at h) <;> cases h
theorem n_lda {i n : Nat} {S S' : sx_S} (h : o_lda i n S = some (.inr S')) : S.2.2.2.2.2.2 ≤ S'.2.2.2.2.2.2 := by
  obtain ⟨pc, ls, st, G⟩ := S
  simp only [o_lda] at h
  (repeat' split at h) <;> cases h <;> first | exact Nat.le_refl _ | exact Nat.le_succ _
theorem i_lda {i n : Nat} {S : sx_S} {r : sx_R} (h : o_lda i n S = some (.inl r)) : False := by
  obtain ⟨pc, ls, st, G⟩ := S
  simp only [o_lda] at h
  (repeat' split at h) <;> cases h
theorem n_sti {i n : Nat} {S S' : sx_S} (h : o_sti i n S = some (.inr S')) : S.2.2.2.2.2.2 ≤ S'.2.2.2.2.2.2 := by
  obtain ⟨pc, ls, st, G⟩ := S
  simp only [o_sti] at h
  (repeat' split at h) <;> cases h <;> first | exact Nat.le_refl _ | exact Nat.le_succ _
theorem i_sti {i n : Nat} {S : sx_S} {r : sx_R} (h : o_sti i n S = some (.inl r)) : False := by
  obtain ⟨pc, ls, st, G⟩ := S
  simp only [o_sti] at h
  (repeat' split at h) <;> cases h
theorem n_sta {i n : Nat} {S S' : sx_S} (h : o_sta i n S = some (.inr S')) : S.2.2.2.2.2.2 ≤ S'.2.2.2.2.2.2 := by
  obtain ⟨pc, ls, st, G⟩ := S
  simp only [o_sta] at h
  (repeat' split at h) <;> cases h <;> first | exact Nat.le_refl _ | exact Nat.le_succ _
theorem i_sta {i n : Nat} {S : sx_S} {r : sx_R} (h : o_sta i n S = some (.inl r)) : False := by
  obtain ⟨pc, ls, st, G⟩ := S
  simp only [o_sta] at h
  (repeat' split at h) <;> cases h
theorem n_inc {i : Nat} {z : Int} {S S' : sx_S} (h : o_inc i z S = some (.inr S')) : S.2.2.2.2.2.2 ≤ S'.2.2.2.2.2.2 := by
  obtain ⟨pc, ls, st, G⟩ := S
  simp only [o_inc] at h
  (repeat' split at h) <;> cases h <;> first | exact Nat.le_refl _ | exact Nat.le_succ _
theorem i_inc {i : Nat} {z : Int} {S : sx_S} {r : sx_R} (h : o_inc i z S = some (.inl r)) : False := by
  obtain ⟨pc, ls, st, G⟩ := S
  simp only [o_inc] at h
  (repeat' split at h) <;> cases h
theorem n_dup  {S S' : sx_S} (h : o_dup  S = some (.inr S')) : S.2.2.2.2.2.2 ≤ S'.2.2.2.2.2.2 := by
  obtain ⟨pc, ls, st, G⟩ := S
  simp only [o_dup] at h
  (repeat' split at h) <;> cases h <;> first | exact Nat.le_refl _ | exact Nat.le_succ _
theorem i_dup  {S : sx_S} {r : sx_R} (h : o_dup  S = some (.inl r)) : False := by
  obtain ⟨pc, ls, st, G⟩ := S
  simp only [o_dup] at h
  (repeat' split at h) <;> cases h
theorem n_dup2  {S S' : sx_S} (h : o_dup2  S = some (.inr S')) : S.2.2.2.2.2.2 ≤ S'.2.2.2.2.2.2 := by
  obtain ⟨pc, ls, st, G⟩ := S
  simp only [o_dup2] at h
  (repeat' split at h) <;> cases h <;> first | exact Nat.le_refl _ | exact Nat.le_succ _
theorem i_dup2  {S : sx_S} {r : sx_R} (h : o_dup2  S = some (.inl r)) : False := by
  obtain ⟨pc, ls, st, G⟩ := S
  simp only [o_dup2] at h
  (repeat' split at h) <;> cases h
theorem n_pop  {S S' : sx_S} (h : o_pop  S = some (.inr S')) : S.2.2.2.2.2.2 ≤ S'.2.2.2.2.2.2 := by
  obtain ⟨pc, ls, st, G⟩ := S
  simp only [o_pop] at h
  (repeat' split at h) <;> cases h <;> first | exact Nat.le_refl _ | exact Nat.le_succ _
theorem i_pop  {S : sx_S} {r : sx_R} (h : o_pop  S = some (.inl r)) : False := by
  obtain ⟨pc, ls, st, G⟩ := S
  simp only [o_pop] at h
  (repeat' split at h) <;> cases h
theorem n_get {ci k : Nat} {S S' : sx_S} (h : o_get ci k S = some (.inr S')) : S.2.2.2.2.2.2 ≤ S'.2.2.2.2.2.2 := by
  obtain ⟨pc, ls, st, G⟩ := S
  simp only [o_get] at h
  (repeat' split at h) <;> cases h <;> first | exact Nat.le_refl _ | exact Nat.le_succ _
theorem i_get {ci k : Nat} {S : sx_S} {r : sx_R} (h : o_get ci k S = some (.inl r)) : False := by
  obtain ⟨pc, ls, st, G⟩ := S
  simp only [o_get] at h
  (repeat' split at h) <;> cases h
theorem n_put {ci k : Nat} {S S' : sx_S} (h : o_put ci k S = some (.inr S')) : S.2.2.2.2.2.2 ≤ S'.2.2.2.2.2.2 := by
  obtain ⟨pc, ls, st, G⟩ := S
  simp only [o_put] at h
  (repeat' split at h) <;> cases h <;> first | exact Nat.le_refl _ | exact Nat.le_succ _
theorem i_put {ci k : Nat} {S : sx_S} {r : sx_R} (h : o_put ci k S = some (.inl r)) : False := by
  obtain ⟨pc, ls, st, G⟩ := S
  simp only [o_put] at h
  (repeat' split at h) <;> cases h
theorem n_iald {sc : Option (Nat × (Nat → Int32))} {S S' : sx_S} (h : o_iald sc S = some (.inr S')) : S.2.2.2.2.2.2 ≤ S'.2.2.2.2.2.2 := by
  obtain ⟨pc, ls, st, G⟩ := S
  simp only [o_iald] at h
  (repeat' split at h) <;> cases h <;> first | exact Nat.le_refl _ | exact Nat.le_succ _
theorem i_iald {sc : Option (Nat × (Nat → Int32))} {S : sx_S} {r : sx_R} (h : o_iald sc S = some (.inl r)) : False := by
  obtain ⟨pc, ls, st, G⟩ := S
  simp only [o_iald] at h
  (repeat' split at h) <;> cases h
theorem n_alen {sc : Option (Nat × (Nat → Int32))} {S S' : sx_S} (h : o_alen sc S = some (.inr S')) : S.2.2.2.2.2.2 ≤ S'.2.2.2.2.2.2 := by
  obtain ⟨pc, ls, st, G⟩ := S
  simp only [o_alen] at h
  (repeat' split at h) <;> cases h <;> first | exact Nat.le_refl _ | exact Nat.le_succ _
theorem i_alen {sc : Option (Nat × (Nat → Int32))} {S : sx_S} {r : sx_R} (h : o_alen sc S = some (.inl r)) : False := by
  obtain ⟨pc, ls, st, G⟩ := S
  simp only [o_alen] at h
  (repeat' split at h) <;> cases h
theorem n_zald  {S S' : sx_S} (h : o_zald  S = some (.inr S')) : S.2.2.2.2.2.2 ≤ S'.2.2.2.2.2.2 := by
  obtain ⟨pc, ls, st, G⟩ := S
  simp only [o_zald] at h
  (repeat' split at h) <;> cases h <;> first | exact Nat.le_refl _ | exact Nat.le_succ _
theorem i_zald  {S : sx_S} {r : sx_R} (h : o_zald  S = some (.inl r)) : False := by
  obtain ⟨pc, ls, st, G⟩ := S
  simp only [o_zald] at h
  (repeat' split at h) <;> cases h
theorem n_aald {j : Nat} {S S' : sx_S} (h : o_aald j S = some (.inr S')) : S.2.2.2.2.2.2 ≤ S'.2.2.2.2.2.2 := by
  obtain ⟨pc, ls, st, G⟩ := S
  simp only [o_aald] at h
  (repeat' split at h) <;> cases h <;> first | exact Nat.le_refl _ | exact Nat.le_succ _
theorem i_aald {j : Nat} {S : sx_S} {r : sx_R} (h : o_aald j S = some (.inl r)) : False := by
  obtain ⟨pc, ls, st, G⟩ := S
  simp only [o_aald] at h
  (repeat' split at h) <;> cases h
theorem n_iast  {S S' : sx_S} (h : o_iast  S = some (.inr S')) : S.2.2.2.2.2.2 ≤ S'.2.2.2.2.2.2 := by
  obtain ⟨pc, ls, st, G⟩ := S
  simp only [o_iast] at h
  (repeat' split at h) <;> cases h <;> first | exact Nat.le_refl _ | exact Nat.le_succ _
theorem i_iast  {S : sx_S} {r : sx_R} (h : o_iast  S = some (.inl r)) : False := by
  obtain ⟨pc, ls, st, G⟩ := S
  simp only [o_iast] at h
  (repeat' split at h) <;> cases h
theorem n_zast  {S S' : sx_S} (h : o_zast  S = some (.inr S')) : S.2.2.2.2.2.2 ≤ S'.2.2.2.2.2.2 := by
  obtain ⟨pc, ls, st, G⟩ := S
  simp only [o_zast] at h
  (repeat' split at h) <;> cases h <;> first | exact Nat.le_refl _ | exact Nat.le_succ _
theorem i_zast  {S : sx_S} {r : sx_R} (h : o_zast  S = some (.inl r)) : False := by
  obtain ⟨pc, ls, st, G⟩ := S
  simp only [o_zast] at h
  (repeat' split at h) <;> cases h
theorem n_aast {j ci : Nat} {S S' : sx_S} (h : o_aast j ci S = some (.inr S')) : S.2.2.2.2.2.2 ≤ S'.2.2.2.2.2.2 := by
  obtain ⟨pc, ls, st, G⟩ := S
  simp only [o_aast] at h
  (repeat' split at h) <;> cases h <;> first | exact Nat.le_refl _ | exact Nat.le_succ _
theorem i_aast {j ci : Nat} {S : sx_S} {r : sx_R} (h : o_aast j ci S = some (.inl r)) : False := by
  obtain ⟨pc, ls, st, G⟩ := S
  simp only [o_aast] at h
  (repeat' split at h) <;> cases h
theorem n_new {ci : Nat} {S S' : sx_S} (h : o_new ci S = some (.inr S')) : S.2.2.2.2.2.2 ≤ S'.2.2.2.2.2.2 := by
  obtain ⟨pc, ls, st, G⟩ := S
  simp only [o_new] at h
  (repeat' split at h) <;> cases h <;> first | exact Nat.le_refl _ | exact Nat.le_succ _
theorem i_new {ci : Nat} {S : sx_S} {r : sx_R} (h : o_new ci S = some (.inl r)) : False := by
  obtain ⟨pc, ls, st, G⟩ := S
  simp only [o_new] at h
  (repeat' split at h) <;> cases h
theorem n_newa {j n : Nat} {S S' : sx_S} (h : o_newa j n S = some (.inr S')) : S.2.2.2.2.2.2 ≤ S'.2.2.2.2.2.2 := by
  obtain ⟨pc, ls, st, G⟩ := S
  simp only [o_newa] at h
  (repeat' split at h) <;> cases h <;> first | exact Nat.le_refl _ | exact Nat.le_succ _
theorem i_newa {j n : Nat} {S : sx_S} {r : sx_R} (h : o_newa j n S = some (.inl r)) : False := by
  obtain ⟨pc, ls, st, G⟩ := S
  simp only [o_newa] at h
  (repeat' split at h) <;> cases h
theorem n_if {c : Jvm.ClassFile.Cond} {t : Nat} {S S' : sx_S} (h : o_if c t S = some (.inr S')) : S.2.2.2.2.2.2 ≤ S'.2.2.2.2.2.2 := by
  obtain ⟨pc, ls, st, G⟩ := S
  simp only [o_if] at h
  split at h
  · cases c <;> dsimp only at h <;> split at h <;> cases h <;> exact Nat.le_refl _
  · cases h
theorem i_if {c : Jvm.ClassFile.Cond} {t : Nat} {S : sx_S} {r : sx_R} (h : o_if c t S = some (.inl r)) : False := by
  obtain ⟨pc, ls, st, G⟩ := S
  simp only [o_if] at h
  split at h
  · cases c <;> dsimp only at h <;> split at h <;> cases h
  · cases h
theorem n_icmp {c : Jvm.ClassFile.Cond} {t : Nat} {S S' : sx_S} (h : o_icmp c t S = some (.inr S')) : S.2.2.2.2.2.2 ≤ S'.2.2.2.2.2.2 := by
  obtain ⟨pc, ls, st, G⟩ := S
  simp only [o_icmp] at h
  split at h
  · cases c <;> dsimp only at h <;> split at h <;> cases h <;> exact Nat.le_refl _
  · cases h
theorem i_icmp {c : Jvm.ClassFile.Cond} {t : Nat} {S : sx_S} {r : sx_R} (h : o_icmp c t S = some (.inl r)) : False := by
  obtain ⟨pc, ls, st, G⟩ := S
  simp only [o_icmp] at h
  split at h
  · cases c <;> dsimp only at h <;> split at h <;> cases h
  · cases h
theorem n_goto {n t : Nat} {S S' : sx_S} (h : o_goto n t S = some (.inr S')) : S.2.2.2.2.2.2 ≤ S'.2.2.2.2.2.2 := by
  obtain ⟨pc, ls, st, G⟩ := S
  simp only [o_goto] at h
  (repeat' split at h) <;> cases h <;> first | exact Nat.le_refl _ | exact Nat.le_succ _
theorem i_goto {n t : Nat} {S : sx_S} {r : sx_R} (h : o_goto n t S = some (.inl r)) : False := by
  obtain ⟨pc, ls, st, G⟩ := S
  simp only [o_goto] at h
  (repeat' split at h) <;> cases h
theorem n_copy  {S S' : sx_S} (h : o_copy  S = some (.inr S')) : S.2.2.2.2.2.2 ≤ S'.2.2.2.2.2.2 := by
  obtain ⟨pc, ls, st, G⟩ := S
  simp only [o_copy] at h
  (repeat' split at h) <;> cases h <;> first | exact Nat.le_refl _ | exact Nat.le_succ _
theorem i_copy  {S : sx_S} {r : sx_R} (h : o_copy  S = some (.inl r)) : False := by
  obtain ⟨pc, ls, st, G⟩ := S
  simp only [o_copy] at h
  (repeat' split at h) <;> cases h
theorem n_obj {S S' : sx_S} (h : o_obj S = some (.inr S')) : S.2.2.2.2.2.2 ≤ S'.2.2.2.2.2.2 := by
  obtain ⟨pc, ls, st, G⟩ := S
  simp only [o_obj] at h
  split at h
  · rename_i r
    cases hb : Nat.ble r.length 4 <;> rw [hb] at h <;> cases h
    exact Nat.le_refl _
  · cases h
theorem i_obj {S : sx_S} {r : sx_R} (h : o_obj S = some (.inl r)) : False := by
  obtain ⟨pc, ls, st, G⟩ := S
  simp only [o_obj] at h
  split at h
  · rename_i q
    cases hb : Nat.ble q.length 4 <;> rw [hb] at h <;> cases h
  · cases h
theorem n_max {S S' : sx_S} (h : o_max S = some (.inr S')) : S.2.2.2.2.2.2 ≤ S'.2.2.2.2.2.2 := by
  obtain ⟨pc, ls, st, G⟩ := S
  simp only [o_max] at h
  split at h
  · rename_i r
    cases hb : Nat.ble r.length 4 <;> rw [hb] at h <;> cases h
    exact Nat.le_refl _
  · cases h
theorem i_max {S : sx_S} {r : sx_R} (h : o_max S = some (.inl r)) : False := by
  obtain ⟨pc, ls, st, G⟩ := S
  simp only [o_max] at h
  split at h
  · rename_i q
    cases hb : Nat.ble q.length 4 <;> rw [hb] at h <;> cases h
  · cases h
theorem n_min {S S' : sx_S} (h : o_min S = some (.inr S')) : S.2.2.2.2.2.2 ≤ S'.2.2.2.2.2.2 := by
  obtain ⟨pc, ls, st, G⟩ := S
  simp only [o_min] at h
  split at h
  · rename_i r
    cases hb : Nat.ble r.length 4 <;> rw [hb] at h <;> cases h
    exact Nat.le_refl _
  · cases h
theorem i_min {S : sx_S} {r : sx_R} (h : o_min S = some (.inl r)) : False := by
  obtain ⟨pc, ls, st, G⟩ := S
  simp only [o_min] at h
  split at h
  · rename_i q
    cases hb : Nat.ble q.length 4 <;> rw [hb] at h <;> cases h
  · cases h
theorem n_sw {d : Nat} {sw : List (Int32 × Nat)} {S S' : sx_S} (h : o_sw d sw S = some (.inr S')) : S.2.2.2.2.2.2 ≤ S'.2.2.2.2.2.2 := by
  obtain ⟨pc, ls, st, G⟩ := S
  simp only [o_sw] at h
  split at h
  · obtain ⟨t, rfl, -⟩ := swk_spec h
    exact Nat.le_refl _
  · cases h
theorem i_swk {S : sx_S} {r : List Value} {d : Nat} {x : Int32} {z : sx_R} : ∀ {l : List (Int32 × Nat)}, o_swk S r d x l = some (.inl z) → False
  | [], h => by cases h
  | (k, t) :: l, h => by
    simp only [o_swk] at h
    split at h
    · cases h
    · exact i_swk h
theorem i_sw {d : Nat} {sw : List (Int32 × Nat)} {S : sx_S} {r : sx_R} (h : o_sw d sw S = some (.inl r)) : False := by
  obtain ⟨pc, ls, st, G⟩ := S
  simp only [o_sw] at h
  split at h
  · exact i_swk h
  · cases h
theorem n_call {d : sx_M} {f : sx_F} (hok : sx_ok d f) {S S' : sx_S} (h : o_call (d, f) S = some (.inr S')) : S.2.2.2.2.2.2 ≤ S'.2.2.2.2.2.2 := by
  obtain ⟨pc, ls, st, G⟩ := S
  simp only [o_call] at h
  split at h
  · rename_i as rest _
    cases hb : Nat.ble rest.length 4 with
    | false => rw [hb] at h; cases h
    | true =>
      rw [hb, cond_true] at h
      obtain ⟨v, G', hf, rfl⟩ := back_spec h
      exact (hok _ _ _ _ hf).1
  · cases h
theorem n_callI {d : sx_M} {f : sx_F} (hok : sx_ok d f) {S S' : sx_S} (h : o_callI (d, f) S = some (.inr S')) : S.2.2.2.2.2.2 ≤ S'.2.2.2.2.2.2 := by
  obtain ⟨pc, ls, st, G⟩ := S
  simp only [o_callI] at h
  split at h
  · rename_i o as rest _
    cases hb : Nat.ble rest.length 4 with
    | false => rw [hb] at h; cases h
    | true =>
      rw [hb, cond_true] at h
      obtain ⟨v, G', hf, rfl⟩ := back_spec h
      exact (hok _ _ _ _ hf).1
  · cases h
theorem n_callV {d : sx_M} {f : sx_F} (hok : sx_ok d f) {ci : Nat} {S S' : sx_S} (h : o_callV (d, f) ci S = some (.inr S')) : S.2.2.2.2.2.2 ≤ S'.2.2.2.2.2.2 := by
  obtain ⟨pc, ls, st, G⟩ := S
  simp only [o_callV] at h
  split at h
  · rename_i o as rest _
    cases hb : Nat.ble rest.length 4 with
    | false => rw [hb] at h; cases h
    | true =>
      rw [hb, cond_true] at h
      split at h
      · obtain ⟨v, G', hf, rfl⟩ := back_spec h
        exact (hok _ _ _ _ hf).1
      · cases h
  · cases h
theorem i_call {q : sx_M × sx_F} {S : sx_S} {r : sx_R} (h : o_call q S = some (.inl r)) : False := by
  obtain ⟨pc, ls, st, G⟩ := S
  simp only [o_call] at h
  split at h
  · rename_i as rest _
    cases hb : Nat.ble rest.length 4 with
    | false => rw [hb] at h; cases h
    | true => rw [hb, cond_true] at h; exact back_no h
  · cases h
theorem i_callI {q : sx_M × sx_F} {S : sx_S} {r : sx_R} (h : o_callI q S = some (.inl r)) : False := by
  obtain ⟨pc, ls, st, G⟩ := S
  simp only [o_callI] at h
  split at h
  · rename_i o as rest _
    cases hb : Nat.ble rest.length 4 with
    | false => rw [hb] at h; cases h
    | true => rw [hb, cond_true] at h; exact back_no h
  · cases h
theorem i_callV {q : sx_M × sx_F} {ci : Nat} {S : sx_S} {r : sx_R} (h : o_callV q ci S = some (.inl r)) : False := by
  obtain ⟨pc, ls, st, G⟩ := S
  simp only [o_callV] at h
  split at h
  · rename_i o as rest _
    cases hb : Nat.ble rest.length 4 with
    | false => rw [hb] at h; cases h
    | true =>
      rw [hb, cond_true] at h
      split at h
      · exact back_no h
      · cases h
  · cases h
theorem n_inv {cs : List (sx_M × sx_F)} (hcs : ∀ q ∈ cs, sx_ok q.1 q.2) {a : Nat} {k : sx_M × sx_F → sx_S → sx_O} (hk : ∀ {d : sx_M} {f : sx_F}, sx_ok d f → ∀ {S S' : sx_S}, k (d, f) S = some (.inr S') → S.2.2.2.2.2.2 ≤ S'.2.2.2.2.2.2) {S S' : sx_S} (h : o_inv cs a k S = some (.inr S')) : S.2.2.2.2.2.2 ≤ S'.2.2.2.2.2.2 := by
  simp only [o_inv] at h
  split at h
  · rename_i d hd
    obtain ⟨d, f⟩ := d
    exact hk (hcs (d, f) (List.mem_of_getElem? hd)) h
  · cases h
theorem i_inv {cs : List (sx_M × sx_F)} {a : Nat} {k : sx_M × sx_F → sx_S → sx_O} (hk : ∀ {q : sx_M × sx_F} {S : sx_S} {r : sx_R}, k q S = some (.inl r) → False) {S : sx_S} {r : sx_R} (h : o_inv cs a k S = some (.inl r)) : False := by
  simp only [o_inv] at h
  split at h
  · exact hk h
  · cases h
theorem n_stat {cs : List (sx_M × sx_F)} (hcs : ∀ q ∈ cs, sx_ok q.1 q.2) {a b : Nat} {S S' : sx_S} (h : o_stat cs a b S = some (.inr S')) : S.2.2.2.2.2.2 ≤ S'.2.2.2.2.2.2 := by
  match b, h with
  | 0, h => exact n_inv hcs (fun hok _ _ h => n_call hok h) h
  | 1, h => exact n_max h
  | 2, h => exact n_min h
  | 3, h => exact n_copy h
  | k + 4, h => cases h
theorem i_stat {cs : List (sx_M × sx_F)} {a b : Nat} {S : sx_S} {r : sx_R} (h : o_stat cs a b S = some (.inl r)) : False := by
  match b, h with
  | 0, h => exact i_inv (k := o_call) (fun h => i_call h) h
  | 1, h => exact i_max h
  | 2, h => exact i_min h
  | 3, h => exact i_copy h
  | k + 4, h => cases h
theorem n_spec {cs : List (sx_M × sx_F)} (hcs : ∀ q ∈ cs, sx_ok q.1 q.2) {a b : Nat} {S S' : sx_S} (h : o_spec cs a b S = some (.inr S')) : S.2.2.2.2.2.2 ≤ S'.2.2.2.2.2.2 := by
  match b, h with
  | 0, h => exact n_inv hcs (fun hok _ _ h => n_callI hok h) h
  | k + 1, h => exact n_obj h
theorem i_spec {cs : List (sx_M × sx_F)} {a b : Nat} {S : sx_S} {r : sx_R} (h : o_spec cs a b S = some (.inl r)) : False := by
  match b, h with
  | 0, h => exact i_inv (k := o_callI) (fun h => i_callI h) h
  | k + 1, h => exact i_obj h
theorem sx_up {P : sx_P} (hcs : ∀ q ∈ P.2.1, sx_ok q.1 q.2) {en : sx_E} {S S' : sx_S} (h : sx_do P.1 P.2.1 P.2.2.1 P.2.2.2.1 P.2.2.2.2.1 en S = some (.inr S')) : S.2.2.2.2.2.2 ≤ S'.2.2.2.2.2.2 := by
  obtain ⟨i, ea, eb, sw⟩ := en
  cases i with
  | iconst z => exact n_co h
  | bipush z => exact n_co h
  | sipush z => exact n_co h
  | ldc z => exact n_co h
  | ldc_w z => exact n_co h
  | ldc2_w z => exact n_co h
  | lconst z => exact n_co h
  | iload z => exact n_ldi h
  | iload_n z => exact n_ldi h
  | aload z => exact n_lda h
  | aload_n z => exact n_lda h
  | istore z => exact n_sti h
  | istore_n z => exact n_sti h
  | astore z => exact n_sta h
  | astore_n z => exact n_sta h
  | iinc z y => exact n_inc h
  | iadd => exact n_bi h
  | isub => exact n_bi h
  | imul => exact n_bi h
  | iand => exact n_bi h
  | ior => exact n_bi h
  | ixor => exact n_bi h
  | ishl => exact n_bi h
  | ishr => exact n_bi h
  | iushr => exact n_bi h
  | idiv => exact n_dv h
  | irem => exact n_dv h
  | ladd => exact n_ladd h
  | lcmp => exact n_lcmp h
  | dup => exact n_dup h
  | dup2 => exact n_dup2 h
  | pop => exact n_pop h
  | getfield z => exact n_get h
  | putfield z => exact n_put h
  | iaload => exact n_iald h
  | baload => exact n_zald h
  | aaload => exact n_aald h
  | iastore => exact n_iast h
  | bastore => exact n_zast h
  | aastore => exact n_aast h
  | arraylength => exact n_alen h
  | new z => exact n_new h
  | newarray z => exact n_newa h
  | anewarray z => exact n_newa h
  | ifCond z y => exact n_if h
  | if_icmp z y => exact n_icmp h
  | goto z => exact n_goto h
  | tableswitch z y x w => exact n_sw h
  | lookupswitch z y => exact n_sw h
  | ireturn => exact absurd h (fun h => iret_no h)
  | lreturn => exact absurd h (fun h => lret_no h)
  | return_ => exact absurd h (fun h => vret_no h)
  | invokevirtual z => exact n_inv hcs (fun hok _ _ h => n_callV hok h) h
  | invokestatic z => exact n_stat hcs h
  | invokespecial z => exact n_spec hcs h
  | _ => cases h
theorem sx_fin {ws : List Cond} {P : sx_P} {own : String} {ini : Bool} {nL fr lo : Nat} {ms : List sx_M} {cc : ByteArray} {en : sx_E} {S : sx_S} {r : sx_R} (hk : sx_ck ws own ini nL fr lo ms P.2.2.2.1 P.2.2.2.2.1 cc S.1 en = true) (h : sx_do P.1 P.2.1 P.2.2.1 P.2.2.2.1 P.2.2.2.2.1 en S = some (.inl r)) : S.2.2.1 = r.1.toList ∧ r.2 = S.2.2.2 ∧ sx_rt cc P.1 r.1 S.1 := by
  obtain ⟨i, ea, eb, sw⟩ := en
  cases i with
  | iconst z => exact absurd h (fun h => i_co h)
  | bipush z => exact absurd h (fun h => i_co h)
  | sipush z => exact absurd h (fun h => i_co h)
  | ldc z => exact absurd h (fun h => i_co h)
  | ldc_w z => exact absurd h (fun h => i_co h)
  | ldc2_w z => exact absurd h (fun h => i_co h)
  | lconst z => exact absurd h (fun h => i_co h)
  | iload z => exact absurd h (fun h => i_ldi h)
  | iload_n z => exact absurd h (fun h => i_ldi h)
  | aload z => exact absurd h (fun h => i_lda h)
  | aload_n z => exact absurd h (fun h => i_lda h)
  | istore z => exact absurd h (fun h => i_sti h)
  | istore_n z => exact absurd h (fun h => i_sti h)
  | astore z => exact absurd h (fun h => i_sta h)
  | astore_n z => exact absurd h (fun h => i_sta h)
  | iinc z y => exact absurd h (fun h => i_inc h)
  | iadd => exact absurd h (fun h => i_bi h)
  | isub => exact absurd h (fun h => i_bi h)
  | imul => exact absurd h (fun h => i_bi h)
  | iand => exact absurd h (fun h => i_bi h)
  | ior => exact absurd h (fun h => i_bi h)
  | ixor => exact absurd h (fun h => i_bi h)
  | ishl => exact absurd h (fun h => i_bi h)
  | ishr => exact absurd h (fun h => i_bi h)
  | iushr => exact absurd h (fun h => i_bi h)
  | idiv => exact absurd h (fun h => i_dv h)
  | irem => exact absurd h (fun h => i_dv h)
  | ladd => exact absurd h (fun h => i_ladd h)
  | lcmp => exact absurd h (fun h => i_lcmp h)
  | dup => exact absurd h (fun h => i_dup h)
  | dup2 => exact absurd h (fun h => i_dup2 h)
  | pop => exact absurd h (fun h => i_pop h)
  | getfield z => exact absurd h (fun h => i_get h)
  | putfield z => exact absurd h (fun h => i_put h)
  | iaload => exact absurd h (fun h => i_iald h)
  | baload => exact absurd h (fun h => i_zald h)
  | aaload => exact absurd h (fun h => i_aald h)
  | iastore => exact absurd h (fun h => i_iast h)
  | bastore => exact absurd h (fun h => i_zast h)
  | aastore => exact absurd h (fun h => i_aast h)
  | arraylength => exact absurd h (fun h => i_alen h)
  | new z => exact absurd h (fun h => i_new h)
  | newarray z => exact absurd h (fun h => i_newa h)
  | anewarray z => exact absurd h (fun h => i_newa h)
  | ifCond z y => exact absurd h (fun h => i_if h)
  | if_icmp z y => exact absurd h (fun h => i_icmp h)
  | goto z => exact absurd h (fun h => i_goto h)
  | tableswitch z y x w => exact absurd h (fun h => i_sw h)
  | lookupswitch z y => exact absurd h (fun h => i_sw h)
  | ireturn => exact iret_spec h (ck_dD hk)
  | lreturn => exact lret_spec h (ck_dD hk)
  | return_ => exact vret_spec h (ck_dD hk)
  | invokevirtual z => exact absurd h (fun h => i_inv (k := fun d => o_callV d eb) (fun h => i_callV h) h)
  | invokestatic z => exact absurd h (fun h => i_stat h)
  | invokespecial z => exact absurd h (fun h => i_spec h)
  | _ => cases h
/-- all entries of a table are checked -/
def sx_all (ws : List Cond) (own : String) (ini : Bool) (nL fr lo : Nat) (cc : ByteArray) (P : sx_P) (len : Nat) : Bool := (List.range len).all (fun pc => match P.2.2.2.2.2 pc with
  | some en => sx_ck ws own ini nL fr lo (P.2.1.map Prod.fst) P.2.2.2.1 P.2.2.2.2.1 cc pc en
  | none => true)
def sx_good (ws : List Cond) (own : String) (ini : Bool) (nL fr lo : Nat) (cc : ByteArray) (P : sx_P) : Prop := ∀ (pc : Nat) (en : sx_E), P.2.2.2.2.2 pc = some en → sx_ck ws own ini nL fr lo (P.2.1.map Prod.fst) P.2.2.2.1 P.2.2.2.2.1 cc pc en = true
theorem sx_runUp {P : sx_P} (hcs : ∀ q ∈ P.2.1, sx_ok q.1 q.2) {ws : List Cond} {own : String} {ini : Bool} {nL fr lo : Nat} {cc : ByteArray} (hg : sx_good ws own ini nL fr lo cc P) : ∀ {n : Nat} {S : sx_S} {r : sx_R}, sx_run P n S = some r → S.2.2.2.2.2.2 ≤ r.2.2.2.2
  | 0, _, _, h => by cases h
  | n + 1, S, r, h => by
    simp only [sx_run, sx_one] at h
    cases ht : P.2.2.2.2.2 S.1 with
    | none => rw [ht] at h; cases h
    | some en =>
      rw [ht] at h
      dsimp only at h
      cases ho : sx_do P.1 P.2.1 P.2.2.1 P.2.2.2.1 P.2.2.2.2.1 en S with
      | none => rw [ho] at h; cases h
      | some z =>
        rw [ho] at h
        cases z with
        | inl y =>
          cases h
          rw [(sx_fin (hg _ _ ht) ho).2.1]
          exact Nat.le_refl _
        | inr S' => exact Nat.le_trans (sx_up hcs ho) (sx_runUp hcs hg h)
section SXG
variable {p : Program} {l : Launch} {e : Env} {R : Room} {s : State} {m : MethodId} {args : Array Value} {below : List Frame} {meth : Method} {c : Code} {Q : State → Prop}
variable {D : va_G} {cK : Nat → ClassId} {ba b n0 nL : Nat} {cc : ByteArray} {own : String}
/-- a run of the picture is a run of the machine -/
theorem sx_walk {ws : List Cond} (hw : sx_ws ws) (hx : p.tables.exec = Jvm.exec) (hb : c.code = cc) (hml : c.maxLocals = nL) (hown : s.vm.findClass own = some m.cls) (hT : sx_T s) (hK : va_K D hp_cl (hp_tys cK) s) (hs0 : s.heap.size = ba + n0) {P : sx_P} {r : sx_R} (hrm : sx_rm R n0 r.2.2.2.2) (hsc : ∀ L xs, P.2.2.1 = some (L, xs) → va_X b L xs s s.heap ∧ b < s.heap.size ∧ b < ba) (hcs : ∀ q ∈ P.2.1, sx_ok q.1 q.2) {ini : Bool} (hini : ini = true → meth.name = "<init>") (hg : sx_good ws own ini nL R.frames R.locals cc P)
    (hret : ∀ (H : Heap) (locs : List Loc) (cells slots pc : Nat) (lsA : Array Slot), sx_H D cK ba s.heap n0 r.2 H locs cells slots → sx_rt cc P.1 r.1 pc → W p l e R s m args below meth c H locs cells slots Q (F0 m pc lsA (r.1.toList.map (cv ba b)))) :
    ∀ (n : Nat) (S : sx_S), sx_run P n S = some r → sx_G p l e R s m args below meth c Q D cK ba b n0 nL s.heap S
  | 0, _, h => by cases h
  | n + 1, S, h => by
    have h0 := h
    simp only [sx_run, sx_one] at h
    cases ht : P.2.2.2.2.2 S.1 with
    | none => rw [ht] at h; cases h
    | some en =>
      rw [ht] at h
      dsimp only at h
      cases ho : sx_do P.1 P.2.1 P.2.2.1 P.2.2.2.1 P.2.2.2.2.1 en S with
      | none => rw [ho] at h; cases h
      | some z =>
        rw [ho] at h
        cases z with
        | inl y =>
          cases h
          obtain ⟨h1, h2, h3⟩ := sx_fin (hg _ _ ht) ho
          intro H locs cells slots lsA hH hL
          rw [h1]
          rw [← h2] at hH
          exact hret H locs cells slots S.1 lsA hH h3
        | inr S' =>
          have hE := sx_runUp hcs hg h
          exact sx_step hw hx hb hml hown hT hK hs0 hrm hsc hcs hini (hg _ _ ht) ho hE (sx_walk hw hx hb hml hown hT hK hs0 hrm hsc hcs hini hg hret n S' h)
end SXG
def sx_as : Nat → List Value → List (Nat × Value)
  | _, [] => []
  | i, v :: r => (i, v) :: sx_as (i + 1) r
def sx_c1 : List Value → Bool
  | [] => true
  | v :: r => Nat.beq v.category 1 && sx_c1 r
/-- a method's function: its run from the entry -/
noncomputable def sx_fn (P : sx_P) (nL : Nat) : sx_F := fun As G => bif sx_c1 As && Nat.ble As.length nL then sx_ev P (0, sx_as 0 As, [], G) else none
theorem sx_c1C : ∀ {As : List Value}, sx_c1 As = true → ∀ v ∈ As, v.category = 1
  | [], _, _, hv => by cases hv
  | v :: r, h, w, hw => by
    simp only [sx_c1, Bool.and_eq_true] at h
    rcases List.mem_cons.mp hw with rfl | hw
    · exact Nat.eq_of_beq_eq_true h.1
    · exact sx_c1C h.2 w hw
theorem sx_asL (ba b : Nat) : ∀ {As : List Value} (i : Nat), (∀ v ∈ As, v.category = 1) → lv_args i (As.map (cv ba b)) = sx_m ba b (sx_as i As)
  | [], _, _ => rfl
  | v :: r, i, h => by
    simp only [List.map_cons, lv_args, sx_as, sx_m, cv_cat, h v List.mem_cons_self, if_neg (show ¬ (1 = 2) by decide)]
    rw [sx_asL ba b (i + 1) (fun w hw => h w (List.mem_cons_of_mem _ hw))]
    rfl
theorem sx_asM : ∀ {As : List Value} (i : Nat) {q : Nat × Value}, q ∈ sx_as i As → q.2 ∈ As
  | [], _, _, h => by cases h
  | v :: r, i, q, h => by
    rcases List.mem_cons.mp h with rfl | h
    · exact List.mem_cons_self
    · exact List.mem_cons_of_mem _ (sx_asM (i + 1) h)
theorem sx_slN (ba b : Nat) : ∀ {As : List Value}, (∀ v ∈ As, v.category = 1) → (lg_sl (As.map (cv ba b))).length = As.length
  | [], _ => rfl
  | v :: r, h => by
    have h1 := sx_slN ba b (As := r) (fun w hw => h w (List.mem_cons_of_mem _ hw))
    have h2 : (cv ba b v).category = 1 := by rw [cv_cat]; exact h v List.mem_cons_self
    simp only [lg_sl, List.map_cons, List.flatMap_cons, List.length_append, List.length_cons] at h1 ⊢
    rw [h1, h2]
    simp
    omega
/-- THE SOUNDNESS of a method: its table is checked, its callees are sound -/
theorem sx_sound {ws : List Cond} (hw : sx_ws ws) {y : MethodName} {cc : ByteArray} {nL fr lo na : Nat} {rt : Option FieldType} {P : sx_P} {ini : Bool} (hpl : plainName y.cls = true) (hrt : P.1 = rt) (hsc : P.2.2.1 = none) (hini : ini = true → y.name = "<init>") (hcs : ∀ q ∈ P.2.1, sx_ok q.1 q.2) (hg : sx_good ws y.cls ini nL fr lo cc P) : sx_ok (y, cc, nL, rt, fr, lo, na) (sx_fn P nL) := by
  intro As G v G' hf
  subst hrt
  simp only [sx_fn] at hf
  cases hb1 : (sx_c1 As && Nat.ble As.length nL) with
  | false => rw [hb1] at hf; cases hf
  | true =>
    rw [hb1, cond_true] at hf
    simp only [Bool.and_eq_true] at hb1
    obtain ⟨n, hn⟩ := (sx_evI (v, G')).mp hf
    have hc1 := sx_c1C hb1.1
    refine ⟨sx_runUp hcs hg hn, fun l D cK ba b => ?_⟩
    refine Met.ofW (cc := cc) (maxL := nL) (ret := P.1) hpl rfl ?_
    intro p e s m args below meth c s₁ B hml hv
    obtain ⟨rfl, hsz, hP, hK, hT⟩ := hv
    have hown : s.vm.findClass y.cls = some m.cls := findClass_of_methodNamed B.named
    have hlocks := B.notSynchronized
    have hr := B.returns
    have hin : meth.name = y.name := (name_of_methodNamed B.named B.method).1
    have hl := lv_entry (As.map (cv ba b)) (n := nL) (by rw [sx_slN ba b hc1]; exact Nat.le_of_ble_eq_true hb1.2)
    rw [lg_entry_eq]
    generalize (lg_sl (As.map (cv ba b)) ++ List.replicate (nL - (lg_sl (As.map (cv ba b))).length) Slot.unset).toArray = ls at hl ⊢
    rw [sx_asL ba b 0 hc1] at hl
    have hle := sx_runUp hcs hg hn
    have htl := hp_totLe hle
    have key := sx_walk hw (Q := MQ below (sx_Q D cK ba b v G') (As.map (cv ba b)).toArray s (G'.2.2.2 - G.2.2.2) (hp_tot G'.2.2.2 - hp_tot G.2.2.2) (fun q => ba ≤ q)) (b := b) (l := l) (e := e) (args := (As.map (cv ba b)).toArray) (below := below) (meth := meth) (R := { frames := fr, cells := G'.2.2.2 - G.2.2.2, slots := hp_tot G'.2.2.2 - hp_tot G.2.2.2, locals := lo }) B.exec B.bytes hml hown hT hK hsz (P := P) (r := (v, G')) ⟨by show G'.2.2.2 ≤ G.2.2.2 + (G'.2.2.2 - G.2.2.2); omega, by show hp_tot G'.2.2.2 ≤ hp_tot G.2.2.2 + (hp_tot G'.2.2.2 - hp_tot G.2.2.2); omega⟩ (fun L xs h => by rw [hsc] at h; cases h) hcs (fun h => by rw [hin]; exact hini h) hg ?_ n (0, sx_as 0 As, [], G) hn
    · exact key s.heap [] 0 0 ls ⟨hP, va_S.rf, by simp, by simp⟩ ⟨hl, fun q hq => hc1 _ (sx_asM 0 hq)⟩
    · intro H locs cells slots pc lsA hH hrt
      refine sx_size hsz hH (fun hz => ?_)
      obtain ⟨g1, g2, g3, g4⟩ := hH
      have e1 : G'.2.2.2 - G.2.2.2 = cells := by dsimp only at g3; omega
      have e2 : hp_tot G'.2.2.2 - hp_tot G.2.2.2 = slots := by dsimp only at g4; omega
      rw [e1, e2]
      have hq : ∀ t : State, t.heap = H → sx_Q D cK ba b v G' (As.map (cv ba b)).toArray s (.returned (v.map (cv ba b))) t := fun t ht => ⟨rfl, by rw [ht]; exact hz, by rw [ht]; exact g1, fun q hq => by rw [ht]; exact g2.2.1 q (by omega) (Nat.not_le.mpr hq)⟩
      rcases hrt with ⟨x, hv, hd, hty⟩ | ⟨x, hv, hd, hty⟩ | ⟨hv, hd, hty⟩
      · dsimp only at hv
        subst hv
        rcases hty with hty | ⟨hty, hx⟩
        · exact W.iret B.exec B.bytes (by rw [hr]; exact hty) (fun t ht _ => hq t ht) g2.2.2 hd
        · exact W.zret B.exec B.bytes (ty := .boolean) (by rw [hr]; exact hty) (by rcases hx with rfl | rfl <;> rfl) (fun t ht _ => hq t ht) g2.2.2 hd
      · dsimp only at hv
        subst hv
        exact W.lret B.exec B.bytes (by rw [hr]; exact hty) (fun t ht _ => hq t ht) g2.2.2 hd
      · dsimp only at hv
        subst hv
        exact W.vret B.exec B.bytes (by rw [hr]; exact hty) (fun t ht _ => hq t ht) g2.2.2 hd
end
section
theorem sx_goodOf {ws : List Cond} {own : String} {ini : Bool} {nL fr lo len : Nat} {cc : ByteArray} {P : sx_P} (h : sx_all ws own ini nL fr lo cc P len = true) (hn : ∀ pc, Nat.blt pc len = false → P.2.2.2.2.2 pc = none) : sx_good ws own ini nL fr lo cc P := by
  intro pc en hen
  cases hb : Nat.blt pc len with
  | false => rw [hn pc hb] at hen; cases hen
  | true =>
    have hlt : pc < len := Nat.le_of_ble_eq_true hb
    have h1 := List.all_eq_true.mp h pc (List.mem_range.mpr hlt)
    rw [hen] at h1
    exact h1
def kc_X0 : Nat → Int32 := fun i => 0
def kl_X0 : Nat → Int64 := fun i => 0
def ws_X0_init : List Cond := [.methodLink RX0 3 Lib.objectInit, .instanceMethod Lib.objectInit, .code Lib.objectInit ⟨#[0xb1]⟩ 1 none, .fieldLink RX0 9 "DaisyChain$Moment" "minute" "I", .fieldLink RX0 15 "DaisyChain$Moment" "water" "I", .fieldLink RX0 18 "DaisyChain$Moment" "picked" "I", .arrayClass .int, .fieldLink RX0 21 "DaisyChain$Moment" "dry" "[I", .fieldLink RX0 25 "DaisyChain$Moment" "slitPlace" "[I", .fieldLink RX0 28 "DaisyChain$Moment" "slitLength" "[I", .fieldLink RX0 31 "DaisyChain$Moment" "chain" "[I", .fieldLink RX0 34 "DaisyChain$Moment" "chained" "I"]
theorem wo_X0_init : sx_ws ws_X0_init := wx_of [162, 78, 79, 163, 165, 167, 121, 170, 172, 174, 176, 178] (by decide +kernel) (by decide +kernel)
def tb_X0_init : Nat → Option sx_E := fun pc => bif Nat.blt pc 57 then (bif Nat.blt pc 27 then (bif Nat.blt pc 11 then (bif Nat.blt pc 5 then (bif Nat.blt pc 1 then (bif Nat.beq pc 0 then some (.aload_n 0, 0, 0, []) else none) else (bif Nat.blt pc 4 then (bif Nat.beq pc 1 then some (.invokespecial 3, 0, 1, []) else none) else (bif Nat.beq pc 4 then some (.aload_n 0, 0, 0, []) else none))) else (bif Nat.blt pc 9 then (bif Nat.blt pc 6 then (bif Nat.beq pc 5 then some (.iconst 0, 0, 0, []) else none) else (bif Nat.beq pc 6 then some (.putfield 9, 0, 0, []) else none)) else (bif Nat.blt pc 10 then (bif Nat.beq pc 9 then some (.aload_n 0, 0, 0, []) else none) else (bif Nat.beq pc 10 then some (.iconst 0, 0, 0, []) else none)))) else (bif Nat.blt pc 19 then (bif Nat.blt pc 15 then (bif Nat.blt pc 14 then (bif Nat.beq pc 11 then some (.putfield 15, 0, 1, []) else none) else (bif Nat.beq pc 14 then some (.aload_n 0, 0, 0, []) else none)) else (bif Nat.blt pc 16 then (bif Nat.beq pc 15 then some (.iconst 0, 0, 0, []) else none) else (bif Nat.beq pc 16 then some (.putfield 18, 0, 2, []) else none))) else (bif Nat.blt pc 22 then (bif Nat.blt pc 20 then (bif Nat.beq pc 19 then some (.aload_n 0, 0, 0, []) else none) else (bif Nat.beq pc 20 then some (.bipush 7, 0, 0, []) else none)) else (bif Nat.blt pc 24 then (bif Nat.beq pc 22 then some (.newarray .int, 1, 0, []) else none) else (bif Nat.beq pc 24 then some (.putfield 21, 0, 3, []) else none))))) else (bif Nat.blt pc 43 then (bif Nat.blt pc 35 then (bif Nat.blt pc 30 then (bif Nat.blt pc 28 then (bif Nat.beq pc 27 then some (.aload_n 0, 0, 0, []) else none) else (bif Nat.beq pc 28 then some (.bipush 7, 0, 0, []) else none)) else (bif Nat.blt pc 32 then (bif Nat.beq pc 30 then some (.newarray .int, 1, 0, []) else none) else (bif Nat.beq pc 32 then some (.putfield 25, 0, 4, []) else none))) else (bif Nat.blt pc 38 then (bif Nat.blt pc 36 then (bif Nat.beq pc 35 then some (.aload_n 0, 0, 0, []) else none) else (bif Nat.beq pc 36 then some (.bipush 7, 0, 0, []) else none)) else (bif Nat.blt pc 40 then (bif Nat.beq pc 38 then some (.newarray .int, 1, 0, []) else none) else (bif Nat.beq pc 40 then some (.putfield 28, 0, 5, []) else none)))) else (bif Nat.blt pc 51 then (bif Nat.blt pc 46 then (bif Nat.blt pc 44 then (bif Nat.beq pc 43 then some (.aload_n 0, 0, 0, []) else none) else (bif Nat.beq pc 44 then some (.bipush 7, 0, 0, []) else none)) else (bif Nat.blt pc 48 then (bif Nat.beq pc 46 then some (.newarray .int, 1, 0, []) else none) else (bif Nat.beq pc 48 then some (.putfield 31, 0, 6, []) else none))) else (bif Nat.blt pc 53 then (bif Nat.blt pc 52 then (bif Nat.beq pc 51 then some (.aload_n 0, 0, 0, []) else none) else (bif Nat.beq pc 52 then some (.iconst 0, 0, 0, []) else none)) else (bif Nat.blt pc 56 then (bif Nat.beq pc 53 then some (.putfield 34, 0, 7, []) else none) else (bif Nat.beq pc 56 then some (.return_, 0, 0, []) else none)))))) else none
noncomputable def P_X0_init : sx_P := (none, [], none, kc_X0, kl_X0, tb_X0_init)
def d_X0_init : sx_M := (yX0_init, cX0_init, 1, none, 1, 20, 1)
noncomputable def f_X0_init : sx_F := sx_fn P_X0_init 1
theorem k_X0_init : sx_all ws_X0_init (yX0_init).cls true 1 1 20 cX0_init P_X0_init 57 = true := by decide +kernel
theorem s_X0_init : sx_ok d_X0_init f_X0_init := sx_sound wo_X0_init (by decide) rfl rfl (fun h => by first | rfl | cases h) (List.forall_mem_nil _) (sx_goodOf k_X0_init (fun pc h => by show cond _ _ _ = _; rw [h]; rfl))
def ws_X0_restart : List Cond := [.fieldLink RX0 9 "DaisyChain$Moment" "minute" "I", .fieldLink RX0 15 "DaisyChain$Moment" "water" "I", .fieldLink RX0 18 "DaisyChain$Moment" "picked" "I", .fieldLink RX0 34 "DaisyChain$Moment" "chained" "I", .fieldLink RX0 21 "DaisyChain$Moment" "dry" "[I", .fieldLink RX0 25 "DaisyChain$Moment" "slitPlace" "[I", .fieldLink RX0 28 "DaisyChain$Moment" "slitLength" "[I"]
theorem wo_X0_restart : sx_ws ws_X0_restart := wx_of [163, 165, 167, 178, 170, 172, 174] (by decide +kernel) (by decide +kernel)
def tb_X0_restart : Nat → Option sx_E := fun pc => bif Nat.blt pc 56 then (bif Nat.blt pc 28 then (bif Nat.blt pc 12 then (bif Nat.blt pc 6 then (bif Nat.blt pc 2 then (bif Nat.blt pc 1 then (bif Nat.beq pc 0 then some (.aload_n 0, 0, 0, []) else none) else (bif Nat.beq pc 1 then some (.iconst 0, 0, 0, []) else none)) else (bif Nat.blt pc 5 then (bif Nat.beq pc 2 then some (.putfield 9, 0, 0, []) else none) else (bif Nat.beq pc 5 then some (.aload_n 0, 0, 0, []) else none))) else (bif Nat.blt pc 10 then (bif Nat.blt pc 7 then (bif Nat.beq pc 6 then some (.iconst 0, 0, 0, []) else none) else (bif Nat.beq pc 7 then some (.putfield 15, 0, 1, []) else none)) else (bif Nat.blt pc 11 then (bif Nat.beq pc 10 then some (.aload_n 0, 0, 0, []) else none) else (bif Nat.beq pc 11 then some (.iconst 0, 0, 0, []) else none)))) else (bif Nat.blt pc 20 then (bif Nat.blt pc 16 then (bif Nat.blt pc 15 then (bif Nat.beq pc 12 then some (.putfield 18, 0, 2, []) else none) else (bif Nat.beq pc 15 then some (.aload_n 0, 0, 0, []) else none)) else (bif Nat.blt pc 17 then (bif Nat.beq pc 16 then some (.iconst 0, 0, 0, []) else none) else (bif Nat.beq pc 17 then some (.putfield 34, 0, 7, []) else none))) else (bif Nat.blt pc 22 then (bif Nat.blt pc 21 then (bif Nat.beq pc 20 then some (.iconst 0, 0, 0, []) else none) else (bif Nat.beq pc 21 then some (.istore_n 1, 0, 0, []) else none)) else (bif Nat.blt pc 23 then (bif Nat.beq pc 22 then some (.iload_n 1, 0, 0, []) else none) else (bif Nat.blt pc 25 then (bif Nat.beq pc 23 then some (.bipush 7, 0, 0, []) else none) else (bif Nat.beq pc 25 then some (.if_icmp .ge 30, 55, 0, []) else none)))))) else (bif Nat.blt pc 41 then (bif Nat.blt pc 34 then (bif Nat.blt pc 32 then (bif Nat.blt pc 29 then (bif Nat.beq pc 28 then some (.aload_n 0, 0, 0, []) else none) else (bif Nat.beq pc 29 then some (.getfield 21, 0, 3, []) else none)) else (bif Nat.blt pc 33 then (bif Nat.beq pc 32 then some (.iload_n 1, 0, 0, []) else none) else (bif Nat.beq pc 33 then some (.iconst 0, 0, 0, []) else none))) else (bif Nat.blt pc 36 then (bif Nat.blt pc 35 then (bif Nat.beq pc 34 then some (.iastore, 0, 0, []) else none) else (bif Nat.beq pc 35 then some (.aload_n 0, 0, 0, []) else none)) else (bif Nat.blt pc 39 then (bif Nat.beq pc 36 then some (.getfield 25, 0, 4, []) else none) else (bif Nat.blt pc 40 then (bif Nat.beq pc 39 then some (.iload_n 1, 0, 0, []) else none) else (bif Nat.beq pc 40 then some (.iconst 0, 0, 0, []) else none))))) else (bif Nat.blt pc 47 then (bif Nat.blt pc 43 then (bif Nat.blt pc 42 then (bif Nat.beq pc 41 then some (.iastore, 0, 0, []) else none) else (bif Nat.beq pc 42 then some (.aload_n 0, 0, 0, []) else none)) else (bif Nat.blt pc 46 then (bif Nat.beq pc 43 then some (.getfield 28, 0, 5, []) else none) else (bif Nat.beq pc 46 then some (.iload_n 1, 0, 0, []) else none))) else (bif Nat.blt pc 49 then (bif Nat.blt pc 48 then (bif Nat.beq pc 47 then some (.iconst 0, 0, 0, []) else none) else (bif Nat.beq pc 48 then some (.iastore, 0, 0, []) else none)) else (bif Nat.blt pc 52 then (bif Nat.beq pc 49 then some (.iinc 1 1, 0, 0, []) else none) else (bif Nat.blt pc 55 then (bif Nat.beq pc 52 then some (.goto (-30), 2, 22, []) else none) else (bif Nat.beq pc 55 then some (.return_, 0, 0, []) else none))))))) else none
noncomputable def P_X0_restart : sx_P := (none, [], none, kc_X0, kl_X0, tb_X0_restart)
def d_X0_restart : sx_M := (yX0_restart, cX0_restart, 2, none, 0, 0, 1)
noncomputable def f_X0_restart : sx_F := sx_fn P_X0_restart 2
theorem k_X0_restart : sx_all ws_X0_restart (yX0_restart).cls false 2 0 0 cX0_restart P_X0_restart 56 = true := by decide +kernel
theorem s_X0_restart : sx_ok d_X0_restart f_X0_restart := sx_sound wo_X0_restart (by decide) rfl rfl (fun h => by first | rfl | cases h) (List.forall_mem_nil _) (sx_goodOf k_X0_restart (fun pc h => by show cond _ _ _ = _; rw [h]; rfl))
def ws_X0_take : List Cond := [.fieldLink RX0 9 "DaisyChain$Moment" "minute" "I", .fieldLink RX0 15 "DaisyChain$Moment" "water" "I", .fieldLink RX0 18 "DaisyChain$Moment" "picked" "I", .fieldLink RX0 34 "DaisyChain$Moment" "chained" "I", .fieldLink RX0 21 "DaisyChain$Moment" "dry" "[I", .methodLink RX0 37 arraycopyName, .native arraycopyName, .static arraycopyName, .initialized "java/lang/System", .fieldLink RX0 25 "DaisyChain$Moment" "slitPlace" "[I", .fieldLink RX0 28 "DaisyChain$Moment" "slitLength" "[I", .fieldLink RX0 31 "DaisyChain$Moment" "chain" "[I"]
theorem wo_X0_take : sx_ws ws_X0_take := wx_of [163, 165, 167, 178, 170, 441, 344, 343, 70, 172, 174, 176] (by decide +kernel) (by decide +kernel)
def tb_X0_take : Nat → Option sx_E := fun pc => bif Nat.blt pc 93 then (bif Nat.blt pc 47 then (bif Nat.blt pc 24 then (bif Nat.blt pc 10 then (bif Nat.blt pc 5 then (bif Nat.blt pc 1 then (bif Nat.beq pc 0 then some (.aload_n 0, 0, 0, []) else none) else (bif Nat.blt pc 2 then (bif Nat.beq pc 1 then some (.aload_n 1, 0, 0, []) else none) else (bif Nat.beq pc 2 then some (.getfield 9, 0, 0, []) else none))) else (bif Nat.blt pc 8 then (bif Nat.beq pc 5 then some (.putfield 9, 0, 0, []) else none) else (bif Nat.blt pc 9 then (bif Nat.beq pc 8 then some (.aload_n 0, 0, 0, []) else none) else (bif Nat.beq pc 9 then some (.aload_n 1, 0, 0, []) else none)))) else (bif Nat.blt pc 17 then (bif Nat.blt pc 13 then (bif Nat.beq pc 10 then some (.getfield 15, 0, 1, []) else none) else (bif Nat.blt pc 16 then (bif Nat.beq pc 13 then some (.putfield 15, 0, 1, []) else none) else (bif Nat.beq pc 16 then some (.aload_n 0, 0, 0, []) else none))) else (bif Nat.blt pc 18 then (bif Nat.beq pc 17 then some (.aload_n 1, 0, 0, []) else none) else (bif Nat.blt pc 21 then (bif Nat.beq pc 18 then some (.getfield 18, 0, 2, []) else none) else (bif Nat.beq pc 21 then some (.putfield 18, 0, 2, []) else none))))) else (bif Nat.blt pc 36 then (bif Nat.blt pc 29 then (bif Nat.blt pc 25 then (bif Nat.beq pc 24 then some (.aload_n 0, 0, 0, []) else none) else (bif Nat.blt pc 26 then (bif Nat.beq pc 25 then some (.aload_n 1, 0, 0, []) else none) else (bif Nat.beq pc 26 then some (.getfield 34, 0, 7, []) else none))) else (bif Nat.blt pc 32 then (bif Nat.beq pc 29 then some (.putfield 34, 0, 7, []) else none) else (bif Nat.blt pc 33 then (bif Nat.beq pc 32 then some (.aload_n 1, 0, 0, []) else none) else (bif Nat.beq pc 33 then some (.getfield 21, 0, 3, []) else none)))) else (bif Nat.blt pc 41 then (bif Nat.blt pc 37 then (bif Nat.beq pc 36 then some (.iconst 0, 0, 0, []) else none) else (bif Nat.blt pc 38 then (bif Nat.beq pc 37 then some (.aload_n 0, 0, 0, []) else none) else (bif Nat.beq pc 38 then some (.getfield 21, 0, 3, []) else none))) else (bif Nat.blt pc 42 then (bif Nat.beq pc 41 then some (.iconst 0, 0, 0, []) else none) else (bif Nat.blt pc 44 then (bif Nat.beq pc 42 then some (.bipush 7, 0, 0, []) else none) else (bif Nat.beq pc 44 then some (.invokestatic 37, 0, 3, []) else none)))))) else (bif Nat.blt pc 68 then (bif Nat.blt pc 57 then (bif Nat.blt pc 52 then (bif Nat.blt pc 48 then (bif Nat.beq pc 47 then some (.aload_n 1, 0, 0, []) else none) else (bif Nat.blt pc 51 then (bif Nat.beq pc 48 then some (.getfield 25, 0, 4, []) else none) else (bif Nat.beq pc 51 then some (.iconst 0, 0, 0, []) else none))) else (bif Nat.blt pc 53 then (bif Nat.beq pc 52 then some (.aload_n 0, 0, 0, []) else none) else (bif Nat.blt pc 56 then (bif Nat.beq pc 53 then some (.getfield 25, 0, 4, []) else none) else (bif Nat.beq pc 56 then some (.iconst 0, 0, 0, []) else none)))) else (bif Nat.blt pc 63 then (bif Nat.blt pc 59 then (bif Nat.beq pc 57 then some (.bipush 7, 0, 0, []) else none) else (bif Nat.blt pc 62 then (bif Nat.beq pc 59 then some (.invokestatic 37, 0, 3, []) else none) else (bif Nat.beq pc 62 then some (.aload_n 1, 0, 0, []) else none))) else (bif Nat.blt pc 66 then (bif Nat.beq pc 63 then some (.getfield 28, 0, 5, []) else none) else (bif Nat.blt pc 67 then (bif Nat.beq pc 66 then some (.iconst 0, 0, 0, []) else none) else (bif Nat.beq pc 67 then some (.aload_n 0, 0, 0, []) else none))))) else (bif Nat.blt pc 81 then (bif Nat.blt pc 74 then (bif Nat.blt pc 71 then (bif Nat.beq pc 68 then some (.getfield 28, 0, 5, []) else none) else (bif Nat.blt pc 72 then (bif Nat.beq pc 71 then some (.iconst 0, 0, 0, []) else none) else (bif Nat.beq pc 72 then some (.bipush 7, 0, 0, []) else none))) else (bif Nat.blt pc 77 then (bif Nat.beq pc 74 then some (.invokestatic 37, 0, 3, []) else none) else (bif Nat.blt pc 78 then (bif Nat.beq pc 77 then some (.aload_n 1, 0, 0, []) else none) else (bif Nat.beq pc 78 then some (.getfield 31, 0, 6, []) else none)))) else (bif Nat.blt pc 86 then (bif Nat.blt pc 82 then (bif Nat.beq pc 81 then some (.iconst 0, 0, 0, []) else none) else (bif Nat.blt pc 83 then (bif Nat.beq pc 82 then some (.aload_n 0, 0, 0, []) else none) else (bif Nat.beq pc 83 then some (.getfield 31, 0, 6, []) else none))) else (bif Nat.blt pc 89 then (bif Nat.blt pc 87 then (bif Nat.beq pc 86 then some (.iconst 0, 0, 0, []) else none) else (bif Nat.beq pc 87 then some (.bipush 7, 0, 0, []) else none)) else (bif Nat.blt pc 92 then (bif Nat.beq pc 89 then some (.invokestatic 37, 0, 3, []) else none) else (bif Nat.beq pc 92 then some (.return_, 0, 0, []) else none))))))) else none
noncomputable def P_X0_take : sx_P := (none, [], none, kc_X0, kl_X0, tb_X0_take)
def d_X0_take : sx_M := (yX0_take, cX0_take, 2, none, 1, 26, 2)
noncomputable def f_X0_take : sx_F := sx_fn P_X0_take 2
theorem k_X0_take : sx_all ws_X0_take (yX0_take).cls false 2 1 26 cX0_take P_X0_take 93 = true := by decide +kernel
theorem s_X0_take : sx_ok d_X0_take f_X0_take := sx_sound wo_X0_take (by decide) rfl rfl (fun h => by first | rfl | cases h) (List.forall_mem_nil _) (sx_goodOf k_X0_take (fun pc h => by show cond _ _ _ = _; rw [h]; rfl))
def ws_X0_isPicked : List Cond := [.fieldLink RX0 18 "DaisyChain$Moment" "picked" "I"]
theorem wo_X0_isPicked : sx_ws ws_X0_isPicked := wx_of [167] (by decide +kernel) (by decide +kernel)
def tb_X0_isPicked : Nat → Option sx_E := fun pc => bif Nat.blt pc 18 then (bif Nat.blt pc 8 then (bif Nat.blt pc 5 then (bif Nat.blt pc 1 then (bif Nat.beq pc 0 then some (.aload_n 0, 0, 0, []) else none) else (bif Nat.blt pc 4 then (bif Nat.beq pc 1 then some (.getfield 18, 0, 2, []) else none) else (bif Nat.beq pc 4 then some (.iload_n 1, 0, 0, []) else none))) else (bif Nat.blt pc 6 then (bif Nat.beq pc 5 then some (.ishr, 0, 0, []) else none) else (bif Nat.blt pc 7 then (bif Nat.beq pc 6 then some (.iconst 1, 0, 0, []) else none) else (bif Nat.beq pc 7 then some (.iand, 0, 0, []) else none)))) else (bif Nat.blt pc 13 then (bif Nat.blt pc 9 then (bif Nat.beq pc 8 then some (.iconst 1, 0, 0, []) else none) else (bif Nat.blt pc 12 then (bif Nat.beq pc 9 then some (.if_icmp .ne 7, 16, 0, []) else none) else (bif Nat.beq pc 12 then some (.iconst 1, 0, 0, []) else none))) else (bif Nat.blt pc 16 then (bif Nat.beq pc 13 then some (.goto 4, 2, 17, []) else none) else (bif Nat.blt pc 17 then (bif Nat.beq pc 16 then some (.iconst 0, 0, 0, []) else none) else (bif Nat.beq pc 17 then some (.ireturn, 0, 0, []) else none))))) else none
noncomputable def P_X0_isPicked : sx_P := (some .boolean, [], none, kc_X0, kl_X0, tb_X0_isPicked)
def d_X0_isPicked : sx_M := (yX0_isPicked, cX0_isPicked, 2, some .boolean, 0, 0, 2)
noncomputable def f_X0_isPicked : sx_F := sx_fn P_X0_isPicked 2
theorem k_X0_isPicked : sx_all ws_X0_isPicked (yX0_isPicked).cls false 2 0 0 cX0_isPicked P_X0_isPicked 18 = true := by decide +kernel
theorem s_X0_isPicked : sx_ok d_X0_isPicked f_X0_isPicked := sx_sound wo_X0_isPicked (by decide) rfl rfl (fun h => by first | rfl | cases h) (List.forall_mem_nil _) (sx_goodOf k_X0_isPicked (fun pc h => by show cond _ _ _ = _; rw [h]; rfl))
def ws_X0_isSlit : List Cond := [.fieldLink RX0 25 "DaisyChain$Moment" "slitPlace" "[I"]
theorem wo_X0_isSlit : sx_ws ws_X0_isSlit := wx_of [172] (by decide +kernel) (by decide +kernel)
def tb_X0_isSlit : Nat → Option sx_E := fun pc => bif Nat.blt pc 15 then (bif Nat.blt pc 6 then (bif Nat.blt pc 4 then (bif Nat.blt pc 1 then (bif Nat.beq pc 0 then some (.aload_n 0, 0, 0, []) else none) else (bif Nat.beq pc 1 then some (.getfield 25, 0, 4, []) else none)) else (bif Nat.blt pc 5 then (bif Nat.beq pc 4 then some (.iload_n 1, 0, 0, []) else none) else (bif Nat.beq pc 5 then some (.iaload, 0, 0, []) else none))) else (bif Nat.blt pc 10 then (bif Nat.blt pc 9 then (bif Nat.beq pc 6 then some (.ifCond .le 7, 13, 0, []) else none) else (bif Nat.beq pc 9 then some (.iconst 1, 0, 0, []) else none)) else (bif Nat.blt pc 13 then (bif Nat.beq pc 10 then some (.goto 4, 2, 14, []) else none) else (bif Nat.blt pc 14 then (bif Nat.beq pc 13 then some (.iconst 0, 0, 0, []) else none) else (bif Nat.beq pc 14 then some (.ireturn, 0, 0, []) else none))))) else none
noncomputable def P_X0_isSlit : sx_P := (some .boolean, [], none, kc_X0, kl_X0, tb_X0_isSlit)
def d_X0_isSlit : sx_M := (yX0_isSlit, cX0_isSlit, 2, some .boolean, 0, 0, 2)
noncomputable def f_X0_isSlit : sx_F := sx_fn P_X0_isSlit 2
theorem k_X0_isSlit : sx_all ws_X0_isSlit (yX0_isSlit).cls false 2 0 0 cX0_isSlit P_X0_isSlit 15 = true := by decide +kernel
theorem s_X0_isSlit : sx_ok d_X0_isSlit f_X0_isSlit := sx_sound wo_X0_isSlit (by decide) rfl rfl (fun h => by first | rfl | cases h) (List.forall_mem_nil _) (sx_goodOf k_X0_isSlit (fun pc h => by show cond _ _ _ = _; rw [h]; rfl))
def ws_X0_linkCount : List Cond := [.fieldLink RX0 34 "DaisyChain$Moment" "chained" "I", .methodLink RX0 43 Lib.Math.max.name, .static Lib.Math.max.name, .initialized "java/lang/Math", .code Lib.Math.max.name Lib.Math.max.code 2 (some .int)]
theorem wo_X0_linkCount : sx_ws ws_X0_linkCount := wx_of [178, 407, 385, 69, 386] (by decide +kernel) (by decide +kernel)
def tb_X0_linkCount : Nat → Option sx_E := fun pc => bif Nat.blt pc 11 then (bif Nat.blt pc 5 then (bif Nat.blt pc 1 then (bif Nat.beq pc 0 then some (.iconst 0, 0, 0, []) else none) else (bif Nat.blt pc 2 then (bif Nat.beq pc 1 then some (.aload_n 0, 0, 0, []) else none) else (bif Nat.beq pc 2 then some (.getfield 34, 0, 7, []) else none))) else (bif Nat.blt pc 7 then (bif Nat.blt pc 6 then (bif Nat.beq pc 5 then some (.iconst 1, 0, 0, []) else none) else (bif Nat.beq pc 6 then some (.isub, 0, 0, []) else none)) else (bif Nat.blt pc 10 then (bif Nat.beq pc 7 then some (.invokestatic 43, 0, 1, []) else none) else (bif Nat.beq pc 10 then some (.ireturn, 0, 0, []) else none)))) else none
noncomputable def P_X0_linkCount : sx_P := (some .int, [], none, kc_X0, kl_X0, tb_X0_linkCount)
def d_X0_linkCount : sx_M := (yX0_linkCount, cX0_linkCount, 1, some .int, 1, 21, 1)
noncomputable def f_X0_linkCount : sx_F := sx_fn P_X0_linkCount 1
theorem k_X0_linkCount : sx_all ws_X0_linkCount (yX0_linkCount).cls false 1 1 21 cX0_linkCount P_X0_linkCount 11 = true := by decide +kernel
theorem s_X0_linkCount : sx_ok d_X0_linkCount f_X0_linkCount := sx_sound wo_X0_linkCount (by decide) rfl rfl (fun h => by first | rfl | cases h) (List.forall_mem_nil _) (sx_goodOf k_X0_linkCount (fun pc h => by show cond _ _ _ = _; rw [h]; rfl))
def ws_X0_lastOne : List Cond := [.fieldLink RX0 31 "DaisyChain$Moment" "chain" "[I", .code yX0_linkCount cX0_linkCount 1 (some .int), .initialized RX0, .instanceMethod yX0_linkCount, .selects RX0 yX0_linkCount yX0_linkCount, .methodLink RX0 49 yX0_linkCount]
theorem wo_X0_lastOne : sx_ws ws_X0_lastOne := wx_of [176, 406, 65, 404, 405, 403] (by decide +kernel) (by decide +kernel)
def tb_X0_lastOne : Nat → Option sx_E := fun pc => bif Nat.blt pc 10 then (bif Nat.blt pc 5 then (bif Nat.blt pc 1 then (bif Nat.beq pc 0 then some (.aload_n 0, 0, 0, []) else none) else (bif Nat.blt pc 4 then (bif Nat.beq pc 1 then some (.getfield 31, 0, 6, []) else none) else (bif Nat.beq pc 4 then some (.aload_n 0, 0, 0, []) else none))) else (bif Nat.blt pc 8 then (bif Nat.beq pc 5 then some (.invokevirtual 49, 0, 0, []) else none) else (bif Nat.blt pc 9 then (bif Nat.beq pc 8 then some (.iaload, 0, 0, []) else none) else (bif Nat.beq pc 9 then some (.ireturn, 0, 0, []) else none)))) else none
noncomputable def P_X0_lastOne : sx_P := (some .int, [(d_X0_linkCount, f_X0_linkCount)], none, kc_X0, kl_X0, tb_X0_lastOne)
def d_X0_lastOne : sx_M := (yX0_lastOne, cX0_lastOne, 1, some .int, 2, 41, 1)
noncomputable def f_X0_lastOne : sx_F := sx_fn P_X0_lastOne 1
theorem k_X0_lastOne : sx_all ws_X0_lastOne (yX0_lastOne).cls false 1 2 41 cX0_lastOne P_X0_lastOne 10 = true := by decide +kernel
theorem s_X0_lastOne : sx_ok d_X0_lastOne f_X0_lastOne := sx_sound wo_X0_lastOne (by decide) rfl rfl (fun h => by first | rfl | cases h) (List.forall_mem_cons.mpr ⟨s_X0_linkCount, List.forall_mem_nil _⟩) (sx_goodOf k_X0_lastOne (fun pc h => by show cond _ _ _ = _; rw [h]; rfl))
def ws_X0_isAmong : List Cond := [.fieldLink RX0 31 "DaisyChain$Moment" "chain" "[I"]
theorem wo_X0_isAmong : sx_ws ws_X0_isAmong := wx_of [176] (by decide +kernel) (by decide +kernel)
def tb_X0_isAmong : Nat → Option sx_E := fun pc => bif Nat.blt pc 27 then (bif Nat.blt pc 12 then (bif Nat.blt pc 4 then (bif Nat.blt pc 2 then (bif Nat.blt pc 1 then (bif Nat.beq pc 0 then some (.iconst 0, 0, 0, []) else none) else (bif Nat.beq pc 1 then some (.istore_n 3, 0, 0, []) else none)) else (bif Nat.blt pc 3 then (bif Nat.beq pc 2 then some (.iload_n 3, 0, 0, []) else none) else (bif Nat.beq pc 3 then some (.iload_n 2, 0, 0, []) else none))) else (bif Nat.blt pc 8 then (bif Nat.blt pc 7 then (bif Nat.beq pc 4 then some (.if_icmp .ge 21, 25, 0, []) else none) else (bif Nat.beq pc 7 then some (.aload_n 0, 0, 0, []) else none)) else (bif Nat.blt pc 11 then (bif Nat.beq pc 8 then some (.getfield 31, 0, 6, []) else none) else (bif Nat.beq pc 11 then some (.iload_n 3, 0, 0, []) else none)))) else (bif Nat.blt pc 18 then (bif Nat.blt pc 14 then (bif Nat.blt pc 13 then (bif Nat.beq pc 12 then some (.iaload, 0, 0, []) else none) else (bif Nat.beq pc 13 then some (.iload_n 1, 0, 0, []) else none)) else (bif Nat.blt pc 17 then (bif Nat.beq pc 14 then some (.if_icmp .ne 5, 19, 0, []) else none) else (bif Nat.beq pc 17 then some (.iconst 1, 0, 0, []) else none))) else (bif Nat.blt pc 22 then (bif Nat.blt pc 19 then (bif Nat.beq pc 18 then some (.ireturn, 0, 0, []) else none) else (bif Nat.beq pc 19 then some (.iinc 3 1, 0, 0, []) else none)) else (bif Nat.blt pc 25 then (bif Nat.beq pc 22 then some (.goto (-20), 4, 2, []) else none) else (bif Nat.blt pc 26 then (bif Nat.beq pc 25 then some (.iconst 0, 0, 0, []) else none) else (bif Nat.beq pc 26 then some (.ireturn, 0, 0, []) else none)))))) else none
noncomputable def P_X0_isAmong : sx_P := (some .boolean, [], none, kc_X0, kl_X0, tb_X0_isAmong)
def d_X0_isAmong : sx_M := (yX0_isAmong, cX0_isAmong, 4, some .boolean, 0, 0, 3)
noncomputable def f_X0_isAmong : sx_F := sx_fn P_X0_isAmong 4
theorem k_X0_isAmong : sx_all ws_X0_isAmong (yX0_isAmong).cls false 4 0 0 cX0_isAmong P_X0_isAmong 27 = true := by decide +kernel
theorem s_X0_isAmong : sx_ok d_X0_isAmong f_X0_isAmong := sx_sound wo_X0_isAmong (by decide) rfl rfl (fun h => by first | rfl | cases h) (List.forall_mem_nil _) (sx_goodOf k_X0_isAmong (fun pc h => by show cond _ _ _ = _; rw [h]; rfl))
def ws_X0_isInChain : List Cond := [.fieldLink RX0 34 "DaisyChain$Moment" "chained" "I", .code yX0_isAmong cX0_isAmong 4 (some .boolean), .initialized RX0, .instanceMethod yX0_isAmong, .selects RX0 yX0_isAmong yX0_isAmong, .methodLink RX0 53 yX0_isAmong]
theorem wo_X0_isInChain : sx_ws ws_X0_isInChain := wx_of [178, 424, 65, 423, 15, 421] (by decide +kernel) (by decide +kernel)
def tb_X0_isInChain : Nat → Option sx_E := fun pc => bif Nat.blt pc 10 then (bif Nat.blt pc 3 then (bif Nat.blt pc 1 then (bif Nat.beq pc 0 then some (.aload_n 0, 0, 0, []) else none) else (bif Nat.blt pc 2 then (bif Nat.beq pc 1 then some (.iload_n 1, 0, 0, []) else none) else (bif Nat.beq pc 2 then some (.aload_n 0, 0, 0, []) else none))) else (bif Nat.blt pc 6 then (bif Nat.beq pc 3 then some (.getfield 34, 0, 7, []) else none) else (bif Nat.blt pc 9 then (bif Nat.beq pc 6 then some (.invokevirtual 53, 0, 0, []) else none) else (bif Nat.beq pc 9 then some (.ireturn, 0, 0, []) else none)))) else none
noncomputable def P_X0_isInChain : sx_P := (some .boolean, [(d_X0_isAmong, f_X0_isAmong)], none, kc_X0, kl_X0, tb_X0_isInChain)
def d_X0_isInChain : sx_M := (yX0_isInChain, cX0_isInChain, 2, some .boolean, 1, 23, 2)
noncomputable def f_X0_isInChain : sx_F := sx_fn P_X0_isInChain 2
theorem k_X0_isInChain : sx_all ws_X0_isInChain (yX0_isInChain).cls false 2 1 23 cX0_isInChain P_X0_isInChain 10 = true := by decide +kernel
theorem s_X0_isInChain : sx_ok d_X0_isInChain f_X0_isInChain := sx_sound wo_X0_isInChain (by decide) rfl rfl (fun h => by first | rfl | cases h) (List.forall_mem_cons.mpr ⟨s_X0_isAmong, List.forall_mem_nil _⟩) (sx_goodOf k_X0_isInChain (fun pc h => by show cond _ _ _ = _; rw [h]; rfl))
def ws_X0_isLink : List Cond := [.code yX0_linkCount cX0_linkCount 1 (some .int), .initialized RX0, .instanceMethod yX0_linkCount, .selects RX0 yX0_linkCount yX0_linkCount, .methodLink RX0 49 yX0_linkCount, .code yX0_isAmong cX0_isAmong 4 (some .boolean), .instanceMethod yX0_isAmong, .selects RX0 yX0_isAmong yX0_isAmong, .methodLink RX0 53 yX0_isAmong]
theorem wo_X0_isLink : sx_ws ws_X0_isLink := wx_of [406, 65, 404, 405, 403, 424, 423, 15, 421] (by decide +kernel) (by decide +kernel)
def tb_X0_isLink : Nat → Option sx_E := fun pc => bif Nat.blt pc 10 then (bif Nat.blt pc 3 then (bif Nat.blt pc 1 then (bif Nat.beq pc 0 then some (.aload_n 0, 0, 0, []) else none) else (bif Nat.blt pc 2 then (bif Nat.beq pc 1 then some (.iload_n 1, 0, 0, []) else none) else (bif Nat.beq pc 2 then some (.aload_n 0, 0, 0, []) else none))) else (bif Nat.blt pc 6 then (bif Nat.beq pc 3 then some (.invokevirtual 49, 0, 0, []) else none) else (bif Nat.blt pc 9 then (bif Nat.beq pc 6 then some (.invokevirtual 53, 1, 0, []) else none) else (bif Nat.beq pc 9 then some (.ireturn, 0, 0, []) else none)))) else none
noncomputable def P_X0_isLink : sx_P := (some .boolean, [(d_X0_linkCount, f_X0_linkCount), (d_X0_isAmong, f_X0_isAmong)], none, kc_X0, kl_X0, tb_X0_isLink)
def d_X0_isLink : sx_M := (yX0_isLink, cX0_isLink, 2, some .boolean, 2, 41, 2)
noncomputable def f_X0_isLink : sx_F := sx_fn P_X0_isLink 2
theorem k_X0_isLink : sx_all ws_X0_isLink (yX0_isLink).cls false 2 2 41 cX0_isLink P_X0_isLink 10 = true := by decide +kernel
theorem s_X0_isLink : sx_ok d_X0_isLink f_X0_isLink := sx_sound wo_X0_isLink (by decide) rfl rfl (fun h => by first | rfl | cases h) (List.forall_mem_cons.mpr ⟨s_X0_linkCount, List.forall_mem_cons.mpr ⟨s_X0_isAmong, List.forall_mem_nil _⟩⟩) (sx_goodOf k_X0_isLink (fun pc h => by show cond _ _ _ = _; rw [h]; rfl))
def kc_J6 : Nat → Int32 := fun i => bif Nat.beq i 265 then (1431655765) else bif Nat.beq i 266 then (858993459) else bif Nat.beq i 267 then (252645135) else 0
def kl_J6 : Nat → Int64 := fun i => 0
def ws_J6_bitCount_0f7a4 : List Cond := [.constant RJ6 265 (1431655765), .constant RJ6 266 (858993459), .constant RJ6 267 (252645135)]
theorem wo_J6_bitCount_0f7a4 : sx_ws ws_J6_bitCount_0f7a4 := wx_of [445, 446, 447] (by decide +kernel) (by decide +kernel)
def tb_J6_bitCount_0f7a4 : Nat → Option sx_E := fun pc => bif Nat.blt pc 53 then (bif Nat.blt pc 27 then (bif Nat.blt pc 14 then (bif Nat.blt pc 7 then (bif Nat.blt pc 2 then (bif Nat.blt pc 1 then (bif Nat.beq pc 0 then some (.iload_n 0, 0, 0, []) else none) else (bif Nat.beq pc 1 then some (.iload_n 0, 0, 0, []) else none)) else (bif Nat.blt pc 3 then (bif Nat.beq pc 2 then some (.iconst 1, 0, 0, []) else none) else (bif Nat.blt pc 4 then (bif Nat.beq pc 3 then some (.iushr, 0, 0, []) else none) else (bif Nat.beq pc 4 then some (.ldc_w 265, 0, 0, []) else none)))) else (bif Nat.blt pc 9 then (bif Nat.blt pc 8 then (bif Nat.beq pc 7 then some (.iand, 0, 0, []) else none) else (bif Nat.beq pc 8 then some (.isub, 0, 0, []) else none)) else (bif Nat.blt pc 10 then (bif Nat.beq pc 9 then some (.istore_n 0, 0, 0, []) else none) else (bif Nat.blt pc 11 then (bif Nat.beq pc 10 then some (.iload_n 0, 0, 0, []) else none) else (bif Nat.beq pc 11 then some (.ldc_w 266, 0, 0, []) else none))))) else (bif Nat.blt pc 21 then (bif Nat.blt pc 16 then (bif Nat.blt pc 15 then (bif Nat.beq pc 14 then some (.iand, 0, 0, []) else none) else (bif Nat.beq pc 15 then some (.iload_n 0, 0, 0, []) else none)) else (bif Nat.blt pc 17 then (bif Nat.beq pc 16 then some (.iconst 2, 0, 0, []) else none) else (bif Nat.blt pc 18 then (bif Nat.beq pc 17 then some (.iushr, 0, 0, []) else none) else (bif Nat.beq pc 18 then some (.ldc_w 266, 0, 0, []) else none)))) else (bif Nat.blt pc 24 then (bif Nat.blt pc 22 then (bif Nat.beq pc 21 then some (.iand, 0, 0, []) else none) else (bif Nat.blt pc 23 then (bif Nat.beq pc 22 then some (.iadd, 0, 0, []) else none) else (bif Nat.beq pc 23 then some (.istore_n 0, 0, 0, []) else none))) else (bif Nat.blt pc 25 then (bif Nat.beq pc 24 then some (.iload_n 0, 0, 0, []) else none) else (bif Nat.blt pc 26 then (bif Nat.beq pc 25 then some (.iload_n 0, 0, 0, []) else none) else (bif Nat.beq pc 26 then some (.iconst 4, 0, 0, []) else none)))))) else (bif Nat.blt pc 40 then (bif Nat.blt pc 34 then (bif Nat.blt pc 29 then (bif Nat.blt pc 28 then (bif Nat.beq pc 27 then some (.iushr, 0, 0, []) else none) else (bif Nat.beq pc 28 then some (.iadd, 0, 0, []) else none)) else (bif Nat.blt pc 32 then (bif Nat.beq pc 29 then some (.ldc_w 267, 0, 0, []) else none) else (bif Nat.blt pc 33 then (bif Nat.beq pc 32 then some (.iand, 0, 0, []) else none) else (bif Nat.beq pc 33 then some (.istore_n 0, 0, 0, []) else none)))) else (bif Nat.blt pc 36 then (bif Nat.blt pc 35 then (bif Nat.beq pc 34 then some (.iload_n 0, 0, 0, []) else none) else (bif Nat.beq pc 35 then some (.iload_n 0, 0, 0, []) else none)) else (bif Nat.blt pc 38 then (bif Nat.beq pc 36 then some (.bipush 8, 0, 0, []) else none) else (bif Nat.blt pc 39 then (bif Nat.beq pc 38 then some (.iushr, 0, 0, []) else none) else (bif Nat.beq pc 39 then some (.iadd, 0, 0, []) else none))))) else (bif Nat.blt pc 46 then (bif Nat.blt pc 42 then (bif Nat.blt pc 41 then (bif Nat.beq pc 40 then some (.istore_n 0, 0, 0, []) else none) else (bif Nat.beq pc 41 then some (.iload_n 0, 0, 0, []) else none)) else (bif Nat.blt pc 43 then (bif Nat.beq pc 42 then some (.iload_n 0, 0, 0, []) else none) else (bif Nat.blt pc 45 then (bif Nat.beq pc 43 then some (.bipush 16, 0, 0, []) else none) else (bif Nat.beq pc 45 then some (.iushr, 0, 0, []) else none)))) else (bif Nat.blt pc 49 then (bif Nat.blt pc 47 then (bif Nat.beq pc 46 then some (.iadd, 0, 0, []) else none) else (bif Nat.blt pc 48 then (bif Nat.beq pc 47 then some (.istore_n 0, 0, 0, []) else none) else (bif Nat.beq pc 48 then some (.iload_n 0, 0, 0, []) else none))) else (bif Nat.blt pc 51 then (bif Nat.beq pc 49 then some (.bipush 63, 0, 0, []) else none) else (bif Nat.blt pc 52 then (bif Nat.beq pc 51 then some (.iand, 0, 0, []) else none) else (bif Nat.beq pc 52 then some (.ireturn, 0, 0, []) else none))))))) else none
noncomputable def P_J6_bitCount_0f7a4 : sx_P := (some .int, [], none, kc_J6, kl_J6, tb_J6_bitCount_0f7a4)
def d_J6_bitCount_0f7a4 : sx_M := (yJ6_bitCount_0f7a4, cJ6_bitCount_0f7a4, 1, some .int, 0, 0, 1)
noncomputable def f_J6_bitCount_0f7a4 : sx_F := sx_fn P_J6_bitCount_0f7a4 1
theorem k_J6_bitCount_0f7a4 : sx_all ws_J6_bitCount_0f7a4 (yJ6_bitCount_0f7a4).cls false 1 0 0 cJ6_bitCount_0f7a4 P_J6_bitCount_0f7a4 53 = true := by decide +kernel
theorem s_J6_bitCount_0f7a4 : sx_ok d_J6_bitCount_0f7a4 f_J6_bitCount_0f7a4 := sx_sound wo_J6_bitCount_0f7a4 (by decide) rfl rfl (fun h => by first | rfl | cases h) (List.forall_mem_nil _) (sx_goodOf k_J6_bitCount_0f7a4 (fun pc h => by show cond _ _ _ = _; rw [h]; rfl))
end
