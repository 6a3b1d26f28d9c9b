-- ===== PART A: goes FIRST, ahead of the names: the tables' words, and 'selects' of the private methods out of them =====
/-- a private method of a class that the tables say can be made, by its rows of tables_1 -/
def lw_okq (q : MethodName × Nat) : Prop := (q.1.cls ≠ "java/lang/invoke/MethodHandle" ∧ q.1.cls ≠ "java/lang/invoke/VarHandle") ∧ Cond.instantiable q.1.cls q.2 ∈ tables_1 ∧ Cond.privateMethod q.1 ∈ tables_1 ∧ Cond.instanceMethod q.1 ∈ tables_1
theorem lw_p0 : lw_okq (⟨"DaisyChain$Text", "nextToken", "()V"⟩, 9) := ⟨⟨by decide +kernel, by decide +kernel⟩, List.mem_of_getElem? (i := 20) (by decide +kernel), List.mem_of_getElem? (i := 243) (by decide +kernel), List.mem_of_getElem? (i := 244) (by decide +kernel)⟩
theorem lw_p1 : lw_okq (⟨"DaisyChain$Text", "nextNumber", "()V"⟩, 9) := ⟨⟨by decide +kernel, by decide +kernel⟩, List.mem_of_getElem? (i := 20) (by decide +kernel), List.mem_of_getElem? (i := 250) (by decide +kernel), List.mem_of_getElem? (i := 251) (by decide +kernel)⟩
theorem lw_p2 : lw_okq (⟨"DaisyChain$Text", "readsItem", "()Z"⟩, 9) := ⟨⟨by decide +kernel, by decide +kernel⟩, List.mem_of_getElem? (i := 20) (by decide +kernel), List.mem_of_getElem? (i := 257) (by decide +kernel), List.mem_of_getElem? (i := 258) (by decide +kernel)⟩
theorem lw_p3 : lw_okq (⟨"DaisyChain$Text", "readsFlower", "()Z"⟩, 9) := ⟨⟨by decide +kernel, by decide +kernel⟩, List.mem_of_getElem? (i := 20) (by decide +kernel), List.mem_of_getElem? (i := 261) (by decide +kernel), List.mem_of_getElem? (i := 262) (by decide +kernel)⟩
theorem lw_p4 : lw_okq (⟨"DaisyChain$Text", "readsNumber", "(II)Z"⟩, 9) := ⟨⟨by decide +kernel, by decide +kernel⟩, List.mem_of_getElem? (i := 20) (by decide +kernel), List.mem_of_getElem? (i := 265) (by decide +kernel), List.mem_of_getElem? (i := 266) (by decide +kernel)⟩
theorem lw_p5 : lw_okq (⟨"DaisyChain$Text", "readsItemEnd", "()Z"⟩, 9) := ⟨⟨by decide +kernel, by decide +kernel⟩, List.mem_of_getElem? (i := 20) (by decide +kernel), List.mem_of_getElem? (i := 270) (by decide +kernel), List.mem_of_getElem? (i := 271) (by decide +kernel)⟩
theorem lw_p6 : lw_okq (⟨"DaisyChain$Text", "readsWilt", "()Z"⟩, 9) := ⟨⟨by decide +kernel, by decide +kernel⟩, List.mem_of_getElem? (i := 20) (by decide +kernel), List.mem_of_getElem? (i := 274) (by decide +kernel), List.mem_of_getElem? (i := 275) (by decide +kernel)⟩
theorem lw_p7 : lw_okq (⟨"DaisyChain", "isFlower", "(I)Z"⟩, 12) := ⟨⟨by decide +kernel, by decide +kernel⟩, List.mem_of_getElem? (i := 12) (by decide +kernel), List.mem_of_getElem? (i := 293) (by decide +kernel), List.mem_of_getElem? (i := 294) (by decide +kernel)⟩
theorem lw_p8 : lw_okq (⟨"DaisyChain", "holds", "(I)I"⟩, 12) := ⟨⟨by decide +kernel, by decide +kernel⟩, List.mem_of_getElem? (i := 12) (by decide +kernel), List.mem_of_getElem? (i := 305) (by decide +kernel), List.mem_of_getElem? (i := 306) (by decide +kernel)⟩
theorem lw_p9 : lw_okq (⟨"DaisyChain", "holdsLater", "(II)I"⟩, 12) := ⟨⟨by decide +kernel, by decide +kernel⟩, List.mem_of_getElem? (i := 12) (by decide +kernel), List.mem_of_getElem? (i := 309) (by decide +kernel), List.mem_of_getElem? (i := 310) (by decide +kernel)⟩
theorem lw_p10 : lw_okq (⟨"DaisyChain", "freshHold", "(I)I"⟩, 12) := ⟨⟨by decide +kernel, by decide +kernel⟩, List.mem_of_getElem? (i := 12) (by decide +kernel), List.mem_of_getElem? (i := 313) (by decide +kernel), List.mem_of_getElem? (i := 314) (by decide +kernel)⟩
theorem lw_p11 : lw_okq (⟨"DaisyChain", "isOpen", "(I)Z"⟩, 12) := ⟨⟨by decide +kernel, by decide +kernel⟩, List.mem_of_getElem? (i := 12) (by decide +kernel), List.mem_of_getElem? (i := 317) (by decide +kernel), List.mem_of_getElem? (i := 318) (by decide +kernel)⟩
theorem lw_p12 : lw_okq (⟨"DaisyChain", "inches", "()I"⟩, 12) := ⟨⟨by decide +kernel, by decide +kernel⟩, List.mem_of_getElem? (i := 12) (by decide +kernel), List.mem_of_getElem? (i := 335) (by decide +kernel), List.mem_of_getElem? (i := 336) (by decide +kernel)⟩
theorem lw_p13 : lw_okq (⟨"DaisyChain", "canBeThreaded", "()I"⟩, 12) := ⟨⟨by decide +kernel, by decide +kernel⟩, List.mem_of_getElem? (i := 12) (by decide +kernel), List.mem_of_getElem? (i := 349) (by decide +kernel), List.mem_of_getElem? (i := 350) (by decide +kernel)⟩
theorem lw_p14 : lw_okq (⟨"DaisyChain", "fitsBehind", "(I)Z"⟩, 12) := ⟨⟨by decide +kernel, by decide +kernel⟩, List.mem_of_getElem? (i := 12) (by decide +kernel), List.mem_of_getElem? (i := 353) (by decide +kernel), List.mem_of_getElem? (i := 354) (by decide +kernel)⟩
theorem lw_p15 : lw_okq (⟨"DaisyChain$Moment", "isAmong", "(II)Z"⟩, 8) := ⟨⟨by decide +kernel, by decide +kernel⟩, List.mem_of_getElem? (i := 97) (by decide +kernel), List.mem_of_getElem? (i := 361) (by decide +kernel), List.mem_of_getElem? (i := 362) (by decide +kernel)⟩
def lw_privs_1 : List (MethodName × Nat) := [(⟨"DaisyChain$Text", "nextToken", "()V"⟩, 9), (⟨"DaisyChain$Text", "nextNumber", "()V"⟩, 9), (⟨"DaisyChain$Text", "readsItem", "()Z"⟩, 9), (⟨"DaisyChain$Text", "readsFlower", "()Z"⟩, 9), (⟨"DaisyChain$Text", "readsNumber", "(II)Z"⟩, 9), (⟨"DaisyChain$Text", "readsItemEnd", "()Z"⟩, 9), (⟨"DaisyChain$Text", "readsWilt", "()Z"⟩, 9), (⟨"DaisyChain", "isFlower", "(I)Z"⟩, 12), (⟨"DaisyChain", "holds", "(I)I"⟩, 12), (⟨"DaisyChain", "holdsLater", "(II)I"⟩, 12), (⟨"DaisyChain", "freshHold", "(I)I"⟩, 12), (⟨"DaisyChain", "isOpen", "(I)Z"⟩, 12), (⟨"DaisyChain", "inches", "()I"⟩, 12), (⟨"DaisyChain", "canBeThreaded", "()I"⟩, 12), (⟨"DaisyChain", "fitsBehind", "(I)Z"⟩, 12), (⟨"DaisyChain$Moment", "isAmong", "(II)Z"⟩, 8)]
theorem lw_r1 : ∀ q ∈ lw_privs_1, lw_okq q := List.forall_mem_cons.mpr ⟨lw_p0, List.forall_mem_cons.mpr ⟨lw_p1, List.forall_mem_cons.mpr ⟨lw_p2, List.forall_mem_cons.mpr ⟨lw_p3, List.forall_mem_cons.mpr ⟨lw_p4, List.forall_mem_cons.mpr ⟨lw_p5, List.forall_mem_cons.mpr ⟨lw_p6, List.forall_mem_cons.mpr ⟨lw_p7, List.forall_mem_cons.mpr ⟨lw_p8, List.forall_mem_cons.mpr ⟨lw_p9, List.forall_mem_cons.mpr ⟨lw_p10, List.forall_mem_cons.mpr ⟨lw_p11, List.forall_mem_cons.mpr ⟨lw_p12, List.forall_mem_cons.mpr ⟨lw_p13, List.forall_mem_cons.mpr ⟨lw_p14, List.forall_mem_cons.mpr ⟨lw_p15, fun _ h => absurd h List.not_mem_nil⟩⟩⟩⟩⟩⟩⟩⟩⟩⟩⟩⟩⟩⟩⟩⟩
theorem lw_p16 : lw_okq (⟨"DaisyChain", "takes", "(II)Z"⟩, 12) := ⟨⟨by decide +kernel, by decide +kernel⟩, List.mem_of_getElem? (i := 12) (by decide +kernel), List.mem_of_getElem? (i := 365) (by decide +kernel), List.mem_of_getElem? (i := 366) (by decide +kernel)⟩
theorem lw_p17 : lw_okq (⟨"DaisyChain", "remember", "()V"⟩, 12) := ⟨⟨by decide +kernel, by decide +kernel⟩, List.mem_of_getElem? (i := 12) (by decide +kernel), List.mem_of_getElem? (i := 373) (by decide +kernel), List.mem_of_getElem? (i := 374) (by decide +kernel)⟩
theorem lw_p18 : lw_okq (⟨"DaisyChain", "dryBy", "(I)V"⟩, 12) := ⟨⟨by decide +kernel, by decide +kernel⟩, List.mem_of_getElem? (i := 12) (by decide +kernel), List.mem_of_getElem? (i := 408) (by decide +kernel), List.mem_of_getElem? (i := 409) (by decide +kernel)⟩
theorem lw_p19 : lw_okq (⟨"DaisyChain", "weakestLink", "(I)I"⟩, 12) := ⟨⟨by decide +kernel, by decide +kernel⟩, List.mem_of_getElem? (i := 12) (by decide +kernel), List.mem_of_getElem? (i := 424) (by decide +kernel), List.mem_of_getElem? (i := 425) (by decide +kernel)⟩
theorem lw_p20 : lw_okq (⟨"DaisyChain", "leastProps", "()I"⟩, 12) := ⟨⟨by decide +kernel, by decide +kernel⟩, List.mem_of_getElem? (i := 12) (by decide +kernel), List.mem_of_getElem? (i := 440) (by decide +kernel), List.mem_of_getElem? (i := 441) (by decide +kernel)⟩
theorem lw_p21 : lw_okq (⟨"DaisyChain", "bearsHungFrom", "(I)Z"⟩, 12) := ⟨⟨by decide +kernel, by decide +kernel⟩, List.mem_of_getElem? (i := 12) (by decide +kernel), List.mem_of_getElem? (i := 444) (by decide +kernel), List.mem_of_getElem? (i := 445) (by decide +kernel)⟩
theorem lw_p22 : lw_okq (⟨"DaisyChain$RowSearch", "canBegin", "(II)Z"⟩, 3) := ⟨⟨by decide +kernel, by decide +kernel⟩, List.mem_of_getElem? (i := 140) (by decide +kernel), List.mem_of_getElem? (i := 476) (by decide +kernel), List.mem_of_getElem? (i := 477) (by decide +kernel)⟩
theorem lw_p23 : lw_okq (⟨"DaisyChain$RowSearch", "mostFrom", "(LDaisyChain$Told;II)I"⟩, 3) := ⟨⟨by decide +kernel, by decide +kernel⟩, List.mem_of_getElem? (i := 140) (by decide +kernel), List.mem_of_getElem? (i := 483) (by decide +kernel), List.mem_of_getElem? (i := 484) (by decide +kernel)⟩
theorem lw_p24 : lw_okq (⟨"DaisyChain$RowSearch", "inchesWith", "(III)I"⟩, 3) := ⟨⟨by decide +kernel, by decide +kernel⟩, List.mem_of_getElem? (i := 140) (by decide +kernel), List.mem_of_getElem? (i := 487) (by decide +kernel), List.mem_of_getElem? (i := 488) (by decide +kernel)⟩
theorem lw_p25 : lw_okq (⟨"DaisyChain$RowSearch", "reaches", "(II)Z"⟩, 3) := ⟨⟨by decide +kernel, by decide +kernel⟩, List.mem_of_getElem? (i := 140) (by decide +kernel), List.mem_of_getElem? (i := 501) (by decide +kernel), List.mem_of_getElem? (i := 502) (by decide +kernel)⟩
theorem lw_p26 : lw_okq (⟨"DaisyChain$RowSearch", "firstThatReaches", "(IIII)I"⟩, 3) := ⟨⟨by decide +kernel, by decide +kernel⟩, List.mem_of_getElem? (i := 140) (by decide +kernel), List.mem_of_getElem? (i := 517) (by decide +kernel), List.mem_of_getElem? (i := 518) (by decide +kernel)⟩
theorem lw_p27 : lw_okq (⟨"DaisyChain$RowSearch", "mostOfSize", "(IIII)I"⟩, 3) := ⟨⟨by decide +kernel, by decide +kernel⟩, List.mem_of_getElem? (i := 140) (by decide +kernel), List.mem_of_getElem? (i := 521) (by decide +kernel), List.mem_of_getElem? (i := 522) (by decide +kernel)⟩
theorem lw_p28 : lw_okq (⟨"DaisyChain", "agreesWithAllSeen", "(I)Z"⟩, 12) := ⟨⟨by decide +kernel, by decide +kernel⟩, List.mem_of_getElem? (i := 12) (by decide +kernel), List.mem_of_getElem? (i := 537) (by decide +kernel), List.mem_of_getElem? (i := 538) (by decide +kernel)⟩
theorem lw_p29 : lw_okq (⟨"DaisyChain", "countWays", "(II)V"⟩, 12) := ⟨⟨by decide +kernel, by decide +kernel⟩, List.mem_of_getElem? (i := 12) (by decide +kernel), List.mem_of_getElem? (i := 550) (by decide +kernel), List.mem_of_getElem? (i := 551) (by decide +kernel)⟩
theorem lw_p30 : lw_okq (⟨"DaisyChain", "rateFlower", "(I)I"⟩, 12) := ⟨⟨by decide +kernel, by decide +kernel⟩, List.mem_of_getElem? (i := 12) (by decide +kernel), List.mem_of_getElem? (i := 559) (by decide +kernel), List.mem_of_getElem? (i := 560) (by decide +kernel)⟩
theorem lw_p31 : lw_okq (⟨"DaisyChain", "rateStalk", "(I)I"⟩, 12) := ⟨⟨by decide +kernel, by decide +kernel⟩, List.mem_of_getElem? (i := 12) (by decide +kernel), List.mem_of_getElem? (i := 563) (by decide +kernel), List.mem_of_getElem? (i := 564) (by decide +kernel)⟩
def lw_privs_2 : List (MethodName × Nat) := [(⟨"DaisyChain", "takes", "(II)Z"⟩, 12), (⟨"DaisyChain", "remember", "()V"⟩, 12), (⟨"DaisyChain", "dryBy", "(I)V"⟩, 12), (⟨"DaisyChain", "weakestLink", "(I)I"⟩, 12), (⟨"DaisyChain", "leastProps", "()I"⟩, 12), (⟨"DaisyChain", "bearsHungFrom", "(I)Z"⟩, 12), (⟨"DaisyChain$RowSearch", "canBegin", "(II)Z"⟩, 3), (⟨"DaisyChain$RowSearch", "mostFrom", "(LDaisyChain$Told;II)I"⟩, 3), (⟨"DaisyChain$RowSearch", "inchesWith", "(III)I"⟩, 3), (⟨"DaisyChain$RowSearch", "reaches", "(II)Z"⟩, 3), (⟨"DaisyChain$RowSearch", "firstThatReaches", "(IIII)I"⟩, 3), (⟨"DaisyChain$RowSearch", "mostOfSize", "(IIII)I"⟩, 3), (⟨"DaisyChain", "agreesWithAllSeen", "(I)Z"⟩, 12), (⟨"DaisyChain", "countWays", "(II)V"⟩, 12), (⟨"DaisyChain", "rateFlower", "(I)I"⟩, 12), (⟨"DaisyChain", "rateStalk", "(I)I"⟩, 12)]
theorem lw_r2 : ∀ q ∈ lw_privs_2, lw_okq q := List.forall_mem_cons.mpr ⟨lw_p16, List.forall_mem_cons.mpr ⟨lw_p17, List.forall_mem_cons.mpr ⟨lw_p18, List.forall_mem_cons.mpr ⟨lw_p19, List.forall_mem_cons.mpr ⟨lw_p20, List.forall_mem_cons.mpr ⟨lw_p21, List.forall_mem_cons.mpr ⟨lw_p22, List.forall_mem_cons.mpr ⟨lw_p23, List.forall_mem_cons.mpr ⟨lw_p24, List.forall_mem_cons.mpr ⟨lw_p25, List.forall_mem_cons.mpr ⟨lw_p26, List.forall_mem_cons.mpr ⟨lw_p27, List.forall_mem_cons.mpr ⟨lw_p28, List.forall_mem_cons.mpr ⟨lw_p29, List.forall_mem_cons.mpr ⟨lw_p30, List.forall_mem_cons.mpr ⟨lw_p31, fun _ h => absurd h List.not_mem_nil⟩⟩⟩⟩⟩⟩⟩⟩⟩⟩⟩⟩⟩⟩⟩⟩
theorem lw_p32 : lw_okq (⟨"DaisyChain", "rateHead", "(I)I"⟩, 12) := ⟨⟨by decide +kernel, by decide +kernel⟩, List.mem_of_getElem? (i := 12) (by decide +kernel), List.mem_of_getElem? (i := 568) (by decide +kernel), List.mem_of_getElem? (i := 569) (by decide +kernel)⟩
theorem lw_p33 : lw_okq (⟨"DaisyChain", "rateNail", "(I)I"⟩, 12) := ⟨⟨by decide +kernel, by decide +kernel⟩, List.mem_of_getElem? (i := 12) (by decide +kernel), List.mem_of_getElem? (i := 573) (by decide +kernel), List.mem_of_getElem? (i := 574) (by decide +kernel)⟩
theorem lw_p34 : lw_okq (⟨"DaisyChain", "rateCrown", "(I)I"⟩, 12) := ⟨⟨by decide +kernel, by decide +kernel⟩, List.mem_of_getElem? (i := 12) (by decide +kernel), List.mem_of_getElem? (i := 578) (by decide +kernel), List.mem_of_getElem? (i := 579) (by decide +kernel)⟩
theorem lw_p35 : lw_okq (⟨"DaisyChain", "rateBud", "(I)I"⟩, 12) := ⟨⟨by decide +kernel, by decide +kernel⟩, List.mem_of_getElem? (i := 12) (by decide +kernel), List.mem_of_getElem? (i := 583) (by decide +kernel), List.mem_of_getElem? (i := 584) (by decide +kernel)⟩
theorem lw_p36 : lw_okq (⟨"DaisyChainModel", "advances", "()V"⟩, 24) := ⟨⟨by decide +kernel, by decide +kernel⟩, List.mem_of_getElem? (i := 604) (by decide +kernel), List.mem_of_getElem? (i := 698) (by decide +kernel), List.mem_of_getElem? (i := 699) (by decide +kernel)⟩
theorem lw_p37 : lw_okq (⟨"DaisyChainModel", "letterAt", "(I)I"⟩, 24) := ⟨⟨by decide +kernel, by decide +kernel⟩, List.mem_of_getElem? (i := 604) (by decide +kernel), List.mem_of_getElem? (i := 702) (by decide +kernel), List.mem_of_getElem? (i := 703) (by decide +kernel)⟩
theorem lw_p38 : lw_okq (⟨"DaisyChainModel", "isWell", "()Z"⟩, 24) := ⟨⟨by decide +kernel, by decide +kernel⟩, List.mem_of_getElem? (i := 604) (by decide +kernel), List.mem_of_getElem? (i := 706) (by decide +kernel), List.mem_of_getElem? (i := 707) (by decide +kernel)⟩
theorem lw_p39 : lw_okq (⟨"DaisyChainModel", "takes", "(Z)I"⟩, 24) := ⟨⟨by decide +kernel, by decide +kernel⟩, List.mem_of_getElem? (i := 604) (by decide +kernel), List.mem_of_getElem? (i := 710) (by decide +kernel), List.mem_of_getElem? (i := 711) (by decide +kernel)⟩
theorem lw_p40 : lw_okq (⟨"DaisyChainModel", "readsItem", "(I)V"⟩, 24) := ⟨⟨by decide +kernel, by decide +kernel⟩, List.mem_of_getElem? (i := 604) (by decide +kernel), List.mem_of_getElem? (i := 714) (by decide +kernel), List.mem_of_getElem? (i := 715) (by decide +kernel)⟩
theorem lw_p41 : lw_okq (⟨"DaisyChainModel", "number", "(II)I"⟩, 24) := ⟨⟨by decide +kernel, by decide +kernel⟩, List.mem_of_getElem? (i := 604) (by decide +kernel), List.mem_of_getElem? (i := 718) (by decide +kernel), List.mem_of_getElem? (i := 719) (by decide +kernel)⟩
theorem lw_p42 : lw_okq (⟨"DaisyChainModel", "settles", "()V"⟩, 24) := ⟨⟨by decide +kernel, by decide +kernel⟩, List.mem_of_getElem? (i := 604) (by decide +kernel), List.mem_of_getElem? (i := 722) (by decide +kernel), List.mem_of_getElem? (i := 723) (by decide +kernel)⟩
theorem lw_p43 : lw_okq (⟨"DaisyChainModel", "isFlower", "(I)Z"⟩, 24) := ⟨⟨by decide +kernel, by decide +kernel⟩, List.mem_of_getElem? (i := 604) (by decide +kernel), List.mem_of_getElem? (i := 730) (by decide +kernel), List.mem_of_getElem? (i := 731) (by decide +kernel)⟩
theorem lw_p44 : lw_okq (⟨"DaisyChainModel", "isPicked", "(I)Z"⟩, 24) := ⟨⟨by decide +kernel, by decide +kernel⟩, List.mem_of_getElem? (i := 604) (by decide +kernel), List.mem_of_getElem? (i := 734) (by decide +kernel), List.mem_of_getElem? (i := 735) (by decide +kernel)⟩
theorem lw_p45 : lw_okq (⟨"DaisyChainModel", "isSlit", "(I)Z"⟩, 24) := ⟨⟨by decide +kernel, by decide +kernel⟩, List.mem_of_getElem? (i := 604) (by decide +kernel), List.mem_of_getElem? (i := 738) (by decide +kernel), List.mem_of_getElem? (i := 739) (by decide +kernel)⟩
theorem lw_p46 : lw_okq (⟨"DaisyChainModel", "holds", "(I)I"⟩, 24) := ⟨⟨by decide +kernel, by decide +kernel⟩, List.mem_of_getElem? (i := 604) (by decide +kernel), List.mem_of_getElem? (i := 742) (by decide +kernel), List.mem_of_getElem? (i := 743) (by decide +kernel)⟩
theorem lw_p47 : lw_okq (⟨"DaisyChainModel", "holdsBy", "(IIIII)I"⟩, 24) := ⟨⟨by decide +kernel, by decide +kernel⟩, List.mem_of_getElem? (i := 604) (by decide +kernel), List.mem_of_getElem? (i := 746) (by decide +kernel), List.mem_of_getElem? (i := 747) (by decide +kernel)⟩
def lw_privs_3 : List (MethodName × Nat) := [(⟨"DaisyChain", "rateHead", "(I)I"⟩, 12), (⟨"DaisyChain", "rateNail", "(I)I"⟩, 12), (⟨"DaisyChain", "rateCrown", "(I)I"⟩, 12), (⟨"DaisyChain", "rateBud", "(I)I"⟩, 12), (⟨"DaisyChainModel", "advances", "()V"⟩, 24), (⟨"DaisyChainModel", "letterAt", "(I)I"⟩, 24), (⟨"DaisyChainModel", "isWell", "()Z"⟩, 24), (⟨"DaisyChainModel", "takes", "(Z)I"⟩, 24), (⟨"DaisyChainModel", "readsItem", "(I)V"⟩, 24), (⟨"DaisyChainModel", "number", "(II)I"⟩, 24), (⟨"DaisyChainModel", "settles", "()V"⟩, 24), (⟨"DaisyChainModel", "isFlower", "(I)Z"⟩, 24), (⟨"DaisyChainModel", "isPicked", "(I)Z"⟩, 24), (⟨"DaisyChainModel", "isSlit", "(I)Z"⟩, 24), (⟨"DaisyChainModel", "holds", "(I)I"⟩, 24), (⟨"DaisyChainModel", "holdsBy", "(IIIII)I"⟩, 24)]
theorem lw_r3 : ∀ q ∈ lw_privs_3, lw_okq q := List.forall_mem_cons.mpr ⟨lw_p32, List.forall_mem_cons.mpr ⟨lw_p33, List.forall_mem_cons.mpr ⟨lw_p34, List.forall_mem_cons.mpr ⟨lw_p35, List.forall_mem_cons.mpr ⟨lw_p36, List.forall_mem_cons.mpr ⟨lw_p37, List.forall_mem_cons.mpr ⟨lw_p38, List.forall_mem_cons.mpr ⟨lw_p39, List.forall_mem_cons.mpr ⟨lw_p40, List.forall_mem_cons.mpr ⟨lw_p41, List.forall_mem_cons.mpr ⟨lw_p42, List.forall_mem_cons.mpr ⟨lw_p43, List.forall_mem_cons.mpr ⟨lw_p44, List.forall_mem_cons.mpr ⟨lw_p45, List.forall_mem_cons.mpr ⟨lw_p46, List.forall_mem_cons.mpr ⟨lw_p47, fun _ h => absurd h List.not_mem_nil⟩⟩⟩⟩⟩⟩⟩⟩⟩⟩⟩⟩⟩⟩⟩⟩
theorem lw_p48 : lw_okq (⟨"DaisyChainModel", "canThread", "(I)Z"⟩, 24) := ⟨⟨by decide +kernel, by decide +kernel⟩, List.mem_of_getElem? (i := 604) (by decide +kernel), List.mem_of_getElem? (i := 758) (by decide +kernel), List.mem_of_getElem? (i := 759) (by decide +kernel)⟩
theorem lw_p49 : lw_okq (⟨"DaisyChainModel", "chained", "()I"⟩, 24) := ⟨⟨by decide +kernel, by decide +kernel⟩, List.mem_of_getElem? (i := 604) (by decide +kernel), List.mem_of_getElem? (i := 762) (by decide +kernel), List.mem_of_getElem? (i := 763) (by decide +kernel)⟩
theorem lw_p50 : lw_okq (⟨"DaisyChainModel", "isOpen", "(I)Z"⟩, 24) := ⟨⟨by decide +kernel, by decide +kernel⟩, List.mem_of_getElem? (i := 604) (by decide +kernel), List.mem_of_getElem? (i := 766) (by decide +kernel), List.mem_of_getElem? (i := 767) (by decide +kernel)⟩
theorem lw_p51 : lw_okq (⟨"DaisyChainModel", "inchesNow", "()I"⟩, 24) := ⟨⟨by decide +kernel, by decide +kernel⟩, List.mem_of_getElem? (i := 604) (by decide +kernel), List.mem_of_getElem? (i := 770) (by decide +kernel), List.mem_of_getElem? (i := 771) (by decide +kernel)⟩
theorem lw_p52 : lw_okq (⟨"DaisyChainModel", "notes", "()V"⟩, 24) := ⟨⟨by decide +kernel, by decide +kernel⟩, List.mem_of_getElem? (i := 604) (by decide +kernel), List.mem_of_getElem? (i := 778) (by decide +kernel), List.mem_of_getElem? (i := 779) (by decide +kernel)⟩
theorem lw_p53 : lw_okq (⟨"DaisyChainModel", "isLink", "(I)Z"⟩, 24) := ⟨⟨by decide +kernel, by decide +kernel⟩, List.mem_of_getElem? (i := 604) (by decide +kernel), List.mem_of_getElem? (i := 789) (by decide +kernel), List.mem_of_getElem? (i := 790) (by decide +kernel)⟩
theorem lw_p54 : lw_okq (⟨"DaisyChainModel", "load", "(II)I"⟩, 24) := ⟨⟨by decide +kernel, by decide +kernel⟩, List.mem_of_getElem? (i := 604) (by decide +kernel), List.mem_of_getElem? (i := 821) (by decide +kernel), List.mem_of_getElem? (i := 822) (by decide +kernel)⟩
theorem lw_p55 : lw_okq (⟨"DaisyChainModel", "bestPlace", "(III)I"⟩, 24) := ⟨⟨by decide +kernel, by decide +kernel⟩, List.mem_of_getElem? (i := 604) (by decide +kernel), List.mem_of_getElem? (i := 845) (by decide +kernel), List.mem_of_getElem? (i := 846) (by decide +kernel)⟩
theorem lw_p56 : lw_okq (⟨"DaisyChainModel", "puts", "(I)V"⟩, 24) := ⟨⟨by decide +kernel, by decide +kernel⟩, List.mem_of_getElem? (i := 604) (by decide +kernel), List.mem_of_getElem? (i := 853) (by decide +kernel), List.mem_of_getElem? (i := 854) (by decide +kernel)⟩
theorem lw_p57 : lw_okq (⟨"DaisyChainModel", "mostOf", "(I)I"⟩, 24) := ⟨⟨by decide +kernel, by decide +kernel⟩, List.mem_of_getElem? (i := 604) (by decide +kernel), List.mem_of_getElem? (i := 857) (by decide +kernel), List.mem_of_getElem? (i := 858) (by decide +kernel)⟩
theorem lw_p58 : lw_okq (⟨"DaisyChainModel", "fewestOf", "(II)I"⟩, 24) := ⟨⟨by decide +kernel, by decide +kernel⟩, List.mem_of_getElem? (i := 604) (by decide +kernel), List.mem_of_getElem? (i := 865) (by decide +kernel), List.mem_of_getElem? (i := 866) (by decide +kernel)⟩
theorem lw_p59 : lw_okq (⟨"DaisyChainModel", "stops", "(III)I"⟩, 24) := ⟨⟨by decide +kernel, by decide +kernel⟩, List.mem_of_getElem? (i := 604) (by decide +kernel), List.mem_of_getElem? (i := 873) (by decide +kernel), List.mem_of_getElem? (i := 874) (by decide +kernel)⟩
theorem lw_p60 : lw_okq (⟨"DaisyChainModel", "tears", "(II)Z"⟩, 24) := ⟨⟨by decide +kernel, by decide +kernel⟩, List.mem_of_getElem? (i := 604) (by decide +kernel), List.mem_of_getElem? (i := 889) (by decide +kernel), List.mem_of_getElem? (i := 890) (by decide +kernel)⟩
def lw_privs_4 : List (MethodName × Nat) := [(⟨"DaisyChainModel", "canThread", "(I)Z"⟩, 24), (⟨"DaisyChainModel", "chained", "()I"⟩, 24), (⟨"DaisyChainModel", "isOpen", "(I)Z"⟩, 24), (⟨"DaisyChainModel", "inchesNow", "()I"⟩, 24), (⟨"DaisyChainModel", "notes", "()V"⟩, 24), (⟨"DaisyChainModel", "isLink", "(I)Z"⟩, 24), (⟨"DaisyChainModel", "load", "(II)I"⟩, 24), (⟨"DaisyChainModel", "bestPlace", "(III)I"⟩, 24), (⟨"DaisyChainModel", "puts", "(I)V"⟩, 24), (⟨"DaisyChainModel", "mostOf", "(I)I"⟩, 24), (⟨"DaisyChainModel", "fewestOf", "(II)I"⟩, 24), (⟨"DaisyChainModel", "stops", "(III)I"⟩, 24), (⟨"DaisyChainModel", "tears", "(II)Z"⟩, 24)]
theorem lw_r4 : ∀ q ∈ lw_privs_4, lw_okq q := List.forall_mem_cons.mpr ⟨lw_p48, List.forall_mem_cons.mpr ⟨lw_p49, List.forall_mem_cons.mpr ⟨lw_p50, List.forall_mem_cons.mpr ⟨lw_p51, List.forall_mem_cons.mpr ⟨lw_p52, List.forall_mem_cons.mpr ⟨lw_p53, List.forall_mem_cons.mpr ⟨lw_p54, List.forall_mem_cons.mpr ⟨lw_p55, List.forall_mem_cons.mpr ⟨lw_p56, List.forall_mem_cons.mpr ⟨lw_p57, List.forall_mem_cons.mpr ⟨lw_p58, List.forall_mem_cons.mpr ⟨lw_p59, List.forall_mem_cons.mpr ⟨lw_p60, fun _ h => absurd h List.not_mem_nil⟩⟩⟩⟩⟩⟩⟩⟩⟩⟩⟩⟩⟩
def lw_privs : List (MethodName × Nat) := lw_privs_1 ++ (lw_privs_2 ++ (lw_privs_3 ++ (lw_privs_4)))
def lw_tbl : List Cond := k2_sels lw_privs ++ tables_1
theorem lw_privs_ok : ∀ q ∈ lw_privs, lw_okq q := by
  show ∀ q ∈ lw_privs_1 ++ (lw_privs_2 ++ (lw_privs_3 ++ (lw_privs_4))), lw_okq q
  exact List.forall_mem_append.mpr ⟨lw_r1, List.forall_mem_append.mpr ⟨lw_r2, List.forall_mem_append.mpr ⟨lw_r3, lw_r4⟩⟩⟩
-- ===== end of PART A; then your names; then what follows =====
def RX0 : String := "DaisyChain$Moment"
def TX0 : u_T := fun k => match k with
  | 0 => ("DaisyChain$Moment", "minute", "I", false)
  | 1 => ("DaisyChain$Moment", "water", "I", false)
  | 2 => ("DaisyChain$Moment", "picked", "I", false)
  | 3 => ("DaisyChain$Moment", "dry", "[I", true)
  | 4 => ("DaisyChain$Moment", "slitPlace", "[I", true)
  | 5 => ("DaisyChain$Moment", "slitLength", "[I", true)
  | 6 => ("DaisyChain$Moment", "chain", "[I", true)
  | _ => ("DaisyChain$Moment", "chained", "I", false)
def tyX0 : Nat → FieldType := fun k => match k with
  | 0 => .int
  | 1 => .int
  | 2 => .int
  | 3 => .array .int
  | 4 => .array .int
  | 5 => .array .int
  | 6 => .array .int
  | _ => .int
abbrev wsX00 : List Cond := u_ws RX0 TX0 8
theorem nmX0 : ∀ a, a < 8 → ∀ b, b < 8 → a ≠ b → (TX0 a).2.1 ≠ (TX0 b).2.1 := by decide +kernel
theorem tyX0_ok : ∀ k, k < 8 → parseFieldDescriptor (TX0 k).2.2.1 = some (tyX0 k) := by decide +kernel
abbrev cX0_init : ByteArray := prog_2_method_1_code
def yX0_init : MethodName := ⟨RX0, "<init>", "()V"⟩
abbrev cX0_restart : ByteArray := prog_2_method_2_code
def yX0_restart : MethodName := ⟨RX0, "restart", "()V"⟩
abbrev cX0_take : ByteArray := prog_2_method_3_code
def yX0_take : MethodName := ⟨RX0, "take", "(LDaisyChain$Moment;)V"⟩
abbrev cX0_isPicked : ByteArray := prog_2_method_4_code
def yX0_isPicked : MethodName := ⟨RX0, "isPicked", "(I)Z"⟩
abbrev cX0_isSlit : ByteArray := prog_2_method_5_code
def yX0_isSlit : MethodName := ⟨RX0, "isSlit", "(I)Z"⟩
abbrev cX0_linkCount : ByteArray := prog_2_method_6_code
def yX0_linkCount : MethodName := ⟨RX0, "linkCount", "()I"⟩
abbrev cX0_lastOne : ByteArray := prog_2_method_7_code
def yX0_lastOne : MethodName := ⟨RX0, "lastOne", "()I"⟩
abbrev cX0_isInChain : ByteArray := prog_2_method_8_code
def yX0_isInChain : MethodName := ⟨RX0, "isInChain", "(I)Z"⟩
abbrev cX0_isLink : ByteArray := prog_2_method_9_code
def yX0_isLink : MethodName := ⟨RX0, "isLink", "(I)Z"⟩
abbrev cX0_isAmong : ByteArray := prog_2_method_10_code
def yX0_isAmong : MethodName := ⟨RX0, "isAmong", "(II)Z"⟩
def RX1 : String := "DaisyChain$RowSearch"
def TX1 : u_T := fun k => match k with
  | 0 => ("DaisyChain$RowSearch", "places", "[I", true)
  | 1 => ("DaisyChain$RowSearch", "inches", "[I", true)
  | _ => ("DaisyChain$RowSearch", "picked", "I", false)
def tyX1 : Nat → FieldType := fun k => match k with
  | 0 => .array .int
  | 1 => .array .int
  | _ => .int
abbrev wsX10 : List Cond := u_ws RX1 TX1 3
theorem nmX1 : ∀ a, a < 3 → ∀ b, b < 3 → a ≠ b → (TX1 a).2.1 ≠ (TX1 b).2.1 := by decide +kernel
theorem tyX1_ok : ∀ k, k < 3 → parseFieldDescriptor (TX1 k).2.2.1 = some (tyX1 k) := by decide +kernel
abbrev cX1_init : ByteArray := prog_3_method_1_code
def yX1_init : MethodName := ⟨RX1, "<init>", "()V"⟩
abbrev cX1_prepare : ByteArray := prog_3_method_2_code
def yX1_prepare : MethodName := ⟨RX1, "prepare", "(LDaisyChain$Told;LDaisyChain$Moment;I)V"⟩
abbrev cX1_canBegin : ByteArray := prog_3_method_3_code
def yX1_canBegin : MethodName := ⟨RX1, "canBegin", "(II)Z"⟩
abbrev cX1_mostFrom : ByteArray := prog_3_method_4_code
def yX1_mostFrom : MethodName := ⟨RX1, "mostFrom", "(LDaisyChain$Told;II)I"⟩
abbrev cX1_inchesWith : ByteArray := prog_3_method_5_code
def yX1_inchesWith : MethodName := ⟨RX1, "inchesWith", "(III)I"⟩
abbrev cX1_mostInches : ByteArray := prog_3_method_6_code
def yX1_mostInches : MethodName := ⟨RX1, "mostInches", "()I"⟩
abbrev cX1_fewestFlowers : ByteArray := prog_3_method_7_code
def yX1_fewestFlowers : MethodName := ⟨RX1, "fewestFlowers", "(I)I"⟩
abbrev cX1_reaches : ByteArray := prog_3_method_8_code
def yX1_reaches : MethodName := ⟨RX1, "reaches", "(II)Z"⟩
abbrev cX1_flowerOfFirstRow : ByteArray := prog_3_method_9_code
def yX1_flowerOfFirstRow : MethodName := ⟨RX1, "flowerOfFirstRow", "(III)I"⟩
abbrev cX1_firstThatReaches : ByteArray := prog_3_method_10_code
def yX1_firstThatReaches : MethodName := ⟨RX1, "firstThatReaches", "(IIII)I"⟩
abbrev cX1_mostOfSize : ByteArray := prog_3_method_11_code
def yX1_mostOfSize : MethodName := ⟨RX1, "mostOfSize", "(IIII)I"⟩
abbrev cX1_isIn : ByteArray := prog_3_method_12_code
def yX1_isIn : MethodName := ⟨RX1, "isIn", "(II)Z"⟩
def RX2 : String := "DaisyChain$Sight"
def TX2 : u_T := fun k => match k with
  | 0 => ("DaisyChain$Sight", "pull", "I", false)
  | 1 => ("DaisyChain$Sight", "tore", "Z", false)
  | 2 => ("DaisyChain$Sight", "links", "I", false)
  | 3 => ("DaisyChain$Sight", "fresh", "[I", true)
  | _ => ("DaisyChain$Sight", "dry", "[I", true)
def tyX2 : Nat → FieldType := fun k => match k with
  | 0 => .int
  | 1 => .boolean
  | 2 => .int
  | 3 => .array .int
  | _ => .array .int
abbrev wsX20 : List Cond := u_ws RX2 TX2 5
theorem nmX2 : ∀ a, a < 5 → ∀ b, b < 5 → a ≠ b → (TX2 a).2.1 ≠ (TX2 b).2.1 := by decide +kernel
theorem tyX2_ok : ∀ k, k < 5 → parseFieldDescriptor (TX2 k).2.2.1 = some (tyX2 k) := by decide +kernel
abbrev cX2_init : ByteArray := prog_4_method_1_code
def yX2_init : MethodName := ⟨RX2, "<init>", "()V"⟩
abbrev cX2_tearsBy : ByteArray := prog_4_method_2_code
def yX2_tearsBy : MethodName := ⟨RX2, "tearsBy", "(I)Z"⟩
def RX3 : String := "DaisyChain$Text"
def TX3 : u_T := fun k => match k with
  | 0 => ("DaisyChain$Text", "letters", "[I", true)
  | 1 => ("DaisyChain$Text", "size", "I", false)
  | 2 => ("DaisyChain$Text", "draft", "LDaisyChain$Told;", true)
  | 3 => ("DaisyChain$Text", "items", "I", false)
  | 4 => ("DaisyChain$Text", "wiltIsTold", "Z", false)
  | 5 => ("DaisyChain$Text", "at", "I", false)
  | 6 => ("DaisyChain$Text", "token", "I", false)
  | 7 => ("DaisyChain$Text", "tokenValue", "I", false)
  | _ => ("DaisyChain$Text", "tokenPlace", "I", false)
def tyX3 : Nat → FieldType := fun k => match k with
  | 0 => .array .int
  | 1 => .int
  | 2 => .object "DaisyChain$Told"
  | 3 => .int
  | 4 => .boolean
  | 5 => .int
  | 6 => .int
  | 7 => .int
  | _ => .int
abbrev wsX30 : List Cond := u_ws RX3 TX3 9
theorem nmX3 : ∀ a, a < 9 → ∀ b, b < 9 → a ≠ b → (TX3 a).2.1 ≠ (TX3 b).2.1 := by decide +kernel
theorem tyX3_ok : ∀ k, k < 9 → parseFieldDescriptor (TX3 k).2.2.1 = some (tyX3 k) := by decide +kernel
abbrev cX3_init : ByteArray := prog_5_method_1_code
def yX3_init : MethodName := ⟨RX3, "<init>", "()V"⟩
abbrev cX3_reads : ByteArray := prog_5_method_2_code
def yX3_reads : MethodName := ⟨RX3, "reads", "()Z"⟩
abbrev cX3_readsItem : ByteArray := prog_5_method_3_code
def yX3_readsItem : MethodName := ⟨RX3, "readsItem", "()Z"⟩
abbrev cX3_readsFlower : ByteArray := prog_5_method_4_code
def yX3_readsFlower : MethodName := ⟨RX3, "readsFlower", "()Z"⟩
abbrev cX3_readsWilt : ByteArray := prog_5_method_5_code
def yX3_readsWilt : MethodName := ⟨RX3, "readsWilt", "()Z"⟩
abbrev cX3_readsNumber : ByteArray := prog_5_method_6_code
def yX3_readsNumber : MethodName := ⟨RX3, "readsNumber", "(II)Z"⟩
abbrev cX3_readsItemEnd : ByteArray := prog_5_method_7_code
def yX3_readsItemEnd : MethodName := ⟨RX3, "readsItemEnd", "()Z"⟩
abbrev cX3_nextToken : ByteArray := prog_5_method_8_code
def yX3_nextToken : MethodName := ⟨RX3, "nextToken", "()V"⟩
abbrev cX3_nextNumber : ByteArray := prog_5_method_9_code
def yX3_nextNumber : MethodName := ⟨RX3, "nextNumber", "()V"⟩
abbrev cX3_isDigit : ByteArray := prog_5_method_10_code
def yX3_isDigit : MethodName := ⟨RX3, "isDigit", "(I)Z"⟩
def RX4 : String := "DaisyChain$Told"
def TX4 : u_T := fun k => match k with
  | 0 => ("DaisyChain$Told", "flowers", "I", false)
  | 1 => ("DaisyChain$Told", "wilt", "I", false)
  | 2 => ("DaisyChain$Told", "thick", "[I", true)
  | 3 => ("DaisyChain$Told", "stalk", "[I", true)
  | _ => ("DaisyChain$Told", "petals", "[I", true)
def tyX4 : Nat → FieldType := fun k => match k with
  | 0 => .int
  | 1 => .int
  | 2 => .array .int
  | 3 => .array .int
  | _ => .array .int
abbrev wsX40 : List Cond := u_ws RX4 TX4 5
theorem nmX4 : ∀ a, a < 5 → ∀ b, b < 5 → a ≠ b → (TX4 a).2.1 ≠ (TX4 b).2.1 := by decide +kernel
theorem tyX4_ok : ∀ k, k < 5 → parseFieldDescriptor (TX4 k).2.2.1 = some (tyX4 k) := by decide +kernel
abbrev cX4_init : ByteArray := prog_6_method_1_code
def yX4_init : MethodName := ⟨RX4, "<init>", "()V"⟩
abbrev cX4_restart : ByteArray := prog_6_method_2_code
def yX4_restart : MethodName := ⟨RX4, "restart", "()V"⟩
abbrev cX4_take : ByteArray := prog_6_method_3_code
def yX4_take : MethodName := ⟨RX4, "take", "(LDaisyChain$Told;)V"⟩
def RX5 : String := "DaisyChain"
def TX5 : u_T := fun k => match k with
  | 0 => ("DaisyChain", "text", "LDaisyChain$Text;", true)
  | 1 => ("DaisyChain", "told", "LDaisyChain$Told;", true)
  | 2 => ("DaisyChain", "moment", "LDaisyChain$Moment;", true)
  | 3 => ("DaisyChain", "past", "[LDaisyChain$Moment;", true)
  | 4 => ("DaisyChain", "known", "I", false)
  | 5 => ("DaisyChain", "images", "[LDaisyChain$Moment;", true)
  | 6 => ("DaisyChain", "kept", "[Z", true)
  | 7 => ("DaisyChain", "sights", "[LDaisyChain$Sight;", true)
  | 8 => ("DaisyChain", "sightCount", "I", false)
  | 9 => ("DaisyChain", "search", "LDaisyChain$RowSearch;", true)
  | 10 => ("DaisyChain", "ways", "[I", true)
  | _ => ("DaisyChain", "trace", "J", false)
def tyX5 : Nat → FieldType := fun k => match k with
  | 0 => .object "DaisyChain$Text"
  | 1 => .object "DaisyChain$Told"
  | 2 => .object "DaisyChain$Moment"
  | 3 => .array (.object "DaisyChain$Moment")
  | 4 => .int
  | 5 => .array (.object "DaisyChain$Moment")
  | 6 => .array .boolean
  | 7 => .array (.object "DaisyChain$Sight")
  | 8 => .int
  | 9 => .object "DaisyChain$RowSearch"
  | 10 => .array .int
  | _ => .long
abbrev wsX50 : List Cond := u_ws RX5 TX5 12
theorem nmX5 : ∀ a, a < 12 → ∀ b, b < 12 → a ≠ b → (TX5 a).2.1 ≠ (TX5 b).2.1 := by decide +kernel
theorem tyX5_ok : ∀ k, k < 12 → parseFieldDescriptor (TX5 k).2.2.1 = some (tyX5 k) := by decide +kernel
abbrev cX5_init : ByteArray := prog_1_method_1_code
def yX5_init : MethodName := ⟨RX5, "<init>", "()V"⟩
abbrev cX5_type : ByteArray := prog_1_method_2_code
def yX5_type : MethodName := ⟨RX5, "type", "(I)I"⟩
abbrev cX5_clear : ByteArray := prog_1_method_3_code
def yX5_clear : MethodName := ⟨RX5, "clear", "()I"⟩
abbrev cX5_meadow : ByteArray := prog_1_method_4_code
def yX5_meadow : MethodName := ⟨RX5, "meadow", "()I"⟩
abbrev cX5_flower : ByteArray := prog_1_method_5_code
def yX5_flower : MethodName := ⟨RX5, "flower", "(II)I"⟩
abbrev cX5_link : ByteArray := prog_1_method_6_code
def yX5_link : MethodName := ⟨RX5, "link", "(I)I"⟩
abbrev cX5_now : ByteArray := prog_1_method_7_code
def yX5_now : MethodName := ⟨RX5, "now", "(I)I"⟩
abbrev cX5_picks : ByteArray := prog_1_method_8_code
def yX5_picks : MethodName := ⟨RX5, "picks", "(I)I"⟩
abbrev cX5_slits : ByteArray := prog_1_method_9_code
def yX5_slits : MethodName := ⟨RX5, "slits", "(III)I"⟩
abbrev cX5_threads : ByteArray := prog_1_method_10_code
def yX5_threads : MethodName := ⟨RX5, "threads", "(I)I"⟩
abbrev cX5_pulls : ByteArray := prog_1_method_11_code
def yX5_pulls : MethodName := ⟨RX5, "pulls", "()I"⟩
abbrev cX5_minutes : ByteArray := prog_1_method_12_code
def yX5_minutes : MethodName := ⟨RX5, "minutes", "(I)I"⟩
abbrev cX5_water : ByteArray := prog_1_method_13_code
def yX5_water : MethodName := ⟨RX5, "water", "(I)I"⟩
abbrev cX5_undo : ByteArray := prog_1_method_14_code
def yX5_undo : MethodName := ⟨RX5, "undo", "()I"⟩
abbrev cX5_weakest : ByteArray := prog_1_method_15_code
def yX5_weakest : MethodName := ⟨RX5, "weakest", "(I)I"⟩
abbrev cX5_hung : ByteArray := prog_1_method_16_code
def yX5_hung : MethodName := ⟨RX5, "hung", "()I"⟩
abbrev cX5_inTime : ByteArray := prog_1_method_17_code
def yX5_inTime : MethodName := ⟨RX5, "inTime", "(I)I"⟩
abbrev cX5_props : ByteArray := prog_1_method_18_code
def yX5_props : MethodName := ⟨RX5, "props", "(I)I"⟩
abbrev cX5_ring : ByteArray := prog_1_method_19_code
def yX5_ring : MethodName := ⟨RX5, "ring", "()I"⟩
abbrev cX5_loves : ByteArray := prog_1_method_20_code
def yX5_loves : MethodName := ⟨RX5, "loves", "()I"⟩
abbrev cX5_bestSlit : ByteArray := prog_1_method_21_code
def yX5_bestSlit : MethodName := ⟨RX5, "bestSlit", "(III)I"⟩
abbrev cX5_longest : ByteArray := prog_1_method_22_code
def yX5_longest : MethodName := ⟨RX5, "longest", "(II)I"⟩
abbrev cX5_fewest : ByteArray := prog_1_method_23_code
def yX5_fewest : MethodName := ⟨RX5, "fewest", "(II)I"⟩
abbrev cX5_row : ByteArray := prog_1_method_24_code
def yX5_row : MethodName := ⟨RX5, "row", "(III)I"⟩
abbrev cX5_seen : ByteArray := prog_1_method_25_code
def yX5_seen : MethodName := ⟨RX5, "seen", "(II)I"⟩
abbrev cX5_forget : ByteArray := prog_1_method_26_code
def yX5_forget : MethodName := ⟨RX5, "forget", "()I"⟩
abbrev cX5_wilts : ByteArray := prog_1_method_27_code
def yX5_wilts : MethodName := ⟨RX5, "wilts", "()I"⟩
abbrev cX5_odds : ByteArray := prog_1_method_28_code
def yX5_odds : MethodName := ⟨RX5, "odds", "(III)I"⟩
abbrev cX5_rate : ByteArray := prog_1_method_29_code
def yX5_rate : MethodName := ⟨RX5, "rate", "(II)I"⟩
abbrev cX5_keep : ByteArray := prog_1_method_30_code
def yX5_keep : MethodName := ⟨RX5, "keep", "(I)I"⟩
abbrev cX5_back : ByteArray := prog_1_method_31_code
def yX5_back : MethodName := ⟨RX5, "back", "(I)I"⟩
abbrev cX5_count : ByteArray := prog_1_method_32_code
def yX5_count : MethodName := ⟨RX5, "count", "(I)I"⟩
abbrev cX5_trace : ByteArray := prog_1_method_33_code
def yX5_trace : MethodName := ⟨RX5, "trace", "()J"⟩
abbrev cX5_isWithin : ByteArray := prog_1_method_34_code
def yX5_isWithin : MethodName := ⟨RX5, "isWithin", "(III)Z"⟩
abbrev cX5_isHold : ByteArray := prog_1_method_35_code
def yX5_isHold : MethodName := ⟨RX5, "isHold", "(I)Z"⟩
abbrev cX5_isFlower : ByteArray := prog_1_method_36_code
def yX5_isFlower : MethodName := ⟨RX5, "isFlower", "(I)Z"⟩
abbrev cX5_strength : ByteArray := prog_1_method_37_code
def yX5_strength : MethodName := ⟨RX5, "strength", "(III)I"⟩
abbrev cX5_isOpen : ByteArray := prog_1_method_38_code
def yX5_isOpen : MethodName := ⟨RX5, "isOpen", "(I)Z"⟩
abbrev cX5_freshHold : ByteArray := prog_1_method_39_code
def yX5_freshHold : MethodName := ⟨RX5, "freshHold", "(I)I"⟩
abbrev cX5_holds : ByteArray := prog_1_method_40_code
def yX5_holds : MethodName := ⟨RX5, "holds", "(I)I"⟩
abbrev cX5_holdsLater : ByteArray := prog_1_method_41_code
def yX5_holdsLater : MethodName := ⟨RX5, "holdsLater", "(II)I"⟩
abbrev cX5_bestPlace : ByteArray := prog_1_method_42_code
def yX5_bestPlace : MethodName := ⟨RX5, "bestPlace", "(LDaisyChain$Told;LDaisyChain$Moment;III)I"⟩
abbrev cX5_takes : ByteArray := prog_1_method_43_code
def yX5_takes : MethodName := ⟨RX5, "takes", "(II)Z"⟩
abbrev cX5_fitsBehind : ByteArray := prog_1_method_44_code
def yX5_fitsBehind : MethodName := ⟨RX5, "fitsBehind", "(I)Z"⟩
abbrev cX5_canBeThreaded : ByteArray := prog_1_method_45_code
def yX5_canBeThreaded : MethodName := ⟨RX5, "canBeThreaded", "()I"⟩
abbrev cX5_inches : ByteArray := prog_1_method_46_code
def yX5_inches : MethodName := ⟨RX5, "inches", "()I"⟩
abbrev cX5_weakestLink : ByteArray := prog_1_method_47_code
def yX5_weakestLink : MethodName := ⟨RX5, "weakestLink", "(I)I"⟩
abbrev cX5_leastProps : ByteArray := prog_1_method_48_code
def yX5_leastProps : MethodName := ⟨RX5, "leastProps", "()I"⟩
abbrev cX5_bearsHungFrom : ByteArray := prog_1_method_49_code
def yX5_bearsHungFrom : MethodName := ⟨RX5, "bearsHungFrom", "(I)Z"⟩
abbrev cX5_dryBy : ByteArray := prog_1_method_50_code
def yX5_dryBy : MethodName := ⟨RX5, "dryBy", "(I)V"⟩
abbrev cX5_remember : ByteArray := prog_1_method_51_code
def yX5_remember : MethodName := ⟨RX5, "remember", "()V"⟩
abbrev cX5_agreesWithAllSeen : ByteArray := prog_1_method_52_code
def yX5_agreesWithAllSeen : MethodName := ⟨RX5, "agreesWithAllSeen", "(I)Z"⟩
abbrev cX5_countWays : ByteArray := prog_1_method_53_code
def yX5_countWays : MethodName := ⟨RX5, "countWays", "(II)V"⟩
abbrev cX5_rateFlower : ByteArray := prog_1_method_54_code
def yX5_rateFlower : MethodName := ⟨RX5, "rateFlower", "(I)I"⟩
abbrev cX5_rateStalk : ByteArray := prog_1_method_55_code
def yX5_rateStalk : MethodName := ⟨RX5, "rateStalk", "(I)I"⟩
abbrev cX5_rateHead : ByteArray := prog_1_method_56_code
def yX5_rateHead : MethodName := ⟨RX5, "rateHead", "(I)I"⟩
abbrev cX5_rateNail : ByteArray := prog_1_method_57_code
def yX5_rateNail : MethodName := ⟨RX5, "rateNail", "(I)I"⟩
abbrev cX5_rateCrown : ByteArray := prog_1_method_58_code
def yX5_rateCrown : MethodName := ⟨RX5, "rateCrown", "(I)I"⟩
abbrev cX5_rateBud : ByteArray := prog_1_method_59_code
def yX5_rateBud : MethodName := ⟨RX5, "rateBud", "(I)I"⟩
def RX6 : String := "DaisyChainModel"
def TX6 : u_T := fun k => match k with
  | 0 => ("DaisyChainModel", "thrown", "I", false)
  | 1 => ("DaisyChainModel", "trace", "J", false)
  | 2 => ("DaisyChainModel", "text", "[I", true)
  | 3 => ("DaisyChainModel", "typed", "I", false)
  | 4 => ("DaisyChainModel", "next", "I", false)
  | 5 => ("DaisyChainModel", "token", "I", false)
  | 6 => ("DaisyChainModel", "place", "I", false)
  | 7 => ("DaisyChainModel", "value", "I", false)
  | 8 => ("DaisyChainModel", "fault", "I", false)
  | 9 => ("DaisyChainModel", "many", "[I", true)
  | 10 => ("DaisyChainModel", "thick", "[I", true)
  | 11 => ("DaisyChainModel", "longs", "[I", true)
  | 12 => ("DaisyChainModel", "petals", "[I", true)
  | 13 => ("DaisyChainModel", "isWiltTold", "Z", false)
  | 14 => ("DaisyChainModel", "s", "[I", true)
  | 15 => ("DaisyChainModel", "kept", "[I", true)
  | 16 => ("DaisyChainModel", "isKept", "[Z", true)
  | 17 => ("DaisyChainModel", "undos", "[I", true)
  | 18 => ("DaisyChainModel", "undoMany", "I", false)
  | 19 => ("DaisyChainModel", "seenBy", "[I", true)
  | 20 => ("DaisyChainModel", "seenIs", "[I", true)
  | 21 => ("DaisyChainModel", "seenMany", "I", false)
  | 22 => ("DaisyChainModel", "inches", "[I", true)
  | _ => ("DaisyChainModel", "line", "[I", true)
def tyX6 : Nat → FieldType := fun k => match k with
  | 0 => .int
  | 1 => .long
  | 2 => .array .int
  | 3 => .int
  | 4 => .int
  | 5 => .int
  | 6 => .int
  | 7 => .int
  | 8 => .int
  | 9 => .array .int
  | 10 => .array .int
  | 11 => .array .int
  | 12 => .array .int
  | 13 => .boolean
  | 14 => .array .int
  | 15 => .array .int
  | 16 => .array .boolean
  | 17 => .array .int
  | 18 => .int
  | 19 => .array .int
  | 20 => .array .int
  | 21 => .int
  | 22 => .array .int
  | _ => .array .int
abbrev wsX60 : List Cond := u_ws RX6 TX6 24
theorem nmX6 : ∀ a, a < 24 → ∀ b, b < 24 → a ≠ b → (TX6 a).2.1 ≠ (TX6 b).2.1 := by decide +kernel
theorem tyX6_ok : ∀ k, k < 24 → parseFieldDescriptor (TX6 k).2.2.1 = some (tyX6 k) := by decide +kernel
abbrev cX6_init : ByteArray := prog_8_method_1_code
def yX6_init : MethodName := ⟨RX6, "<init>", "()V"⟩
abbrev cX6_in : ByteArray := prog_8_method_3_code
def yX6_in : MethodName := ⟨RX6, "in", "(III)Z"⟩
abbrev cX6_ones : ByteArray := prog_8_method_4_code
def yX6_ones : MethodName := ⟨RX6, "ones", "(I)I"⟩
abbrev cX6_type : ByteArray := prog_8_method_5_code
def yX6_type : MethodName := ⟨RX6, "type", "(I)I"⟩
abbrev cX6_clear : ByteArray := prog_8_method_6_code
def yX6_clear : MethodName := ⟨RX6, "clear", "()I"⟩
abbrev cX6_letterAt : ByteArray := prog_8_method_7_code
def yX6_letterAt : MethodName := ⟨RX6, "letterAt", "(I)I"⟩
abbrev cX6_advances : ByteArray := prog_8_method_8_code
def yX6_advances : MethodName := ⟨RX6, "advances", "()V"⟩
abbrev cX6_isWell : ByteArray := prog_8_method_9_code
def yX6_isWell : MethodName := ⟨RX6, "isWell", "()Z"⟩
abbrev cX6_takes : ByteArray := prog_8_method_10_code
def yX6_takes : MethodName := ⟨RX6, "takes", "(Z)I"⟩
abbrev cX6_number : ByteArray := prog_8_method_11_code
def yX6_number : MethodName := ⟨RX6, "number", "(II)I"⟩
abbrev cX6_readsItem : ByteArray := prog_8_method_12_code
def yX6_readsItem : MethodName := ⟨RX6, "readsItem", "(I)V"⟩
abbrev cX6_meadow : ByteArray := prog_8_method_13_code
def yX6_meadow : MethodName := ⟨RX6, "meadow", "()I"⟩
abbrev cX6_settles : ByteArray := prog_8_method_14_code
def yX6_settles : MethodName := ⟨RX6, "settles", "()V"⟩
abbrev cX6_isFlower : ByteArray := prog_8_method_15_code
def yX6_isFlower : MethodName := ⟨RX6, "isFlower", "(I)Z"⟩
abbrev cX6_isPicked : ByteArray := prog_8_method_16_code
def yX6_isPicked : MethodName := ⟨RX6, "isPicked", "(I)Z"⟩
abbrev cX6_isSlit : ByteArray := prog_8_method_17_code
def yX6_isSlit : MethodName := ⟨RX6, "isSlit", "(I)Z"⟩
abbrev cX6_isOpen : ByteArray := prog_8_method_18_code
def yX6_isOpen : MethodName := ⟨RX6, "isOpen", "(I)Z"⟩
abbrev cX6_holdsBy : ByteArray := prog_8_method_19_code
def yX6_holdsBy : MethodName := ⟨RX6, "holdsBy", "(IIIII)I"⟩
abbrev cX6_holds : ByteArray := prog_8_method_20_code
def yX6_holds : MethodName := ⟨RX6, "holds", "(I)I"⟩
abbrev cX6_flower : ByteArray := prog_8_method_21_code
def yX6_flower : MethodName := ⟨RX6, "flower", "(II)I"⟩
abbrev cX6_link : ByteArray := prog_8_method_22_code
def yX6_link : MethodName := ⟨RX6, "link", "(I)I"⟩
abbrev cX6_inchesNow : ByteArray := prog_8_method_23_code
def yX6_inchesNow : MethodName := ⟨RX6, "inchesNow", "()I"⟩
abbrev cX6_chained : ByteArray := prog_8_method_24_code
def yX6_chained : MethodName := ⟨RX6, "chained", "()I"⟩
abbrev cX6_canThread : ByteArray := prog_8_method_25_code
def yX6_canThread : MethodName := ⟨RX6, "canThread", "(I)Z"⟩
abbrev cX6_now : ByteArray := prog_8_method_26_code
def yX6_now : MethodName := ⟨RX6, "now", "(I)I"⟩
abbrev cX6_notes : ByteArray := prog_8_method_27_code
def yX6_notes : MethodName := ⟨RX6, "notes", "()V"⟩
abbrev cX6_picks : ByteArray := prog_8_method_28_code
def yX6_picks : MethodName := ⟨RX6, "picks", "(I)I"⟩
abbrev cX6_isLink : ByteArray := prog_8_method_29_code
def yX6_isLink : MethodName := ⟨RX6, "isLink", "(I)Z"⟩
abbrev cX6_slits : ByteArray := prog_8_method_30_code
def yX6_slits : MethodName := ⟨RX6, "slits", "(III)I"⟩
abbrev cX6_threads : ByteArray := prog_8_method_31_code
def yX6_threads : MethodName := ⟨RX6, "threads", "(I)I"⟩
abbrev cX6_pulls : ByteArray := prog_8_method_32_code
def yX6_pulls : MethodName := ⟨RX6, "pulls", "()I"⟩
abbrev cX6_minutes : ByteArray := prog_8_method_33_code
def yX6_minutes : MethodName := ⟨RX6, "minutes", "(I)I"⟩
abbrev cX6_water : ByteArray := prog_8_method_34_code
def yX6_water : MethodName := ⟨RX6, "water", "(I)I"⟩
abbrev cX6_undo : ByteArray := prog_8_method_35_code
def yX6_undo : MethodName := ⟨RX6, "undo", "()I"⟩
abbrev cX6_weakest : ByteArray := prog_8_method_36_code
def yX6_weakest : MethodName := ⟨RX6, "weakest", "(I)I"⟩
abbrev cX6_load : ByteArray := prog_8_method_37_code
def yX6_load : MethodName := ⟨RX6, "load", "(II)I"⟩
abbrev cX6_hung : ByteArray := prog_8_method_38_code
def yX6_hung : MethodName := ⟨RX6, "hung", "()I"⟩
abbrev cX6_inTime : ByteArray := prog_8_method_39_code
def yX6_inTime : MethodName := ⟨RX6, "inTime", "(I)I"⟩
abbrev cX6_props : ByteArray := prog_8_method_40_code
def yX6_props : MethodName := ⟨RX6, "props", "(I)I"⟩
abbrev cX6_ring : ByteArray := prog_8_method_41_code
def yX6_ring : MethodName := ⟨RX6, "ring", "()I"⟩
abbrev cX6_loves : ByteArray := prog_8_method_42_code
def yX6_loves : MethodName := ⟨RX6, "loves", "()I"⟩
abbrev cX6_bestPlace : ByteArray := prog_8_method_43_code
def yX6_bestPlace : MethodName := ⟨RX6, "bestPlace", "(III)I"⟩
abbrev cX6_bestSlit : ByteArray := prog_8_method_44_code
def yX6_bestSlit : MethodName := ⟨RX6, "bestSlit", "(III)I"⟩
abbrev cX6_puts : ByteArray := prog_8_method_45_code
def yX6_puts : MethodName := ⟨RX6, "puts", "(I)V"⟩
abbrev cX6_mostOf : ByteArray := prog_8_method_46_code
def yX6_mostOf : MethodName := ⟨RX6, "mostOf", "(I)I"⟩
abbrev cX6_longest : ByteArray := prog_8_method_47_code
def yX6_longest : MethodName := ⟨RX6, "longest", "(II)I"⟩
abbrev cX6_fewestOf : ByteArray := prog_8_method_48_code
def yX6_fewestOf : MethodName := ⟨RX6, "fewestOf", "(II)I"⟩
abbrev cX6_fewest : ByteArray := prog_8_method_49_code
def yX6_fewest : MethodName := ⟨RX6, "fewest", "(II)I"⟩
abbrev cX6_stops : ByteArray := prog_8_method_50_code
def yX6_stops : MethodName := ⟨RX6, "stops", "(III)I"⟩
abbrev cX6_row : ByteArray := prog_8_method_51_code
def yX6_row : MethodName := ⟨RX6, "row", "(III)I"⟩
abbrev cX6_seen : ByteArray := prog_8_method_52_code
def yX6_seen : MethodName := ⟨RX6, "seen", "(II)I"⟩
abbrev cX6_forget : ByteArray := prog_8_method_53_code
def yX6_forget : MethodName := ⟨RX6, "forget", "()I"⟩
abbrev cX6_tears : ByteArray := prog_8_method_54_code
def yX6_tears : MethodName := ⟨RX6, "tears", "(II)Z"⟩
abbrev cX6_wilts : ByteArray := prog_8_method_55_code
def yX6_wilts : MethodName := ⟨RX6, "wilts", "()I"⟩
abbrev cX6_power : ByteArray := prog_8_method_56_code
def yX6_power : MethodName := ⟨RX6, "power", "(II)I"⟩
abbrev cX6_choose : ByteArray := prog_8_method_57_code
def yX6_choose : MethodName := ⟨RX6, "choose", "(II)I"⟩
abbrev cX6_gcd : ByteArray := prog_8_method_58_code
def yX6_gcd : MethodName := ⟨RX6, "gcd", "(II)I"⟩
abbrev cX6_odds : ByteArray := prog_8_method_59_code
def yX6_odds : MethodName := ⟨RX6, "odds", "(III)I"⟩
abbrev cX6_rate : ByteArray := prog_8_method_60_code
def yX6_rate : MethodName := ⟨RX6, "rate", "(II)I"⟩
abbrev cX6_keep : ByteArray := prog_8_method_61_code
def yX6_keep : MethodName := ⟨RX6, "keep", "(I)I"⟩
abbrev cX6_back : ByteArray := prog_8_method_62_code
def yX6_back : MethodName := ⟨RX6, "back", "(I)I"⟩
abbrev cX6_count : ByteArray := prog_8_method_63_code
def yX6_count : MethodName := ⟨RX6, "count", "(I)I"⟩
abbrev cX6_trace : ByteArray := prog_8_method_64_code
def yX6_trace : MethodName := ⟨RX6, "trace", "()J"⟩
def RJ6 : String := "java/lang/Integer"
def TJ6 : u_T := fun k => match k with
  | _ => ("", "", "", false)
def tyJ6 : Nat → FieldType := fun k => match k with
  | _ => .int
abbrev wsJ60 : List Cond := u_ws RJ6 TJ6 0
theorem nmJ6 : ∀ a, a < 0 → ∀ b, b < 0 → a ≠ b → (TJ6 a).2.1 ≠ (TJ6 b).2.1 := by decide +kernel
theorem tyJ6_ok : ∀ k, k < 0 → parseFieldDescriptor (TJ6 k).2.2.1 = some (tyJ6 k) := by decide +kernel
abbrev cJ6_bitCount_0f7a4 : ByteArray := prog_9_method_49_code
def yJ6_bitCount_0f7a4 : MethodName := ⟨RJ6, "bitCount", "(I)I"⟩
def RJ9 : String := "java/lang/Math"
def TJ9 : u_T := fun k => match k with
  | _ => ("", "", "", false)
def tyJ9 : Nat → FieldType := fun k => match k with
  | _ => .int
abbrev wsJ90 : List Cond := u_ws RJ9 TJ9 0
theorem nmJ9 : ∀ a, a < 0 → ∀ b, b < 0 → a ≠ b → (TJ9 a).2.1 ≠ (TJ9 b).2.1 := by decide +kernel
theorem tyJ9_ok : ∀ k, k < 0 → parseFieldDescriptor (TJ9 k).2.2.1 = some (tyJ9 k) := by decide +kernel
abbrev cJ9_max_7cf53 : ByteArray := prog_10_method_65_code
def yJ9_max_7cf53 : MethodName := ⟨RJ9, "max", "(II)I"⟩
abbrev cJ9_min_7cf53 : ByteArray := prog_10_method_69_code
def yJ9_min_7cf53 : MethodName := ⟨RJ9, "min", "(II)I"⟩
def RJ10 : String := "java/lang/System"
def TJ10 : u_T := fun k => match k with
  | _ => ("", "", "", false)
def tyJ10 : Nat → FieldType := fun k => match k with
  | _ => .int
abbrev wsJ100 : List Cond := u_ws RJ10 TJ10 0
theorem nmJ10 : ∀ a, a < 0 → ∀ b, b < 0 → a ≠ b → (TJ10 a).2.1 ≠ (TJ10 b).2.1 := by decide +kernel
theorem tyJ10_ok : ∀ k, k < 0 → parseFieldDescriptor (TJ10 k).2.2.1 = some (tyJ10 k) := by decide +kernel
def RL : String := "DaisyChainLaw"
abbrev cL_law : ByteArray := code
def yL_law : MethodName := ⟨RL, "law", "([I)Z"⟩
