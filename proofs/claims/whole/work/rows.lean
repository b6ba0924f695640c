section
-- ===== PART A: goes FIRST, ahead of the names: the tables' words, and 'selects' of the private methods out of them =====
/-- a private method of a class that the tables say can be made, by its rows of tables_1 -/
def lw_okq (q : MethodName × Nat) : Prop := (q.1.cls ≠ "java/lang/invoke/MethodHandle" ∧ q.1.cls ≠ "java/lang/invoke/VarHandle") ∧ Cond.instantiable q.1.cls q.2 ∈ tables_1 ∧ Cond.privateMethod q.1 ∈ tables_1 ∧ Cond.instanceMethod q.1 ∈ tables_1
theorem lw_p0 : lw_okq (⟨"java/util/ArrayList", "add", "(Ljava/lang/Object;[Ljava/lang/Object;I)V"⟩, 3) := ⟨⟨by decide +kernel, by decide +kernel⟩, List.mem_of_getElem? (i := 37) (by decide +kernel), List.mem_of_getElem? (i := 314) (by decide +kernel), List.mem_of_getElem? (i := 315) (by decide +kernel)⟩
theorem lw_p1 : lw_okq (⟨"java/util/ArrayList", "grow", "()[Ljava/lang/Object;"⟩, 3) := ⟨⟨by decide +kernel, by decide +kernel⟩, List.mem_of_getElem? (i := 37) (by decide +kernel), List.mem_of_getElem? (i := 318) (by decide +kernel), List.mem_of_getElem? (i := 319) (by decide +kernel)⟩
theorem lw_p2 : lw_okq (⟨"java/util/ArrayList", "grow", "(I)[Ljava/lang/Object;"⟩, 3) := ⟨⟨by decide +kernel, by decide +kernel⟩, List.mem_of_getElem? (i := 37) (by decide +kernel), List.mem_of_getElem? (i := 322) (by decide +kernel), List.mem_of_getElem? (i := 323) (by decide +kernel)⟩
theorem lw_p3 : lw_okq (⟨"RodBench", "renew", "()V"⟩, 5) := ⟨⟨by decide +kernel, by decide +kernel⟩, List.mem_of_getElem? (i := 23) (by decide +kernel), List.mem_of_getElem? (i := 369) (by decide +kernel), List.mem_of_getElem? (i := 370) (by decide +kernel)⟩
theorem lw_p4 : lw_okq (⟨"RodBench$Table", "start", "(II)V"⟩, 8) := ⟨⟨by decide +kernel, by decide +kernel⟩, List.mem_of_getElem? (i := 95) (by decide +kernel), List.mem_of_getElem? (i := 399) (by decide +kernel), List.mem_of_getElem? (i := 400) (by decide +kernel)⟩
theorem lw_p5 : lw_okq (⟨"RodBench$Table", "openRow", "(I)I"⟩, 8) := ⟨⟨by decide +kernel, by decide +kernel⟩, List.mem_of_getElem? (i := 95) (by decide +kernel), List.mem_of_getElem? (i := 420) (by decide +kernel), List.mem_of_getElem? (i := 421) (by decide +kernel)⟩
theorem lw_p6 : lw_okq (⟨"RodBench$Table", "makeAboveNought", "([JI)V"⟩, 8) := ⟨⟨by decide +kernel, by decide +kernel⟩, List.mem_of_getElem? (i := 95) (by decide +kernel), List.mem_of_getElem? (i := 424) (by decide +kernel), List.mem_of_getElem? (i := 425) (by decide +kernel)⟩
theorem lw_p7 : lw_okq (⟨"RodBench$Table", "clearColumn", "(II)V"⟩, 8) := ⟨⟨by decide +kernel, by decide +kernel⟩, List.mem_of_getElem? (i := 95) (by decide +kernel), List.mem_of_getElem? (i := 428) (by decide +kernel), List.mem_of_getElem? (i := 429) (by decide +kernel)⟩
theorem lw_p8 : lw_okq (⟨"RodBench$Table", "takeOff", "([J[JI)V"⟩, 8) := ⟨⟨by decide +kernel, by decide +kernel⟩, List.mem_of_getElem? (i := 95) (by decide +kernel), List.mem_of_getElem? (i := 432) (by decide +kernel), List.mem_of_getElem? (i := 433) (by decide +kernel)⟩
theorem lw_p9 : lw_okq (⟨"RodBench$Table", "shrink", "([J)V"⟩, 8) := ⟨⟨by decide +kernel, by decide +kernel⟩, List.mem_of_getElem? (i := 95) (by decide +kernel), List.mem_of_getElem? (i := 442) (by decide +kernel), List.mem_of_getElem? (i := 443) (by decide +kernel)⟩
theorem lw_p10 : lw_okq (⟨"RodBench$Table", "scaleOf", "(I)J"⟩, 8) := ⟨⟨by decide +kernel, by decide +kernel⟩, List.mem_of_getElem? (i := 95) (by decide +kernel), List.mem_of_getElem? (i := 447) (by decide +kernel), List.mem_of_getElem? (i := 448) (by decide +kernel)⟩
theorem lw_p11 : lw_okq (⟨"RodBench$Offers", "queueRodsIn", "()V"⟩, 4) := ⟨⟨by decide +kernel, by decide +kernel⟩, List.mem_of_getElem? (i := 141) (by decide +kernel), List.mem_of_getElem? (i := 469) (by decide +kernel), List.mem_of_getElem? (i := 470) (by decide +kernel)⟩
theorem lw_p12 : lw_okq (⟨"RodBench$Offers", "queueRodsOut", "()V"⟩, 4) := ⟨⟨by decide +kernel, by decide +kernel⟩, List.mem_of_getElem? (i := 141) (by decide +kernel), List.mem_of_getElem? (i := 482) (by decide +kernel), List.mem_of_getElem? (i := 483) (by decide +kernel)⟩
theorem lw_p13 : lw_okq (⟨"java/util/ArrayList", "rangeCheckForAdd", "(I)V"⟩, 3) := ⟨⟨by decide +kernel, by decide +kernel⟩, List.mem_of_getElem? (i := 37) (by decide +kernel), List.mem_of_getElem? (i := 495) (by decide +kernel), List.mem_of_getElem? (i := 496) (by decide +kernel)⟩
theorem lw_p14 : lw_okq (⟨"RodBench$Bodies", "mostEven", "(I)I"⟩, 5) := ⟨⟨by decide +kernel, by decide +kernel⟩, List.mem_of_getElem? (i := 164) (by decide +kernel), List.mem_of_getElem? (i := 507) (by decide +kernel), List.mem_of_getElem? (i := 508) (by decide +kernel)⟩
theorem lw_p15 : lw_okq (⟨"RodBench$Bodies", "hasRoom", "(I)Z"⟩, 5) := ⟨⟨by decide +kernel, by decide +kernel⟩, List.mem_of_getElem? (i := 164) (by decide +kernel), List.mem_of_getElem? (i := 525) (by decide +kernel), List.mem_of_getElem? (i := 526) (by decide +kernel)⟩
def lw_privs_1 : List (MethodName × Nat) := [(⟨"java/util/ArrayList", "add", "(Ljava/lang/Object;[Ljava/lang/Object;I)V"⟩, 3), (⟨"java/util/ArrayList", "grow", "()[Ljava/lang/Object;"⟩, 3), (⟨"java/util/ArrayList", "grow", "(I)[Ljava/lang/Object;"⟩, 3), (⟨"RodBench", "renew", "()V"⟩, 5), (⟨"RodBench$Table", "start", "(II)V"⟩, 8), (⟨"RodBench$Table", "openRow", "(I)I"⟩, 8), (⟨"RodBench$Table", "makeAboveNought", "([JI)V"⟩, 8), (⟨"RodBench$Table", "clearColumn", "(II)V"⟩, 8), (⟨"RodBench$Table", "takeOff", "([J[JI)V"⟩, 8), (⟨"RodBench$Table", "shrink", "([J)V"⟩, 8), (⟨"RodBench$Table", "scaleOf", "(I)J"⟩, 8), (⟨"RodBench$Offers", "queueRodsIn", "()V"⟩, 4), (⟨"RodBench$Offers", "queueRodsOut", "()V"⟩, 4), (⟨"java/util/ArrayList", "rangeCheckForAdd", "(I)V"⟩, 3), (⟨"RodBench$Bodies", "mostEven", "(I)I"⟩, 5), (⟨"RodBench$Bodies", "hasRoom", "(I)Z"⟩, 5)]
theorem lw_r1 : ∀ q ∈ lw_privs_1, lw_okq q := List.forall_mem_cons.mpr ⟨lw_p0, List.forall_mem_cons.mpr ⟨lw_p1, List.forall_mem_cons.mpr ⟨lw_p2, List.forall_mem_cons.mpr ⟨lw_p3, List.forall_mem_cons.mpr ⟨lw_p4, List.forall_mem_cons.mpr ⟨lw_p5, List.forall_mem_cons.mpr ⟨lw_p6, List.forall_mem_cons.mpr ⟨lw_p7, List.forall_mem_cons.mpr ⟨lw_p8, List.forall_mem_cons.mpr ⟨lw_p9, List.forall_mem_cons.mpr ⟨lw_p10, List.forall_mem_cons.mpr ⟨lw_p11, List.forall_mem_cons.mpr ⟨lw_p12, List.forall_mem_cons.mpr ⟨lw_p13, List.forall_mem_cons.mpr ⟨lw_p14, List.forall_mem_cons.mpr ⟨lw_p15, fun _ h => absurd h List.not_mem_nil⟩⟩⟩⟩⟩⟩⟩⟩⟩⟩⟩⟩⟩⟩⟩⟩
theorem lw_p16 : lw_okq (⟨"RodBench$Bodies", "choose", "(I)V"⟩, 5) := ⟨⟨by decide +kernel, by decide +kernel⟩, List.mem_of_getElem? (i := 164) (by decide +kernel), List.mem_of_getElem? (i := 538) (by decide +kernel), List.mem_of_getElem? (i := 539) (by decide +kernel)⟩
theorem lw_p17 : lw_okq (⟨"RodBench$Bodies", "isInBody", "(I)Z"⟩, 5) := ⟨⟨by decide +kernel, by decide +kernel⟩, List.mem_of_getElem? (i := 164) (by decide +kernel), List.mem_of_getElem? (i := 542) (by decide +kernel), List.mem_of_getElem? (i := 543) (by decide +kernel)⟩
theorem lw_p18 : lw_okq (⟨"RodBench$Bodies", "isWhole", "(I)Z"⟩, 5) := ⟨⟨by decide +kernel, by decide +kernel⟩, List.mem_of_getElem? (i := 164) (by decide +kernel), List.mem_of_getElem? (i := 546) (by decide +kernel), List.mem_of_getElem? (i := 547) (by decide +kernel)⟩
theorem lw_p19 : lw_okq (⟨"RodBench", "neededCount", "()I"⟩, 5) := ⟨⟨by decide +kernel, by decide +kernel⟩, List.mem_of_getElem? (i := 23) (by decide +kernel), List.mem_of_getElem? (i := 655) (by decide +kernel), List.mem_of_getElem? (i := 656) (by decide +kernel)⟩
theorem lw_p20 : lw_okq (⟨"RodBench$Balance", "columnOf", "(LRodBench$Rod;)I"⟩, 3) := ⟨⟨by decide +kernel, by decide +kernel⟩, List.mem_of_getElem? (i := 89) (by decide +kernel), List.mem_of_getElem? (i := 668) (by decide +kernel), List.mem_of_getElem? (i := 669) (by decide +kernel)⟩
theorem lw_p21 : lw_okq (⟨"RodBench", "isTightAs", "(I)Z"⟩, 5) := ⟨⟨by decide +kernel, by decide +kernel⟩, List.mem_of_getElem? (i := 23) (by decide +kernel), List.mem_of_getElem? (i := 732) (by decide +kernel), List.mem_of_getElem? (i := 733) (by decide +kernel)⟩
theorem lw_p22 : lw_okq (⟨"RodBench$Trays", "isThing", "(II)Z"⟩, 4) := ⟨⟨by decide +kernel, by decide +kernel⟩, List.mem_of_getElem? (i := 186) (by decide +kernel), List.mem_of_getElem? (i := 842) (by decide +kernel), List.mem_of_getElem? (i := 843) (by decide +kernel)⟩
theorem lw_p23 : lw_okq (⟨"RodBench$Trays", "refuse", "(I)I"⟩, 4) := ⟨⟨by decide +kernel, by decide +kernel⟩, List.mem_of_getElem? (i := 186) (by decide +kernel), List.mem_of_getElem? (i := 848) (by decide +kernel), List.mem_of_getElem? (i := 849) (by decide +kernel)⟩
theorem lw_p24 : lw_okq (⟨"RodBench$Trays", "thingFor", "(II)LRodBench$Thing;"⟩, 4) := ⟨⟨by decide +kernel, by decide +kernel⟩, List.mem_of_getElem? (i := 186) (by decide +kernel), List.mem_of_getElem? (i := 852) (by decide +kernel), List.mem_of_getElem? (i := 853) (by decide +kernel)⟩
theorem lw_p25 : lw_okq (⟨"RodBench$Trays", "motionRow", "(I)LRodBench$Row;"⟩, 4) := ⟨⟨by decide +kernel, by decide +kernel⟩, List.mem_of_getElem? (i := 186) (by decide +kernel), List.mem_of_getElem? (i := 858) (by decide +kernel), List.mem_of_getElem? (i := 859) (by decide +kernel)⟩
theorem lw_p26 : lw_okq (⟨"RodBench$Trays", "rodRow", "(I)LRodBench$Row;"⟩, 4) := ⟨⟨by decide +kernel, by decide +kernel⟩, List.mem_of_getElem? (i := 186) (by decide +kernel), List.mem_of_getElem? (i := 882) (by decide +kernel), List.mem_of_getElem? (i := 883) (by decide +kernel)⟩
theorem lw_p27 : lw_okq (⟨"RodBench$Trays", "done", "(I)I"⟩, 4) := ⟨⟨by decide +kernel, by decide +kernel⟩, List.mem_of_getElem? (i := 186) (by decide +kernel), List.mem_of_getElem? (i := 887) (by decide +kernel), List.mem_of_getElem? (i := 888) (by decide +kernel)⟩
theorem lw_p28 : lw_okq (⟨"RodBench$Trays", "firstPinAs", "(LRodBench$Thing;I)I"⟩, 4) := ⟨⟨by decide +kernel, by decide +kernel⟩, List.mem_of_getElem? (i := 186) (by decide +kernel), List.mem_of_getElem? (i := 902) (by decide +kernel), List.mem_of_getElem? (i := 903) (by decide +kernel)⟩
theorem lw_p29 : lw_okq (⟨"RodBench$Trays", "howManyAre", "(LRodBench$Thing;I)I"⟩, 4) := ⟨⟨by decide +kernel, by decide +kernel⟩, List.mem_of_getElem? (i := 186) (by decide +kernel), List.mem_of_getElem? (i := 907) (by decide +kernel), List.mem_of_getElem? (i := 908) (by decide +kernel)⟩
theorem lw_p30 : lw_okq (⟨"RodBench$Trays", "refuseRow", "(LRodBench$Thing;)I"⟩, 4) := ⟨⟨by decide +kernel, by decide +kernel⟩, List.mem_of_getElem? (i := 186) (by decide +kernel), List.mem_of_getElem? (i := 914) (by decide +kernel), List.mem_of_getElem? (i := 915) (by decide +kernel)⟩
theorem lw_p31 : lw_okq (⟨"RodBench$Trays", "numberAt", "(LRodBench$Thing;II)I"⟩, 4) := ⟨⟨by decide +kernel, by decide +kernel⟩, List.mem_of_getElem? (i := 186) (by decide +kernel), List.mem_of_getElem? (i := 918) (by decide +kernel), List.mem_of_getElem? (i := 919) (by decide +kernel)⟩
def lw_privs_2 : List (MethodName × Nat) := [(⟨"RodBench$Bodies", "choose", "(I)V"⟩, 5), (⟨"RodBench$Bodies", "isInBody", "(I)Z"⟩, 5), (⟨"RodBench$Bodies", "isWhole", "(I)Z"⟩, 5), (⟨"RodBench", "neededCount", "()I"⟩, 5), (⟨"RodBench$Balance", "columnOf", "(LRodBench$Rod;)I"⟩, 3), (⟨"RodBench", "isTightAs", "(I)Z"⟩, 5), (⟨"RodBench$Trays", "isThing", "(II)Z"⟩, 4), (⟨"RodBench$Trays", "refuse", "(I)I"⟩, 4), (⟨"RodBench$Trays", "thingFor", "(II)LRodBench$Thing;"⟩, 4), (⟨"RodBench$Trays", "motionRow", "(I)LRodBench$Row;"⟩, 4), (⟨"RodBench$Trays", "rodRow", "(I)LRodBench$Row;"⟩, 4), (⟨"RodBench$Trays", "done", "(I)I"⟩, 4), (⟨"RodBench$Trays", "firstPinAs", "(LRodBench$Thing;I)I"⟩, 4), (⟨"RodBench$Trays", "howManyAre", "(LRodBench$Thing;I)I"⟩, 4), (⟨"RodBench$Trays", "refuseRow", "(LRodBench$Thing;)I"⟩, 4), (⟨"RodBench$Trays", "numberAt", "(LRodBench$Thing;II)I"⟩, 4)]
theorem lw_r2 : ∀ q ∈ lw_privs_2, lw_okq q := List.forall_mem_cons.mpr ⟨lw_p16, List.forall_mem_cons.mpr ⟨lw_p17, List.forall_mem_cons.mpr ⟨lw_p18, List.forall_mem_cons.mpr ⟨lw_p19, List.forall_mem_cons.mpr ⟨lw_p20, List.forall_mem_cons.mpr ⟨lw_p21, List.forall_mem_cons.mpr ⟨lw_p22, List.forall_mem_cons.mpr ⟨lw_p23, List.forall_mem_cons.mpr ⟨lw_p24, List.forall_mem_cons.mpr ⟨lw_p25, List.forall_mem_cons.mpr ⟨lw_p26, List.forall_mem_cons.mpr ⟨lw_p27, List.forall_mem_cons.mpr ⟨lw_p28, List.forall_mem_cons.mpr ⟨lw_p29, List.forall_mem_cons.mpr ⟨lw_p30, List.forall_mem_cons.mpr ⟨lw_p31, fun _ h => absurd h List.not_mem_nil⟩⟩⟩⟩⟩⟩⟩⟩⟩⟩⟩⟩⟩⟩⟩⟩
theorem lw_p32 : lw_okq (⟨"RodBench$Trays", "sumOfCopied", "(LRodBench$Thing;I)I"⟩, 4) := ⟨⟨by decide +kernel, by decide +kernel⟩, List.mem_of_getElem? (i := 186) (by decide +kernel), List.mem_of_getElem? (i := 922) (by decide +kernel), List.mem_of_getElem? (i := 923) (by decide +kernel)⟩
theorem lw_p33 : lw_okq (⟨"RodBench$Trays", "priceAsSpare", "(LRodBench$Thing;)I"⟩, 4) := ⟨⟨by decide +kernel, by decide +kernel⟩, List.mem_of_getElem? (i := 186) (by decide +kernel), List.mem_of_getElem? (i := 926) (by decide +kernel), List.mem_of_getElem? (i := 927) (by decide +kernel)⟩
theorem lw_p34 : lw_okq (⟨"RodBenchModel", "pinAt", "(II)I"⟩, 32) := ⟨⟨by decide +kernel, by decide +kernel⟩, List.mem_of_getElem? (i := 938) (by decide +kernel), List.mem_of_getElem? (i := 1048) (by decide +kernel), List.mem_of_getElem? (i := 1049) (by decide +kernel)⟩
theorem lw_p35 : lw_okq (⟨"RodBenchModel", "isPin", "(I)Z"⟩, 32) := ⟨⟨by decide +kernel, by decide +kernel⟩, List.mem_of_getElem? (i := 938) (by decide +kernel), List.mem_of_getElem? (i := 1056) (by decide +kernel), List.mem_of_getElem? (i := 1057) (by decide +kernel)⟩
theorem lw_p36 : lw_okq (⟨"RodBenchModel", "isRod", "(I)Z"⟩, 32) := ⟨⟨by decide +kernel, by decide +kernel⟩, List.mem_of_getElem? (i := 938) (by decide +kernel), List.mem_of_getElem? (i := 1072) (by decide +kernel), List.mem_of_getElem? (i := 1073) (by decide +kernel)⟩
theorem lw_p37 : lw_okq (⟨"RodBenchModel", "freePins", "()I"⟩, 32) := ⟨⟨by decide +kernel, by decide +kernel⟩, List.mem_of_getElem? (i := 938) (by decide +kernel), List.mem_of_getElem? (i := 1080) (by decide +kernel), List.mem_of_getElem? (i := 1081) (by decide +kernel)⟩
theorem lw_p38 : lw_okq (⟨"RodBenchModel", "inCount", "()I"⟩, 32) := ⟨⟨by decide +kernel, by decide +kernel⟩, List.mem_of_getElem? (i := 938) (by decide +kernel), List.mem_of_getElem? (i := 1084) (by decide +kernel), List.mem_of_getElem? (i := 1085) (by decide +kernel)⟩
theorem lw_p39 : lw_okq (⟨"RodBenchModel", "motions", "()I"⟩, 32) := ⟨⟨by decide +kernel, by decide +kernel⟩, List.mem_of_getElem? (i := 938) (by decide +kernel), List.mem_of_getElem? (i := 1088) (by decide +kernel), List.mem_of_getElem? (i := 1089) (by decide +kernel)⟩
theorem lw_p40 : lw_okq (⟨"RodBenchModel", "motionsOf", "([Z)I"⟩, 32) := ⟨⟨by decide +kernel, by decide +kernel⟩, List.mem_of_getElem? (i := 938) (by decide +kernel), List.mem_of_getElem? (i := 1092) (by decide +kernel), List.mem_of_getElem? (i := 1093) (by decide +kernel)⟩
theorem lw_p41 : lw_okq (⟨"RodBenchModel", "motionRow", "(II)V"⟩, 32) := ⟨⟨by decide +kernel, by decide +kernel⟩, List.mem_of_getElem? (i := 938) (by decide +kernel), List.mem_of_getElem? (i := 1096) (by decide +kernel), List.mem_of_getElem? (i := 1097) (by decide +kernel)⟩
theorem lw_p42 : lw_okq (⟨"RodBenchModel", "freeColumn", "(I)I"⟩, 32) := ⟨⟨by decide +kernel, by decide +kernel⟩, List.mem_of_getElem? (i := 938) (by decide +kernel), List.mem_of_getElem? (i := 1100) (by decide +kernel), List.mem_of_getElem? (i := 1101) (by decide +kernel)⟩
theorem lw_p43 : lw_okq (⟨"RodBenchModel", "steps", "(I)I"⟩, 32) := ⟨⟨by decide +kernel, by decide +kernel⟩, List.mem_of_getElem? (i := 938) (by decide +kernel), List.mem_of_getElem? (i := 1104) (by decide +kernel), List.mem_of_getElem? (i := 1105) (by decide +kernel)⟩
theorem lw_p44 : lw_okq (⟨"RodBenchModel", "lower", "(II)V"⟩, 32) := ⟨⟨by decide +kernel, by decide +kernel⟩, List.mem_of_getElem? (i := 938) (by decide +kernel), List.mem_of_getElem? (i := 1108) (by decide +kernel), List.mem_of_getElem? (i := 1109) (by decide +kernel)⟩
theorem lw_p45 : lw_okq (⟨"RodBenchModel", "stresses", "()I"⟩, 32) := ⟨⟨by decide +kernel, by decide +kernel⟩, List.mem_of_getElem? (i := 938) (by decide +kernel), List.mem_of_getElem? (i := 1115) (by decide +kernel), List.mem_of_getElem? (i := 1116) (by decide +kernel)⟩
theorem lw_p46 : lw_okq (⟨"RodBenchModel", "findBodies", "()V"⟩, 32) := ⟨⟨by decide +kernel, by decide +kernel⟩, List.mem_of_getElem? (i := 938) (by decide +kernel), List.mem_of_getElem? (i := 1119) (by decide +kernel), List.mem_of_getElem? (i := 1120) (by decide +kernel)⟩
theorem lw_p47 : lw_okq (⟨"RodBenchModel", "even", "(I)I"⟩, 32) := ⟨⟨by decide +kernel, by decide +kernel⟩, List.mem_of_getElem? (i := 938) (by decide +kernel), List.mem_of_getElem? (i := 1126) (by decide +kernel), List.mem_of_getElem? (i := 1127) (by decide +kernel)⟩
def lw_privs_3 : List (MethodName × Nat) := [(⟨"RodBench$Trays", "sumOfCopied", "(LRodBench$Thing;I)I"⟩, 4), (⟨"RodBench$Trays", "priceAsSpare", "(LRodBench$Thing;)I"⟩, 4), (⟨"RodBenchModel", "pinAt", "(II)I"⟩, 32), (⟨"RodBenchModel", "isPin", "(I)Z"⟩, 32), (⟨"RodBenchModel", "isRod", "(I)Z"⟩, 32), (⟨"RodBenchModel", "freePins", "()I"⟩, 32), (⟨"RodBenchModel", "inCount", "()I"⟩, 32), (⟨"RodBenchModel", "motions", "()I"⟩, 32), (⟨"RodBenchModel", "motionsOf", "([Z)I"⟩, 32), (⟨"RodBenchModel", "motionRow", "(II)V"⟩, 32), (⟨"RodBenchModel", "freeColumn", "(I)I"⟩, 32), (⟨"RodBenchModel", "steps", "(I)I"⟩, 32), (⟨"RodBenchModel", "lower", "(II)V"⟩, 32), (⟨"RodBenchModel", "stresses", "()I"⟩, 32), (⟨"RodBenchModel", "findBodies", "()V"⟩, 32), (⟨"RodBenchModel", "even", "(I)I"⟩, 32)]
theorem lw_r3 : ∀ q ∈ lw_privs_3, lw_okq q := List.forall_mem_cons.mpr ⟨lw_p32, List.forall_mem_cons.mpr ⟨lw_p33, List.forall_mem_cons.mpr ⟨lw_p34, List.forall_mem_cons.mpr ⟨lw_p35, List.forall_mem_cons.mpr ⟨lw_p36, List.forall_mem_cons.mpr ⟨lw_p37, List.forall_mem_cons.mpr ⟨lw_p38, List.forall_mem_cons.mpr ⟨lw_p39, List.forall_mem_cons.mpr ⟨lw_p40, List.forall_mem_cons.mpr ⟨lw_p41, List.forall_mem_cons.mpr ⟨lw_p42, List.forall_mem_cons.mpr ⟨lw_p43, List.forall_mem_cons.mpr ⟨lw_p44, List.forall_mem_cons.mpr ⟨lw_p45, List.forall_mem_cons.mpr ⟨lw_p46, List.forall_mem_cons.mpr ⟨lw_p47, fun _ h => absurd h List.not_mem_nil⟩⟩⟩⟩⟩⟩⟩⟩⟩⟩⟩⟩⟩⟩⟩⟩
theorem lw_p48 : lw_okq (⟨"RodBenchModel", "isBetween", "(II)Z"⟩, 32) := ⟨⟨by decide +kernel, by decide +kernel⟩, List.mem_of_getElem? (i := 938) (by decide +kernel), List.mem_of_getElem? (i := 1130) (by decide +kernel), List.mem_of_getElem? (i := 1131) (by decide +kernel)⟩
theorem lw_p49 : lw_okq (⟨"RodBenchModel", "isEven", "(I)Z"⟩, 32) := ⟨⟨by decide +kernel, by decide +kernel⟩, List.mem_of_getElem? (i := 938) (by decide +kernel), List.mem_of_getElem? (i := 1134) (by decide +kernel), List.mem_of_getElem? (i := 1135) (by decide +kernel)⟩
theorem lw_p50 : lw_okq (⟨"RodBenchModel", "isAhead", "(II)Z"⟩, 32) := ⟨⟨by decide +kernel, by decide +kernel⟩, List.mem_of_getElem? (i := 938) (by decide +kernel), List.mem_of_getElem? (i := 1138) (by decide +kernel), List.mem_of_getElem? (i := 1139) (by decide +kernel)⟩
theorem lw_p51 : lw_okq (⟨"RodBenchModel", "isNeeded", "(I)Z"⟩, 32) := ⟨⟨by decide +kernel, by decide +kernel⟩, List.mem_of_getElem? (i := 938) (by decide +kernel), List.mem_of_getElem? (i := 1142) (by decide +kernel), List.mem_of_getElem? (i := 1143) (by decide +kernel)⟩
theorem lw_p52 : lw_okq (⟨"RodBenchModel", "columnOf", "(I)I"⟩, 32) := ⟨⟨by decide +kernel, by decide +kernel⟩, List.mem_of_getElem? (i := 938) (by decide +kernel), List.mem_of_getElem? (i := 1146) (by decide +kernel), List.mem_of_getElem? (i := 1147) (by decide +kernel)⟩
theorem lw_p53 : lw_okq (⟨"RodBenchModel", "loose", "(I)I"⟩, 32) := ⟨⟨by decide +kernel, by decide +kernel⟩, List.mem_of_getElem? (i := 938) (by decide +kernel), List.mem_of_getElem? (i := 1150) (by decide +kernel), List.mem_of_getElem? (i := 1151) (by decide +kernel)⟩
theorem lw_p54 : lw_okq (⟨"RodBenchModel", "nulOf", "(I)V"⟩, 32) := ⟨⟨by decide +kernel, by decide +kernel⟩, List.mem_of_getElem? (i := 938) (by decide +kernel), List.mem_of_getElem? (i := 1154) (by decide +kernel), List.mem_of_getElem? (i := 1155) (by decide +kernel)⟩
theorem lw_p55 : lw_okq (⟨"RodBenchModel", "isStiff", "([Z)Z"⟩, 32) := ⟨⟨by decide +kernel, by decide +kernel⟩, List.mem_of_getElem? (i := 938) (by decide +kernel), List.mem_of_getElem? (i := 1179) (by decide +kernel), List.mem_of_getElem? (i := 1180) (by decide +kernel)⟩
theorem lw_p56 : lw_okq (⟨"RodBenchModel", "planeMotions", "()I"⟩, 32) := ⟨⟨by decide +kernel, by decide +kernel⟩, List.mem_of_getElem? (i := 938) (by decide +kernel), List.mem_of_getElem? (i := 1183) (by decide +kernel), List.mem_of_getElem? (i := 1184) (by decide +kernel)⟩
theorem lw_p57 : lw_okq (⟨"RodBenchModel", "carries", "()Z"⟩, 32) := ⟨⟨by decide +kernel, by decide +kernel⟩, List.mem_of_getElem? (i := 938) (by decide +kernel), List.mem_of_getElem? (i := 1199) (by decide +kernel), List.mem_of_getElem? (i := 1200) (by decide +kernel)⟩
theorem lw_p58 : lw_okq (⟨"RodBenchModel", "makePlan", "()V"⟩, 32) := ⟨⟨by decide +kernel, by decide +kernel⟩, List.mem_of_getElem? (i := 938) (by decide +kernel), List.mem_of_getElem? (i := 1223) (by decide +kernel), List.mem_of_getElem? (i := 1224) (by decide +kernel)⟩
theorem lw_p59 : lw_okq (⟨"RodBenchModel", "cheapestLeft", "()I"⟩, 32) := ⟨⟨by decide +kernel, by decide +kernel⟩, List.mem_of_getElem? (i := 938) (by decide +kernel), List.mem_of_getElem? (i := 1227) (by decide +kernel), List.mem_of_getElem? (i := 1228) (by decide +kernel)⟩
theorem lw_p60 : lw_okq (⟨"RodBenchModel", "refused", "(I)I"⟩, 32) := ⟨⟨by decide +kernel, by decide +kernel⟩, List.mem_of_getElem? (i := 938) (by decide +kernel), List.mem_of_getElem? (i := 1239) (by decide +kernel), List.mem_of_getElem? (i := 1240) (by decide +kernel)⟩
theorem lw_p61 : lw_okq (⟨"RodBenchModel", "done", "(I)I"⟩, 32) := ⟨⟨by decide +kernel, by decide +kernel⟩, List.mem_of_getElem? (i := 938) (by decide +kernel), List.mem_of_getElem? (i := 1243) (by decide +kernel), List.mem_of_getElem? (i := 1244) (by decide +kernel)⟩
def lw_privs_4 : List (MethodName × Nat) := [(⟨"RodBenchModel", "isBetween", "(II)Z"⟩, 32), (⟨"RodBenchModel", "isEven", "(I)Z"⟩, 32), (⟨"RodBenchModel", "isAhead", "(II)Z"⟩, 32), (⟨"RodBenchModel", "isNeeded", "(I)Z"⟩, 32), (⟨"RodBenchModel", "columnOf", "(I)I"⟩, 32), (⟨"RodBenchModel", "loose", "(I)I"⟩, 32), (⟨"RodBenchModel", "nulOf", "(I)V"⟩, 32), (⟨"RodBenchModel", "isStiff", "([Z)Z"⟩, 32), (⟨"RodBenchModel", "planeMotions", "()I"⟩, 32), (⟨"RodBenchModel", "carries", "()Z"⟩, 32), (⟨"RodBenchModel", "makePlan", "()V"⟩, 32), (⟨"RodBenchModel", "cheapestLeft", "()I"⟩, 32), (⟨"RodBenchModel", "refused", "(I)I"⟩, 32), (⟨"RodBenchModel", "done", "(I)I"⟩, 32)]
theorem lw_r4 : ∀ q ∈ lw_privs_4, lw_okq q := List.forall_mem_cons.mpr ⟨lw_p48, List.forall_mem_cons.mpr ⟨lw_p49, List.forall_mem_cons.mpr ⟨lw_p50, List.forall_mem_cons.mpr ⟨lw_p51, List.forall_mem_cons.mpr ⟨lw_p52, List.forall_mem_cons.mpr ⟨lw_p53, List.forall_mem_cons.mpr ⟨lw_p54, List.forall_mem_cons.mpr ⟨lw_p55, List.forall_mem_cons.mpr ⟨lw_p56, List.forall_mem_cons.mpr ⟨lw_p57, List.forall_mem_cons.mpr ⟨lw_p58, List.forall_mem_cons.mpr ⟨lw_p59, List.forall_mem_cons.mpr ⟨lw_p60, List.forall_mem_cons.mpr ⟨lw_p61, fun _ h => absurd h List.not_mem_nil⟩⟩⟩⟩⟩⟩⟩⟩⟩⟩⟩⟩⟩⟩
def lw_privs : List (MethodName × Nat) := lw_privs_1 ++ (lw_privs_2 ++ (lw_privs_3 ++ (lw_privs_4)))
def lw_tbl : List Cond := k2_sels lw_privs ++ tables_1
theorem lw_privs_ok : ∀ q ∈ lw_privs, lw_okq q := by
  show ∀ q ∈ lw_privs_1 ++ (lw_privs_2 ++ (lw_privs_3 ++ (lw_privs_4))), lw_okq q
  exact List.forall_mem_append.mpr ⟨lw_r1, List.forall_mem_append.mpr ⟨lw_r2, List.forall_mem_append.mpr ⟨lw_r3, lw_r4⟩⟩⟩
-- ===== end of PART A; then your names; then what follows =====
end
section
/-! ===== BEGIN printed: names, fields, word lists, decode rows ===== -/
noncomputable def RX0 : String := "RodBench$Balance"
noncomputable def TX0 : u_T := fun k => match k with
  | 0 => ("RodBench$Balance", "frame", "LRodBench$Frame;", true)
  | 1 => ("RodBench$Balance", "motions", "LRodBench$Table;", true)
  | _ => ("RodBench$Balance", "stresses", "LRodBench$Table;", true)
noncomputable def tyX0 : Nat → FieldType := fun k => match k with
  | 0 => .object "RodBench$Frame"
  | 1 => .object "RodBench$Table"
  | _ => .object "RodBench$Table"
noncomputable abbrev wsX00 : List Cond := u_ws RX0 TX0 3
theorem nmX0 : ∀ a, a < 3 → ∀ b, b < 3 → a ≠ b → (TX0 a).2.1 ≠ (TX0 b).2.1 := by decide +kernel
theorem tyX0_ok : ∀ k, k < 3 → parseFieldDescriptor (TX0 k).2.2.1 = some (tyX0 k) := by decide +kernel
noncomputable abbrev cX0_init : ByteArray := prog_2_method_1_code
noncomputable def yX0_init : MethodName := ⟨RX0, "<init>", "(LRodBench$Frame;)V"⟩
noncomputable abbrev cX0_motionCount : ByteArray := prog_2_method_2_code
noncomputable def yX0_motionCount : MethodName := ⟨RX0, "motionCount", "()I"⟩
noncomputable abbrev cX0_stressCount : ByteArray := prog_2_method_3_code
noncomputable def yX0_stressCount : MethodName := ⟨RX0, "stressCount", "()I"⟩
noncomputable abbrev cX0_isMotion : ByteArray := prog_2_method_4_code
noncomputable def yX0_isMotion : MethodName := ⟨RX0, "isMotion", "(I)Z"⟩
noncomputable abbrev cX0_isStress : ByteArray := prog_2_method_5_code
noncomputable def yX0_isStress : MethodName := ⟨RX0, "isStress", "(I)Z"⟩
noncomputable abbrev cX0_motionNumber : ByteArray := prog_2_method_6_code
noncomputable def yX0_motionNumber : MethodName := ⟨RX0, "motionNumber", "(ILRodBench$Pin;I)J"⟩
noncomputable abbrev cX0_stressNumber : ByteArray := prog_2_method_7_code
noncomputable def yX0_stressNumber : MethodName := ⟨RX0, "stressNumber", "(ILRodBench$Rod;)J"⟩
noncomputable abbrev cX0_isNeeded : ByteArray := prog_2_method_8_code
noncomputable def yX0_isNeeded : MethodName := ⟨RX0, "isNeeded", "(LRodBench$Rod;)Z"⟩
noncomputable abbrev cX0_isCarried : ByteArray := prog_2_method_9_code
noncomputable def yX0_isCarried : MethodName := ⟨RX0, "isCarried", "()Z"⟩
noncomputable abbrev cX0_forceAbove : ByteArray := prog_2_method_10_code
noncomputable def yX0_forceAbove : MethodName := ⟨RX0, "forceAbove", "(LRodBench$Rod;)J"⟩
noncomputable abbrev cX0_forceBelow : ByteArray := prog_2_method_11_code
noncomputable def yX0_forceBelow : MethodName := ⟨RX0, "forceBelow", "(LRodBench$Rod;)J"⟩
noncomputable abbrev cX0_workOf : ByteArray := prog_2_method_12_code
noncomputable def yX0_workOf : MethodName := ⟨RX0, "workOf", "(I)J"⟩
noncomputable abbrev cX0_renew : ByteArray := prog_2_method_13_code
noncomputable def yX0_renew : MethodName := ⟨RX0, "renew", "()V"⟩
noncomputable abbrev cX0_columnOf : ByteArray := prog_2_method_14_code
noncomputable def yX0_columnOf : MethodName := ⟨RX0, "columnOf", "(LRodBench$Rod;)I"⟩
noncomputable def RX1 : String := "RodBench$Bodies"
noncomputable def TX1 : u_T := fun k => match k with
  | 0 => ("RodBench$Bodies", "frame", "LRodBench$Frame;", true)
  | 1 => ("RodBench$Bodies", "chosen", "[I", true)
  | 2 => ("RodBench$Bodies", "found", "[I", true)
  | 3 => ("RodBench$Bodies", "foundCount", "I", false)
  | _ => ("RodBench$Bodies", "greatest", "I", false)
noncomputable def tyX1 : Nat → FieldType := fun k => match k with
  | 0 => .object "RodBench$Frame"
  | 1 => .array .int
  | 2 => .array .int
  | 3 => .int
  | _ => .int
noncomputable abbrev wsX10 : List Cond := u_ws RX1 TX1 5
theorem nmX1 : ∀ a, a < 5 → ∀ b, b < 5 → a ≠ b → (TX1 a).2.1 ≠ (TX1 b).2.1 := by decide +kernel
theorem tyX1_ok : ∀ k, k < 5 → parseFieldDescriptor (TX1 k).2.2.1 = some (tyX1 k) := by decide +kernel
noncomputable abbrev cX1_init : ByteArray := prog_3_method_1_code
noncomputable def yX1_init : MethodName := ⟨RX1, "<init>", "(LRodBench$Frame;)V"⟩
noncomputable abbrev cX1_bodyCount : ByteArray := prog_3_method_2_code
noncomputable def yX1_bodyCount : MethodName := ⟨RX1, "bodyCount", "()I"⟩
noncomputable abbrev cX1_isBody : ByteArray := prog_3_method_3_code
noncomputable def yX1_isBody : MethodName := ⟨RX1, "isBody", "(I)Z"⟩
noncomputable abbrev cX1_surplus : ByteArray := prog_3_method_4_code
noncomputable def yX1_surplus : MethodName := ⟨RX1, "surplus", "()I"⟩
noncomputable abbrev cX1_areAllOne : ByteArray := prog_3_method_5_code
noncomputable def yX1_areAllOne : MethodName := ⟨RX1, "areAllOne", "()Z"⟩
noncomputable abbrev cX1_leastBodyOf : ByteArray := prog_3_method_6_code
noncomputable def yX1_leastBodyOf : MethodName := ⟨RX1, "leastBodyOf", "(LRodBench$Rod;)I"⟩
noncomputable abbrev cX1_pinOf : ByteArray := prog_3_method_7_code
noncomputable def yX1_pinOf : MethodName := ⟨RX1, "pinOf", "(II)I"⟩
noncomputable abbrev cX1_renew : ByteArray := prog_3_method_8_code
noncomputable def yX1_renew : MethodName := ⟨RX1, "renew", "()V"⟩
noncomputable abbrev cX1_isInBody : ByteArray := prog_3_method_9_code
noncomputable def yX1_isInBody : MethodName := ⟨RX1, "isInBody", "(I)Z"⟩
noncomputable abbrev cX1_isWhole : ByteArray := prog_3_method_10_code
noncomputable def yX1_isWhole : MethodName := ⟨RX1, "isWhole", "(I)Z"⟩
noncomputable abbrev cX1_mostEven : ByteArray := prog_3_method_11_code
noncomputable def yX1_mostEven : MethodName := ⟨RX1, "mostEven", "(I)I"⟩
noncomputable abbrev cX1_hasRoom : ByteArray := prog_3_method_12_code
noncomputable def yX1_hasRoom : MethodName := ⟨RX1, "hasRoom", "(I)Z"⟩
noncomputable abbrev cX1_choose : ByteArray := prog_3_method_13_code
noncomputable def yX1_choose : MethodName := ⟨RX1, "choose", "(I)V"⟩
noncomputable abbrev cX1_mostRods : ByteArray := prog_3_method_14_code
noncomputable def yX1_mostRods : MethodName := ⟨RX1, "mostRods", "(I)I"⟩
noncomputable abbrev cX1_holds : ByteArray := prog_3_method_15_code
noncomputable def yX1_holds : MethodName := ⟨RX1, "holds", "(II)Z"⟩
noncomputable abbrev cX1_endsOf : ByteArray := prog_3_method_16_code
noncomputable def yX1_endsOf : MethodName := ⟨RX1, "endsOf", "(LRodBench$Rod;)I"⟩
noncomputable abbrev cX1_bitOf : ByteArray := prog_3_method_17_code
noncomputable def yX1_bitOf : MethodName := ⟨RX1, "bitOf", "(I)I"⟩
noncomputable def RX2 : String := "RodBench$Frame"
noncomputable def TX2 : u_T := fun k => match k with
  | 0 => ("RodBench$Frame", "pins", "Ljava/util/List;", true)
  | 1 => ("RodBench$Frame", "rods", "Ljava/util/List;", true)
  | 2 => ("RodBench$Frame", "freePins", "Ljava/util/List;", true)
  | _ => ("RodBench$Frame", "rodsIn", "Ljava/util/List;", true)
noncomputable def tyX2 : Nat → FieldType := fun k => match k with
  | 0 => .object "java/util/List"
  | 1 => .object "java/util/List"
  | 2 => .object "java/util/List"
  | _ => .object "java/util/List"
noncomputable abbrev wsX20 : List Cond := u_ws RX2 TX2 4
theorem nmX2 : ∀ a, a < 4 → ∀ b, b < 4 → a ≠ b → (TX2 a).2.1 ≠ (TX2 b).2.1 := by decide +kernel
theorem tyX2_ok : ∀ k, k < 4 → parseFieldDescriptor (TX2 k).2.2.1 = some (tyX2 k) := by decide +kernel
noncomputable abbrev cX2_init : ByteArray := prog_4_method_1_code
noncomputable def yX2_init : MethodName := ⟨RX2, "<init>", "()V"⟩
noncomputable abbrev cX2_renew : ByteArray := prog_4_method_2_code
noncomputable def yX2_renew : MethodName := ⟨RX2, "renew", "()V"⟩
noncomputable abbrev cX2_isPin : ByteArray := prog_4_method_3_code
noncomputable def yX2_isPin : MethodName := ⟨RX2, "isPin", "(I)Z"⟩
noncomputable abbrev cX2_isRod : ByteArray := prog_4_method_4_code
noncomputable def yX2_isRod : MethodName := ⟨RX2, "isRod", "(I)Z"⟩
noncomputable abbrev cX2_pinAt : ByteArray := prog_4_method_5_code
noncomputable def yX2_pinAt : MethodName := ⟨RX2, "pinAt", "(II)LRodBench$Pin;"⟩
noncomputable abbrev cX2_areJoined : ByteArray := prog_4_method_6_code
noncomputable def yX2_areJoined : MethodName := ⟨RX2, "areJoined", "(LRodBench$Pin;LRodBench$Pin;)Z"⟩
noncomputable abbrev cX2_rodsInAt : ByteArray := prog_4_method_7_code
noncomputable def yX2_rodsInAt : MethodName := ⟨RX2, "rodsInAt", "(LRodBench$Pin;)I"⟩
noncomputable abbrev cX2_planeMotions : ByteArray := prog_4_method_8_code
noncomputable def yX2_planeMotions : MethodName := ⟨RX2, "planeMotions", "()I"⟩
noncomputable def RX3 : String := "RodBench$Offers"
noncomputable def TX3 : u_T := fun k => match k with
  | 0 => ("RodBench$Offers", "frame", "LRodBench$Frame;", true)
  | 1 => ("RodBench$Offers", "queue", "Ljava/util/List;", true)
  | 2 => ("RodBench$Offers", "taken", "Ljava/util/List;", true)
  | _ => ("RodBench$Offers", "table", "LRodBench$Table;", true)
noncomputable def tyX3 : Nat → FieldType := fun k => match k with
  | 0 => .object "RodBench$Frame"
  | 1 => .object "java/util/List"
  | 2 => .object "java/util/List"
  | _ => .object "RodBench$Table"
noncomputable abbrev wsX30 : List Cond := u_ws RX3 TX3 4
theorem nmX3 : ∀ a, a < 4 → ∀ b, b < 4 → a ≠ b → (TX3 a).2.1 ≠ (TX3 b).2.1 := by decide +kernel
theorem tyX3_ok : ∀ k, k < 4 → parseFieldDescriptor (TX3 k).2.2.1 = some (tyX3 k) := by decide +kernel
noncomputable abbrev cX3_init : ByteArray := prog_5_method_1_code
noncomputable def yX3_init : MethodName := ⟨RX3, "<init>", "(LRodBench$Frame;)V"⟩
noncomputable abbrev cX3_takenRod : ByteArray := prog_5_method_2_code
noncomputable def yX3_takenRod : MethodName := ⟨RX3, "takenRod", "(I)I"⟩
noncomputable abbrev cX3_priceOfAll : ByteArray := prog_5_method_3_code
noncomputable def yX3_priceOfAll : MethodName := ⟨RX3, "priceOfAll", "()I"⟩
noncomputable abbrev cX3_holds : ByteArray := prog_5_method_4_code
noncomputable def yX3_holds : MethodName := ⟨RX3, "holds", "()Z"⟩
noncomputable abbrev cX3_renew : ByteArray := prog_5_method_5_code
noncomputable def yX3_renew : MethodName := ⟨RX3, "renew", "()V"⟩
noncomputable abbrev cX3_queueRodsIn : ByteArray := prog_5_method_6_code
noncomputable def yX3_queueRodsIn : MethodName := ⟨RX3, "queueRodsIn", "()V"⟩
noncomputable abbrev cX3_queueRodsOut : ByteArray := prog_5_method_7_code
noncomputable def yX3_queueRodsOut : MethodName := ⟨RX3, "queueRodsOut", "()V"⟩
noncomputable def RX4 : String := "RodBench$Pin"
noncomputable def TX4 : u_T := fun k => match k with
  | 0 => ("RodBench$Pin", "number", "I", true)
  | 1 => ("RodBench$Pin", "x", "I", false)
  | 2 => ("RodBench$Pin", "y", "I", false)
  | 3 => ("RodBench$Pin", "held", "Z", false)
  | 4 => ("RodBench$Pin", "forceX", "I", false)
  | _ => ("RodBench$Pin", "forceY", "I", false)
noncomputable def tyX4 : Nat → FieldType := fun k => match k with
  | 0 => .int
  | 1 => .int
  | 2 => .int
  | 3 => .boolean
  | 4 => .int
  | _ => .int
noncomputable abbrev wsX40 : List Cond := u_ws RX4 TX4 6
theorem nmX4 : ∀ a, a < 6 → ∀ b, b < 6 → a ≠ b → (TX4 a).2.1 ≠ (TX4 b).2.1 := by decide +kernel
theorem tyX4_ok : ∀ k, k < 6 → parseFieldDescriptor (TX4 k).2.2.1 = some (tyX4 k) := by decide +kernel
noncomputable abbrev cX4_init : ByteArray := prog_6_method_1_code
noncomputable def yX4_init : MethodName := ⟨RX4, "<init>", "(III)V"⟩
noncomputable def RX5 : String := "RodBench$Rod"
noncomputable def TX5 : u_T := fun k => match k with
  | 0 => ("RodBench$Rod", "number", "I", true)
  | 1 => ("RodBench$Rod", "kind", "I", true)
  | 2 => ("RodBench$Rod", "first", "LRodBench$Pin;", true)
  | 3 => ("RodBench$Rod", "second", "LRodBench$Pin;", true)
  | 4 => ("RodBench$Rod", "price", "I", true)
  | _ => ("RodBench$Rod", "in", "Z", false)
noncomputable def tyX5 : Nat → FieldType := fun k => match k with
  | 0 => .int
  | 1 => .int
  | 2 => .object "RodBench$Pin"
  | 3 => .object "RodBench$Pin"
  | 4 => .int
  | _ => .boolean
noncomputable abbrev wsX50 : List Cond := u_ws RX5 TX5 6
theorem nmX5 : ∀ a, a < 6 → ∀ b, b < 6 → a ≠ b → (TX5 a).2.1 ≠ (TX5 b).2.1 := by decide +kernel
theorem tyX5_ok : ∀ k, k < 6 → parseFieldDescriptor (TX5 k).2.2.1 = some (tyX5 k) := by decide +kernel
noncomputable abbrev cX5_init : ByteArray := prog_7_method_1_code
noncomputable def yX5_init : MethodName := ⟨RX5, "<init>", "(IILRodBench$Pin;LRodBench$Pin;I)V"⟩
noncomputable abbrev cX5_isOf : ByteArray := prog_7_method_2_code
noncomputable def yX5_isOf : MethodName := ⟨RX5, "isOf", "(I)Z"⟩
noncomputable abbrev cX5_joins : ByteArray := prog_7_method_3_code
noncomputable def yX5_joins : MethodName := ⟨RX5, "joins", "(LRodBench$Pin;LRodBench$Pin;)Z"⟩
noncomputable abbrev cX5_endsAt : ByteArray := prog_7_method_4_code
noncomputable def yX5_endsAt : MethodName := ⟨RX5, "endsAt", "(LRodBench$Pin;)Z"⟩
noncomputable abbrev cX5_reach : ByteArray := prog_7_method_5_code
noncomputable def yX5_reach : MethodName := ⟨RX5, "reach", "(LRodBench$Pin;I)I"⟩
noncomputable def RX6 : String := "RodBench$Row"
noncomputable def TX6 : u_T := fun k => match k with
  | 0 => ("RodBench$Row", "sort", "I", true)
  | _ => ("RodBench$Row", "numbers", "[J", true)
noncomputable def tyX6 : Nat → FieldType := fun k => match k with
  | 0 => .int
  | _ => .array .long
noncomputable abbrev wsX60 : List Cond := u_ws RX6 TX6 2
theorem nmX6 : ∀ a, a < 2 → ∀ b, b < 2 → a ≠ b → (TX6 a).2.1 ≠ (TX6 b).2.1 := by decide +kernel
theorem tyX6_ok : ∀ k, k < 2 → parseFieldDescriptor (TX6 k).2.2.1 = some (tyX6 k) := by decide +kernel
noncomputable abbrev cX6_init : ByteArray := prog_8_method_1_code
noncomputable def yX6_init : MethodName := ⟨RX6, "<init>", "(II)V"⟩
noncomputable def RX7 : String := "RodBench$Table"
noncomputable def TX7 : u_T := fun k => match k with
  | 0 => ("RodBench$Table", "cells", "[[J", true)
  | 1 => ("RodBench$Table", "taken", "[Z", true)
  | 2 => ("RodBench$Table", "rowOf", "[I", true)
  | 3 => ("RodBench$Table", "loose", "[I", true)
  | 4 => ("RodBench$Table", "scales", "[J", true)
  | 5 => ("RodBench$Table", "rows", "I", false)
  | 6 => ("RodBench$Table", "columns", "I", false)
  | _ => ("RodBench$Table", "looseCount", "I", false)
noncomputable def tyX7 : Nat → FieldType := fun k => match k with
  | 0 => .array (.array .long)
  | 1 => .array .boolean
  | 2 => .array .int
  | 3 => .array .int
  | 4 => .array .long
  | 5 => .int
  | 6 => .int
  | _ => .int
noncomputable abbrev wsX70 : List Cond := u_ws RX7 TX7 8
theorem nmX7 : ∀ a, a < 8 → ∀ b, b < 8 → a ≠ b → (TX7 a).2.1 ≠ (TX7 b).2.1 := by decide +kernel
theorem tyX7_ok : ∀ k, k < 8 → parseFieldDescriptor (TX7 k).2.2.1 = some (tyX7 k) := by decide +kernel
noncomputable abbrev cX7_init : ByteArray := prog_9_method_1_code
noncomputable def yX7_init : MethodName := ⟨RX7, "<init>", "()V"⟩
noncomputable abbrev cX7_layRodsAsRows : ByteArray := prog_9_method_2_code
noncomputable def yX7_layRodsAsRows : MethodName := ⟨RX7, "layRodsAsRows", "(Ljava/util/List;Ljava/util/List;)V"⟩
noncomputable abbrev cX7_layRodsAsColumns : ByteArray := prog_9_method_3_code
noncomputable def yX7_layRodsAsColumns : MethodName := ⟨RX7, "layRodsAsColumns", "(Ljava/util/List;Ljava/util/List;)V"⟩
noncomputable abbrev cX7_reduce : ByteArray := prog_9_method_4_code
noncomputable def yX7_reduce : MethodName := ⟨RX7, "reduce", "()V"⟩
noncomputable abbrev cX7_looseColumns : ByteArray := prog_9_method_5_code
noncomputable def yX7_looseColumns : MethodName := ⟨RX7, "looseColumns", "()I"⟩
noncomputable abbrev cX7_rank : ByteArray := prog_9_method_6_code
noncomputable def yX7_rank : MethodName := ⟨RX7, "rank", "()I"⟩
noncomputable abbrev cX7_isLoose : ByteArray := prog_9_method_7_code
noncomputable def yX7_isLoose : MethodName := ⟨RX7, "isLoose", "(I)Z"⟩
noncomputable abbrev cX7_answer : ByteArray := prog_9_method_8_code
noncomputable def yX7_answer : MethodName := ⟨RX7, "answer", "(II)J"⟩
noncomputable abbrev cX7_hasSolution : ByteArray := prog_9_method_9_code
noncomputable def yX7_hasSolution : MethodName := ⟨RX7, "hasSolution", "()Z"⟩
noncomputable abbrev cX7_solutionAbove : ByteArray := prog_9_method_10_code
noncomputable def yX7_solutionAbove : MethodName := ⟨RX7, "solutionAbove", "(I)J"⟩
noncomputable abbrev cX7_solutionBelow : ByteArray := prog_9_method_11_code
noncomputable def yX7_solutionBelow : MethodName := ⟨RX7, "solutionBelow", "(I)J"⟩
noncomputable abbrev cX7_start : ByteArray := prog_9_method_12_code
noncomputable def yX7_start : MethodName := ⟨RX7, "start", "(II)V"⟩
noncomputable abbrev cX7_openRow : ByteArray := prog_9_method_13_code
noncomputable def yX7_openRow : MethodName := ⟨RX7, "openRow", "(I)I"⟩
noncomputable abbrev cX7_makeAboveNought : ByteArray := prog_9_method_14_code
noncomputable def yX7_makeAboveNought : MethodName := ⟨RX7, "makeAboveNought", "([JI)V"⟩
noncomputable abbrev cX7_clearColumn : ByteArray := prog_9_method_15_code
noncomputable def yX7_clearColumn : MethodName := ⟨RX7, "clearColumn", "(II)V"⟩
noncomputable abbrev cX7_takeOff : ByteArray := prog_9_method_16_code
noncomputable def yX7_takeOff : MethodName := ⟨RX7, "takeOff", "([J[JI)V"⟩
noncomputable abbrev cX7_shrink : ByteArray := prog_9_method_17_code
noncomputable def yX7_shrink : MethodName := ⟨RX7, "shrink", "([J)V"⟩
noncomputable abbrev cX7_scaleOf : ByteArray := prog_9_method_18_code
noncomputable def yX7_scaleOf : MethodName := ⟨RX7, "scaleOf", "(I)J"⟩
noncomputable abbrev cX7_lowestBelow : ByteArray := prog_9_method_19_code
noncomputable def yX7_lowestBelow : MethodName := ⟨RX7, "lowestBelow", "(JJ)J"⟩
noncomputable abbrev cX7_leastMultiple : ByteArray := prog_9_method_20_code
noncomputable def yX7_leastMultiple : MethodName := ⟨RX7, "leastMultiple", "(JJ)J"⟩
noncomputable abbrev cX7_commonDivisor : ByteArray := prog_9_method_21_code
noncomputable def yX7_commonDivisor : MethodName := ⟨RX7, "commonDivisor", "(JJ)J"⟩
noncomputable def RX8 : String := "RodBench$Thing"
noncomputable def TX8 : u_T := fun k => match k with
  | _ => ("", "", "", false)
noncomputable def tyX8 : Nat → FieldType := fun k => match k with
  | _ => .int
noncomputable abbrev wsX80 : List Cond := u_ws RX8 TX8 0
theorem nmX8 : ∀ a, a < 0 → ∀ b, b < 0 → a ≠ b → (TX8 a).2.1 ≠ (TX8 b).2.1 := by decide +kernel
theorem tyX8_ok : ∀ k, k < 0 → parseFieldDescriptor (TX8 k).2.2.1 = some (tyX8 k) := by decide +kernel
noncomputable def RX9 : String := "RodBench$Trays"
noncomputable def TX9 : u_T := fun k => match k with
  | 0 => ("RodBench$Trays", "frame", "LRodBench$Frame;", true)
  | 1 => ("RodBench$Trays", "balance", "LRodBench$Balance;", true)
  | 2 => ("RodBench$Trays", "things", "[LRodBench$Thing;", true)
  | _ => ("RodBench$Trays", "status", "I", false)
noncomputable def tyX9 : Nat → FieldType := fun k => match k with
  | 0 => .object "RodBench$Frame"
  | 1 => .object "RodBench$Balance"
  | 2 => .array (.object "RodBench$Thing")
  | _ => .int
noncomputable abbrev wsX90 : List Cond := u_ws RX9 TX9 4
theorem nmX9 : ∀ a, a < 4 → ∀ b, b < 4 → a ≠ b → (TX9 a).2.1 ≠ (TX9 b).2.1 := by decide +kernel
theorem tyX9_ok : ∀ k, k < 4 → parseFieldDescriptor (TX9 k).2.2.1 = some (tyX9 k) := by decide +kernel
noncomputable abbrev cX9_init : ByteArray := prog_11_method_1_code
noncomputable def yX9_init : MethodName := ⟨RX9, "<init>", "(LRodBench$Frame;LRodBench$Balance;)V"⟩
noncomputable abbrev cX9_latestStatus : ByteArray := prog_11_method_2_code
noncomputable def yX9_latestStatus : MethodName := ⟨RX9, "latestStatus", "()I"⟩
noncomputable abbrev cX9_fill : ByteArray := prog_11_method_3_code
noncomputable def yX9_fill : MethodName := ⟨RX9, "fill", "(III)I"⟩
noncomputable abbrev cX9_work : ByteArray := prog_11_method_4_code
noncomputable def yX9_work : MethodName := ⟨RX9, "work", "(III)I"⟩
noncomputable abbrev cX9_isTray : ByteArray := prog_11_method_5_code
noncomputable def yX9_isTray : MethodName := ⟨RX9, "isTray", "(I)Z"⟩
noncomputable abbrev cX9_isThing : ByteArray := prog_11_method_6_code
noncomputable def yX9_isThing : MethodName := ⟨RX9, "isThing", "(II)Z"⟩
noncomputable abbrev cX9_thingFor : ByteArray := prog_11_method_7_code
noncomputable def yX9_thingFor : MethodName := ⟨RX9, "thingFor", "(II)LRodBench$Thing;"⟩
noncomputable abbrev cX9_motionRow : ByteArray := prog_11_method_8_code
noncomputable def yX9_motionRow : MethodName := ⟨RX9, "motionRow", "(I)LRodBench$Row;"⟩
noncomputable abbrev cX9_rodRow : ByteArray := prog_11_method_9_code
noncomputable def yX9_rodRow : MethodName := ⟨RX9, "rodRow", "(I)LRodBench$Row;"⟩
noncomputable abbrev cX9_firstPinAs : ByteArray := prog_11_method_10_code
noncomputable def yX9_firstPinAs : MethodName := ⟨RX9, "firstPinAs", "(LRodBench$Thing;I)I"⟩
noncomputable abbrev cX9_howManyAre : ByteArray := prog_11_method_11_code
noncomputable def yX9_howManyAre : MethodName := ⟨RX9, "howManyAre", "(LRodBench$Thing;I)I"⟩
noncomputable abbrev cX9_numberAt : ByteArray := prog_11_method_12_code
noncomputable def yX9_numberAt : MethodName := ⟨RX9, "numberAt", "(LRodBench$Thing;II)I"⟩
noncomputable abbrev cX9_sumOfCopied : ByteArray := prog_11_method_13_code
noncomputable def yX9_sumOfCopied : MethodName := ⟨RX9, "sumOfCopied", "(LRodBench$Thing;I)I"⟩
noncomputable abbrev cX9_priceAsSpare : ByteArray := prog_11_method_14_code
noncomputable def yX9_priceAsSpare : MethodName := ⟨RX9, "priceAsSpare", "(LRodBench$Thing;)I"⟩
noncomputable abbrev cX9_rowOf : ByteArray := prog_11_method_15_code
noncomputable def yX9_rowOf : MethodName := ⟨RX9, "rowOf", "(LRodBench$Thing;I)LRodBench$Row;"⟩
noncomputable abbrev cX9_refuseRow : ByteArray := prog_11_method_16_code
noncomputable def yX9_refuseRow : MethodName := ⟨RX9, "refuseRow", "(LRodBench$Thing;)I"⟩
noncomputable abbrev cX9_done : ByteArray := prog_11_method_17_code
noncomputable def yX9_done : MethodName := ⟨RX9, "done", "(I)I"⟩
noncomputable abbrev cX9_refuse : ByteArray := prog_11_method_18_code
noncomputable def yX9_refuse : MethodName := ⟨RX9, "refuse", "(I)I"⟩
noncomputable def RX10 : String := "RodBench"
noncomputable def TX10 : u_T := fun k => match k with
  | 0 => ("RodBench", "frame", "LRodBench$Frame;", true)
  | 1 => ("RodBench", "balance", "LRodBench$Balance;", true)
  | 2 => ("RodBench", "offers", "LRodBench$Offers;", true)
  | 3 => ("RodBench", "bodies", "LRodBench$Bodies;", true)
  | _ => ("RodBench", "trays", "LRodBench$Trays;", true)
noncomputable def tyX10 : Nat → FieldType := fun k => match k with
  | 0 => .object "RodBench$Frame"
  | 1 => .object "RodBench$Balance"
  | 2 => .object "RodBench$Offers"
  | 3 => .object "RodBench$Bodies"
  | _ => .object "RodBench$Trays"
noncomputable abbrev wsX100 : List Cond := u_ws RX10 TX10 5
theorem nmX10 : ∀ a, a < 5 → ∀ b, b < 5 → a ≠ b → (TX10 a).2.1 ≠ (TX10 b).2.1 := by decide +kernel
theorem tyX10_ok : ∀ k, k < 5 → parseFieldDescriptor (TX10 k).2.2.1 = some (tyX10 k) := by decide +kernel
noncomputable abbrev cX10_init : ByteArray := prog_1_method_1_code
noncomputable def yX10_init : MethodName := ⟨RX10, "<init>", "()V"⟩
noncomputable abbrev cX10_pin : ByteArray := prog_1_method_2_code
noncomputable def yX10_pin : MethodName := ⟨RX10, "pin", "(II)I"⟩
noncomputable abbrev cX10_move : ByteArray := prog_1_method_3_code
noncomputable def yX10_move : MethodName := ⟨RX10, "move", "(III)I"⟩
noncomputable abbrev cX10_hold : ByteArray := prog_1_method_4_code
noncomputable def yX10_hold : MethodName := ⟨RX10, "hold", "(IZ)I"⟩
noncomputable abbrev cX10_rod : ByteArray := prog_1_method_5_code
noncomputable def yX10_rod : MethodName := ⟨RX10, "rod", "(IIII)I"⟩
noncomputable abbrev cX10_put : ByteArray := prog_1_method_6_code
noncomputable def yX10_put : MethodName := ⟨RX10, "put", "(IZ)I"⟩
noncomputable abbrev cX10_count : ByteArray := prog_1_method_7_code
noncomputable def yX10_count : MethodName := ⟨RX10, "count", "(I)I"⟩
noncomputable abbrev cX10_pinTold : ByteArray := prog_1_method_8_code
noncomputable def yX10_pinTold : MethodName := ⟨RX10, "pinTold", "(II)I"⟩
noncomputable abbrev cX10_rodTold : ByteArray := prog_1_method_9_code
noncomputable def yX10_rodTold : MethodName := ⟨RX10, "rodTold", "(II)I"⟩
noncomputable abbrev cX10_motion : ByteArray := prog_1_method_10_code
noncomputable def yX10_motion : MethodName := ⟨RX10, "motion", "(III)J"⟩
noncomputable abbrev cX10_stress : ByteArray := prog_1_method_11_code
noncomputable def yX10_stress : MethodName := ⟨RX10, "stress", "(II)J"⟩
noncomputable abbrev cX10_stiff : ByteArray := prog_1_method_12_code
noncomputable def yX10_stiff : MethodName := ⟨RX10, "stiff", "()I"⟩
noncomputable abbrev cX10_tight : ByteArray := prog_1_method_13_code
noncomputable def yX10_tight : MethodName := ⟨RX10, "tight", "()I"⟩
noncomputable abbrev cX10_load : ByteArray := prog_1_method_14_code
noncomputable def yX10_load : MethodName := ⟨RX10, "load", "(III)I"⟩
noncomputable abbrev cX10_carry : ByteArray := prog_1_method_15_code
noncomputable def yX10_carry : MethodName := ⟨RX10, "carry", "()I"⟩
noncomputable abbrev cX10_force : ByteArray := prog_1_method_16_code
noncomputable def yX10_force : MethodName := ⟨RX10, "force", "(II)J"⟩
noncomputable abbrev cX10_gives : ByteArray := prog_1_method_17_code
noncomputable def yX10_gives : MethodName := ⟨RX10, "gives", "()I"⟩
noncomputable abbrev cX10_could : ByteArray := prog_1_method_18_code
noncomputable def yX10_could : MethodName := ⟨RX10, "could", "()I"⟩
noncomputable abbrev cX10_body : ByteArray := prog_1_method_19_code
noncomputable def yX10_body : MethodName := ⟨RX10, "body", "(II)I"⟩
noncomputable abbrev cX10_plan : ByteArray := prog_1_method_20_code
noncomputable def yX10_plan : MethodName := ⟨RX10, "plan", "(I)I"⟩
noncomputable abbrev cX10_cheapest : ByteArray := prog_1_method_21_code
noncomputable def yX10_cheapest : MethodName := ⟨RX10, "cheapest", "()I"⟩
noncomputable abbrev cX10_tray : ByteArray := prog_1_method_22_code
noncomputable def yX10_tray : MethodName := ⟨RX10, "tray", "(III)I"⟩
noncomputable abbrev cX10_forge : ByteArray := prog_1_method_23_code
noncomputable def yX10_forge : MethodName := ⟨RX10, "forge", "(III)I"⟩
noncomputable abbrev cX10_status : ByteArray := prog_1_method_24_code
noncomputable def yX10_status : MethodName := ⟨RX10, "status", "()I"⟩
noncomputable abbrev cX10_isPlace : ByteArray := prog_1_method_25_code
noncomputable def yX10_isPlace : MethodName := ⟨RX10, "isPlace", "(II)Z"⟩
noncomputable abbrev cX10_isForce : ByteArray := prog_1_method_26_code
noncomputable def yX10_isForce : MethodName := ⟨RX10, "isForce", "(I)Z"⟩
noncomputable abbrev cX10_isPriceOf : ByteArray := prog_1_method_27_code
noncomputable def yX10_isPriceOf : MethodName := ⟨RX10, "isPriceOf", "(II)Z"⟩
noncomputable abbrev cX10_renew : ByteArray := prog_1_method_28_code
noncomputable def yX10_renew : MethodName := ⟨RX10, "renew", "()V"⟩
noncomputable abbrev cX10_neededCount : ByteArray := prog_1_method_29_code
noncomputable def yX10_neededCount : MethodName := ⟨RX10, "neededCount", "()I"⟩
noncomputable abbrev cX10_isTightAs : ByteArray := prog_1_method_30_code
noncomputable def yX10_isTightAs : MethodName := ⟨RX10, "isTightAs", "(I)Z"⟩
noncomputable def RX11 : String := "RodBenchModel"
noncomputable def TX11 : u_T := fun k => match k with
  | 0 => ("RodBenchModel", "pins", "I", false)
  | 1 => ("RodBenchModel", "rods", "I", false)
  | 2 => ("RodBenchModel", "px", "[I", true)
  | 3 => ("RodBenchModel", "py", "[I", true)
  | 4 => ("RodBenchModel", "fx", "[I", true)
  | 5 => ("RodBenchModel", "fy", "[I", true)
  | 6 => ("RodBenchModel", "held", "[Z", true)
  | 7 => ("RodBenchModel", "rKind", "[I", true)
  | 8 => ("RodBenchModel", "rA", "[I", true)
  | 9 => ("RodBenchModel", "rB", "[I", true)
  | 10 => ("RodBenchModel", "rPrice", "[I", true)
  | 11 => ("RodBenchModel", "isIn", "[Z", true)
  | 12 => ("RodBenchModel", "m", "[J", true)
  | 13 => ("RodBenchModel", "rows", "I", false)
  | 14 => ("RodBenchModel", "columns", "I", false)
  | 15 => ("RodBenchModel", "rowOf", "[I", true)
  | 16 => ("RodBenchModel", "nul", "[J", true)
  | 17 => ("RodBenchModel", "columnRod", "[I", true)
  | 18 => ("RodBenchModel", "bodies", "I", false)
  | 19 => ("RodBenchModel", "body", "[I", true)
  | 20 => ("RodBenchModel", "taken", "[Z", true)
  | 21 => ("RodBenchModel", "tried", "[Z", true)
  | 22 => ("RodBenchModel", "chosen", "[Z", true)
  | 23 => ("RodBenchModel", "planN", "I", false)
  | 24 => ("RodBenchModel", "plan", "[I", true)
  | 25 => ("RodBenchModel", "tray", "[I", true)
  | 26 => ("RodBenchModel", "trayN", "[I", true)
  | 27 => ("RodBenchModel", "trayKind", "[I", true)
  | 28 => ("RodBenchModel", "trayFirst", "[I", true)
  | 29 => ("RodBenchModel", "cell", "[J", true)
  | 30 => ("RodBenchModel", "status", "I", false)
  | _ => ("RodBenchModel", "trayOrder", "[I", true)
noncomputable def tyX11 : Nat → FieldType := fun k => match k with
  | 0 => .int
  | 1 => .int
  | 2 => .array .int
  | 3 => .array .int
  | 4 => .array .int
  | 5 => .array .int
  | 6 => .array .boolean
  | 7 => .array .int
  | 8 => .array .int
  | 9 => .array .int
  | 10 => .array .int
  | 11 => .array .boolean
  | 12 => .array .long
  | 13 => .int
  | 14 => .int
  | 15 => .array .int
  | 16 => .array .long
  | 17 => .array .int
  | 18 => .int
  | 19 => .array .int
  | 20 => .array .boolean
  | 21 => .array .boolean
  | 22 => .array .boolean
  | 23 => .int
  | 24 => .array .int
  | 25 => .array .int
  | 26 => .array .int
  | 27 => .array .int
  | 28 => .array .int
  | 29 => .array .long
  | 30 => .int
  | _ => .array .int
noncomputable abbrev wsX110 : List Cond := u_ws RX11 TX11 32
theorem nmX11 : ∀ a, a < 32 → ∀ b, b < 32 → a ≠ b → (TX11 a).2.1 ≠ (TX11 b).2.1 := by decide +kernel
theorem tyX11_ok : ∀ k, k < 32 → parseFieldDescriptor (TX11 k).2.2.1 = some (tyX11 k) := by decide +kernel
noncomputable abbrev cX11_init : ByteArray := prog_13_method_1_code
noncomputable def yX11_init : MethodName := ⟨RX11, "<init>", "()V"⟩
noncomputable abbrev cX11_isPin : ByteArray := prog_13_method_2_code
noncomputable def yX11_isPin : MethodName := ⟨RX11, "isPin", "(I)Z"⟩
noncomputable abbrev cX11_isRod : ByteArray := prog_13_method_3_code
noncomputable def yX11_isRod : MethodName := ⟨RX11, "isRod", "(I)Z"⟩
noncomputable abbrev cX11_isPlace : ByteArray := prog_13_method_4_code
noncomputable def yX11_isPlace : MethodName := ⟨RX11, "isPlace", "(I)Z"⟩
noncomputable abbrev cX11_pinAt : ByteArray := prog_13_method_5_code
noncomputable def yX11_pinAt : MethodName := ⟨RX11, "pinAt", "(II)I"⟩
noncomputable abbrev cX11_gcd : ByteArray := prog_13_method_6_code
noncomputable def yX11_gcd : MethodName := ⟨RX11, "gcd", "(JJ)J"⟩
noncomputable abbrev cX11_lower : ByteArray := prog_13_method_7_code
noncomputable def yX11_lower : MethodName := ⟨RX11, "lower", "(II)V"⟩
noncomputable abbrev cX11_steps : ByteArray := prog_13_method_8_code
noncomputable def yX11_steps : MethodName := ⟨RX11, "steps", "(I)I"⟩
noncomputable abbrev cX11_loose : ByteArray := prog_13_method_9_code
noncomputable def yX11_loose : MethodName := ⟨RX11, "loose", "(I)I"⟩
noncomputable abbrev cX11_nulOf : ByteArray := prog_13_method_10_code
noncomputable def yX11_nulOf : MethodName := ⟨RX11, "nulOf", "(I)V"⟩
noncomputable abbrev cX11_freeColumn : ByteArray := prog_13_method_11_code
noncomputable def yX11_freeColumn : MethodName := ⟨RX11, "freeColumn", "(I)I"⟩
noncomputable abbrev cX11_freePins : ByteArray := prog_13_method_12_code
noncomputable def yX11_freePins : MethodName := ⟨RX11, "freePins", "()I"⟩
noncomputable abbrev cX11_motionRow : ByteArray := prog_13_method_13_code
noncomputable def yX11_motionRow : MethodName := ⟨RX11, "motionRow", "(II)V"⟩
noncomputable abbrev cX11_motionsOf : ByteArray := prog_13_method_14_code
noncomputable def yX11_motionsOf : MethodName := ⟨RX11, "motionsOf", "([Z)I"⟩
noncomputable abbrev cX11_motions : ByteArray := prog_13_method_15_code
noncomputable def yX11_motions : MethodName := ⟨RX11, "motions", "()I"⟩
noncomputable abbrev cX11_planeMotions : ByteArray := prog_13_method_16_code
noncomputable def yX11_planeMotions : MethodName := ⟨RX11, "planeMotions", "()I"⟩
noncomputable abbrev cX11_isStiff : ByteArray := prog_13_method_17_code
noncomputable def yX11_isStiff : MethodName := ⟨RX11, "isStiff", "([Z)Z"⟩
noncomputable abbrev cX11_inCount : ByteArray := prog_13_method_18_code
noncomputable def yX11_inCount : MethodName := ⟨RX11, "inCount", "()I"⟩
noncomputable abbrev cX11_stresses : ByteArray := prog_13_method_19_code
noncomputable def yX11_stresses : MethodName := ⟨RX11, "stresses", "()I"⟩
noncomputable abbrev cX11_columnOf : ByteArray := prog_13_method_20_code
noncomputable def yX11_columnOf : MethodName := ⟨RX11, "columnOf", "(I)I"⟩
noncomputable abbrev cX11_carries : ByteArray := prog_13_method_21_code
noncomputable def yX11_carries : MethodName := ⟨RX11, "carries", "()Z"⟩
noncomputable abbrev cX11_isNeeded : ByteArray := prog_13_method_22_code
noncomputable def yX11_isNeeded : MethodName := ⟨RX11, "isNeeded", "(I)Z"⟩
noncomputable abbrev cX11_size : ByteArray := prog_13_method_23_code
noncomputable def yX11_size : MethodName := ⟨RX11, "size", "(I)I"⟩
noncomputable abbrev cX11_isBetween : ByteArray := prog_13_method_24_code
noncomputable def yX11_isBetween : MethodName := ⟨RX11, "isBetween", "(II)Z"⟩
noncomputable abbrev cX11_even : ByteArray := prog_13_method_25_code
noncomputable def yX11_even : MethodName := ⟨RX11, "even", "(I)I"⟩
noncomputable abbrev cX11_isEven : ByteArray := prog_13_method_26_code
noncomputable def yX11_isEven : MethodName := ⟨RX11, "isEven", "(I)Z"⟩
noncomputable abbrev cX11_isAhead : ByteArray := prog_13_method_27_code
noncomputable def yX11_isAhead : MethodName := ⟨RX11, "isAhead", "(II)Z"⟩
noncomputable abbrev cX11_findBodies : ByteArray := prog_13_method_28_code
noncomputable def yX11_findBodies : MethodName := ⟨RX11, "findBodies", "()V"⟩
noncomputable abbrev cX11_makePlan : ByteArray := prog_13_method_29_code
noncomputable def yX11_makePlan : MethodName := ⟨RX11, "makePlan", "()V"⟩
noncomputable abbrev cX11_cheapestLeft : ByteArray := prog_13_method_30_code
noncomputable def yX11_cheapestLeft : MethodName := ⟨RX11, "cheapestLeft", "()I"⟩
noncomputable abbrev cX11_pin : ByteArray := prog_13_method_31_code
noncomputable def yX11_pin : MethodName := ⟨RX11, "pin", "(II)I"⟩
noncomputable abbrev cX11_move : ByteArray := prog_13_method_32_code
noncomputable def yX11_move : MethodName := ⟨RX11, "move", "(III)I"⟩
noncomputable abbrev cX11_hold : ByteArray := prog_13_method_33_code
noncomputable def yX11_hold : MethodName := ⟨RX11, "hold", "(IZ)I"⟩
noncomputable abbrev cX11_rod : ByteArray := prog_13_method_34_code
noncomputable def yX11_rod : MethodName := ⟨RX11, "rod", "(IIII)I"⟩
noncomputable abbrev cX11_put : ByteArray := prog_13_method_35_code
noncomputable def yX11_put : MethodName := ⟨RX11, "put", "(IZ)I"⟩
noncomputable abbrev cX11_count : ByteArray := prog_13_method_36_code
noncomputable def yX11_count : MethodName := ⟨RX11, "count", "(I)I"⟩
noncomputable abbrev cX11_pinTold : ByteArray := prog_13_method_37_code
noncomputable def yX11_pinTold : MethodName := ⟨RX11, "pinTold", "(II)I"⟩
noncomputable abbrev cX11_rodTold : ByteArray := prog_13_method_38_code
noncomputable def yX11_rodTold : MethodName := ⟨RX11, "rodTold", "(II)I"⟩
noncomputable abbrev cX11_motion : ByteArray := prog_13_method_39_code
noncomputable def yX11_motion : MethodName := ⟨RX11, "motion", "(III)J"⟩
noncomputable abbrev cX11_stress : ByteArray := prog_13_method_40_code
noncomputable def yX11_stress : MethodName := ⟨RX11, "stress", "(II)J"⟩
noncomputable abbrev cX11_stiff : ByteArray := prog_13_method_41_code
noncomputable def yX11_stiff : MethodName := ⟨RX11, "stiff", "()I"⟩
noncomputable abbrev cX11_tight : ByteArray := prog_13_method_42_code
noncomputable def yX11_tight : MethodName := ⟨RX11, "tight", "()I"⟩
noncomputable abbrev cX11_load : ByteArray := prog_13_method_43_code
noncomputable def yX11_load : MethodName := ⟨RX11, "load", "(III)I"⟩
noncomputable abbrev cX11_carry : ByteArray := prog_13_method_44_code
noncomputable def yX11_carry : MethodName := ⟨RX11, "carry", "()I"⟩
noncomputable abbrev cX11_force : ByteArray := prog_13_method_45_code
noncomputable def yX11_force : MethodName := ⟨RX11, "force", "(II)J"⟩
noncomputable abbrev cX11_gives : ByteArray := prog_13_method_46_code
noncomputable def yX11_gives : MethodName := ⟨RX11, "gives", "()I"⟩
noncomputable abbrev cX11_could : ByteArray := prog_13_method_47_code
noncomputable def yX11_could : MethodName := ⟨RX11, "could", "()I"⟩
noncomputable abbrev cX11_body : ByteArray := prog_13_method_48_code
noncomputable def yX11_body : MethodName := ⟨RX11, "body", "(II)I"⟩
noncomputable abbrev cX11_plan : ByteArray := prog_13_method_49_code
noncomputable def yX11_plan : MethodName := ⟨RX11, "plan", "(I)I"⟩
noncomputable abbrev cX11_cheapest : ByteArray := prog_13_method_50_code
noncomputable def yX11_cheapest : MethodName := ⟨RX11, "cheapest", "()I"⟩
noncomputable abbrev cX11_refused : ByteArray := prog_13_method_51_code
noncomputable def yX11_refused : MethodName := ⟨RX11, "refused", "(I)I"⟩
noncomputable abbrev cX11_done : ByteArray := prog_13_method_52_code
noncomputable def yX11_done : MethodName := ⟨RX11, "done", "(I)I"⟩
noncomputable abbrev cX11_tray : ByteArray := prog_13_method_53_code
noncomputable def yX11_tray : MethodName := ⟨RX11, "tray", "(III)I"⟩
noncomputable abbrev cX11_forge : ByteArray := prog_13_method_54_code
noncomputable def yX11_forge : MethodName := ⟨RX11, "forge", "(III)I"⟩
noncomputable abbrev cX11_status : ByteArray := prog_13_method_55_code
noncomputable def yX11_status : MethodName := ⟨RX11, "status", "()I"⟩
noncomputable def RJx145de : String := "java/io/Serializable"
noncomputable def TJx145de : u_T := fun k => match k with
  | _ => ("", "", "", false)
noncomputable def tyJx145de : Nat → FieldType := fun k => match k with
  | _ => .int
noncomputable abbrev wsJx145de0 : List Cond := u_ws RJx145de TJx145de 0
theorem nmJx145de : ∀ a, a < 0 → ∀ b, b < 0 → a ≠ b → (TJx145de a).2.1 ≠ (TJx145de b).2.1 := by decide +kernel
theorem tyJx145de_ok : ∀ k, k < 0 → parseFieldDescriptor (TJx145de k).2.2.1 = some (tyJx145de k) := by decide +kernel
noncomputable def RJx8e188 : String := "java/lang/Cloneable"
noncomputable def TJx8e188 : u_T := fun k => match k with
  | _ => ("", "", "", false)
noncomputable def tyJx8e188 : Nat → FieldType := fun k => match k with
  | _ => .int
noncomputable abbrev wsJx8e1880 : List Cond := u_ws RJx8e188 TJx8e188 0
theorem nmJx8e188 : ∀ a, a < 0 → ∀ b, b < 0 → a ≠ b → (TJx8e188 a).2.1 ≠ (TJx8e188 b).2.1 := by decide +kernel
theorem tyJx8e188_ok : ∀ k, k < 0 → parseFieldDescriptor (TJx8e188 k).2.2.1 = some (tyJx8e188 k) := by decide +kernel
noncomputable def RJ6 : String := "java/lang/Integer"
noncomputable def TJ6 : u_T := fun k => match k with
  | _ => ("", "", "", false)
noncomputable def tyJ6 : Nat → FieldType := fun k => match k with
  | _ => .int
noncomputable abbrev wsJ60 : List Cond := u_ws RJ6 TJ6 0
theorem nmJ6 : ∀ a, a < 0 → ∀ b, b < 0 → a ≠ b → (TJ6 a).2.1 ≠ (TJ6 b).2.1 := by decide +kernel
theorem tyJ6_ok : ∀ k, k < 0 → parseFieldDescriptor (TJ6 k).2.2.1 = some (tyJ6 k) := by decide +kernel
noncomputable abbrev cJ6_bitCount_0f7a4 : ByteArray := prog_16_method_49_code
noncomputable def yJ6_bitCount_0f7a4 : MethodName := ⟨RJ6, "bitCount", "(I)I"⟩
noncomputable def RJxab1ab : String := "java/lang/Iterable"
noncomputable def TJxab1ab : u_T := fun k => match k with
  | _ => ("", "", "", false)
noncomputable def tyJxab1ab : Nat → FieldType := fun k => match k with
  | _ => .int
noncomputable abbrev wsJxab1ab0 : List Cond := u_ws RJxab1ab TJxab1ab 0
theorem nmJxab1ab : ∀ a, a < 0 → ∀ b, b < 0 → a ≠ b → (TJxab1ab a).2.1 ≠ (TJxab1ab b).2.1 := by decide +kernel
theorem tyJxab1ab_ok : ∀ k, k < 0 → parseFieldDescriptor (TJxab1ab k).2.2.1 = some (tyJxab1ab k) := by decide +kernel
noncomputable def RJ9 : String := "java/lang/Math"
noncomputable def TJ9 : u_T := fun k => match k with
  | _ => ("", "", "", false)
noncomputable def tyJ9 : Nat → FieldType := fun k => match k with
  | _ => .int
noncomputable abbrev wsJ90 : List Cond := u_ws RJ9 TJ9 0
theorem nmJ9 : ∀ a, a < 0 → ∀ b, b < 0 → a ≠ b → (TJ9 a).2.1 ≠ (TJ9 b).2.1 := by decide +kernel
theorem tyJ9_ok : ∀ k, k < 0 → parseFieldDescriptor (TJ9 k).2.2.1 = some (tyJ9 k) := by decide +kernel
noncomputable abbrev cJ9_floorMod_7cf53 : ByteArray := prog_18_method_50_code
noncomputable def yJ9_floorMod_7cf53 : MethodName := ⟨RJ9, "floorMod", "(II)I"⟩
noncomputable abbrev cJ9_abs_067f4 : ByteArray := prog_18_method_61_code
noncomputable def yJ9_abs_067f4 : MethodName := ⟨RJ9, "abs", "(J)J"⟩
noncomputable abbrev cJ9_max_7cf53 : ByteArray := prog_18_method_65_code
noncomputable def yJ9_max_7cf53 : MethodName := ⟨RJ9, "max", "(II)I"⟩
noncomputable abbrev cJ9_min_7cf53 : ByteArray := prog_18_method_69_code
noncomputable def yJ9_min_7cf53 : MethodName := ⟨RJ9, "min", "(II)I"⟩
noncomputable def RJ10 : String := "java/lang/System"
noncomputable def TJ10 : u_T := fun k => match k with
  | _ => ("", "", "", false)
noncomputable def tyJ10 : Nat → FieldType := fun k => match k with
  | _ => .int
noncomputable abbrev wsJ100 : List Cond := u_ws RJ10 TJ10 0
theorem nmJ10 : ∀ a, a < 0 → ∀ b, b < 0 → a ≠ b → (TJ10 a).2.1 ≠ (TJ10 b).2.1 := by decide +kernel
theorem tyJ10_ok : ∀ k, k < 0 → parseFieldDescriptor (TJ10 k).2.2.1 = some (tyJ10 k) := by decide +kernel
noncomputable def RJxa1e45 : String := "java/util/AbstractCollection"
noncomputable def TJxa1e45 : u_T := fun k => match k with
  | _ => ("", "", "", false)
noncomputable def tyJxa1e45 : Nat → FieldType := fun k => match k with
  | _ => .int
noncomputable abbrev wsJxa1e450 : List Cond := u_ws RJxa1e45 TJxa1e45 0
theorem nmJxa1e45 : ∀ a, a < 0 → ∀ b, b < 0 → a ≠ b → (TJxa1e45 a).2.1 ≠ (TJxa1e45 b).2.1 := by decide +kernel
theorem tyJxa1e45_ok : ∀ k, k < 0 → parseFieldDescriptor (TJxa1e45 k).2.2.1 = some (tyJxa1e45 k) := by decide +kernel
noncomputable abbrev cJxa1e45_init_da8c8 : ByteArray := prog_20_method_1_code
noncomputable def yJxa1e45_init_da8c8 : MethodName := ⟨RJxa1e45, "<init>", "()V"⟩
noncomputable def RJxc12de : String := "java/util/AbstractList"
noncomputable def TJxc12de : u_T := fun k => match k with
  | _ => ("", "", "", false)
noncomputable def tyJxc12de : Nat → FieldType := fun k => match k with
  | _ => .int
noncomputable abbrev wsJxc12de0 : List Cond := u_ws RJxc12de TJxc12de 0
theorem nmJxc12de : ∀ a, a < 0 → ∀ b, b < 0 → a ≠ b → (TJxc12de a).2.1 ≠ (TJxc12de b).2.1 := by decide +kernel
theorem tyJxc12de_ok : ∀ k, k < 0 → parseFieldDescriptor (TJxc12de k).2.2.1 = some (tyJxc12de k) := by decide +kernel
noncomputable abbrev cJxc12de_init_da8c8 : ByteArray := prog_21_method_1_code
noncomputable def yJxc12de_init_da8c8 : MethodName := ⟨RJxc12de, "<init>", "()V"⟩
noncomputable def RJx4a65c : String := "java/util/ArrayList"
noncomputable def TJx4a65c : u_T := fun k => match k with
  | 0 => ("java/util/AbstractList", "modCount", "I", false)
  | 1 => ("java/util/ArrayList", "elementData", "[Ljava/lang/Object;", false)
  | _ => ("java/util/ArrayList", "size", "I", false)
noncomputable def tyJx4a65c : Nat → FieldType := fun k => match k with
  | 0 => .int
  | 1 => .array (.object "java/lang/Object")
  | _ => .int
noncomputable abbrev wsJx4a65c0 : List Cond := u_ws RJx4a65c TJx4a65c 3
theorem nmJx4a65c : ∀ a, a < 3 → ∀ b, b < 3 → a ≠ b → (TJx4a65c a).2.1 ≠ (TJx4a65c b).2.1 := by decide +kernel
theorem tyJx4a65c_ok : ∀ k, k < 3 → parseFieldDescriptor (TJx4a65c k).2.2.1 = some (tyJx4a65c k) := by decide +kernel
noncomputable abbrev cJx4a65c_init_da8c8 : ByteArray := prog_22_method_2_code
noncomputable def yJx4a65c_init_da8c8 : MethodName := ⟨RJx4a65c, "<init>", "()V"⟩
noncomputable abbrev cJx4a65c_grow_92f84 : ByteArray := prog_22_method_6_code
noncomputable def yJx4a65c_grow_92f84 : MethodName := ⟨RJx4a65c, "grow", "(I)[Ljava/lang/Object;"⟩
noncomputable abbrev cJx4a65c_grow_d5877 : ByteArray := prog_22_method_7_code
noncomputable def yJx4a65c_grow_d5877 : MethodName := ⟨RJx4a65c, "grow", "()[Ljava/lang/Object;"⟩
noncomputable abbrev cJx4a65c_size_8abf5 : ByteArray := prog_22_method_8_code
noncomputable def yJx4a65c_size_8abf5 : MethodName := ⟨RJx4a65c, "size", "()I"⟩
noncomputable abbrev cJx4a65c_elementData_915e3 : ByteArray := prog_22_method_18_code
noncomputable def yJx4a65c_elementData_915e3 : MethodName := ⟨RJx4a65c, "elementData", "(I)Ljava/lang/Object;"⟩
noncomputable abbrev cJx4a65c_get_915e3 : ByteArray := prog_22_method_20_code
noncomputable def yJx4a65c_get_915e3 : MethodName := ⟨RJx4a65c, "get", "(I)Ljava/lang/Object;"⟩
noncomputable abbrev cJx4a65c_add_72be8 : ByteArray := prog_22_method_24_code
noncomputable def yJx4a65c_add_72be8 : MethodName := ⟨RJx4a65c, "add", "(Ljava/lang/Object;[Ljava/lang/Object;I)V"⟩
noncomputable abbrev cJx4a65c_add_9ea2d : ByteArray := prog_22_method_25_code
noncomputable def yJx4a65c_add_9ea2d : MethodName := ⟨RJx4a65c, "add", "(Ljava/lang/Object;)Z"⟩
noncomputable abbrev cJx4a65c_add_7a177 : ByteArray := prog_22_method_26_code
noncomputable def yJx4a65c_add_7a177 : MethodName := ⟨RJx4a65c, "add", "(ILjava/lang/Object;)V"⟩
noncomputable abbrev cJx4a65c_clear_da8c8 : ByteArray := prog_22_method_40_code
noncomputable def yJx4a65c_clear_da8c8 : MethodName := ⟨RJx4a65c, "clear", "()V"⟩
noncomputable abbrev cJx4a65c_rangeCheckForAdd_d00df : ByteArray := prog_22_method_45_code
noncomputable def yJx4a65c_rangeCheckForAdd_d00df : MethodName := ⟨RJx4a65c, "rangeCheckForAdd", "(I)V"⟩
noncomputable def RJ7 : String := "java/util/Arrays"
noncomputable def TJ7 : u_T := fun k => match k with
  | _ => ("", "", "", false)
noncomputable def tyJ7 : Nat → FieldType := fun k => match k with
  | _ => .int
noncomputable abbrev wsJ70 : List Cond := u_ws RJ7 TJ7 0
theorem nmJ7 : ∀ a, a < 0 → ∀ b, b < 0 → a ≠ b → (TJ7 a).2.1 ≠ (TJ7 b).2.1 := by decide +kernel
theorem tyJ7_ok : ∀ k, k < 0 → parseFieldDescriptor (TJ7 k).2.2.1 = some (tyJ7 k) := by decide +kernel
noncomputable abbrev cJ7_copyOf_1904c : ByteArray := prog_23_method_119_code
noncomputable def yJ7_copyOf_1904c : MethodName := ⟨RJ7, "copyOf", "([Ljava/lang/Object;I)[Ljava/lang/Object;"⟩
noncomputable abbrev cJ7_copyOf_6403c : ByteArray := prog_23_method_120_code
noncomputable def yJ7_copyOf_6403c : MethodName := ⟨RJ7, "copyOf", "([Ljava/lang/Object;ILjava/lang/Class;)[Ljava/lang/Object;"⟩
noncomputable def RJx5ef63 : String := "java/util/Collection"
noncomputable def TJx5ef63 : u_T := fun k => match k with
  | _ => ("", "", "", false)
noncomputable def tyJx5ef63 : Nat → FieldType := fun k => match k with
  | _ => .int
noncomputable abbrev wsJx5ef630 : List Cond := u_ws RJx5ef63 TJx5ef63 0
theorem nmJx5ef63 : ∀ a, a < 0 → ∀ b, b < 0 → a ≠ b → (TJx5ef63 a).2.1 ≠ (TJx5ef63 b).2.1 := by decide +kernel
theorem tyJx5ef63_ok : ∀ k, k < 0 → parseFieldDescriptor (TJx5ef63 k).2.2.1 = some (tyJx5ef63 k) := by decide +kernel
noncomputable def RJxbd725 : String := "java/util/List"
noncomputable def TJxbd725 : u_T := fun k => match k with
  | _ => ("", "", "", false)
noncomputable def tyJxbd725 : Nat → FieldType := fun k => match k with
  | _ => .int
noncomputable abbrev wsJxbd7250 : List Cond := u_ws RJxbd725 TJxbd725 0
theorem nmJxbd725 : ∀ a, a < 0 → ∀ b, b < 0 → a ≠ b → (TJxbd725 a).2.1 ≠ (TJxbd725 b).2.1 := by decide +kernel
theorem tyJxbd725_ok : ∀ k, k < 0 → parseFieldDescriptor (TJxbd725 k).2.2.1 = some (tyJxbd725 k) := by decide +kernel
noncomputable def RJ15 : String := "java/util/Objects"
noncomputable def TJ15 : u_T := fun k => match k with
  | _ => ("", "", "", false)
noncomputable def tyJ15 : Nat → FieldType := fun k => match k with
  | _ => .int
noncomputable abbrev wsJ150 : List Cond := u_ws RJ15 TJ15 0
theorem nmJ15 : ∀ a, a < 0 → ∀ b, b < 0 → a ≠ b → (TJ15 a).2.1 ≠ (TJ15 b).2.1 := by decide +kernel
theorem tyJ15_ok : ∀ k, k < 0 → parseFieldDescriptor (TJ15 k).2.2.1 = some (tyJ15 k) := by decide +kernel
noncomputable abbrev cJ15_checkIndex_7cf53 : ByteArray := prog_26_method_17_code
noncomputable def yJ15_checkIndex_7cf53 : MethodName := ⟨RJ15, "checkIndex", "(II)I"⟩
noncomputable def RJxf0a74 : String := "java/util/RandomAccess"
noncomputable def TJxf0a74 : u_T := fun k => match k with
  | _ => ("", "", "", false)
noncomputable def tyJxf0a74 : Nat → FieldType := fun k => match k with
  | _ => .int
noncomputable abbrev wsJxf0a740 : List Cond := u_ws RJxf0a74 TJxf0a74 0
theorem nmJxf0a74 : ∀ a, a < 0 → ∀ b, b < 0 → a ≠ b → (TJxf0a74 a).2.1 ≠ (TJxf0a74 b).2.1 := by decide +kernel
theorem tyJxf0a74_ok : ∀ k, k < 0 → parseFieldDescriptor (TJxf0a74 k).2.2.1 = some (tyJxf0a74 k) := by decide +kernel
noncomputable def RJxa66e6 : String := "java/util/SequencedCollection"
noncomputable def TJxa66e6 : u_T := fun k => match k with
  | _ => ("", "", "", false)
noncomputable def tyJxa66e6 : Nat → FieldType := fun k => match k with
  | _ => .int
noncomputable abbrev wsJxa66e60 : List Cond := u_ws RJxa66e6 TJxa66e6 0
theorem nmJxa66e6 : ∀ a, a < 0 → ∀ b, b < 0 → a ≠ b → (TJxa66e6 a).2.1 ≠ (TJxa66e6 b).2.1 := by decide +kernel
theorem tyJxa66e6_ok : ∀ k, k < 0 → parseFieldDescriptor (TJxa66e6 k).2.2.1 = some (tyJxa66e6 k) := by decide +kernel
noncomputable def RJ8 : String := "jdk/internal/util/ArraysSupport"
noncomputable def TJ8 : u_T := fun k => match k with
  | _ => ("", "", "", false)
noncomputable def tyJ8 : Nat → FieldType := fun k => match k with
  | _ => .int
noncomputable abbrev wsJ80 : List Cond := u_ws RJ8 TJ8 0
theorem nmJ8 : ∀ a, a < 0 → ∀ b, b < 0 → a ≠ b → (TJ8 a).2.1 ≠ (TJ8 b).2.1 := by decide +kernel
theorem tyJ8_ok : ∀ k, k < 0 → parseFieldDescriptor (TJ8 k).2.2.1 = some (tyJ8 k) := by decide +kernel
noncomputable abbrev cJ8_newLength_cabcc : ByteArray := prog_29_method_27_code
noncomputable def yJ8_newLength_cabcc : MethodName := ⟨RJ8, "newLength", "(III)I"⟩
noncomputable abbrev cJ8_hugeLength_7cf53 : ByteArray := prog_29_method_28_code
noncomputable def yJ8_hugeLength_7cf53 : MethodName := ⟨RJ8, "hugeLength", "(II)I"⟩
noncomputable def RJ3 : String := "jdk/internal/util/Preconditions"
noncomputable def TJ3 : u_T := fun k => match k with
  | _ => ("", "", "", false)
noncomputable def tyJ3 : Nat → FieldType := fun k => match k with
  | _ => .int
noncomputable abbrev wsJ30 : List Cond := u_ws RJ3 TJ3 0
theorem nmJ3 : ∀ a, a < 0 → ∀ b, b < 0 → a ≠ b → (TJ3 a).2.1 ≠ (TJ3 b).2.1 := by decide +kernel
theorem tyJ3_ok : ∀ k, k < 0 → parseFieldDescriptor (TJ3 k).2.2.1 = some (tyJ3 k) := by decide +kernel
noncomputable abbrev cJ3_checkIndex_8e157 : ByteArray := prog_30_method_11_code
noncomputable def yJ3_checkIndex_8e157 : MethodName := ⟨RJ3, "checkIndex", "(IILjava/util/function/BiFunction;)I"⟩
noncomputable def RL : String := "RodBenchLaw"
noncomputable abbrev cL_law : ByteArray := code
noncomputable def yL_law : MethodName := ⟨RL, "law", "([I)Z"⟩
noncomputable abbrev vwCl : List vw_C := [(RJx4a65c, TJx4a65c, 3), (RX0, TX0, 3), (RX1, TX1, 5), (RX2, TX2, 4), (RX3, TX3, 4), (RX4, TX4, 6), (RX5, TX5, 6), (RX6, TX6, 2), (RX7, TX7, 8), (RX9, TX9, 4), (RX10, TX10, 5), (RX11, TX11, 32)]
end
section
/-! THE WORDS: all good words of the tables in one list; a word by its place -/
noncomputable def COM : List Cond := lw_tbl.filter goodWord
theorem com_of (i : Nat) {w : Cond} (h : lw_tbl[i]? = some w) (hg : goodWord w = true) : w ∈ COM := List.mem_filter.mpr ⟨List.mem_of_getElem? h, hg⟩
theorem com_in {w : Cond} (h : w ∈ COM) : w ∈ lw_tbl := (List.mem_filter.mp h).1
theorem com_good {w : Cond} (h : w ∈ COM) : w ∈ COM ∧ ((w.onTables && w.keeps) = true ∨ ∃ ty, w = .arrayClass ty) := ⟨h, good_of_word (List.mem_filter.mp h).2⟩
noncomputable def WS (y : MethodName) (b : ByteArray) (n : Nat) (r : Option FieldType) : List Cond := .code y b n r :: COM
theorem good_WS {y : MethodName} {b : ByteArray} {n : Nat} {r : Option FieldType} (h : Cond.code y b n r ∈ COM) : GoodIn COM (WS y b n r) := by
  intro w hw
  rcases List.mem_cons.mp hw with rfl | hw
  · exact com_good h
  · exact com_good hw
theorem good_V {own C : String} {idx : Nat} {y : MethodName} {b : ByteArray} {n : Nat} {r : Option FieldType} (h1 : Cond.methodLink own idx y ∈ COM) (h2 : Cond.instanceMethod y ∈ COM) (h3 : Cond.selects C y y ∈ COM) (h4 : Cond.initialized C ∈ COM) (h : Cond.code y b n r ∈ COM) : GoodIn COM (wsV own idx C y (WS y b n r)) := by
  intro w hw
  rcases List.mem_append.mp hw with hw | hw
  · simp only [List.mem_cons, List.not_mem_nil, or_false] at hw
    rcases hw with rfl | rfl | rfl | rfl
    · exact com_good h1
    · exact com_good h2
    · exact com_good h3
    · exact com_good h4
  · exact good_WS h w hw
theorem good_S {own : String} {idx : Nat} {y : MethodName} {b : ByteArray} {n : Nat} {r : Option FieldType} (h1 : Cond.methodLink own idx y ∈ COM) (h2 : Cond.static y ∈ COM) (h4 : Cond.initialized y.cls ∈ COM) (h : Cond.code y b n r ∈ COM) : GoodIn COM (va_wsS own idx y (WS y b n r)) := by
  intro w hw
  rcases List.mem_append.mp hw with hw | hw
  · simp only [List.mem_cons, List.not_mem_nil, or_false] at hw
    rcases hw with rfl | rfl | rfl
    · exact com_good h1
    · exact com_good h2
    · exact com_good h4
  · exact good_WS h w hw
theorem good_F {own C : String} {idx : Nat} {x y : MethodName} {b : ByteArray} {n : Nat} {r : Option FieldType} (h1 : Cond.methodLink own idx x ∈ COM) (h3 : Cond.selects C x y ∈ COM) (h2 : Cond.instanceMethod y ∈ COM) (h4 : Cond.initialized y.cls ∈ COM) (h : Cond.code y b n r ∈ COM) : GoodIn COM (va_wsF own idx C x y (WS y b n r)) := by
  intro w hw
  rcases List.mem_append.mp hw with hw | hw
  · simp only [List.mem_cons, List.not_mem_nil, or_false] at hw
    rcases hw with rfl | rfl | rfl | rfl
    · exact com_good h1
    · exact com_good h3
    · exact com_good h2
    · exact com_good h4
  · exact good_WS h w hw
theorem mw_0 : ((Jvm.Cond.selects "java/util/ArrayList" ({ cls := "java/util/ArrayList", name := "add", desc := "(Ljava/lang/Object;[Ljava/lang/Object;I)V" } : Jvm.MethodName) ({ cls := "java/util/ArrayList", name := "add", desc := "(Ljava/lang/Object;[Ljava/lang/Object;I)V" } : Jvm.MethodName)) : Cond) ∈ COM := com_of 0 (by decide +kernel) (by decide +kernel)
theorem mw_1 : ((Jvm.Cond.selects "java/util/ArrayList" ({ cls := "java/util/ArrayList", name := "grow", desc := "()[Ljava/lang/Object;" } : Jvm.MethodName) ({ cls := "java/util/ArrayList", name := "grow", desc := "()[Ljava/lang/Object;" } : Jvm.MethodName)) : Cond) ∈ COM := com_of 1 (by decide +kernel) (by decide +kernel)
theorem mw_2 : ((Jvm.Cond.selects "java/util/ArrayList" ({ cls := "java/util/ArrayList", name := "grow", desc := "(I)[Ljava/lang/Object;" } : Jvm.MethodName) ({ cls := "java/util/ArrayList", name := "grow", desc := "(I)[Ljava/lang/Object;" } : Jvm.MethodName)) : Cond) ∈ COM := com_of 2 (by decide +kernel) (by decide +kernel)
theorem mw_3 : ((Jvm.Cond.selects "RodBench" ({ cls := "RodBench", name := "renew", desc := "()V" } : Jvm.MethodName) ({ cls := "RodBench", name := "renew", desc := "()V" } : Jvm.MethodName)) : Cond) ∈ COM := com_of 3 (by decide +kernel) (by decide +kernel)
theorem mw_4 : ((Jvm.Cond.selects "RodBench$Table" ({ cls := "RodBench$Table", name := "start", desc := "(II)V" } : Jvm.MethodName) ({ cls := "RodBench$Table", name := "start", desc := "(II)V" } : Jvm.MethodName)) : Cond) ∈ COM := com_of 4 (by decide +kernel) (by decide +kernel)
theorem mw_5 : ((Jvm.Cond.selects "RodBench$Table" ({ cls := "RodBench$Table", name := "openRow", desc := "(I)I" } : Jvm.MethodName) ({ cls := "RodBench$Table", name := "openRow", desc := "(I)I" } : Jvm.MethodName)) : Cond) ∈ COM := com_of 5 (by decide +kernel) (by decide +kernel)
theorem mw_6 : ((Jvm.Cond.selects "RodBench$Table" ({ cls := "RodBench$Table", name := "makeAboveNought", desc := "([JI)V" } : Jvm.MethodName) ({ cls := "RodBench$Table", name := "makeAboveNought", desc := "([JI)V" } : Jvm.MethodName)) : Cond) ∈ COM := com_of 6 (by decide +kernel) (by decide +kernel)
theorem mw_7 : ((Jvm.Cond.selects "RodBench$Table" ({ cls := "RodBench$Table", name := "clearColumn", desc := "(II)V" } : Jvm.MethodName) ({ cls := "RodBench$Table", name := "clearColumn", desc := "(II)V" } : Jvm.MethodName)) : Cond) ∈ COM := com_of 7 (by decide +kernel) (by decide +kernel)
theorem mw_8 : ((Jvm.Cond.selects "RodBench$Table" ({ cls := "RodBench$Table", name := "takeOff", desc := "([J[JI)V" } : Jvm.MethodName) ({ cls := "RodBench$Table", name := "takeOff", desc := "([J[JI)V" } : Jvm.MethodName)) : Cond) ∈ COM := com_of 8 (by decide +kernel) (by decide +kernel)
theorem mw_9 : ((Jvm.Cond.selects "RodBench$Table" ({ cls := "RodBench$Table", name := "shrink", desc := "([J)V" } : Jvm.MethodName) ({ cls := "RodBench$Table", name := "shrink", desc := "([J)V" } : Jvm.MethodName)) : Cond) ∈ COM := com_of 9 (by decide +kernel) (by decide +kernel)
theorem mw_10 : ((Jvm.Cond.selects "RodBench$Table" ({ cls := "RodBench$Table", name := "scaleOf", desc := "(I)J" } : Jvm.MethodName) ({ cls := "RodBench$Table", name := "scaleOf", desc := "(I)J" } : Jvm.MethodName)) : Cond) ∈ COM := com_of 10 (by decide +kernel) (by decide +kernel)
theorem mw_11 : ((Jvm.Cond.selects "RodBench$Offers" ({ cls := "RodBench$Offers", name := "queueRodsIn", desc := "()V" } : Jvm.MethodName) ({ cls := "RodBench$Offers", name := "queueRodsIn", desc := "()V" } : Jvm.MethodName)) : Cond) ∈ COM := com_of 11 (by decide +kernel) (by decide +kernel)
theorem mw_12 : ((Jvm.Cond.selects "RodBench$Offers" ({ cls := "RodBench$Offers", name := "queueRodsOut", desc := "()V" } : Jvm.MethodName) ({ cls := "RodBench$Offers", name := "queueRodsOut", desc := "()V" } : Jvm.MethodName)) : Cond) ∈ COM := com_of 12 (by decide +kernel) (by decide +kernel)
theorem mw_13 : ((Jvm.Cond.selects "java/util/ArrayList" ({ cls := "java/util/ArrayList", name := "rangeCheckForAdd", desc := "(I)V" } : Jvm.MethodName) ({ cls := "java/util/ArrayList", name := "rangeCheckForAdd", desc := "(I)V" } : Jvm.MethodName)) : Cond) ∈ COM := com_of 13 (by decide +kernel) (by decide +kernel)
theorem mw_14 : ((Jvm.Cond.selects "RodBench$Bodies" ({ cls := "RodBench$Bodies", name := "mostEven", desc := "(I)I" } : Jvm.MethodName) ({ cls := "RodBench$Bodies", name := "mostEven", desc := "(I)I" } : Jvm.MethodName)) : Cond) ∈ COM := com_of 14 (by decide +kernel) (by decide +kernel)
theorem mw_15 : ((Jvm.Cond.selects "RodBench$Bodies" ({ cls := "RodBench$Bodies", name := "hasRoom", desc := "(I)Z" } : Jvm.MethodName) ({ cls := "RodBench$Bodies", name := "hasRoom", desc := "(I)Z" } : Jvm.MethodName)) : Cond) ∈ COM := com_of 15 (by decide +kernel) (by decide +kernel)
theorem mw_16 : ((Jvm.Cond.selects "RodBench$Bodies" ({ cls := "RodBench$Bodies", name := "choose", desc := "(I)V" } : Jvm.MethodName) ({ cls := "RodBench$Bodies", name := "choose", desc := "(I)V" } : Jvm.MethodName)) : Cond) ∈ COM := com_of 16 (by decide +kernel) (by decide +kernel)
theorem mw_17 : ((Jvm.Cond.selects "RodBench$Bodies" ({ cls := "RodBench$Bodies", name := "isInBody", desc := "(I)Z" } : Jvm.MethodName) ({ cls := "RodBench$Bodies", name := "isInBody", desc := "(I)Z" } : Jvm.MethodName)) : Cond) ∈ COM := com_of 17 (by decide +kernel) (by decide +kernel)
theorem mw_18 : ((Jvm.Cond.selects "RodBench$Bodies" ({ cls := "RodBench$Bodies", name := "isWhole", desc := "(I)Z" } : Jvm.MethodName) ({ cls := "RodBench$Bodies", name := "isWhole", desc := "(I)Z" } : Jvm.MethodName)) : Cond) ∈ COM := com_of 18 (by decide +kernel) (by decide +kernel)
theorem mw_19 : ((Jvm.Cond.selects "RodBench" ({ cls := "RodBench", name := "neededCount", desc := "()I" } : Jvm.MethodName) ({ cls := "RodBench", name := "neededCount", desc := "()I" } : Jvm.MethodName)) : Cond) ∈ COM := com_of 19 (by decide +kernel) (by decide +kernel)
theorem mw_20 : ((Jvm.Cond.selects "RodBench$Balance" ({ cls := "RodBench$Balance", name := "columnOf", desc := "(LRodBench$Rod;)I" } : Jvm.MethodName) ({ cls := "RodBench$Balance", name := "columnOf", desc := "(LRodBench$Rod;)I" } : Jvm.MethodName)) : Cond) ∈ COM := com_of 20 (by decide +kernel) (by decide +kernel)
theorem mw_21 : ((Jvm.Cond.selects "RodBench" ({ cls := "RodBench", name := "isTightAs", desc := "(I)Z" } : Jvm.MethodName) ({ cls := "RodBench", name := "isTightAs", desc := "(I)Z" } : Jvm.MethodName)) : Cond) ∈ COM := com_of 21 (by decide +kernel) (by decide +kernel)
theorem mw_22 : ((Jvm.Cond.selects "RodBench$Trays" ({ cls := "RodBench$Trays", name := "isThing", desc := "(II)Z" } : Jvm.MethodName) ({ cls := "RodBench$Trays", name := "isThing", desc := "(II)Z" } : Jvm.MethodName)) : Cond) ∈ COM := com_of 22 (by decide +kernel) (by decide +kernel)
theorem mw_23 : ((Jvm.Cond.selects "RodBench$Trays" ({ cls := "RodBench$Trays", name := "refuse", desc := "(I)I" } : Jvm.MethodName) ({ cls := "RodBench$Trays", name := "refuse", desc := "(I)I" } : Jvm.MethodName)) : Cond) ∈ COM := com_of 23 (by decide +kernel) (by decide +kernel)
theorem mw_24 : ((Jvm.Cond.selects "RodBench$Trays" ({ cls := "RodBench$Trays", name := "thingFor", desc := "(II)LRodBench$Thing;" } : Jvm.MethodName) ({ cls := "RodBench$Trays", name := "thingFor", desc := "(II)LRodBench$Thing;" } : Jvm.MethodName)) : Cond) ∈ COM := com_of 24 (by decide +kernel) (by decide +kernel)
theorem mw_25 : ((Jvm.Cond.selects "RodBench$Trays" ({ cls := "RodBench$Trays", name := "motionRow", desc := "(I)LRodBench$Row;" } : Jvm.MethodName) ({ cls := "RodBench$Trays", name := "motionRow", desc := "(I)LRodBench$Row;" } : Jvm.MethodName)) : Cond) ∈ COM := com_of 25 (by decide +kernel) (by decide +kernel)
theorem mw_26 : ((Jvm.Cond.selects "RodBench$Trays" ({ cls := "RodBench$Trays", name := "rodRow", desc := "(I)LRodBench$Row;" } : Jvm.MethodName) ({ cls := "RodBench$Trays", name := "rodRow", desc := "(I)LRodBench$Row;" } : Jvm.MethodName)) : Cond) ∈ COM := com_of 26 (by decide +kernel) (by decide +kernel)
theorem mw_27 : ((Jvm.Cond.selects "RodBench$Trays" ({ cls := "RodBench$Trays", name := "done", desc := "(I)I" } : Jvm.MethodName) ({ cls := "RodBench$Trays", name := "done", desc := "(I)I" } : Jvm.MethodName)) : Cond) ∈ COM := com_of 27 (by decide +kernel) (by decide +kernel)
theorem mw_28 : ((Jvm.Cond.selects "RodBench$Trays" ({ cls := "RodBench$Trays", name := "firstPinAs", desc := "(LRodBench$Thing;I)I" } : Jvm.MethodName) ({ cls := "RodBench$Trays", name := "firstPinAs", desc := "(LRodBench$Thing;I)I" } : Jvm.MethodName)) : Cond) ∈ COM := com_of 28 (by decide +kernel) (by decide +kernel)
theorem mw_29 : ((Jvm.Cond.selects "RodBench$Trays" ({ cls := "RodBench$Trays", name := "howManyAre", desc := "(LRodBench$Thing;I)I" } : Jvm.MethodName) ({ cls := "RodBench$Trays", name := "howManyAre", desc := "(LRodBench$Thing;I)I" } : Jvm.MethodName)) : Cond) ∈ COM := com_of 29 (by decide +kernel) (by decide +kernel)
theorem mw_30 : ((Jvm.Cond.selects "RodBench$Trays" ({ cls := "RodBench$Trays", name := "refuseRow", desc := "(LRodBench$Thing;)I" } : Jvm.MethodName) ({ cls := "RodBench$Trays", name := "refuseRow", desc := "(LRodBench$Thing;)I" } : Jvm.MethodName)) : Cond) ∈ COM := com_of 30 (by decide +kernel) (by decide +kernel)
theorem mw_31 : ((Jvm.Cond.selects "RodBench$Trays" ({ cls := "RodBench$Trays", name := "numberAt", desc := "(LRodBench$Thing;II)I" } : Jvm.MethodName) ({ cls := "RodBench$Trays", name := "numberAt", desc := "(LRodBench$Thing;II)I" } : Jvm.MethodName)) : Cond) ∈ COM := com_of 31 (by decide +kernel) (by decide +kernel)
theorem mw_32 : ((Jvm.Cond.selects "RodBench$Trays" ({ cls := "RodBench$Trays", name := "sumOfCopied", desc := "(LRodBench$Thing;I)I" } : Jvm.MethodName) ({ cls := "RodBench$Trays", name := "sumOfCopied", desc := "(LRodBench$Thing;I)I" } : Jvm.MethodName)) : Cond) ∈ COM := com_of 32 (by decide +kernel) (by decide +kernel)
theorem mw_33 : ((Jvm.Cond.selects "RodBench$Trays" ({ cls := "RodBench$Trays", name := "priceAsSpare", desc := "(LRodBench$Thing;)I" } : Jvm.MethodName) ({ cls := "RodBench$Trays", name := "priceAsSpare", desc := "(LRodBench$Thing;)I" } : Jvm.MethodName)) : Cond) ∈ COM := com_of 33 (by decide +kernel) (by decide +kernel)
theorem mw_34 : ((Jvm.Cond.selects "RodBenchModel" ({ cls := "RodBenchModel", name := "pinAt", desc := "(II)I" } : Jvm.MethodName) ({ cls := "RodBenchModel", name := "pinAt", desc := "(II)I" } : Jvm.MethodName)) : Cond) ∈ COM := com_of 34 (by decide +kernel) (by decide +kernel)
theorem mw_35 : ((Jvm.Cond.selects "RodBenchModel" ({ cls := "RodBenchModel", name := "isPin", desc := "(I)Z" } : Jvm.MethodName) ({ cls := "RodBenchModel", name := "isPin", desc := "(I)Z" } : Jvm.MethodName)) : Cond) ∈ COM := com_of 35 (by decide +kernel) (by decide +kernel)
theorem mw_36 : ((Jvm.Cond.selects "RodBenchModel" ({ cls := "RodBenchModel", name := "isRod", desc := "(I)Z" } : Jvm.MethodName) ({ cls := "RodBenchModel", name := "isRod", desc := "(I)Z" } : Jvm.MethodName)) : Cond) ∈ COM := com_of 36 (by decide +kernel) (by decide +kernel)
theorem mw_37 : ((Jvm.Cond.selects "RodBenchModel" ({ cls := "RodBenchModel", name := "freePins", desc := "()I" } : Jvm.MethodName) ({ cls := "RodBenchModel", name := "freePins", desc := "()I" } : Jvm.MethodName)) : Cond) ∈ COM := com_of 37 (by decide +kernel) (by decide +kernel)
theorem mw_38 : ((Jvm.Cond.selects "RodBenchModel" ({ cls := "RodBenchModel", name := "inCount", desc := "()I" } : Jvm.MethodName) ({ cls := "RodBenchModel", name := "inCount", desc := "()I" } : Jvm.MethodName)) : Cond) ∈ COM := com_of 38 (by decide +kernel) (by decide +kernel)
theorem mw_39 : ((Jvm.Cond.selects "RodBenchModel" ({ cls := "RodBenchModel", name := "motions", desc := "()I" } : Jvm.MethodName) ({ cls := "RodBenchModel", name := "motions", desc := "()I" } : Jvm.MethodName)) : Cond) ∈ COM := com_of 39 (by decide +kernel) (by decide +kernel)
theorem mw_40 : ((Jvm.Cond.selects "RodBenchModel" ({ cls := "RodBenchModel", name := "motionsOf", desc := "([Z)I" } : Jvm.MethodName) ({ cls := "RodBenchModel", name := "motionsOf", desc := "([Z)I" } : Jvm.MethodName)) : Cond) ∈ COM := com_of 40 (by decide +kernel) (by decide +kernel)
theorem mw_41 : ((Jvm.Cond.selects "RodBenchModel" ({ cls := "RodBenchModel", name := "motionRow", desc := "(II)V" } : Jvm.MethodName) ({ cls := "RodBenchModel", name := "motionRow", desc := "(II)V" } : Jvm.MethodName)) : Cond) ∈ COM := com_of 41 (by decide +kernel) (by decide +kernel)
theorem mw_42 : ((Jvm.Cond.selects "RodBenchModel" ({ cls := "RodBenchModel", name := "freeColumn", desc := "(I)I" } : Jvm.MethodName) ({ cls := "RodBenchModel", name := "freeColumn", desc := "(I)I" } : Jvm.MethodName)) : Cond) ∈ COM := com_of 42 (by decide +kernel) (by decide +kernel)
theorem mw_43 : ((Jvm.Cond.selects "RodBenchModel" ({ cls := "RodBenchModel", name := "steps", desc := "(I)I" } : Jvm.MethodName) ({ cls := "RodBenchModel", name := "steps", desc := "(I)I" } : Jvm.MethodName)) : Cond) ∈ COM := com_of 43 (by decide +kernel) (by decide +kernel)
theorem mw_44 : ((Jvm.Cond.selects "RodBenchModel" ({ cls := "RodBenchModel", name := "lower", desc := "(II)V" } : Jvm.MethodName) ({ cls := "RodBenchModel", name := "lower", desc := "(II)V" } : Jvm.MethodName)) : Cond) ∈ COM := com_of 44 (by decide +kernel) (by decide +kernel)
theorem mw_45 : ((Jvm.Cond.selects "RodBenchModel" ({ cls := "RodBenchModel", name := "stresses", desc := "()I" } : Jvm.MethodName) ({ cls := "RodBenchModel", name := "stresses", desc := "()I" } : Jvm.MethodName)) : Cond) ∈ COM := com_of 45 (by decide +kernel) (by decide +kernel)
theorem mw_46 : ((Jvm.Cond.selects "RodBenchModel" ({ cls := "RodBenchModel", name := "findBodies", desc := "()V" } : Jvm.MethodName) ({ cls := "RodBenchModel", name := "findBodies", desc := "()V" } : Jvm.MethodName)) : Cond) ∈ COM := com_of 46 (by decide +kernel) (by decide +kernel)
theorem mw_47 : ((Jvm.Cond.selects "RodBenchModel" ({ cls := "RodBenchModel", name := "even", desc := "(I)I" } : Jvm.MethodName) ({ cls := "RodBenchModel", name := "even", desc := "(I)I" } : Jvm.MethodName)) : Cond) ∈ COM := com_of 47 (by decide +kernel) (by decide +kernel)
theorem mw_48 : ((Jvm.Cond.selects "RodBenchModel" ({ cls := "RodBenchModel", name := "isBetween", desc := "(II)Z" } : Jvm.MethodName) ({ cls := "RodBenchModel", name := "isBetween", desc := "(II)Z" } : Jvm.MethodName)) : Cond) ∈ COM := com_of 48 (by decide +kernel) (by decide +kernel)
theorem mw_49 : ((Jvm.Cond.selects "RodBenchModel" ({ cls := "RodBenchModel", name := "isEven", desc := "(I)Z" } : Jvm.MethodName) ({ cls := "RodBenchModel", name := "isEven", desc := "(I)Z" } : Jvm.MethodName)) : Cond) ∈ COM := com_of 49 (by decide +kernel) (by decide +kernel)
theorem mw_50 : ((Jvm.Cond.selects "RodBenchModel" ({ cls := "RodBenchModel", name := "isAhead", desc := "(II)Z" } : Jvm.MethodName) ({ cls := "RodBenchModel", name := "isAhead", desc := "(II)Z" } : Jvm.MethodName)) : Cond) ∈ COM := com_of 50 (by decide +kernel) (by decide +kernel)
theorem mw_51 : ((Jvm.Cond.selects "RodBenchModel" ({ cls := "RodBenchModel", name := "isNeeded", desc := "(I)Z" } : Jvm.MethodName) ({ cls := "RodBenchModel", name := "isNeeded", desc := "(I)Z" } : Jvm.MethodName)) : Cond) ∈ COM := com_of 51 (by decide +kernel) (by decide +kernel)
theorem mw_52 : ((Jvm.Cond.selects "RodBenchModel" ({ cls := "RodBenchModel", name := "columnOf", desc := "(I)I" } : Jvm.MethodName) ({ cls := "RodBenchModel", name := "columnOf", desc := "(I)I" } : Jvm.MethodName)) : Cond) ∈ COM := com_of 52 (by decide +kernel) (by decide +kernel)
theorem mw_53 : ((Jvm.Cond.selects "RodBenchModel" ({ cls := "RodBenchModel", name := "loose", desc := "(I)I" } : Jvm.MethodName) ({ cls := "RodBenchModel", name := "loose", desc := "(I)I" } : Jvm.MethodName)) : Cond) ∈ COM := com_of 53 (by decide +kernel) (by decide +kernel)
theorem mw_54 : ((Jvm.Cond.selects "RodBenchModel" ({ cls := "RodBenchModel", name := "nulOf", desc := "(I)V" } : Jvm.MethodName) ({ cls := "RodBenchModel", name := "nulOf", desc := "(I)V" } : Jvm.MethodName)) : Cond) ∈ COM := com_of 54 (by decide +kernel) (by decide +kernel)
theorem mw_55 : ((Jvm.Cond.selects "RodBenchModel" ({ cls := "RodBenchModel", name := "isStiff", desc := "([Z)Z" } : Jvm.MethodName) ({ cls := "RodBenchModel", name := "isStiff", desc := "([Z)Z" } : Jvm.MethodName)) : Cond) ∈ COM := com_of 55 (by decide +kernel) (by decide +kernel)
theorem mw_56 : ((Jvm.Cond.selects "RodBenchModel" ({ cls := "RodBenchModel", name := "planeMotions", desc := "()I" } : Jvm.MethodName) ({ cls := "RodBenchModel", name := "planeMotions", desc := "()I" } : Jvm.MethodName)) : Cond) ∈ COM := com_of 56 (by decide +kernel) (by decide +kernel)
theorem mw_57 : ((Jvm.Cond.selects "RodBenchModel" ({ cls := "RodBenchModel", name := "carries", desc := "()Z" } : Jvm.MethodName) ({ cls := "RodBenchModel", name := "carries", desc := "()Z" } : Jvm.MethodName)) : Cond) ∈ COM := com_of 57 (by decide +kernel) (by decide +kernel)
theorem mw_58 : ((Jvm.Cond.selects "RodBenchModel" ({ cls := "RodBenchModel", name := "makePlan", desc := "()V" } : Jvm.MethodName) ({ cls := "RodBenchModel", name := "makePlan", desc := "()V" } : Jvm.MethodName)) : Cond) ∈ COM := com_of 58 (by decide +kernel) (by decide +kernel)
theorem mw_59 : ((Jvm.Cond.selects "RodBenchModel" ({ cls := "RodBenchModel", name := "cheapestLeft", desc := "()I" } : Jvm.MethodName) ({ cls := "RodBenchModel", name := "cheapestLeft", desc := "()I" } : Jvm.MethodName)) : Cond) ∈ COM := com_of 59 (by decide +kernel) (by decide +kernel)
theorem mw_60 : ((Jvm.Cond.selects "RodBenchModel" ({ cls := "RodBenchModel", name := "refused", desc := "(I)I" } : Jvm.MethodName) ({ cls := "RodBenchModel", name := "refused", desc := "(I)I" } : Jvm.MethodName)) : Cond) ∈ COM := com_of 60 (by decide +kernel) (by decide +kernel)
theorem mw_61 : ((Jvm.Cond.selects "RodBenchModel" ({ cls := "RodBenchModel", name := "done", desc := "(I)I" } : Jvm.MethodName) ({ cls := "RodBenchModel", name := "done", desc := "(I)I" } : Jvm.MethodName)) : Cond) ∈ COM := com_of 61 (by decide +kernel) (by decide +kernel)
theorem mw_62 : ((Jvm.Cond.initialized "RodBenchLaw") : Cond) ∈ COM := com_of 62 (by decide +kernel) (by decide +kernel)
theorem mw_63 : ((Jvm.Cond.initialized "RodBench") : Cond) ∈ COM := com_of 63 (by decide +kernel) (by decide +kernel)
theorem mw_64 : ((Jvm.Cond.initialized "RodBench$Frame") : Cond) ∈ COM := com_of 64 (by decide +kernel) (by decide +kernel)
theorem mw_65 : ((Jvm.Cond.initialized "java/util/AbstractCollection") : Cond) ∈ COM := com_of 65 (by decide +kernel) (by decide +kernel)
theorem mw_66 : ((Jvm.Cond.initialized "java/util/AbstractList") : Cond) ∈ COM := com_of 66 (by decide +kernel) (by decide +kernel)
theorem mw_67 : ((Jvm.Cond.initialized "java/util/ArrayList") : Cond) ∈ COM := com_of 67 (by decide +kernel) (by decide +kernel)
theorem mw_68 : ((Jvm.Cond.initialized "RodBench$Balance") : Cond) ∈ COM := com_of 68 (by decide +kernel) (by decide +kernel)
theorem mw_69 : ((Jvm.Cond.initialized "RodBench$Table") : Cond) ∈ COM := com_of 69 (by decide +kernel) (by decide +kernel)
theorem mw_70 : ((Jvm.Cond.initialized "RodBench$Offers") : Cond) ∈ COM := com_of 70 (by decide +kernel) (by decide +kernel)
theorem mw_71 : ((Jvm.Cond.initialized "RodBench$Bodies") : Cond) ∈ COM := com_of 71 (by decide +kernel) (by decide +kernel)
theorem mw_72 : ((Jvm.Cond.initialized "RodBench$Trays") : Cond) ∈ COM := com_of 72 (by decide +kernel) (by decide +kernel)
theorem mw_73 : ((Jvm.Cond.initialized "RodBenchModel") : Cond) ∈ COM := com_of 73 (by decide +kernel) (by decide +kernel)
theorem mw_74 : ((Jvm.Cond.initialized "java/util/Objects") : Cond) ∈ COM := com_of 74 (by decide +kernel) (by decide +kernel)
theorem mw_75 : ((Jvm.Cond.initialized "jdk/internal/util/Preconditions") : Cond) ∈ COM := com_of 75 (by decide +kernel) (by decide +kernel)
theorem mw_76 : ((Jvm.Cond.initialized "RodBench$Pin") : Cond) ∈ COM := com_of 76 (by decide +kernel) (by decide +kernel)
theorem mw_77 : ((Jvm.Cond.initialized "jdk/internal/util/ArraysSupport") : Cond) ∈ COM := com_of 77 (by decide +kernel) (by decide +kernel)
theorem mw_78 : ((Jvm.Cond.initialized "java/lang/Math") : Cond) ∈ COM := com_of 78 (by decide +kernel) (by decide +kernel)
theorem mw_79 : ((Jvm.Cond.initialized "java/util/Arrays") : Cond) ∈ COM := com_of 79 (by decide +kernel) (by decide +kernel)
theorem mw_80 : ((Jvm.Cond.initialized "java/lang/System") : Cond) ∈ COM := com_of 80 (by decide +kernel) (by decide +kernel)
theorem mw_81 : ((Jvm.Cond.initialized "java/lang/Integer") : Cond) ∈ COM := com_of 81 (by decide +kernel) (by decide +kernel)
theorem mw_82 : ((Jvm.Cond.initialized "RodBench$Rod") : Cond) ∈ COM := com_of 82 (by decide +kernel) (by decide +kernel)
theorem mw_83 : ((Jvm.Cond.initialized "RodBench$Row") : Cond) ∈ COM := com_of 83 (by decide +kernel) (by decide +kernel)
theorem mw_84 : ((Jvm.Cond.classLink "RodBenchLaw" (7 : Nat) "RodBench") : Cond) ∈ COM := com_of 84 (by decide +kernel) (by decide +kernel)
theorem mw_85 : ((Jvm.Cond.instantiable "RodBench" (5 : Nat)) : Cond) ∈ COM := com_of 85 (by decide +kernel) (by decide +kernel)
theorem mw_86 : ((Jvm.Cond.methodLink "RodBenchLaw" (9 : Nat) ({ cls := "RodBench", name := "<init>", desc := "()V" } : Jvm.MethodName)) : Cond) ∈ COM := com_of 86 (by decide +kernel) (by decide +kernel)
theorem mw_87 : ((Jvm.Cond.instanceMethod ({ cls := "RodBench", name := "<init>", desc := "()V" } : Jvm.MethodName)) : Cond) ∈ COM := com_of 87 (by decide +kernel) (by decide +kernel)
theorem mw_88 : ((Jvm.Cond.code ({ cls := "RodBench", name := "<init>", desc := "()V" } : Jvm.MethodName) prog_1_method_1_code (1 : Nat) (Option.none : Option Jvm.ClassFile.FieldType)) : Cond) ∈ COM := com_of 88 (by decide +kernel) (by decide +kernel)
theorem mw_89 : ((Jvm.Cond.methodLink "RodBench" (1 : Nat) ({ cls := "java/lang/Object", name := "<init>", desc := "()V" } : Jvm.MethodName)) : Cond) ∈ COM := com_of 89 (by decide +kernel) (by decide +kernel)
theorem mw_90 : ((Jvm.Cond.instanceMethod ({ cls := "java/lang/Object", name := "<init>", desc := "()V" } : Jvm.MethodName)) : Cond) ∈ COM := com_of 90 (by decide +kernel) (by decide +kernel)
theorem mw_91 : ((Jvm.Cond.code ({ cls := "java/lang/Object", name := "<init>", desc := "()V" } : Jvm.MethodName) object_method_1_code (1 : Nat) (Option.none : Option Jvm.ClassFile.FieldType)) : Cond) ∈ COM := com_of 91 (by decide +kernel) (by decide +kernel)
theorem mw_92 : ((Jvm.Cond.classLink "RodBench" (7 : Nat) "RodBench$Frame") : Cond) ∈ COM := com_of 92 (by decide +kernel) (by decide +kernel)
theorem mw_93 : ((Jvm.Cond.instantiable "RodBench$Frame" (4 : Nat)) : Cond) ∈ COM := com_of 93 (by decide +kernel) (by decide +kernel)
theorem mw_95 : ((Jvm.Cond.instanceMethod ({ cls := "RodBench$Frame", name := "<init>", desc := "()V" } : Jvm.MethodName)) : Cond) ∈ COM := com_of 95 (by decide +kernel) (by decide +kernel)
theorem mw_96 : ((Jvm.Cond.code ({ cls := "RodBench$Frame", name := "<init>", desc := "()V" } : Jvm.MethodName) prog_4_method_1_code (1 : Nat) (Option.none : Option Jvm.ClassFile.FieldType)) : Cond) ∈ COM := com_of 96 (by decide +kernel) (by decide +kernel)
theorem mw_97 : ((Jvm.Cond.methodLink "RodBench$Frame" (1 : Nat) ({ cls := "java/lang/Object", name := "<init>", desc := "()V" } : Jvm.MethodName)) : Cond) ∈ COM := com_of 97 (by decide +kernel) (by decide +kernel)
theorem mw_98 : ((Jvm.Cond.classLink "RodBench$Frame" (7 : Nat) "java/util/ArrayList") : Cond) ∈ COM := com_of 98 (by decide +kernel) (by decide +kernel)
theorem mw_99 : ((Jvm.Cond.instantiable "java/util/ArrayList" (3 : Nat)) : Cond) ∈ COM := com_of 99 (by decide +kernel) (by decide +kernel)
theorem mw_100 : ((Jvm.Cond.methodLink "RodBench$Frame" (9 : Nat) ({ cls := "java/util/ArrayList", name := "<init>", desc := "()V" } : Jvm.MethodName)) : Cond) ∈ COM := com_of 100 (by decide +kernel) (by decide +kernel)
theorem mw_101 : ((Jvm.Cond.instanceMethod ({ cls := "java/util/ArrayList", name := "<init>", desc := "()V" } : Jvm.MethodName)) : Cond) ∈ COM := com_of 101 (by decide +kernel) (by decide +kernel)
theorem mw_102 : ((Jvm.Cond.code ({ cls := "java/util/ArrayList", name := "<init>", desc := "()V" } : Jvm.MethodName) prog_22_method_2_code (1 : Nat) (Option.none : Option Jvm.ClassFile.FieldType)) : Cond) ∈ COM := com_of 102 (by decide +kernel) (by decide +kernel)
theorem mw_103 : ((Jvm.Cond.methodLink "java/util/ArrayList" (1 : Nat) ({ cls := "java/util/AbstractList", name := "<init>", desc := "()V" } : Jvm.MethodName)) : Cond) ∈ COM := com_of 103 (by decide +kernel) (by decide +kernel)
theorem mw_104 : ((Jvm.Cond.instanceMethod ({ cls := "java/util/AbstractList", name := "<init>", desc := "()V" } : Jvm.MethodName)) : Cond) ∈ COM := com_of 104 (by decide +kernel) (by decide +kernel)
theorem mw_105 : ((Jvm.Cond.code ({ cls := "java/util/AbstractList", name := "<init>", desc := "()V" } : Jvm.MethodName) prog_21_method_1_code (1 : Nat) (Option.none : Option Jvm.ClassFile.FieldType)) : Cond) ∈ COM := com_of 105 (by decide +kernel) (by decide +kernel)
theorem mw_106 : ((Jvm.Cond.methodLink "java/util/AbstractList" (1 : Nat) ({ cls := "java/util/AbstractCollection", name := "<init>", desc := "()V" } : Jvm.MethodName)) : Cond) ∈ COM := com_of 106 (by decide +kernel) (by decide +kernel)
theorem mw_107 : ((Jvm.Cond.instanceMethod ({ cls := "java/util/AbstractCollection", name := "<init>", desc := "()V" } : Jvm.MethodName)) : Cond) ∈ COM := com_of 107 (by decide +kernel) (by decide +kernel)
theorem mw_108 : ((Jvm.Cond.code ({ cls := "java/util/AbstractCollection", name := "<init>", desc := "()V" } : Jvm.MethodName) prog_20_method_1_code (1 : Nat) (Option.none : Option Jvm.ClassFile.FieldType)) : Cond) ∈ COM := com_of 108 (by decide +kernel) (by decide +kernel)
theorem mw_109 : ((Jvm.Cond.methodLink "java/util/AbstractCollection" (1 : Nat) ({ cls := "java/lang/Object", name := "<init>", desc := "()V" } : Jvm.MethodName)) : Cond) ∈ COM := com_of 109 (by decide +kernel) (by decide +kernel)
theorem mw_110 : ((Jvm.Cond.fieldLink "java/util/ArrayList" (39 : Nat) "java/util/ArrayList" "DEFAULTCAPACITY_EMPTY_ELEMENTDATA" "[Ljava/lang/Object;") : Cond) ∈ COM := com_of 110 (by decide +kernel) (by decide +kernel)
theorem mw_112 : ((Jvm.Cond.fieldLink "java/util/ArrayList" (9 : Nat) "java/util/ArrayList" "elementData" "[Ljava/lang/Object;") : Cond) ∈ COM := com_of 112 (by decide +kernel) (by decide +kernel)
theorem mw_113 : ((Jvm.Cond.fieldLink "java/util/ArrayList" (48 : Nat) "java/util/ArrayList" "size" "I") : Cond) ∈ COM := com_of 113 (by decide +kernel) (by decide +kernel)
theorem mw_114 : ((Jvm.Cond.fieldLink "java/util/AbstractList" (7 : Nat) "java/util/AbstractList" "modCount" "I") : Cond) ∈ COM := com_of 114 (by decide +kernel) (by decide +kernel)
theorem mw_115 : ((Jvm.Cond.fieldLink "java/util/ArrayList" (63 : Nat) "java/util/ArrayList" "modCount" "I") : Cond) ∈ COM := com_of 115 (by decide +kernel) (by decide +kernel)
theorem mw_116 : ((Jvm.Cond.sameField "java/util/ArrayList" "java/util/AbstractList" "modCount" "I") : Cond) ∈ COM := com_of 116 (by decide +kernel) (by decide +kernel)
theorem mw_117 : ((Jvm.Cond.lays "java/util/ArrayList" "java/util/ArrayList" "elementData" "[Ljava/lang/Object;") : Cond) ∈ COM := com_of 117 (by decide +kernel) (by decide +kernel)
theorem mw_119 : ((Jvm.Cond.lays "java/util/ArrayList" "java/util/ArrayList" "size" "I") : Cond) ∈ COM := com_of 119 (by decide +kernel) (by decide +kernel)
theorem mw_121 : ((Jvm.Cond.lays "java/util/ArrayList" "java/util/AbstractList" "modCount" "I") : Cond) ∈ COM := com_of 121 (by decide +kernel) (by decide +kernel)
theorem mw_123 : ((Jvm.Cond.superclass "java/util/ArrayList" "java/util/AbstractList") : Cond) ∈ COM := com_of 123 (by decide +kernel) (by decide +kernel)
theorem mw_124 : ((Jvm.Cond.fieldLink "RodBench$Frame" (10 : Nat) "RodBench$Frame" "pins" "Ljava/util/List;") : Cond) ∈ COM := com_of 124 (by decide +kernel) (by decide +kernel)
theorem mw_125 : ((Jvm.Cond.fieldLink "RodBench" (56 : Nat) "RodBench$Frame" "pins" "Ljava/util/List;") : Cond) ∈ COM := com_of 125 (by decide +kernel) (by decide +kernel)
theorem mw_126 : ((Jvm.Cond.fieldLink "RodBench$Bodies" (44 : Nat) "RodBench$Frame" "pins" "Ljava/util/List;") : Cond) ∈ COM := com_of 126 (by decide +kernel) (by decide +kernel)
theorem mw_127 : ((Jvm.Cond.fieldLink "RodBench$Trays" (101 : Nat) "RodBench$Frame" "pins" "Ljava/util/List;") : Cond) ∈ COM := com_of 127 (by decide +kernel) (by decide +kernel)
theorem mw_128 : ((Jvm.Cond.fieldLink "RodBench$Frame" (16 : Nat) "RodBench$Frame" "rods" "Ljava/util/List;") : Cond) ∈ COM := com_of 128 (by decide +kernel) (by decide +kernel)
theorem mw_129 : ((Jvm.Cond.fieldLink "RodBench" (110 : Nat) "RodBench$Frame" "rods" "Ljava/util/List;") : Cond) ∈ COM := com_of 129 (by decide +kernel) (by decide +kernel)
theorem mw_130 : ((Jvm.Cond.fieldLink "RodBench$Offers" (89 : Nat) "RodBench$Frame" "rods" "Ljava/util/List;") : Cond) ∈ COM := com_of 130 (by decide +kernel) (by decide +kernel)
theorem mw_131 : ((Jvm.Cond.fieldLink "RodBench$Trays" (82 : Nat) "RodBench$Frame" "rods" "Ljava/util/List;") : Cond) ∈ COM := com_of 131 (by decide +kernel) (by decide +kernel)
theorem mw_132 : ((Jvm.Cond.fieldLink "RodBench$Frame" (19 : Nat) "RodBench$Frame" "freePins" "Ljava/util/List;") : Cond) ∈ COM := com_of 132 (by decide +kernel) (by decide +kernel)
theorem mw_133 : ((Jvm.Cond.fieldLink "RodBench$Offers" (51 : Nat) "RodBench$Frame" "freePins" "Ljava/util/List;") : Cond) ∈ COM := com_of 133 (by decide +kernel) (by decide +kernel)
theorem mw_134 : ((Jvm.Cond.fieldLink "RodBench$Balance" (35 : Nat) "RodBench$Frame" "freePins" "Ljava/util/List;") : Cond) ∈ COM := com_of 134 (by decide +kernel) (by decide +kernel)
theorem mw_135 : ((Jvm.Cond.fieldLink "RodBench" (127 : Nat) "RodBench$Frame" "freePins" "Ljava/util/List;") : Cond) ∈ COM := com_of 135 (by decide +kernel) (by decide +kernel)
theorem mw_136 : ((Jvm.Cond.fieldLink "RodBench$Frame" (22 : Nat) "RodBench$Frame" "rodsIn" "Ljava/util/List;") : Cond) ∈ COM := com_of 136 (by decide +kernel) (by decide +kernel)
theorem mw_137 : ((Jvm.Cond.fieldLink "RodBench$Bodies" (33 : Nat) "RodBench$Frame" "rodsIn" "Ljava/util/List;") : Cond) ∈ COM := com_of 137 (by decide +kernel) (by decide +kernel)
theorem mw_138 : ((Jvm.Cond.fieldLink "RodBench$Offers" (78 : Nat) "RodBench$Frame" "rodsIn" "Ljava/util/List;") : Cond) ∈ COM := com_of 138 (by decide +kernel) (by decide +kernel)
theorem mw_139 : ((Jvm.Cond.fieldLink "RodBench" (130 : Nat) "RodBench$Frame" "rodsIn" "Ljava/util/List;") : Cond) ∈ COM := com_of 139 (by decide +kernel) (by decide +kernel)
theorem mw_140 : ((Jvm.Cond.fieldLink "RodBench$Balance" (88 : Nat) "RodBench$Frame" "rodsIn" "Ljava/util/List;") : Cond) ∈ COM := com_of 140 (by decide +kernel) (by decide +kernel)
theorem mw_141 : ((Jvm.Cond.laysFinal "RodBench$Frame" "RodBench$Frame" "pins" "Ljava/util/List;") : Cond) ∈ COM := com_of 141 (by decide +kernel) (by decide +kernel)
theorem mw_143 : ((Jvm.Cond.laysFinal "RodBench$Frame" "RodBench$Frame" "rods" "Ljava/util/List;") : Cond) ∈ COM := com_of 143 (by decide +kernel) (by decide +kernel)
theorem mw_145 : ((Jvm.Cond.laysFinal "RodBench$Frame" "RodBench$Frame" "freePins" "Ljava/util/List;") : Cond) ∈ COM := com_of 145 (by decide +kernel) (by decide +kernel)
theorem mw_147 : ((Jvm.Cond.laysFinal "RodBench$Frame" "RodBench$Frame" "rodsIn" "Ljava/util/List;") : Cond) ∈ COM := com_of 147 (by decide +kernel) (by decide +kernel)
theorem mw_149 : ((Jvm.Cond.superclass "RodBench$Frame" "java/lang/Object") : Cond) ∈ COM := com_of 149 (by decide +kernel) (by decide +kernel)
theorem mw_150 : ((Jvm.Cond.classLink "RodBench" (16 : Nat) "RodBench$Balance") : Cond) ∈ COM := com_of 150 (by decide +kernel) (by decide +kernel)
theorem mw_151 : ((Jvm.Cond.instantiable "RodBench$Balance" (3 : Nat)) : Cond) ∈ COM := com_of 151 (by decide +kernel) (by decide +kernel)
theorem mw_152 : ((Jvm.Cond.methodLink "RodBench" (18 : Nat) ({ cls := "RodBench$Balance", name := "<init>", desc := "(LRodBench$Frame;)V" } : Jvm.MethodName)) : Cond) ∈ COM := com_of 152 (by decide +kernel) (by decide +kernel)
theorem mw_153 : ((Jvm.Cond.instanceMethod ({ cls := "RodBench$Balance", name := "<init>", desc := "(LRodBench$Frame;)V" } : Jvm.MethodName)) : Cond) ∈ COM := com_of 153 (by decide +kernel) (by decide +kernel)
theorem mw_154 : ((Jvm.Cond.code ({ cls := "RodBench$Balance", name := "<init>", desc := "(LRodBench$Frame;)V" } : Jvm.MethodName) prog_2_method_1_code (2 : Nat) (Option.none : Option Jvm.ClassFile.FieldType)) : Cond) ∈ COM := com_of 154 (by decide +kernel) (by decide +kernel)
theorem mw_155 : ((Jvm.Cond.methodLink "RodBench$Balance" (3 : Nat) ({ cls := "java/lang/Object", name := "<init>", desc := "()V" } : Jvm.MethodName)) : Cond) ∈ COM := com_of 155 (by decide +kernel) (by decide +kernel)
theorem mw_156 : ((Jvm.Cond.classLink "RodBench$Balance" (9 : Nat) "RodBench$Table") : Cond) ∈ COM := com_of 156 (by decide +kernel) (by decide +kernel)
theorem mw_157 : ((Jvm.Cond.instantiable "RodBench$Table" (8 : Nat)) : Cond) ∈ COM := com_of 157 (by decide +kernel) (by decide +kernel)
theorem mw_159 : ((Jvm.Cond.instanceMethod ({ cls := "RodBench$Table", name := "<init>", desc := "()V" } : Jvm.MethodName)) : Cond) ∈ COM := com_of 159 (by decide +kernel) (by decide +kernel)
theorem mw_160 : ((Jvm.Cond.code ({ cls := "RodBench$Table", name := "<init>", desc := "()V" } : Jvm.MethodName) prog_9_method_1_code (1 : Nat) (Option.none : Option Jvm.ClassFile.FieldType)) : Cond) ∈ COM := com_of 160 (by decide +kernel) (by decide +kernel)
theorem mw_161 : ((Jvm.Cond.methodLink "RodBench$Table" (3 : Nat) ({ cls := "java/lang/Object", name := "<init>", desc := "()V" } : Jvm.MethodName)) : Cond) ∈ COM := com_of 161 (by decide +kernel) (by decide +kernel)
theorem mw_162 : ((Jvm.Cond.classLink "RodBench$Table" (9 : Nat) "[[J") : Cond) ∈ COM := com_of 162 (by decide +kernel) (by decide +kernel)
theorem mw_164 : ((Jvm.Cond.fieldLink "RodBench$Table" (11 : Nat) "RodBench$Table" "cells" "[[J") : Cond) ∈ COM := com_of 164 (by decide +kernel) (by decide +kernel)
theorem mw_165 : ((Jvm.Cond.fieldLink "RodBench$Table" (16 : Nat) "RodBench$Table" "taken" "[Z") : Cond) ∈ COM := com_of 165 (by decide +kernel) (by decide +kernel)
theorem mw_166 : ((Jvm.Cond.fieldLink "RodBench$Table" (20 : Nat) "RodBench$Table" "rowOf" "[I") : Cond) ∈ COM := com_of 166 (by decide +kernel) (by decide +kernel)
theorem mw_167 : ((Jvm.Cond.fieldLink "RodBench$Table" (24 : Nat) "RodBench$Table" "loose" "[I") : Cond) ∈ COM := com_of 167 (by decide +kernel) (by decide +kernel)
theorem mw_168 : ((Jvm.Cond.fieldLink "RodBench$Table" (27 : Nat) "RodBench$Table" "scales" "[J") : Cond) ∈ COM := com_of 168 (by decide +kernel) (by decide +kernel)
theorem mw_169 : ((Jvm.Cond.fieldLink "RodBench$Table" (31 : Nat) "RodBench$Table" "rows" "I") : Cond) ∈ COM := com_of 169 (by decide +kernel) (by decide +kernel)
theorem mw_170 : ((Jvm.Cond.fieldLink "RodBench$Table" (35 : Nat) "RodBench$Table" "columns" "I") : Cond) ∈ COM := com_of 170 (by decide +kernel) (by decide +kernel)
theorem mw_171 : ((Jvm.Cond.fieldLink "RodBench$Table" (38 : Nat) "RodBench$Table" "looseCount" "I") : Cond) ∈ COM := com_of 171 (by decide +kernel) (by decide +kernel)
theorem mw_172 : ((Jvm.Cond.laysFinal "RodBench$Table" "RodBench$Table" "cells" "[[J") : Cond) ∈ COM := com_of 172 (by decide +kernel) (by decide +kernel)
theorem mw_174 : ((Jvm.Cond.laysFinal "RodBench$Table" "RodBench$Table" "taken" "[Z") : Cond) ∈ COM := com_of 174 (by decide +kernel) (by decide +kernel)
theorem mw_176 : ((Jvm.Cond.laysFinal "RodBench$Table" "RodBench$Table" "rowOf" "[I") : Cond) ∈ COM := com_of 176 (by decide +kernel) (by decide +kernel)
theorem mw_178 : ((Jvm.Cond.laysFinal "RodBench$Table" "RodBench$Table" "loose" "[I") : Cond) ∈ COM := com_of 178 (by decide +kernel) (by decide +kernel)
theorem mw_180 : ((Jvm.Cond.laysFinal "RodBench$Table" "RodBench$Table" "scales" "[J") : Cond) ∈ COM := com_of 180 (by decide +kernel) (by decide +kernel)
theorem mw_182 : ((Jvm.Cond.lays "RodBench$Table" "RodBench$Table" "rows" "I") : Cond) ∈ COM := com_of 182 (by decide +kernel) (by decide +kernel)
theorem mw_184 : ((Jvm.Cond.lays "RodBench$Table" "RodBench$Table" "columns" "I") : Cond) ∈ COM := com_of 184 (by decide +kernel) (by decide +kernel)
theorem mw_186 : ((Jvm.Cond.lays "RodBench$Table" "RodBench$Table" "looseCount" "I") : Cond) ∈ COM := com_of 186 (by decide +kernel) (by decide +kernel)
theorem mw_188 : ((Jvm.Cond.superclass "RodBench$Table" "java/lang/Object") : Cond) ∈ COM := com_of 188 (by decide +kernel) (by decide +kernel)
theorem mw_189 : ((Jvm.Cond.arrayClass Jvm.ClassFile.FieldType.long) : Cond) ∈ COM := com_of 189 (by decide +kernel) (by decide +kernel)
theorem mw_190 : ((Jvm.Cond.arrayClass Jvm.ClassFile.FieldType.boolean) : Cond) ∈ COM := com_of 190 (by decide +kernel) (by decide +kernel)
theorem mw_191 : ((Jvm.Cond.arrayClass Jvm.ClassFile.FieldType.int) : Cond) ∈ COM := com_of 191 (by decide +kernel) (by decide +kernel)
theorem mw_192 : ((Jvm.Cond.fieldLink "RodBench$Balance" (21 : Nat) "RodBench$Balance" "frame" "LRodBench$Frame;") : Cond) ∈ COM := com_of 192 (by decide +kernel) (by decide +kernel)
theorem mw_193 : ((Jvm.Cond.fieldLink "RodBench$Balance" (12 : Nat) "RodBench$Balance" "motions" "LRodBench$Table;") : Cond) ∈ COM := com_of 193 (by decide +kernel) (by decide +kernel)
theorem mw_194 : ((Jvm.Cond.fieldLink "RodBench$Balance" (18 : Nat) "RodBench$Balance" "stresses" "LRodBench$Table;") : Cond) ∈ COM := com_of 194 (by decide +kernel) (by decide +kernel)
theorem mw_195 : ((Jvm.Cond.laysFinal "RodBench$Balance" "RodBench$Balance" "frame" "LRodBench$Frame;") : Cond) ∈ COM := com_of 195 (by decide +kernel) (by decide +kernel)
theorem mw_197 : ((Jvm.Cond.laysFinal "RodBench$Balance" "RodBench$Balance" "motions" "LRodBench$Table;") : Cond) ∈ COM := com_of 197 (by decide +kernel) (by decide +kernel)
theorem mw_199 : ((Jvm.Cond.laysFinal "RodBench$Balance" "RodBench$Balance" "stresses" "LRodBench$Table;") : Cond) ∈ COM := com_of 199 (by decide +kernel) (by decide +kernel)
theorem mw_201 : ((Jvm.Cond.superclass "RodBench$Balance" "java/lang/Object") : Cond) ∈ COM := com_of 201 (by decide +kernel) (by decide +kernel)
theorem mw_202 : ((Jvm.Cond.classLink "RodBench" (25 : Nat) "RodBench$Offers") : Cond) ∈ COM := com_of 202 (by decide +kernel) (by decide +kernel)
theorem mw_203 : ((Jvm.Cond.instantiable "RodBench$Offers" (4 : Nat)) : Cond) ∈ COM := com_of 203 (by decide +kernel) (by decide +kernel)
theorem mw_204 : ((Jvm.Cond.methodLink "RodBench" (27 : Nat) ({ cls := "RodBench$Offers", name := "<init>", desc := "(LRodBench$Frame;)V" } : Jvm.MethodName)) : Cond) ∈ COM := com_of 204 (by decide +kernel) (by decide +kernel)
theorem mw_205 : ((Jvm.Cond.instanceMethod ({ cls := "RodBench$Offers", name := "<init>", desc := "(LRodBench$Frame;)V" } : Jvm.MethodName)) : Cond) ∈ COM := com_of 205 (by decide +kernel) (by decide +kernel)
theorem mw_206 : ((Jvm.Cond.code ({ cls := "RodBench$Offers", name := "<init>", desc := "(LRodBench$Frame;)V" } : Jvm.MethodName) prog_5_method_1_code (2 : Nat) (Option.none : Option Jvm.ClassFile.FieldType)) : Cond) ∈ COM := com_of 206 (by decide +kernel) (by decide +kernel)
theorem mw_207 : ((Jvm.Cond.methodLink "RodBench$Offers" (3 : Nat) ({ cls := "java/lang/Object", name := "<init>", desc := "()V" } : Jvm.MethodName)) : Cond) ∈ COM := com_of 207 (by decide +kernel) (by decide +kernel)
theorem mw_208 : ((Jvm.Cond.classLink "RodBench$Offers" (9 : Nat) "java/util/ArrayList") : Cond) ∈ COM := com_of 208 (by decide +kernel) (by decide +kernel)
theorem mw_209 : ((Jvm.Cond.methodLink "RodBench$Offers" (11 : Nat) ({ cls := "java/util/ArrayList", name := "<init>", desc := "()V" } : Jvm.MethodName)) : Cond) ∈ COM := com_of 209 (by decide +kernel) (by decide +kernel)
theorem mw_210 : ((Jvm.Cond.classLink "RodBench$Offers" (21 : Nat) "RodBench$Table") : Cond) ∈ COM := com_of 210 (by decide +kernel) (by decide +kernel)
theorem mw_212 : ((Jvm.Cond.fieldLink "RodBench$Offers" (28 : Nat) "RodBench$Offers" "frame" "LRodBench$Frame;") : Cond) ∈ COM := com_of 212 (by decide +kernel) (by decide +kernel)
theorem mw_213 : ((Jvm.Cond.fieldLink "RodBench$Offers" (12 : Nat) "RodBench$Offers" "queue" "Ljava/util/List;") : Cond) ∈ COM := com_of 213 (by decide +kernel) (by decide +kernel)
theorem mw_214 : ((Jvm.Cond.fieldLink "RodBench$Offers" (18 : Nat) "RodBench$Offers" "taken" "Ljava/util/List;") : Cond) ∈ COM := com_of 214 (by decide +kernel) (by decide +kernel)
theorem mw_215 : ((Jvm.Cond.fieldLink "RodBench$Offers" (24 : Nat) "RodBench$Offers" "table" "LRodBench$Table;") : Cond) ∈ COM := com_of 215 (by decide +kernel) (by decide +kernel)
theorem mw_216 : ((Jvm.Cond.laysFinal "RodBench$Offers" "RodBench$Offers" "frame" "LRodBench$Frame;") : Cond) ∈ COM := com_of 216 (by decide +kernel) (by decide +kernel)
theorem mw_218 : ((Jvm.Cond.laysFinal "RodBench$Offers" "RodBench$Offers" "queue" "Ljava/util/List;") : Cond) ∈ COM := com_of 218 (by decide +kernel) (by decide +kernel)
theorem mw_220 : ((Jvm.Cond.laysFinal "RodBench$Offers" "RodBench$Offers" "taken" "Ljava/util/List;") : Cond) ∈ COM := com_of 220 (by decide +kernel) (by decide +kernel)
theorem mw_222 : ((Jvm.Cond.laysFinal "RodBench$Offers" "RodBench$Offers" "table" "LRodBench$Table;") : Cond) ∈ COM := com_of 222 (by decide +kernel) (by decide +kernel)
theorem mw_224 : ((Jvm.Cond.superclass "RodBench$Offers" "java/lang/Object") : Cond) ∈ COM := com_of 224 (by decide +kernel) (by decide +kernel)
theorem mw_225 : ((Jvm.Cond.classLink "RodBench" (32 : Nat) "RodBench$Bodies") : Cond) ∈ COM := com_of 225 (by decide +kernel) (by decide +kernel)
theorem mw_226 : ((Jvm.Cond.instantiable "RodBench$Bodies" (5 : Nat)) : Cond) ∈ COM := com_of 226 (by decide +kernel) (by decide +kernel)
theorem mw_227 : ((Jvm.Cond.methodLink "RodBench" (34 : Nat) ({ cls := "RodBench$Bodies", name := "<init>", desc := "(LRodBench$Frame;)V" } : Jvm.MethodName)) : Cond) ∈ COM := com_of 227 (by decide +kernel) (by decide +kernel)
theorem mw_228 : ((Jvm.Cond.instanceMethod ({ cls := "RodBench$Bodies", name := "<init>", desc := "(LRodBench$Frame;)V" } : Jvm.MethodName)) : Cond) ∈ COM := com_of 228 (by decide +kernel) (by decide +kernel)
theorem mw_229 : ((Jvm.Cond.code ({ cls := "RodBench$Bodies", name := "<init>", desc := "(LRodBench$Frame;)V" } : Jvm.MethodName) prog_3_method_1_code (2 : Nat) (Option.none : Option Jvm.ClassFile.FieldType)) : Cond) ∈ COM := com_of 229 (by decide +kernel) (by decide +kernel)
theorem mw_230 : ((Jvm.Cond.methodLink "RodBench$Bodies" (3 : Nat) ({ cls := "java/lang/Object", name := "<init>", desc := "()V" } : Jvm.MethodName)) : Cond) ∈ COM := com_of 230 (by decide +kernel) (by decide +kernel)
theorem mw_231 : ((Jvm.Cond.fieldLink "RodBench$Bodies" (25 : Nat) "RodBench$Bodies" "frame" "LRodBench$Frame;") : Cond) ∈ COM := com_of 231 (by decide +kernel) (by decide +kernel)
theorem mw_232 : ((Jvm.Cond.fieldLink "RodBench$Bodies" (11 : Nat) "RodBench$Bodies" "chosen" "[I") : Cond) ∈ COM := com_of 232 (by decide +kernel) (by decide +kernel)
theorem mw_233 : ((Jvm.Cond.fieldLink "RodBench$Bodies" (15 : Nat) "RodBench$Bodies" "found" "[I") : Cond) ∈ COM := com_of 233 (by decide +kernel) (by decide +kernel)
theorem mw_234 : ((Jvm.Cond.fieldLink "RodBench$Bodies" (18 : Nat) "RodBench$Bodies" "foundCount" "I") : Cond) ∈ COM := com_of 234 (by decide +kernel) (by decide +kernel)
theorem mw_235 : ((Jvm.Cond.fieldLink "RodBench$Bodies" (22 : Nat) "RodBench$Bodies" "greatest" "I") : Cond) ∈ COM := com_of 235 (by decide +kernel) (by decide +kernel)
theorem mw_236 : ((Jvm.Cond.laysFinal "RodBench$Bodies" "RodBench$Bodies" "frame" "LRodBench$Frame;") : Cond) ∈ COM := com_of 236 (by decide +kernel) (by decide +kernel)
theorem mw_238 : ((Jvm.Cond.laysFinal "RodBench$Bodies" "RodBench$Bodies" "chosen" "[I") : Cond) ∈ COM := com_of 238 (by decide +kernel) (by decide +kernel)
theorem mw_240 : ((Jvm.Cond.laysFinal "RodBench$Bodies" "RodBench$Bodies" "found" "[I") : Cond) ∈ COM := com_of 240 (by decide +kernel) (by decide +kernel)
theorem mw_242 : ((Jvm.Cond.lays "RodBench$Bodies" "RodBench$Bodies" "foundCount" "I") : Cond) ∈ COM := com_of 242 (by decide +kernel) (by decide +kernel)
theorem mw_244 : ((Jvm.Cond.lays "RodBench$Bodies" "RodBench$Bodies" "greatest" "I") : Cond) ∈ COM := com_of 244 (by decide +kernel) (by decide +kernel)
theorem mw_246 : ((Jvm.Cond.superclass "RodBench$Bodies" "java/lang/Object") : Cond) ∈ COM := com_of 246 (by decide +kernel) (by decide +kernel)
theorem mw_247 : ((Jvm.Cond.classLink "RodBench" (39 : Nat) "RodBench$Trays") : Cond) ∈ COM := com_of 247 (by decide +kernel) (by decide +kernel)
theorem mw_248 : ((Jvm.Cond.instantiable "RodBench$Trays" (4 : Nat)) : Cond) ∈ COM := com_of 248 (by decide +kernel) (by decide +kernel)
theorem mw_249 : ((Jvm.Cond.methodLink "RodBench" (41 : Nat) ({ cls := "RodBench$Trays", name := "<init>", desc := "(LRodBench$Frame;LRodBench$Balance;)V" } : Jvm.MethodName)) : Cond) ∈ COM := com_of 249 (by decide +kernel) (by decide +kernel)
theorem mw_250 : ((Jvm.Cond.instanceMethod ({ cls := "RodBench$Trays", name := "<init>", desc := "(LRodBench$Frame;LRodBench$Balance;)V" } : Jvm.MethodName)) : Cond) ∈ COM := com_of 250 (by decide +kernel) (by decide +kernel)
theorem mw_251 : ((Jvm.Cond.code ({ cls := "RodBench$Trays", name := "<init>", desc := "(LRodBench$Frame;LRodBench$Balance;)V" } : Jvm.MethodName) prog_11_method_1_code (3 : Nat) (Option.none : Option Jvm.ClassFile.FieldType)) : Cond) ∈ COM := com_of 251 (by decide +kernel) (by decide +kernel)
theorem mw_252 : ((Jvm.Cond.methodLink "RodBench$Trays" (3 : Nat) ({ cls := "java/lang/Object", name := "<init>", desc := "()V" } : Jvm.MethodName)) : Cond) ∈ COM := com_of 252 (by decide +kernel) (by decide +kernel)
theorem mw_253 : ((Jvm.Cond.classLink "RodBench$Trays" (11 : Nat) "RodBench$Thing") : Cond) ∈ COM := com_of 253 (by decide +kernel) (by decide +kernel)
theorem mw_255 : ((Jvm.Cond.fieldLink "RodBench$Trays" (21 : Nat) "RodBench$Trays" "frame" "LRodBench$Frame;") : Cond) ∈ COM := com_of 255 (by decide +kernel) (by decide +kernel)
theorem mw_256 : ((Jvm.Cond.fieldLink "RodBench$Trays" (25 : Nat) "RodBench$Trays" "balance" "LRodBench$Balance;") : Cond) ∈ COM := com_of 256 (by decide +kernel) (by decide +kernel)
theorem mw_257 : ((Jvm.Cond.fieldLink "RodBench$Trays" (13 : Nat) "RodBench$Trays" "things" "[LRodBench$Thing;") : Cond) ∈ COM := com_of 257 (by decide +kernel) (by decide +kernel)
theorem mw_258 : ((Jvm.Cond.fieldLink "RodBench$Trays" (17 : Nat) "RodBench$Trays" "status" "I") : Cond) ∈ COM := com_of 258 (by decide +kernel) (by decide +kernel)
theorem mw_259 : ((Jvm.Cond.laysFinal "RodBench$Trays" "RodBench$Trays" "frame" "LRodBench$Frame;") : Cond) ∈ COM := com_of 259 (by decide +kernel) (by decide +kernel)
theorem mw_261 : ((Jvm.Cond.laysFinal "RodBench$Trays" "RodBench$Trays" "balance" "LRodBench$Balance;") : Cond) ∈ COM := com_of 261 (by decide +kernel) (by decide +kernel)
theorem mw_263 : ((Jvm.Cond.laysFinal "RodBench$Trays" "RodBench$Trays" "things" "[LRodBench$Thing;") : Cond) ∈ COM := com_of 263 (by decide +kernel) (by decide +kernel)
theorem mw_265 : ((Jvm.Cond.lays "RodBench$Trays" "RodBench$Trays" "status" "I") : Cond) ∈ COM := com_of 265 (by decide +kernel) (by decide +kernel)
theorem mw_267 : ((Jvm.Cond.superclass "RodBench$Trays" "java/lang/Object") : Cond) ∈ COM := com_of 267 (by decide +kernel) (by decide +kernel)
theorem mw_268 : ((Jvm.Cond.fieldLink "RodBench" (10 : Nat) "RodBench" "frame" "LRodBench$Frame;") : Cond) ∈ COM := com_of 268 (by decide +kernel) (by decide +kernel)
theorem mw_269 : ((Jvm.Cond.fieldLink "RodBench" (21 : Nat) "RodBench" "balance" "LRodBench$Balance;") : Cond) ∈ COM := com_of 269 (by decide +kernel) (by decide +kernel)
theorem mw_270 : ((Jvm.Cond.fieldLink "RodBench" (28 : Nat) "RodBench" "offers" "LRodBench$Offers;") : Cond) ∈ COM := com_of 270 (by decide +kernel) (by decide +kernel)
theorem mw_271 : ((Jvm.Cond.fieldLink "RodBench" (35 : Nat) "RodBench" "bodies" "LRodBench$Bodies;") : Cond) ∈ COM := com_of 271 (by decide +kernel) (by decide +kernel)
theorem mw_272 : ((Jvm.Cond.fieldLink "RodBench" (44 : Nat) "RodBench" "trays" "LRodBench$Trays;") : Cond) ∈ COM := com_of 272 (by decide +kernel) (by decide +kernel)
theorem mw_273 : ((Jvm.Cond.laysFinal "RodBench" "RodBench" "frame" "LRodBench$Frame;") : Cond) ∈ COM := com_of 273 (by decide +kernel) (by decide +kernel)
theorem mw_275 : ((Jvm.Cond.laysFinal "RodBench" "RodBench" "balance" "LRodBench$Balance;") : Cond) ∈ COM := com_of 275 (by decide +kernel) (by decide +kernel)
theorem mw_277 : ((Jvm.Cond.laysFinal "RodBench" "RodBench" "offers" "LRodBench$Offers;") : Cond) ∈ COM := com_of 277 (by decide +kernel) (by decide +kernel)
theorem mw_279 : ((Jvm.Cond.laysFinal "RodBench" "RodBench" "bodies" "LRodBench$Bodies;") : Cond) ∈ COM := com_of 279 (by decide +kernel) (by decide +kernel)
theorem mw_281 : ((Jvm.Cond.laysFinal "RodBench" "RodBench" "trays" "LRodBench$Trays;") : Cond) ∈ COM := com_of 281 (by decide +kernel) (by decide +kernel)
theorem mw_283 : ((Jvm.Cond.superclass "RodBench" "java/lang/Object") : Cond) ∈ COM := com_of 283 (by decide +kernel) (by decide +kernel)
theorem mw_284 : ((Jvm.Cond.methodLink "RodBenchLaw" (13 : Nat) ({ cls := "RodBench", name := "pin", desc := "(II)I" } : Jvm.MethodName)) : Cond) ∈ COM := com_of 284 (by decide +kernel) (by decide +kernel)
theorem mw_285 : ((Jvm.Cond.instanceMethod ({ cls := "RodBench", name := "pin", desc := "(II)I" } : Jvm.MethodName)) : Cond) ∈ COM := com_of 285 (by decide +kernel) (by decide +kernel)
theorem mw_286 : ((Jvm.Cond.selects "RodBench" ({ cls := "RodBench", name := "pin", desc := "(II)I" } : Jvm.MethodName) ({ cls := "RodBench", name := "pin", desc := "(II)I" } : Jvm.MethodName)) : Cond) ∈ COM := com_of 286 (by decide +kernel) (by decide +kernel)
theorem mw_287 : ((Jvm.Cond.code ({ cls := "RodBench", name := "pin", desc := "(II)I" } : Jvm.MethodName) prog_1_method_2_code (3 : Nat) (Option.some Jvm.ClassFile.FieldType.int)) : Cond) ∈ COM := com_of 287 (by decide +kernel) (by decide +kernel)
theorem mw_288 : ((Jvm.Cond.methodLink "RodBench" (48 : Nat) ({ cls := "RodBench", name := "isPlace", desc := "(II)Z" } : Jvm.MethodName)) : Cond) ∈ COM := com_of 288 (by decide +kernel) (by decide +kernel)
theorem mw_289 : ((Jvm.Cond.static ({ cls := "RodBench", name := "isPlace", desc := "(II)Z" } : Jvm.MethodName)) : Cond) ∈ COM := com_of 289 (by decide +kernel) (by decide +kernel)
theorem mw_290 : ((Jvm.Cond.code ({ cls := "RodBench", name := "isPlace", desc := "(II)Z" } : Jvm.MethodName) prog_1_method_25_code (2 : Nat) (Option.some Jvm.ClassFile.FieldType.boolean)) : Cond) ∈ COM := com_of 290 (by decide +kernel) (by decide +kernel)
theorem mw_291 : ((Jvm.Cond.methodLink "RodBench" (52 : Nat) ({ cls := "RodBench$Frame", name := "pinAt", desc := "(II)LRodBench$Pin;" } : Jvm.MethodName)) : Cond) ∈ COM := com_of 291 (by decide +kernel) (by decide +kernel)
theorem mw_292 : ((Jvm.Cond.instanceMethod ({ cls := "RodBench$Frame", name := "pinAt", desc := "(II)LRodBench$Pin;" } : Jvm.MethodName)) : Cond) ∈ COM := com_of 292 (by decide +kernel) (by decide +kernel)
theorem mw_293 : ((Jvm.Cond.selects "RodBench$Frame" ({ cls := "RodBench$Frame", name := "pinAt", desc := "(II)LRodBench$Pin;" } : Jvm.MethodName) ({ cls := "RodBench$Frame", name := "pinAt", desc := "(II)LRodBench$Pin;" } : Jvm.MethodName)) : Cond) ∈ COM := com_of 293 (by decide +kernel) (by decide +kernel)
theorem mw_294 : ((Jvm.Cond.code ({ cls := "RodBench$Frame", name := "pinAt", desc := "(II)LRodBench$Pin;" } : Jvm.MethodName) prog_4_method_5_code (5 : Nat) (Option.some (Jvm.ClassFile.FieldType.object "RodBench$Pin"))) : Cond) ∈ COM := com_of 294 (by decide +kernel) (by decide +kernel)
theorem mw_296 : ((Jvm.Cond.methodLink "RodBench$Frame" (30 : Nat) ({ cls := "java/util/List", name := "size", desc := "()I" } : Jvm.MethodName)) : Cond) ∈ COM := com_of 296 (by decide +kernel) (by decide +kernel)
theorem mw_300 : ((Jvm.Cond.selects "java/util/ArrayList" ({ cls := "java/util/List", name := "size", desc := "()I" } : Jvm.MethodName) ({ cls := "java/util/ArrayList", name := "size", desc := "()I" } : Jvm.MethodName)) : Cond) ∈ COM := com_of 300 (by decide +kernel) (by decide +kernel)
theorem mw_302 : ((Jvm.Cond.instanceMethod ({ cls := "java/util/ArrayList", name := "size", desc := "()I" } : Jvm.MethodName)) : Cond) ∈ COM := com_of 302 (by decide +kernel) (by decide +kernel)
theorem mw_304 : ((Jvm.Cond.code ({ cls := "java/util/ArrayList", name := "size", desc := "()I" } : Jvm.MethodName) prog_22_method_8_code (1 : Nat) (Option.some Jvm.ClassFile.FieldType.int)) : Cond) ∈ COM := com_of 304 (by decide +kernel) (by decide +kernel)
theorem mw_306 : ((Jvm.Cond.methodLink "RodBench$Frame" (34 : Nat) ({ cls := "java/util/List", name := "get", desc := "(I)Ljava/lang/Object;" } : Jvm.MethodName)) : Cond) ∈ COM := com_of 306 (by decide +kernel) (by decide +kernel)
theorem mw_309 : ((Jvm.Cond.selects "java/util/ArrayList" ({ cls := "java/util/List", name := "get", desc := "(I)Ljava/lang/Object;" } : Jvm.MethodName) ({ cls := "java/util/ArrayList", name := "get", desc := "(I)Ljava/lang/Object;" } : Jvm.MethodName)) : Cond) ∈ COM := com_of 309 (by decide +kernel) (by decide +kernel)
theorem mw_311 : ((Jvm.Cond.instanceMethod ({ cls := "java/util/ArrayList", name := "get", desc := "(I)Ljava/lang/Object;" } : Jvm.MethodName)) : Cond) ∈ COM := com_of 311 (by decide +kernel) (by decide +kernel)
theorem mw_313 : ((Jvm.Cond.code ({ cls := "java/util/ArrayList", name := "get", desc := "(I)Ljava/lang/Object;" } : Jvm.MethodName) prog_22_method_20_code (2 : Nat) (Option.some (Jvm.ClassFile.FieldType.object "java/lang/Object"))) : Cond) ∈ COM := com_of 313 (by decide +kernel) (by decide +kernel)
theorem mw_314 : ((Jvm.Cond.methodLink "java/util/ArrayList" (118 : Nat) ({ cls := "java/util/Objects", name := "checkIndex", desc := "(II)I" } : Jvm.MethodName)) : Cond) ∈ COM := com_of 314 (by decide +kernel) (by decide +kernel)
theorem mw_315 : ((Jvm.Cond.static ({ cls := "java/util/Objects", name := "checkIndex", desc := "(II)I" } : Jvm.MethodName)) : Cond) ∈ COM := com_of 315 (by decide +kernel) (by decide +kernel)
theorem mw_316 : ((Jvm.Cond.code ({ cls := "java/util/Objects", name := "checkIndex", desc := "(II)I" } : Jvm.MethodName) prog_26_method_17_code (2 : Nat) (Option.some Jvm.ClassFile.FieldType.int)) : Cond) ∈ COM := com_of 316 (by decide +kernel) (by decide +kernel)
theorem mw_317 : ((Jvm.Cond.methodLink "java/util/Objects" (105 : Nat) ({ cls := "jdk/internal/util/Preconditions", name := "checkIndex", desc := "(IILjava/util/function/BiFunction;)I" } : Jvm.MethodName)) : Cond) ∈ COM := com_of 317 (by decide +kernel) (by decide +kernel)
theorem mw_318 : ((Jvm.Cond.static ({ cls := "jdk/internal/util/Preconditions", name := "checkIndex", desc := "(IILjava/util/function/BiFunction;)I" } : Jvm.MethodName)) : Cond) ∈ COM := com_of 318 (by decide +kernel) (by decide +kernel)
theorem mw_319 : ((Jvm.Cond.code ({ cls := "jdk/internal/util/Preconditions", name := "checkIndex", desc := "(IILjava/util/function/BiFunction;)I" } : Jvm.MethodName) prog_30_method_11_code (3 : Nat) (Option.some Jvm.ClassFile.FieldType.int)) : Cond) ∈ COM := com_of 319 (by decide +kernel) (by decide +kernel)
theorem mw_320 : ((Jvm.Cond.methodLink "java/util/ArrayList" (123 : Nat) ({ cls := "java/util/ArrayList", name := "elementData", desc := "(I)Ljava/lang/Object;" } : Jvm.MethodName)) : Cond) ∈ COM := com_of 320 (by decide +kernel) (by decide +kernel)
theorem mw_321 : ((Jvm.Cond.instanceMethod ({ cls := "java/util/ArrayList", name := "elementData", desc := "(I)Ljava/lang/Object;" } : Jvm.MethodName)) : Cond) ∈ COM := com_of 321 (by decide +kernel) (by decide +kernel)
theorem mw_322 : ((Jvm.Cond.selects "java/util/ArrayList" ({ cls := "java/util/ArrayList", name := "elementData", desc := "(I)Ljava/lang/Object;" } : Jvm.MethodName) ({ cls := "java/util/ArrayList", name := "elementData", desc := "(I)Ljava/lang/Object;" } : Jvm.MethodName)) : Cond) ∈ COM := com_of 322 (by decide +kernel) (by decide +kernel)
theorem mw_323 : ((Jvm.Cond.code ({ cls := "java/util/ArrayList", name := "elementData", desc := "(I)Ljava/lang/Object;" } : Jvm.MethodName) prog_22_method_18_code (2 : Nat) (Option.some (Jvm.ClassFile.FieldType.object "java/lang/Object"))) : Cond) ∈ COM := com_of 323 (by decide +kernel) (by decide +kernel)
theorem mw_324 : ((Jvm.Cond.classLink "RodBench$Frame" (38 : Nat) "RodBench$Pin") : Cond) ∈ COM := com_of 324 (by decide +kernel) (by decide +kernel)
theorem mw_326 : ((Jvm.Cond.methodLink "RodBench" (60 : Nat) ({ cls := "java/util/List", name := "size", desc := "()I" } : Jvm.MethodName)) : Cond) ∈ COM := com_of 326 (by decide +kernel) (by decide +kernel)
theorem mw_327 : ((Jvm.Cond.classLink "RodBench" (66 : Nat) "RodBench$Pin") : Cond) ∈ COM := com_of 327 (by decide +kernel) (by decide +kernel)
theorem mw_328 : ((Jvm.Cond.instantiable "RodBench$Pin" (6 : Nat)) : Cond) ∈ COM := com_of 328 (by decide +kernel) (by decide +kernel)
theorem mw_329 : ((Jvm.Cond.methodLink "RodBench" (68 : Nat) ({ cls := "RodBench$Pin", name := "<init>", desc := "(III)V" } : Jvm.MethodName)) : Cond) ∈ COM := com_of 329 (by decide +kernel) (by decide +kernel)
theorem mw_330 : ((Jvm.Cond.instanceMethod ({ cls := "RodBench$Pin", name := "<init>", desc := "(III)V" } : Jvm.MethodName)) : Cond) ∈ COM := com_of 330 (by decide +kernel) (by decide +kernel)
theorem mw_331 : ((Jvm.Cond.code ({ cls := "RodBench$Pin", name := "<init>", desc := "(III)V" } : Jvm.MethodName) prog_6_method_1_code (4 : Nat) (Option.none : Option Jvm.ClassFile.FieldType)) : Cond) ∈ COM := com_of 331 (by decide +kernel) (by decide +kernel)
theorem mw_332 : ((Jvm.Cond.methodLink "RodBench$Pin" (1 : Nat) ({ cls := "java/lang/Object", name := "<init>", desc := "()V" } : Jvm.MethodName)) : Cond) ∈ COM := com_of 332 (by decide +kernel) (by decide +kernel)
theorem mw_333 : ((Jvm.Cond.fieldLink "RodBench$Pin" (7 : Nat) "RodBench$Pin" "number" "I") : Cond) ∈ COM := com_of 333 (by decide +kernel) (by decide +kernel)
theorem mw_334 : ((Jvm.Cond.fieldLink "RodBench" (159 : Nat) "RodBench$Pin" "number" "I") : Cond) ∈ COM := com_of 334 (by decide +kernel) (by decide +kernel)
theorem mw_335 : ((Jvm.Cond.fieldLink "RodBench$Trays" (137 : Nat) "RodBench$Pin" "number" "I") : Cond) ∈ COM := com_of 335 (by decide +kernel) (by decide +kernel)
theorem mw_336 : ((Jvm.Cond.fieldLink "RodBench$Bodies" (97 : Nat) "RodBench$Pin" "number" "I") : Cond) ∈ COM := com_of 336 (by decide +kernel) (by decide +kernel)
theorem mw_337 : ((Jvm.Cond.fieldLink "RodBench$Pin" (13 : Nat) "RodBench$Pin" "x" "I") : Cond) ∈ COM := com_of 337 (by decide +kernel) (by decide +kernel)
theorem mw_338 : ((Jvm.Cond.fieldLink "RodBench" (86 : Nat) "RodBench$Pin" "x" "I") : Cond) ∈ COM := com_of 338 (by decide +kernel) (by decide +kernel)
theorem mw_339 : ((Jvm.Cond.fieldLink "RodBench$Frame" (53 : Nat) "RodBench$Pin" "x" "I") : Cond) ∈ COM := com_of 339 (by decide +kernel) (by decide +kernel)
theorem mw_340 : ((Jvm.Cond.fieldLink "RodBench$Rod" (36 : Nat) "RodBench$Pin" "x" "I") : Cond) ∈ COM := com_of 340 (by decide +kernel) (by decide +kernel)
theorem mw_341 : ((Jvm.Cond.fieldLink "RodBench$Pin" (16 : Nat) "RodBench$Pin" "y" "I") : Cond) ∈ COM := com_of 341 (by decide +kernel) (by decide +kernel)
theorem mw_342 : ((Jvm.Cond.fieldLink "RodBench" (90 : Nat) "RodBench$Pin" "y" "I") : Cond) ∈ COM := com_of 342 (by decide +kernel) (by decide +kernel)
theorem mw_343 : ((Jvm.Cond.fieldLink "RodBench$Frame" (57 : Nat) "RodBench$Pin" "y" "I") : Cond) ∈ COM := com_of 343 (by decide +kernel) (by decide +kernel)
theorem mw_344 : ((Jvm.Cond.fieldLink "RodBench$Rod" (41 : Nat) "RodBench$Pin" "y" "I") : Cond) ∈ COM := com_of 344 (by decide +kernel) (by decide +kernel)
theorem mw_345 : ((Jvm.Cond.fieldLink "RodBench$Frame" (40 : Nat) "RodBench$Pin" "held" "Z") : Cond) ∈ COM := com_of 345 (by decide +kernel) (by decide +kernel)
theorem mw_346 : ((Jvm.Cond.fieldLink "RodBench" (93 : Nat) "RodBench$Pin" "held" "Z") : Cond) ∈ COM := com_of 346 (by decide +kernel) (by decide +kernel)
theorem mw_347 : ((Jvm.Cond.fieldLink "RodBench$Table" (63 : Nat) "RodBench$Pin" "forceX" "I") : Cond) ∈ COM := com_of 347 (by decide +kernel) (by decide +kernel)
theorem mw_348 : ((Jvm.Cond.fieldLink "RodBench" (97 : Nat) "RodBench$Pin" "forceX" "I") : Cond) ∈ COM := com_of 348 (by decide +kernel) (by decide +kernel)
theorem mw_349 : ((Jvm.Cond.fieldLink "RodBench$Balance" (81 : Nat) "RodBench$Pin" "forceX" "I") : Cond) ∈ COM := com_of 349 (by decide +kernel) (by decide +kernel)
theorem mw_350 : ((Jvm.Cond.fieldLink "RodBench$Table" (66 : Nat) "RodBench$Pin" "forceY" "I") : Cond) ∈ COM := com_of 350 (by decide +kernel) (by decide +kernel)
theorem mw_351 : ((Jvm.Cond.fieldLink "RodBench" (100 : Nat) "RodBench$Pin" "forceY" "I") : Cond) ∈ COM := com_of 351 (by decide +kernel) (by decide +kernel)
theorem mw_352 : ((Jvm.Cond.fieldLink "RodBench$Balance" (85 : Nat) "RodBench$Pin" "forceY" "I") : Cond) ∈ COM := com_of 352 (by decide +kernel) (by decide +kernel)
theorem mw_353 : ((Jvm.Cond.laysFinal "RodBench$Pin" "RodBench$Pin" "number" "I") : Cond) ∈ COM := com_of 353 (by decide +kernel) (by decide +kernel)
theorem mw_355 : ((Jvm.Cond.lays "RodBench$Pin" "RodBench$Pin" "x" "I") : Cond) ∈ COM := com_of 355 (by decide +kernel) (by decide +kernel)
theorem mw_357 : ((Jvm.Cond.lays "RodBench$Pin" "RodBench$Pin" "y" "I") : Cond) ∈ COM := com_of 357 (by decide +kernel) (by decide +kernel)
theorem mw_359 : ((Jvm.Cond.lays "RodBench$Pin" "RodBench$Pin" "held" "Z") : Cond) ∈ COM := com_of 359 (by decide +kernel) (by decide +kernel)
theorem mw_361 : ((Jvm.Cond.lays "RodBench$Pin" "RodBench$Pin" "forceX" "I") : Cond) ∈ COM := com_of 361 (by decide +kernel) (by decide +kernel)
theorem mw_363 : ((Jvm.Cond.lays "RodBench$Pin" "RodBench$Pin" "forceY" "I") : Cond) ∈ COM := com_of 363 (by decide +kernel) (by decide +kernel)
theorem mw_365 : ((Jvm.Cond.superclass "RodBench$Pin" "java/lang/Object") : Cond) ∈ COM := com_of 365 (by decide +kernel) (by decide +kernel)
theorem mw_367 : ((Jvm.Cond.methodLink "RodBench" (71 : Nat) ({ cls := "java/util/List", name := "add", desc := "(Ljava/lang/Object;)Z" } : Jvm.MethodName)) : Cond) ∈ COM := com_of 367 (by decide +kernel) (by decide +kernel)
theorem mw_370 : ((Jvm.Cond.selects "java/util/ArrayList" ({ cls := "java/util/List", name := "add", desc := "(Ljava/lang/Object;)Z" } : Jvm.MethodName) ({ cls := "java/util/ArrayList", name := "add", desc := "(Ljava/lang/Object;)Z" } : Jvm.MethodName)) : Cond) ∈ COM := com_of 370 (by decide +kernel) (by decide +kernel)
theorem mw_372 : ((Jvm.Cond.instanceMethod ({ cls := "java/util/ArrayList", name := "add", desc := "(Ljava/lang/Object;)Z" } : Jvm.MethodName)) : Cond) ∈ COM := com_of 372 (by decide +kernel) (by decide +kernel)
theorem mw_374 : ((Jvm.Cond.code ({ cls := "java/util/ArrayList", name := "add", desc := "(Ljava/lang/Object;)Z" } : Jvm.MethodName) prog_22_method_25_code (2 : Nat) (Option.some Jvm.ClassFile.FieldType.boolean)) : Cond) ∈ COM := com_of 374 (by decide +kernel) (by decide +kernel)
theorem mw_375 : ((Jvm.Cond.methodLink "java/util/ArrayList" (131 : Nat) ({ cls := "java/util/ArrayList", name := "add", desc := "(Ljava/lang/Object;[Ljava/lang/Object;I)V" } : Jvm.MethodName)) : Cond) ∈ COM := com_of 375 (by decide +kernel) (by decide +kernel)
theorem mw_377 : ((Jvm.Cond.instanceMethod ({ cls := "java/util/ArrayList", name := "add", desc := "(Ljava/lang/Object;[Ljava/lang/Object;I)V" } : Jvm.MethodName)) : Cond) ∈ COM := com_of 377 (by decide +kernel) (by decide +kernel)
theorem mw_378 : ((Jvm.Cond.code ({ cls := "java/util/ArrayList", name := "add", desc := "(Ljava/lang/Object;[Ljava/lang/Object;I)V" } : Jvm.MethodName) prog_22_method_24_code (4 : Nat) (Option.none : Option Jvm.ClassFile.FieldType)) : Cond) ∈ COM := com_of 378 (by decide +kernel) (by decide +kernel)
theorem mw_379 : ((Jvm.Cond.methodLink "java/util/ArrayList" (129 : Nat) ({ cls := "java/util/ArrayList", name := "grow", desc := "()[Ljava/lang/Object;" } : Jvm.MethodName)) : Cond) ∈ COM := com_of 379 (by decide +kernel) (by decide +kernel)
theorem mw_381 : ((Jvm.Cond.instanceMethod ({ cls := "java/util/ArrayList", name := "grow", desc := "()[Ljava/lang/Object;" } : Jvm.MethodName)) : Cond) ∈ COM := com_of 381 (by decide +kernel) (by decide +kernel)
theorem mw_382 : ((Jvm.Cond.code ({ cls := "java/util/ArrayList", name := "grow", desc := "()[Ljava/lang/Object;" } : Jvm.MethodName) prog_22_method_7_code (1 : Nat) (Option.some (Jvm.ClassFile.FieldType.array (Jvm.ClassFile.FieldType.object "java/lang/Object")))) : Cond) ∈ COM := com_of 382 (by decide +kernel) (by decide +kernel)
theorem mw_383 : ((Jvm.Cond.methodLink "java/util/ArrayList" (69 : Nat) ({ cls := "java/util/ArrayList", name := "grow", desc := "(I)[Ljava/lang/Object;" } : Jvm.MethodName)) : Cond) ∈ COM := com_of 383 (by decide +kernel) (by decide +kernel)
theorem mw_385 : ((Jvm.Cond.instanceMethod ({ cls := "java/util/ArrayList", name := "grow", desc := "(I)[Ljava/lang/Object;" } : Jvm.MethodName)) : Cond) ∈ COM := com_of 385 (by decide +kernel) (by decide +kernel)
theorem mw_386 : ((Jvm.Cond.code ({ cls := "java/util/ArrayList", name := "grow", desc := "(I)[Ljava/lang/Object;" } : Jvm.MethodName) prog_22_method_6_code (4 : Nat) (Option.some (Jvm.ClassFile.FieldType.array (Jvm.ClassFile.FieldType.object "java/lang/Object")))) : Cond) ∈ COM := com_of 386 (by decide +kernel) (by decide +kernel)
theorem mw_387 : ((Jvm.Cond.methodLink "java/util/ArrayList" (73 : Nat) ({ cls := "jdk/internal/util/ArraysSupport", name := "newLength", desc := "(III)I" } : Jvm.MethodName)) : Cond) ∈ COM := com_of 387 (by decide +kernel) (by decide +kernel)
theorem mw_388 : ((Jvm.Cond.static ({ cls := "jdk/internal/util/ArraysSupport", name := "newLength", desc := "(III)I" } : Jvm.MethodName)) : Cond) ∈ COM := com_of 388 (by decide +kernel) (by decide +kernel)
theorem mw_389 : ((Jvm.Cond.code ({ cls := "jdk/internal/util/ArraysSupport", name := "newLength", desc := "(III)I" } : Jvm.MethodName) prog_29_method_27_code (4 : Nat) (Option.some Jvm.ClassFile.FieldType.int)) : Cond) ∈ COM := com_of 389 (by decide +kernel) (by decide +kernel)
theorem mw_390 : ((Jvm.Cond.methodLink "jdk/internal/util/ArraysSupport" (194 : Nat) ({ cls := "java/lang/Math", name := "max", desc := "(II)I" } : Jvm.MethodName)) : Cond) ∈ COM := com_of 390 (by decide +kernel) (by decide +kernel)
theorem mw_391 : ((Jvm.Cond.static ({ cls := "java/lang/Math", name := "max", desc := "(II)I" } : Jvm.MethodName)) : Cond) ∈ COM := com_of 391 (by decide +kernel) (by decide +kernel)
theorem mw_392 : ((Jvm.Cond.code ({ cls := "java/lang/Math", name := "max", desc := "(II)I" } : Jvm.MethodName) prog_18_method_65_code (2 : Nat) (Option.some Jvm.ClassFile.FieldType.int)) : Cond) ∈ COM := com_of 392 (by decide +kernel) (by decide +kernel)
theorem mw_393 : ((Jvm.Cond.constant "jdk/internal/util/ArraysSupport" (200 : Nat) (2147483639 : Int32)) : Cond) ∈ COM := com_of 393 (by decide +kernel) (by decide +kernel)
theorem mw_394 : ((Jvm.Cond.methodLink "jdk/internal/util/ArraysSupport" (201 : Nat) ({ cls := "jdk/internal/util/ArraysSupport", name := "hugeLength", desc := "(II)I" } : Jvm.MethodName)) : Cond) ∈ COM := com_of 394 (by decide +kernel) (by decide +kernel)
theorem mw_395 : ((Jvm.Cond.static ({ cls := "jdk/internal/util/ArraysSupport", name := "hugeLength", desc := "(II)I" } : Jvm.MethodName)) : Cond) ∈ COM := com_of 395 (by decide +kernel) (by decide +kernel)
theorem mw_396 : ((Jvm.Cond.code ({ cls := "jdk/internal/util/ArraysSupport", name := "hugeLength", desc := "(II)I" } : Jvm.MethodName) prog_29_method_28_code (3 : Nat) (Option.some Jvm.ClassFile.FieldType.int)) : Cond) ∈ COM := com_of 396 (by decide +kernel) (by decide +kernel)
theorem mw_397 : ((Jvm.Cond.methodLink "java/util/ArrayList" (66 : Nat) ({ cls := "java/util/Arrays", name := "copyOf", desc := "([Ljava/lang/Object;I)[Ljava/lang/Object;" } : Jvm.MethodName)) : Cond) ∈ COM := com_of 397 (by decide +kernel) (by decide +kernel)
theorem mw_398 : ((Jvm.Cond.static ({ cls := "java/util/Arrays", name := "copyOf", desc := "([Ljava/lang/Object;I)[Ljava/lang/Object;" } : Jvm.MethodName)) : Cond) ∈ COM := com_of 398 (by decide +kernel) (by decide +kernel)
theorem mw_399 : ((Jvm.Cond.code ({ cls := "java/util/Arrays", name := "copyOf", desc := "([Ljava/lang/Object;I)[Ljava/lang/Object;" } : Jvm.MethodName) prog_23_method_119_code (2 : Nat) (Option.some (Jvm.ClassFile.FieldType.array (Jvm.ClassFile.FieldType.object "java/lang/Object")))) : Cond) ∈ COM := com_of 399 (by decide +kernel) (by decide +kernel)
theorem mw_400 : ((Jvm.Cond.methodLink "java/util/Arrays" (86 : Nat) ({ cls := "java/lang/Object", name := "getClass", desc := "()Ljava/lang/Class;" } : Jvm.MethodName)) : Cond) ∈ COM := com_of 400 (by decide +kernel) (by decide +kernel)
theorem mw_401 : ((Jvm.Cond.instanceMethod ({ cls := "java/lang/Object", name := "getClass", desc := "()Ljava/lang/Class;" } : Jvm.MethodName)) : Cond) ∈ COM := com_of 401 (by decide +kernel) (by decide +kernel)
theorem mw_402 : ((Jvm.Cond.sameMethod "java/lang/Object" "java/lang/Object" "getClass" "()Ljava/lang/Class;") : Cond) ∈ COM := com_of 402 (by decide +kernel) (by decide +kernel)
theorem mw_403 : ((Jvm.Cond.selects "RodBench" ({ cls := "java/lang/Object", name := "getClass", desc := "()Ljava/lang/Class;" } : Jvm.MethodName) ({ cls := "java/lang/Object", name := "getClass", desc := "()Ljava/lang/Class;" } : Jvm.MethodName)) : Cond) ∈ COM := com_of 403 (by decide +kernel) (by decide +kernel)
theorem mw_404 : ((Jvm.Cond.selects "RodBench$Balance" ({ cls := "java/lang/Object", name := "getClass", desc := "()Ljava/lang/Class;" } : Jvm.MethodName) ({ cls := "java/lang/Object", name := "getClass", desc := "()Ljava/lang/Class;" } : Jvm.MethodName)) : Cond) ∈ COM := com_of 404 (by decide +kernel) (by decide +kernel)
theorem mw_405 : ((Jvm.Cond.selects "RodBench$Bodies" ({ cls := "java/lang/Object", name := "getClass", desc := "()Ljava/lang/Class;" } : Jvm.MethodName) ({ cls := "java/lang/Object", name := "getClass", desc := "()Ljava/lang/Class;" } : Jvm.MethodName)) : Cond) ∈ COM := com_of 405 (by decide +kernel) (by decide +kernel)
theorem mw_406 : ((Jvm.Cond.selects "RodBench$Frame" ({ cls := "java/lang/Object", name := "getClass", desc := "()Ljava/lang/Class;" } : Jvm.MethodName) ({ cls := "java/lang/Object", name := "getClass", desc := "()Ljava/lang/Class;" } : Jvm.MethodName)) : Cond) ∈ COM := com_of 406 (by decide +kernel) (by decide +kernel)
theorem mw_407 : ((Jvm.Cond.selects "RodBench$Offers" ({ cls := "java/lang/Object", name := "getClass", desc := "()Ljava/lang/Class;" } : Jvm.MethodName) ({ cls := "java/lang/Object", name := "getClass", desc := "()Ljava/lang/Class;" } : Jvm.MethodName)) : Cond) ∈ COM := com_of 407 (by decide +kernel) (by decide +kernel)
theorem mw_408 : ((Jvm.Cond.selects "RodBench$Pin" ({ cls := "java/lang/Object", name := "getClass", desc := "()Ljava/lang/Class;" } : Jvm.MethodName) ({ cls := "java/lang/Object", name := "getClass", desc := "()Ljava/lang/Class;" } : Jvm.MethodName)) : Cond) ∈ COM := com_of 408 (by decide +kernel) (by decide +kernel)
theorem mw_409 : ((Jvm.Cond.selects "RodBench$Rod" ({ cls := "java/lang/Object", name := "getClass", desc := "()Ljava/lang/Class;" } : Jvm.MethodName) ({ cls := "java/lang/Object", name := "getClass", desc := "()Ljava/lang/Class;" } : Jvm.MethodName)) : Cond) ∈ COM := com_of 409 (by decide +kernel) (by decide +kernel)
theorem mw_410 : ((Jvm.Cond.selects "RodBench$Row" ({ cls := "java/lang/Object", name := "getClass", desc := "()Ljava/lang/Class;" } : Jvm.MethodName) ({ cls := "java/lang/Object", name := "getClass", desc := "()Ljava/lang/Class;" } : Jvm.MethodName)) : Cond) ∈ COM := com_of 410 (by decide +kernel) (by decide +kernel)
theorem mw_411 : ((Jvm.Cond.selects "RodBench$Table" ({ cls := "java/lang/Object", name := "getClass", desc := "()Ljava/lang/Class;" } : Jvm.MethodName) ({ cls := "java/lang/Object", name := "getClass", desc := "()Ljava/lang/Class;" } : Jvm.MethodName)) : Cond) ∈ COM := com_of 411 (by decide +kernel) (by decide +kernel)
theorem mw_412 : ((Jvm.Cond.selects "RodBench$Trays" ({ cls := "java/lang/Object", name := "getClass", desc := "()Ljava/lang/Class;" } : Jvm.MethodName) ({ cls := "java/lang/Object", name := "getClass", desc := "()Ljava/lang/Class;" } : Jvm.MethodName)) : Cond) ∈ COM := com_of 412 (by decide +kernel) (by decide +kernel)
theorem mw_413 : ((Jvm.Cond.selects "RodBenchModel" ({ cls := "java/lang/Object", name := "getClass", desc := "()Ljava/lang/Class;" } : Jvm.MethodName) ({ cls := "java/lang/Object", name := "getClass", desc := "()Ljava/lang/Class;" } : Jvm.MethodName)) : Cond) ∈ COM := com_of 413 (by decide +kernel) (by decide +kernel)
theorem mw_414 : ((Jvm.Cond.selects "java/util/ArrayList" ({ cls := "java/lang/Object", name := "getClass", desc := "()Ljava/lang/Class;" } : Jvm.MethodName) ({ cls := "java/lang/Object", name := "getClass", desc := "()Ljava/lang/Class;" } : Jvm.MethodName)) : Cond) ∈ COM := com_of 414 (by decide +kernel) (by decide +kernel)
theorem mw_415 : ((Jvm.Cond.native ({ cls := "java/lang/Object", name := "getClass", desc := "()Ljava/lang/Class;" } : Jvm.MethodName)) : Cond) ∈ COM := com_of 415 (by decide +kernel) (by decide +kernel)
theorem mw_416 : ((Jvm.Cond.methodLink "java/util/Arrays" (300 : Nat) ({ cls := "java/util/Arrays", name := "copyOf", desc := "([Ljava/lang/Object;ILjava/lang/Class;)[Ljava/lang/Object;" } : Jvm.MethodName)) : Cond) ∈ COM := com_of 416 (by decide +kernel) (by decide +kernel)
theorem mw_417 : ((Jvm.Cond.static ({ cls := "java/util/Arrays", name := "copyOf", desc := "([Ljava/lang/Object;ILjava/lang/Class;)[Ljava/lang/Object;" } : Jvm.MethodName)) : Cond) ∈ COM := com_of 417 (by decide +kernel) (by decide +kernel)
theorem mw_418 : ((Jvm.Cond.code ({ cls := "java/util/Arrays", name := "copyOf", desc := "([Ljava/lang/Object;ILjava/lang/Class;)[Ljava/lang/Object;" } : Jvm.MethodName) prog_23_method_120_code (4 : Nat) (Option.some (Jvm.ClassFile.FieldType.array (Jvm.ClassFile.FieldType.object "java/lang/Object")))) : Cond) ∈ COM := com_of 418 (by decide +kernel) (by decide +kernel)
theorem mw_419 : ((Jvm.Cond.classLink "java/util/Arrays" (110 : Nat) "[Ljava/lang/Object;") : Cond) ∈ COM := com_of 419 (by decide +kernel) (by decide +kernel)
theorem mw_421 : ((Jvm.Cond.classLink "java/util/Arrays" (2 : Nat) "java/lang/Object") : Cond) ∈ COM := com_of 421 (by decide +kernel) (by decide +kernel)
theorem mw_422 : ((Jvm.Cond.methodLink "java/util/Arrays" (304 : Nat) ({ cls := "java/lang/Math", name := "min", desc := "(II)I" } : Jvm.MethodName)) : Cond) ∈ COM := com_of 422 (by decide +kernel) (by decide +kernel)
theorem mw_423 : ((Jvm.Cond.static ({ cls := "java/lang/Math", name := "min", desc := "(II)I" } : Jvm.MethodName)) : Cond) ∈ COM := com_of 423 (by decide +kernel) (by decide +kernel)
theorem mw_424 : ((Jvm.Cond.code ({ cls := "java/lang/Math", name := "min", desc := "(II)I" } : Jvm.MethodName) prog_18_method_69_code (2 : Nat) (Option.some Jvm.ClassFile.FieldType.int)) : Cond) ∈ COM := com_of 424 (by decide +kernel) (by decide +kernel)
theorem mw_425 : ((Jvm.Cond.methodLink "java/util/Arrays" (150 : Nat) ({ cls := "java/lang/System", name := "arraycopy", desc := "(Ljava/lang/Object;ILjava/lang/Object;II)V" } : Jvm.MethodName)) : Cond) ∈ COM := com_of 425 (by decide +kernel) (by decide +kernel)
theorem mw_426 : ((Jvm.Cond.static ({ cls := "java/lang/System", name := "arraycopy", desc := "(Ljava/lang/Object;ILjava/lang/Object;II)V" } : Jvm.MethodName)) : Cond) ∈ COM := com_of 426 (by decide +kernel) (by decide +kernel)
theorem mw_427 : ((Jvm.Cond.native ({ cls := "java/lang/System", name := "arraycopy", desc := "(Ljava/lang/Object;ILjava/lang/Object;II)V" } : Jvm.MethodName)) : Cond) ∈ COM := com_of 427 (by decide +kernel) (by decide +kernel)
theorem mw_428 : ((Jvm.Cond.methodLink "java/util/ArrayList" (79 : Nat) ({ cls := "java/lang/Math", name := "max", desc := "(II)I" } : Jvm.MethodName)) : Cond) ∈ COM := com_of 428 (by decide +kernel) (by decide +kernel)
theorem mw_429 : ((Jvm.Cond.classLink "java/util/ArrayList" (7 : Nat) "java/lang/Object") : Cond) ∈ COM := com_of 429 (by decide +kernel) (by decide +kernel)
theorem mw_430 : ((Jvm.Cond.methodLink "RodBench" (75 : Nat) ({ cls := "RodBench", name := "renew", desc := "()V" } : Jvm.MethodName)) : Cond) ∈ COM := com_of 430 (by decide +kernel) (by decide +kernel)
theorem mw_432 : ((Jvm.Cond.instanceMethod ({ cls := "RodBench", name := "renew", desc := "()V" } : Jvm.MethodName)) : Cond) ∈ COM := com_of 432 (by decide +kernel) (by decide +kernel)
theorem mw_433 : ((Jvm.Cond.code ({ cls := "RodBench", name := "renew", desc := "()V" } : Jvm.MethodName) prog_1_method_28_code (1 : Nat) (Option.none : Option Jvm.ClassFile.FieldType)) : Cond) ∈ COM := com_of 433 (by decide +kernel) (by decide +kernel)
theorem mw_434 : ((Jvm.Cond.methodLink "RodBench" (246 : Nat) ({ cls := "RodBench$Frame", name := "renew", desc := "()V" } : Jvm.MethodName)) : Cond) ∈ COM := com_of 434 (by decide +kernel) (by decide +kernel)
theorem mw_435 : ((Jvm.Cond.instanceMethod ({ cls := "RodBench$Frame", name := "renew", desc := "()V" } : Jvm.MethodName)) : Cond) ∈ COM := com_of 435 (by decide +kernel) (by decide +kernel)
theorem mw_436 : ((Jvm.Cond.selects "RodBench$Frame" ({ cls := "RodBench$Frame", name := "renew", desc := "()V" } : Jvm.MethodName) ({ cls := "RodBench$Frame", name := "renew", desc := "()V" } : Jvm.MethodName)) : Cond) ∈ COM := com_of 436 (by decide +kernel) (by decide +kernel)
theorem mw_437 : ((Jvm.Cond.code ({ cls := "RodBench$Frame", name := "renew", desc := "()V" } : Jvm.MethodName) prog_4_method_2_code (2 : Nat) (Option.none : Option Jvm.ClassFile.FieldType)) : Cond) ∈ COM := com_of 437 (by decide +kernel) (by decide +kernel)
theorem mw_439 : ((Jvm.Cond.methodLink "RodBench$Frame" (25 : Nat) ({ cls := "java/util/List", name := "clear", desc := "()V" } : Jvm.MethodName)) : Cond) ∈ COM := com_of 439 (by decide +kernel) (by decide +kernel)
theorem mw_442 : ((Jvm.Cond.selects "java/util/ArrayList" ({ cls := "java/util/List", name := "clear", desc := "()V" } : Jvm.MethodName) ({ cls := "java/util/ArrayList", name := "clear", desc := "()V" } : Jvm.MethodName)) : Cond) ∈ COM := com_of 442 (by decide +kernel) (by decide +kernel)
theorem mw_444 : ((Jvm.Cond.instanceMethod ({ cls := "java/util/ArrayList", name := "clear", desc := "()V" } : Jvm.MethodName)) : Cond) ∈ COM := com_of 444 (by decide +kernel) (by decide +kernel)
theorem mw_446 : ((Jvm.Cond.code ({ cls := "java/util/ArrayList", name := "clear", desc := "()V" } : Jvm.MethodName) prog_22_method_40_code (4 : Nat) (Option.none : Option Jvm.ClassFile.FieldType)) : Cond) ∈ COM := com_of 446 (by decide +kernel) (by decide +kernel)
theorem mw_448 : ((Jvm.Cond.methodLink "RodBench$Frame" (44 : Nat) ({ cls := "java/util/List", name := "add", desc := "(Ljava/lang/Object;)Z" } : Jvm.MethodName)) : Cond) ∈ COM := com_of 448 (by decide +kernel) (by decide +kernel)
theorem mw_449 : ((Jvm.Cond.classLink "RodBench$Frame" (48 : Nat) "RodBench$Rod") : Cond) ∈ COM := com_of 449 (by decide +kernel) (by decide +kernel)
theorem mw_450 : ((Jvm.Cond.methodLink "RodBench" (247 : Nat) ({ cls := "RodBench$Balance", name := "renew", desc := "()V" } : Jvm.MethodName)) : Cond) ∈ COM := com_of 450 (by decide +kernel) (by decide +kernel)
theorem mw_451 : ((Jvm.Cond.instanceMethod ({ cls := "RodBench$Balance", name := "renew", desc := "()V" } : Jvm.MethodName)) : Cond) ∈ COM := com_of 451 (by decide +kernel) (by decide +kernel)
theorem mw_452 : ((Jvm.Cond.selects "RodBench$Balance" ({ cls := "RodBench$Balance", name := "renew", desc := "()V" } : Jvm.MethodName) ({ cls := "RodBench$Balance", name := "renew", desc := "()V" } : Jvm.MethodName)) : Cond) ∈ COM := com_of 452 (by decide +kernel) (by decide +kernel)
theorem mw_453 : ((Jvm.Cond.code ({ cls := "RodBench$Balance", name := "renew", desc := "()V" } : Jvm.MethodName) prog_2_method_13_code (1 : Nat) (Option.none : Option Jvm.ClassFile.FieldType)) : Cond) ∈ COM := com_of 453 (by decide +kernel) (by decide +kernel)
theorem mw_454 : ((Jvm.Cond.methodLink "RodBench$Balance" (91 : Nat) ({ cls := "RodBench$Table", name := "layRodsAsRows", desc := "(Ljava/util/List;Ljava/util/List;)V" } : Jvm.MethodName)) : Cond) ∈ COM := com_of 454 (by decide +kernel) (by decide +kernel)
theorem mw_455 : ((Jvm.Cond.instanceMethod ({ cls := "RodBench$Table", name := "layRodsAsRows", desc := "(Ljava/util/List;Ljava/util/List;)V" } : Jvm.MethodName)) : Cond) ∈ COM := com_of 455 (by decide +kernel) (by decide +kernel)
theorem mw_456 : ((Jvm.Cond.selects "RodBench$Table" ({ cls := "RodBench$Table", name := "layRodsAsRows", desc := "(Ljava/util/List;Ljava/util/List;)V" } : Jvm.MethodName) ({ cls := "RodBench$Table", name := "layRodsAsRows", desc := "(Ljava/util/List;Ljava/util/List;)V" } : Jvm.MethodName)) : Cond) ∈ COM := com_of 456 (by decide +kernel) (by decide +kernel)
theorem mw_457 : ((Jvm.Cond.code ({ cls := "RodBench$Table", name := "layRodsAsRows", desc := "(Ljava/util/List;Ljava/util/List;)V" } : Jvm.MethodName) prog_9_method_2_code (5 : Nat) (Option.none : Option Jvm.ClassFile.FieldType)) : Cond) ∈ COM := com_of 457 (by decide +kernel) (by decide +kernel)
theorem mw_459 : ((Jvm.Cond.methodLink "RodBench$Table" (41 : Nat) ({ cls := "java/util/List", name := "size", desc := "()I" } : Jvm.MethodName)) : Cond) ∈ COM := com_of 459 (by decide +kernel) (by decide +kernel)
theorem mw_460 : ((Jvm.Cond.methodLink "RodBench$Table" (47 : Nat) ({ cls := "RodBench$Table", name := "start", desc := "(II)V" } : Jvm.MethodName)) : Cond) ∈ COM := com_of 460 (by decide +kernel) (by decide +kernel)
theorem mw_462 : ((Jvm.Cond.instanceMethod ({ cls := "RodBench$Table", name := "start", desc := "(II)V" } : Jvm.MethodName)) : Cond) ∈ COM := com_of 462 (by decide +kernel) (by decide +kernel)
theorem mw_463 : ((Jvm.Cond.code ({ cls := "RodBench$Table", name := "start", desc := "(II)V" } : Jvm.MethodName) prog_9_method_12_code (4 : Nat) (Option.none : Option Jvm.ClassFile.FieldType)) : Cond) ∈ COM := com_of 463 (by decide +kernel) (by decide +kernel)
theorem mw_464 : ((Jvm.Cond.methodLink "RodBench$Table" (95 : Nat) ({ cls := "java/lang/Math", name := "min", desc := "(II)I" } : Jvm.MethodName)) : Cond) ∈ COM := com_of 464 (by decide +kernel) (by decide +kernel)
theorem mw_466 : ((Jvm.Cond.methodLink "RodBench$Table" (51 : Nat) ({ cls := "java/util/List", name := "get", desc := "(I)Ljava/lang/Object;" } : Jvm.MethodName)) : Cond) ∈ COM := com_of 466 (by decide +kernel) (by decide +kernel)
theorem mw_467 : ((Jvm.Cond.classLink "RodBench$Table" (55 : Nat) "RodBench$Rod") : Cond) ∈ COM := com_of 467 (by decide +kernel) (by decide +kernel)
theorem mw_468 : ((Jvm.Cond.classLink "RodBench$Table" (57 : Nat) "RodBench$Pin") : Cond) ∈ COM := com_of 468 (by decide +kernel) (by decide +kernel)
theorem mw_469 : ((Jvm.Cond.methodLink "RodBench$Table" (59 : Nat) ({ cls := "RodBench$Rod", name := "reach", desc := "(LRodBench$Pin;I)I" } : Jvm.MethodName)) : Cond) ∈ COM := com_of 469 (by decide +kernel) (by decide +kernel)
theorem mw_470 : ((Jvm.Cond.instanceMethod ({ cls := "RodBench$Rod", name := "reach", desc := "(LRodBench$Pin;I)I" } : Jvm.MethodName)) : Cond) ∈ COM := com_of 470 (by decide +kernel) (by decide +kernel)
theorem mw_471 : ((Jvm.Cond.selects "RodBench$Rod" ({ cls := "RodBench$Rod", name := "reach", desc := "(LRodBench$Pin;I)I" } : Jvm.MethodName) ({ cls := "RodBench$Rod", name := "reach", desc := "(LRodBench$Pin;I)I" } : Jvm.MethodName)) : Cond) ∈ COM := com_of 471 (by decide +kernel) (by decide +kernel)
theorem mw_472 : ((Jvm.Cond.code ({ cls := "RodBench$Rod", name := "reach", desc := "(LRodBench$Pin;I)I" } : Jvm.MethodName) prog_7_method_5_code (4 : Nat) (Option.some Jvm.ClassFile.FieldType.int)) : Cond) ∈ COM := com_of 472 (by decide +kernel) (by decide +kernel)
theorem mw_473 : ((Jvm.Cond.methodLink "RodBench$Rod" (32 : Nat) ({ cls := "RodBench$Rod", name := "endsAt", desc := "(LRodBench$Pin;)Z" } : Jvm.MethodName)) : Cond) ∈ COM := com_of 473 (by decide +kernel) (by decide +kernel)
theorem mw_474 : ((Jvm.Cond.instanceMethod ({ cls := "RodBench$Rod", name := "endsAt", desc := "(LRodBench$Pin;)Z" } : Jvm.MethodName)) : Cond) ∈ COM := com_of 474 (by decide +kernel) (by decide +kernel)
theorem mw_475 : ((Jvm.Cond.selects "RodBench$Rod" ({ cls := "RodBench$Rod", name := "endsAt", desc := "(LRodBench$Pin;)Z" } : Jvm.MethodName) ({ cls := "RodBench$Rod", name := "endsAt", desc := "(LRodBench$Pin;)Z" } : Jvm.MethodName)) : Cond) ∈ COM := com_of 475 (by decide +kernel) (by decide +kernel)
theorem mw_476 : ((Jvm.Cond.code ({ cls := "RodBench$Rod", name := "endsAt", desc := "(LRodBench$Pin;)Z" } : Jvm.MethodName) prog_7_method_4_code (2 : Nat) (Option.some Jvm.ClassFile.FieldType.boolean)) : Cond) ∈ COM := com_of 476 (by decide +kernel) (by decide +kernel)
theorem mw_477 : ((Jvm.Cond.methodLink "RodBench$Balance" (95 : Nat) ({ cls := "RodBench$Table", name := "reduce", desc := "()V" } : Jvm.MethodName)) : Cond) ∈ COM := com_of 477 (by decide +kernel) (by decide +kernel)
theorem mw_478 : ((Jvm.Cond.instanceMethod ({ cls := "RodBench$Table", name := "reduce", desc := "()V" } : Jvm.MethodName)) : Cond) ∈ COM := com_of 478 (by decide +kernel) (by decide +kernel)
theorem mw_479 : ((Jvm.Cond.selects "RodBench$Table" ({ cls := "RodBench$Table", name := "reduce", desc := "()V" } : Jvm.MethodName) ({ cls := "RodBench$Table", name := "reduce", desc := "()V" } : Jvm.MethodName)) : Cond) ∈ COM := com_of 479 (by decide +kernel) (by decide +kernel)
theorem mw_480 : ((Jvm.Cond.code ({ cls := "RodBench$Table", name := "reduce", desc := "()V" } : Jvm.MethodName) prog_9_method_4_code (3 : Nat) (Option.none : Option Jvm.ClassFile.FieldType)) : Cond) ∈ COM := com_of 480 (by decide +kernel) (by decide +kernel)
theorem mw_481 : ((Jvm.Cond.methodLink "RodBench$Table" (69 : Nat) ({ cls := "RodBench$Table", name := "openRow", desc := "(I)I" } : Jvm.MethodName)) : Cond) ∈ COM := com_of 481 (by decide +kernel) (by decide +kernel)
theorem mw_483 : ((Jvm.Cond.instanceMethod ({ cls := "RodBench$Table", name := "openRow", desc := "(I)I" } : Jvm.MethodName)) : Cond) ∈ COM := com_of 483 (by decide +kernel) (by decide +kernel)
theorem mw_484 : ((Jvm.Cond.code ({ cls := "RodBench$Table", name := "openRow", desc := "(I)I" } : Jvm.MethodName) prog_9_method_13_code (3 : Nat) (Option.some Jvm.ClassFile.FieldType.int)) : Cond) ∈ COM := com_of 484 (by decide +kernel) (by decide +kernel)
theorem mw_485 : ((Jvm.Cond.methodLink "RodBench$Table" (73 : Nat) ({ cls := "RodBench$Table", name := "makeAboveNought", desc := "([JI)V" } : Jvm.MethodName)) : Cond) ∈ COM := com_of 485 (by decide +kernel) (by decide +kernel)
theorem mw_487 : ((Jvm.Cond.instanceMethod ({ cls := "RodBench$Table", name := "makeAboveNought", desc := "([JI)V" } : Jvm.MethodName)) : Cond) ∈ COM := com_of 487 (by decide +kernel) (by decide +kernel)
theorem mw_488 : ((Jvm.Cond.code ({ cls := "RodBench$Table", name := "makeAboveNought", desc := "([JI)V" } : Jvm.MethodName) prog_9_method_14_code (4 : Nat) (Option.none : Option Jvm.ClassFile.FieldType)) : Cond) ∈ COM := com_of 488 (by decide +kernel) (by decide +kernel)
theorem mw_489 : ((Jvm.Cond.methodLink "RodBench$Table" (77 : Nat) ({ cls := "RodBench$Table", name := "clearColumn", desc := "(II)V" } : Jvm.MethodName)) : Cond) ∈ COM := com_of 489 (by decide +kernel) (by decide +kernel)
theorem mw_491 : ((Jvm.Cond.instanceMethod ({ cls := "RodBench$Table", name := "clearColumn", desc := "(II)V" } : Jvm.MethodName)) : Cond) ∈ COM := com_of 491 (by decide +kernel) (by decide +kernel)
theorem mw_492 : ((Jvm.Cond.code ({ cls := "RodBench$Table", name := "clearColumn", desc := "(II)V" } : Jvm.MethodName) prog_9_method_15_code (4 : Nat) (Option.none : Option Jvm.ClassFile.FieldType)) : Cond) ∈ COM := com_of 492 (by decide +kernel) (by decide +kernel)
theorem mw_493 : ((Jvm.Cond.methodLink "RodBench$Table" (101 : Nat) ({ cls := "RodBench$Table", name := "takeOff", desc := "([J[JI)V" } : Jvm.MethodName)) : Cond) ∈ COM := com_of 493 (by decide +kernel) (by decide +kernel)
theorem mw_495 : ((Jvm.Cond.instanceMethod ({ cls := "RodBench$Table", name := "takeOff", desc := "([J[JI)V" } : Jvm.MethodName)) : Cond) ∈ COM := com_of 495 (by decide +kernel) (by decide +kernel)
theorem mw_496 : ((Jvm.Cond.code ({ cls := "RodBench$Table", name := "takeOff", desc := "([J[JI)V" } : Jvm.MethodName) prog_9_method_16_code (11 : Nat) (Option.none : Option Jvm.ClassFile.FieldType)) : Cond) ∈ COM := com_of 496 (by decide +kernel) (by decide +kernel)
theorem mw_497 : ((Jvm.Cond.methodLink "RodBench$Table" (88 : Nat) ({ cls := "RodBench$Table", name := "commonDivisor", desc := "(JJ)J" } : Jvm.MethodName)) : Cond) ∈ COM := com_of 497 (by decide +kernel) (by decide +kernel)
theorem mw_498 : ((Jvm.Cond.static ({ cls := "RodBench$Table", name := "commonDivisor", desc := "(JJ)J" } : Jvm.MethodName)) : Cond) ∈ COM := com_of 498 (by decide +kernel) (by decide +kernel)
theorem mw_499 : ((Jvm.Cond.code ({ cls := "RodBench$Table", name := "commonDivisor", desc := "(JJ)J" } : Jvm.MethodName) prog_9_method_21_code (11 : Nat) (Option.some Jvm.ClassFile.FieldType.long)) : Cond) ∈ COM := com_of 499 (by decide +kernel) (by decide +kernel)
theorem mw_500 : ((Jvm.Cond.methodLink "RodBench$Table" (114 : Nat) ({ cls := "java/lang/Math", name := "abs", desc := "(J)J" } : Jvm.MethodName)) : Cond) ∈ COM := com_of 500 (by decide +kernel) (by decide +kernel)
theorem mw_501 : ((Jvm.Cond.static ({ cls := "java/lang/Math", name := "abs", desc := "(J)J" } : Jvm.MethodName)) : Cond) ∈ COM := com_of 501 (by decide +kernel) (by decide +kernel)
theorem mw_502 : ((Jvm.Cond.code ({ cls := "java/lang/Math", name := "abs", desc := "(J)J" } : Jvm.MethodName) prog_18_method_61_code (2 : Nat) (Option.some Jvm.ClassFile.FieldType.long)) : Cond) ∈ COM := com_of 502 (by decide +kernel) (by decide +kernel)
theorem mw_503 : ((Jvm.Cond.methodLink "RodBench$Table" (105 : Nat) ({ cls := "RodBench$Table", name := "shrink", desc := "([J)V" } : Jvm.MethodName)) : Cond) ∈ COM := com_of 503 (by decide +kernel) (by decide +kernel)
theorem mw_505 : ((Jvm.Cond.instanceMethod ({ cls := "RodBench$Table", name := "shrink", desc := "([J)V" } : Jvm.MethodName)) : Cond) ∈ COM := com_of 505 (by decide +kernel) (by decide +kernel)
theorem mw_506 : ((Jvm.Cond.code ({ cls := "RodBench$Table", name := "shrink", desc := "([J)V" } : Jvm.MethodName) prog_9_method_17_code (5 : Nat) (Option.none : Option Jvm.ClassFile.FieldType)) : Cond) ∈ COM := com_of 506 (by decide +kernel) (by decide +kernel)
theorem mw_507 : ((Jvm.Cond.constantLong "RodBench$Table" (109 : Nat) (2 : Int64)) : Cond) ∈ COM := com_of 507 (by decide +kernel) (by decide +kernel)
theorem mw_508 : ((Jvm.Cond.methodLink "RodBench$Table" (80 : Nat) ({ cls := "RodBench$Table", name := "scaleOf", desc := "(I)J" } : Jvm.MethodName)) : Cond) ∈ COM := com_of 508 (by decide +kernel) (by decide +kernel)
theorem mw_510 : ((Jvm.Cond.instanceMethod ({ cls := "RodBench$Table", name := "scaleOf", desc := "(I)J" } : Jvm.MethodName)) : Cond) ∈ COM := com_of 510 (by decide +kernel) (by decide +kernel)
theorem mw_511 : ((Jvm.Cond.code ({ cls := "RodBench$Table", name := "scaleOf", desc := "(I)J" } : Jvm.MethodName) prog_9_method_18_code (6 : Nat) (Option.some Jvm.ClassFile.FieldType.long)) : Cond) ∈ COM := com_of 511 (by decide +kernel) (by decide +kernel)
theorem mw_512 : ((Jvm.Cond.methodLink "RodBench$Table" (84 : Nat) ({ cls := "RodBench$Table", name := "isLoose", desc := "(I)Z" } : Jvm.MethodName)) : Cond) ∈ COM := com_of 512 (by decide +kernel) (by decide +kernel)
theorem mw_513 : ((Jvm.Cond.instanceMethod ({ cls := "RodBench$Table", name := "isLoose", desc := "(I)Z" } : Jvm.MethodName)) : Cond) ∈ COM := com_of 513 (by decide +kernel) (by decide +kernel)
theorem mw_514 : ((Jvm.Cond.selects "RodBench$Table" ({ cls := "RodBench$Table", name := "isLoose", desc := "(I)Z" } : Jvm.MethodName) ({ cls := "RodBench$Table", name := "isLoose", desc := "(I)Z" } : Jvm.MethodName)) : Cond) ∈ COM := com_of 514 (by decide +kernel) (by decide +kernel)
theorem mw_515 : ((Jvm.Cond.code ({ cls := "RodBench$Table", name := "isLoose", desc := "(I)Z" } : Jvm.MethodName) prog_9_method_7_code (2 : Nat) (Option.some Jvm.ClassFile.FieldType.boolean)) : Cond) ∈ COM := com_of 515 (by decide +kernel) (by decide +kernel)
theorem mw_516 : ((Jvm.Cond.methodLink "RodBench$Table" (92 : Nat) ({ cls := "RodBench$Table", name := "lowestBelow", desc := "(JJ)J" } : Jvm.MethodName)) : Cond) ∈ COM := com_of 516 (by decide +kernel) (by decide +kernel)
theorem mw_517 : ((Jvm.Cond.static ({ cls := "RodBench$Table", name := "lowestBelow", desc := "(JJ)J" } : Jvm.MethodName)) : Cond) ∈ COM := com_of 517 (by decide +kernel) (by decide +kernel)
theorem mw_518 : ((Jvm.Cond.code ({ cls := "RodBench$Table", name := "lowestBelow", desc := "(JJ)J" } : Jvm.MethodName) prog_9_method_19_code (6 : Nat) (Option.some Jvm.ClassFile.FieldType.long)) : Cond) ∈ COM := com_of 518 (by decide +kernel) (by decide +kernel)
theorem mw_519 : ((Jvm.Cond.methodLink "RodBench$Table" (111 : Nat) ({ cls := "RodBench$Table", name := "leastMultiple", desc := "(JJ)J" } : Jvm.MethodName)) : Cond) ∈ COM := com_of 519 (by decide +kernel) (by decide +kernel)
theorem mw_520 : ((Jvm.Cond.static ({ cls := "RodBench$Table", name := "leastMultiple", desc := "(JJ)J" } : Jvm.MethodName)) : Cond) ∈ COM := com_of 520 (by decide +kernel) (by decide +kernel)
theorem mw_521 : ((Jvm.Cond.code ({ cls := "RodBench$Table", name := "leastMultiple", desc := "(JJ)J" } : Jvm.MethodName) prog_9_method_20_code (6 : Nat) (Option.some Jvm.ClassFile.FieldType.long)) : Cond) ∈ COM := com_of 521 (by decide +kernel) (by decide +kernel)
theorem mw_522 : ((Jvm.Cond.methodLink "RodBench$Balance" (98 : Nat) ({ cls := "RodBench$Table", name := "layRodsAsColumns", desc := "(Ljava/util/List;Ljava/util/List;)V" } : Jvm.MethodName)) : Cond) ∈ COM := com_of 522 (by decide +kernel) (by decide +kernel)
theorem mw_523 : ((Jvm.Cond.instanceMethod ({ cls := "RodBench$Table", name := "layRodsAsColumns", desc := "(Ljava/util/List;Ljava/util/List;)V" } : Jvm.MethodName)) : Cond) ∈ COM := com_of 523 (by decide +kernel) (by decide +kernel)
theorem mw_524 : ((Jvm.Cond.selects "RodBench$Table" ({ cls := "RodBench$Table", name := "layRodsAsColumns", desc := "(Ljava/util/List;Ljava/util/List;)V" } : Jvm.MethodName) ({ cls := "RodBench$Table", name := "layRodsAsColumns", desc := "(Ljava/util/List;Ljava/util/List;)V" } : Jvm.MethodName)) : Cond) ∈ COM := com_of 524 (by decide +kernel) (by decide +kernel)
theorem mw_525 : ((Jvm.Cond.code ({ cls := "RodBench$Table", name := "layRodsAsColumns", desc := "(Ljava/util/List;Ljava/util/List;)V" } : Jvm.MethodName) prog_9_method_3_code (6 : Nat) (Option.none : Option Jvm.ClassFile.FieldType)) : Cond) ∈ COM := com_of 525 (by decide +kernel) (by decide +kernel)
theorem mw_526 : ((Jvm.Cond.methodLink "RodBench" (248 : Nat) ({ cls := "RodBench$Offers", name := "renew", desc := "()V" } : Jvm.MethodName)) : Cond) ∈ COM := com_of 526 (by decide +kernel) (by decide +kernel)
theorem mw_527 : ((Jvm.Cond.instanceMethod ({ cls := "RodBench$Offers", name := "renew", desc := "()V" } : Jvm.MethodName)) : Cond) ∈ COM := com_of 527 (by decide +kernel) (by decide +kernel)
theorem mw_528 : ((Jvm.Cond.selects "RodBench$Offers" ({ cls := "RodBench$Offers", name := "renew", desc := "()V" } : Jvm.MethodName) ({ cls := "RodBench$Offers", name := "renew", desc := "()V" } : Jvm.MethodName)) : Cond) ∈ COM := com_of 528 (by decide +kernel) (by decide +kernel)
theorem mw_529 : ((Jvm.Cond.code ({ cls := "RodBench$Offers", name := "renew", desc := "()V" } : Jvm.MethodName) prog_5_method_5_code (2 : Nat) (Option.none : Option Jvm.ClassFile.FieldType)) : Cond) ∈ COM := com_of 529 (by decide +kernel) (by decide +kernel)
theorem mw_530 : ((Jvm.Cond.methodLink "RodBench$Offers" (62 : Nat) ({ cls := "RodBench$Offers", name := "queueRodsIn", desc := "()V" } : Jvm.MethodName)) : Cond) ∈ COM := com_of 530 (by decide +kernel) (by decide +kernel)
theorem mw_532 : ((Jvm.Cond.instanceMethod ({ cls := "RodBench$Offers", name := "queueRodsIn", desc := "()V" } : Jvm.MethodName)) : Cond) ∈ COM := com_of 532 (by decide +kernel) (by decide +kernel)
theorem mw_533 : ((Jvm.Cond.code ({ cls := "RodBench$Offers", name := "queueRodsIn", desc := "()V" } : Jvm.MethodName) prog_5_method_6_code (2 : Nat) (Option.none : Option Jvm.ClassFile.FieldType)) : Cond) ∈ COM := com_of 533 (by decide +kernel) (by decide +kernel)
theorem mw_535 : ((Jvm.Cond.methodLink "RodBench$Offers" (75 : Nat) ({ cls := "java/util/List", name := "clear", desc := "()V" } : Jvm.MethodName)) : Cond) ∈ COM := com_of 535 (by decide +kernel) (by decide +kernel)
theorem mw_537 : ((Jvm.Cond.methodLink "RodBench$Offers" (32 : Nat) ({ cls := "java/util/List", name := "size", desc := "()I" } : Jvm.MethodName)) : Cond) ∈ COM := com_of 537 (by decide +kernel) (by decide +kernel)
theorem mw_539 : ((Jvm.Cond.methodLink "RodBench$Offers" (38 : Nat) ({ cls := "java/util/List", name := "get", desc := "(I)Ljava/lang/Object;" } : Jvm.MethodName)) : Cond) ∈ COM := com_of 539 (by decide +kernel) (by decide +kernel)
theorem mw_540 : ((Jvm.Cond.classLink "RodBench$Offers" (42 : Nat) "RodBench$Rod") : Cond) ∈ COM := com_of 540 (by decide +kernel) (by decide +kernel)
theorem mw_542 : ((Jvm.Cond.methodLink "RodBench$Offers" (85 : Nat) ({ cls := "java/util/List", name := "add", desc := "(Ljava/lang/Object;)Z" } : Jvm.MethodName)) : Cond) ∈ COM := com_of 542 (by decide +kernel) (by decide +kernel)
theorem mw_543 : ((Jvm.Cond.methodLink "RodBench$Offers" (65 : Nat) ({ cls := "RodBench$Offers", name := "queueRodsOut", desc := "()V" } : Jvm.MethodName)) : Cond) ∈ COM := com_of 543 (by decide +kernel) (by decide +kernel)
theorem mw_545 : ((Jvm.Cond.instanceMethod ({ cls := "RodBench$Offers", name := "queueRodsOut", desc := "()V" } : Jvm.MethodName)) : Cond) ∈ COM := com_of 545 (by decide +kernel) (by decide +kernel)
theorem mw_546 : ((Jvm.Cond.code ({ cls := "RodBench$Offers", name := "queueRodsOut", desc := "()V" } : Jvm.MethodName) prog_5_method_7_code (4 : Nat) (Option.none : Option Jvm.ClassFile.FieldType)) : Cond) ∈ COM := com_of 546 (by decide +kernel) (by decide +kernel)
theorem mw_548 : ((Jvm.Cond.methodLink "RodBench$Offers" (96 : Nat) ({ cls := "java/util/List", name := "add", desc := "(ILjava/lang/Object;)V" } : Jvm.MethodName)) : Cond) ∈ COM := com_of 548 (by decide +kernel) (by decide +kernel)
theorem mw_551 : ((Jvm.Cond.selects "java/util/ArrayList" ({ cls := "java/util/List", name := "add", desc := "(ILjava/lang/Object;)V" } : Jvm.MethodName) ({ cls := "java/util/ArrayList", name := "add", desc := "(ILjava/lang/Object;)V" } : Jvm.MethodName)) : Cond) ∈ COM := com_of 551 (by decide +kernel) (by decide +kernel)
theorem mw_553 : ((Jvm.Cond.instanceMethod ({ cls := "java/util/ArrayList", name := "add", desc := "(ILjava/lang/Object;)V" } : Jvm.MethodName)) : Cond) ∈ COM := com_of 553 (by decide +kernel) (by decide +kernel)
theorem mw_555 : ((Jvm.Cond.code ({ cls := "java/util/ArrayList", name := "add", desc := "(ILjava/lang/Object;)V" } : Jvm.MethodName) prog_22_method_26_code (5 : Nat) (Option.none : Option Jvm.ClassFile.FieldType)) : Cond) ∈ COM := com_of 555 (by decide +kernel) (by decide +kernel)
theorem mw_556 : ((Jvm.Cond.methodLink "java/util/ArrayList" (135 : Nat) ({ cls := "java/util/ArrayList", name := "rangeCheckForAdd", desc := "(I)V" } : Jvm.MethodName)) : Cond) ∈ COM := com_of 556 (by decide +kernel) (by decide +kernel)
theorem mw_558 : ((Jvm.Cond.instanceMethod ({ cls := "java/util/ArrayList", name := "rangeCheckForAdd", desc := "(I)V" } : Jvm.MethodName)) : Cond) ∈ COM := com_of 558 (by decide +kernel) (by decide +kernel)
theorem mw_559 : ((Jvm.Cond.code ({ cls := "java/util/ArrayList", name := "rangeCheckForAdd", desc := "(I)V" } : Jvm.MethodName) prog_22_method_45_code (2 : Nat) (Option.none : Option Jvm.ClassFile.FieldType)) : Cond) ∈ COM := com_of 559 (by decide +kernel) (by decide +kernel)
theorem mw_560 : ((Jvm.Cond.methodLink "java/util/ArrayList" (112 : Nat) ({ cls := "java/lang/System", name := "arraycopy", desc := "(Ljava/lang/Object;ILjava/lang/Object;II)V" } : Jvm.MethodName)) : Cond) ∈ COM := com_of 560 (by decide +kernel) (by decide +kernel)
theorem mw_561 : ((Jvm.Cond.methodLink "RodBench$Offers" (68 : Nat) ({ cls := "RodBench$Table", name := "layRodsAsColumns", desc := "(Ljava/util/List;Ljava/util/List;)V" } : Jvm.MethodName)) : Cond) ∈ COM := com_of 561 (by decide +kernel) (by decide +kernel)
theorem mw_562 : ((Jvm.Cond.methodLink "RodBench$Offers" (72 : Nat) ({ cls := "RodBench$Table", name := "reduce", desc := "()V" } : Jvm.MethodName)) : Cond) ∈ COM := com_of 562 (by decide +kernel) (by decide +kernel)
theorem mw_563 : ((Jvm.Cond.methodLink "RodBench$Offers" (81 : Nat) ({ cls := "RodBench$Table", name := "isLoose", desc := "(I)Z" } : Jvm.MethodName)) : Cond) ∈ COM := com_of 563 (by decide +kernel) (by decide +kernel)
theorem mw_564 : ((Jvm.Cond.methodLink "RodBench" (249 : Nat) ({ cls := "RodBench$Bodies", name := "renew", desc := "()V" } : Jvm.MethodName)) : Cond) ∈ COM := com_of 564 (by decide +kernel) (by decide +kernel)
theorem mw_565 : ((Jvm.Cond.instanceMethod ({ cls := "RodBench$Bodies", name := "renew", desc := "()V" } : Jvm.MethodName)) : Cond) ∈ COM := com_of 565 (by decide +kernel) (by decide +kernel)
theorem mw_566 : ((Jvm.Cond.selects "RodBench$Bodies" ({ cls := "RodBench$Bodies", name := "renew", desc := "()V" } : Jvm.MethodName) ({ cls := "RodBench$Bodies", name := "renew", desc := "()V" } : Jvm.MethodName)) : Cond) ∈ COM := com_of 566 (by decide +kernel) (by decide +kernel)
theorem mw_567 : ((Jvm.Cond.code ({ cls := "RodBench$Bodies", name := "renew", desc := "()V" } : Jvm.MethodName) prog_3_method_8_code (2 : Nat) (Option.none : Option Jvm.ClassFile.FieldType)) : Cond) ∈ COM := com_of 567 (by decide +kernel) (by decide +kernel)
theorem mw_568 : ((Jvm.Cond.methodLink "RodBench$Bodies" (66 : Nat) ({ cls := "RodBench$Bodies", name := "mostEven", desc := "(I)I" } : Jvm.MethodName)) : Cond) ∈ COM := com_of 568 (by decide +kernel) (by decide +kernel)
theorem mw_570 : ((Jvm.Cond.instanceMethod ({ cls := "RodBench$Bodies", name := "mostEven", desc := "(I)I" } : Jvm.MethodName)) : Cond) ∈ COM := com_of 570 (by decide +kernel) (by decide +kernel)
theorem mw_571 : ((Jvm.Cond.code ({ cls := "RodBench$Bodies", name := "mostEven", desc := "(I)I" } : Jvm.MethodName) prog_3_method_11_code (5 : Nat) (Option.some Jvm.ClassFile.FieldType.int)) : Cond) ∈ COM := com_of 571 (by decide +kernel) (by decide +kernel)
theorem mw_573 : ((Jvm.Cond.methodLink "RodBench$Bodies" (39 : Nat) ({ cls := "java/util/List", name := "size", desc := "()I" } : Jvm.MethodName)) : Cond) ∈ COM := com_of 573 (by decide +kernel) (by decide +kernel)
theorem mw_575 : ((Jvm.Cond.methodLink "RodBench$Bodies" (80 : Nat) ({ cls := "java/util/List", name := "get", desc := "(I)Ljava/lang/Object;" } : Jvm.MethodName)) : Cond) ∈ COM := com_of 575 (by decide +kernel) (by decide +kernel)
theorem mw_576 : ((Jvm.Cond.classLink "RodBench$Bodies" (84 : Nat) "RodBench$Rod") : Cond) ∈ COM := com_of 576 (by decide +kernel) (by decide +kernel)
theorem mw_577 : ((Jvm.Cond.methodLink "RodBench$Bodies" (51 : Nat) ({ cls := "RodBench$Bodies", name := "endsOf", desc := "(LRodBench$Rod;)I" } : Jvm.MethodName)) : Cond) ∈ COM := com_of 577 (by decide +kernel) (by decide +kernel)
theorem mw_578 : ((Jvm.Cond.static ({ cls := "RodBench$Bodies", name := "endsOf", desc := "(LRodBench$Rod;)I" } : Jvm.MethodName)) : Cond) ∈ COM := com_of 578 (by decide +kernel) (by decide +kernel)
theorem mw_579 : ((Jvm.Cond.code ({ cls := "RodBench$Bodies", name := "endsOf", desc := "(LRodBench$Rod;)I" } : Jvm.MethodName) prog_3_method_16_code (1 : Nat) (Option.some Jvm.ClassFile.FieldType.int)) : Cond) ∈ COM := com_of 579 (by decide +kernel) (by decide +kernel)
theorem mw_580 : ((Jvm.Cond.methodLink "RodBench$Bodies" (63 : Nat) ({ cls := "RodBench$Bodies", name := "bitOf", desc := "(I)I" } : Jvm.MethodName)) : Cond) ∈ COM := com_of 580 (by decide +kernel) (by decide +kernel)
theorem mw_581 : ((Jvm.Cond.static ({ cls := "RodBench$Bodies", name := "bitOf", desc := "(I)I" } : Jvm.MethodName)) : Cond) ∈ COM := com_of 581 (by decide +kernel) (by decide +kernel)
theorem mw_582 : ((Jvm.Cond.code ({ cls := "RodBench$Bodies", name := "bitOf", desc := "(I)I" } : Jvm.MethodName) prog_3_method_17_code (1 : Nat) (Option.some Jvm.ClassFile.FieldType.int)) : Cond) ∈ COM := com_of 582 (by decide +kernel) (by decide +kernel)
theorem mw_583 : ((Jvm.Cond.methodLink "RodBench$Bodies" (55 : Nat) ({ cls := "RodBench$Bodies", name := "holds", desc := "(II)Z" } : Jvm.MethodName)) : Cond) ∈ COM := com_of 583 (by decide +kernel) (by decide +kernel)
theorem mw_584 : ((Jvm.Cond.static ({ cls := "RodBench$Bodies", name := "holds", desc := "(II)Z" } : Jvm.MethodName)) : Cond) ∈ COM := com_of 584 (by decide +kernel) (by decide +kernel)
theorem mw_585 : ((Jvm.Cond.code ({ cls := "RodBench$Bodies", name := "holds", desc := "(II)Z" } : Jvm.MethodName) prog_3_method_15_code (2 : Nat) (Option.some Jvm.ClassFile.FieldType.boolean)) : Cond) ∈ COM := com_of 585 (by decide +kernel) (by decide +kernel)
theorem mw_586 : ((Jvm.Cond.methodLink "RodBench$Bodies" (86 : Nat) ({ cls := "RodBench$Bodies", name := "hasRoom", desc := "(I)Z" } : Jvm.MethodName)) : Cond) ∈ COM := com_of 586 (by decide +kernel) (by decide +kernel)
theorem mw_588 : ((Jvm.Cond.instanceMethod ({ cls := "RodBench$Bodies", name := "hasRoom", desc := "(I)Z" } : Jvm.MethodName)) : Cond) ∈ COM := com_of 588 (by decide +kernel) (by decide +kernel)
theorem mw_589 : ((Jvm.Cond.code ({ cls := "RodBench$Bodies", name := "hasRoom", desc := "(I)Z" } : Jvm.MethodName) prog_3_method_12_code (3 : Nat) (Option.some Jvm.ClassFile.FieldType.boolean)) : Cond) ∈ COM := com_of 589 (by decide +kernel) (by decide +kernel)
theorem mw_590 : ((Jvm.Cond.methodLink "RodBench$Bodies" (69 : Nat) ({ cls := "java/lang/Integer", name := "bitCount", desc := "(I)I" } : Jvm.MethodName)) : Cond) ∈ COM := com_of 590 (by decide +kernel) (by decide +kernel)
theorem mw_591 : ((Jvm.Cond.static ({ cls := "java/lang/Integer", name := "bitCount", desc := "(I)I" } : Jvm.MethodName)) : Cond) ∈ COM := com_of 591 (by decide +kernel) (by decide +kernel)
theorem mw_592 : ((Jvm.Cond.code ({ cls := "java/lang/Integer", name := "bitCount", desc := "(I)I" } : Jvm.MethodName) prog_16_method_49_code (1 : Nat) (Option.some Jvm.ClassFile.FieldType.int)) : Cond) ∈ COM := com_of 592 (by decide +kernel) (by decide +kernel)
theorem mw_593 : ((Jvm.Cond.constant "java/lang/Integer" (265 : Nat) (1431655765 : Int32)) : Cond) ∈ COM := com_of 593 (by decide +kernel) (by decide +kernel)
theorem mw_594 : ((Jvm.Cond.constant "java/lang/Integer" (266 : Nat) (858993459 : Int32)) : Cond) ∈ COM := com_of 594 (by decide +kernel) (by decide +kernel)
theorem mw_595 : ((Jvm.Cond.constant "java/lang/Integer" (267 : Nat) (252645135 : Int32)) : Cond) ∈ COM := com_of 595 (by decide +kernel) (by decide +kernel)
theorem mw_596 : ((Jvm.Cond.methodLink "RodBench$Bodies" (47 : Nat) ({ cls := "RodBench$Bodies", name := "mostRods", desc := "(I)I" } : Jvm.MethodName)) : Cond) ∈ COM := com_of 596 (by decide +kernel) (by decide +kernel)
theorem mw_597 : ((Jvm.Cond.static ({ cls := "RodBench$Bodies", name := "mostRods", desc := "(I)I" } : Jvm.MethodName)) : Cond) ∈ COM := com_of 597 (by decide +kernel) (by decide +kernel)
theorem mw_598 : ((Jvm.Cond.code ({ cls := "RodBench$Bodies", name := "mostRods", desc := "(I)I" } : Jvm.MethodName) prog_3_method_14_code (1 : Nat) (Option.some Jvm.ClassFile.FieldType.int)) : Cond) ∈ COM := com_of 598 (by decide +kernel) (by decide +kernel)
theorem mw_599 : ((Jvm.Cond.methodLink "RodBench$Bodies" (89 : Nat) ({ cls := "RodBench$Bodies", name := "choose", desc := "(I)V" } : Jvm.MethodName)) : Cond) ∈ COM := com_of 599 (by decide +kernel) (by decide +kernel)
theorem mw_601 : ((Jvm.Cond.instanceMethod ({ cls := "RodBench$Bodies", name := "choose", desc := "(I)V" } : Jvm.MethodName)) : Cond) ∈ COM := com_of 601 (by decide +kernel) (by decide +kernel)
theorem mw_602 : ((Jvm.Cond.code ({ cls := "RodBench$Bodies", name := "choose", desc := "(I)V" } : Jvm.MethodName) prog_3_method_13_code (3 : Nat) (Option.none : Option Jvm.ClassFile.FieldType)) : Cond) ∈ COM := com_of 602 (by decide +kernel) (by decide +kernel)
theorem mw_603 : ((Jvm.Cond.methodLink "RodBench$Bodies" (74 : Nat) ({ cls := "RodBench$Bodies", name := "isInBody", desc := "(I)Z" } : Jvm.MethodName)) : Cond) ∈ COM := com_of 603 (by decide +kernel) (by decide +kernel)
theorem mw_605 : ((Jvm.Cond.instanceMethod ({ cls := "RodBench$Bodies", name := "isInBody", desc := "(I)Z" } : Jvm.MethodName)) : Cond) ∈ COM := com_of 605 (by decide +kernel) (by decide +kernel)
theorem mw_606 : ((Jvm.Cond.code ({ cls := "RodBench$Bodies", name := "isInBody", desc := "(I)Z" } : Jvm.MethodName) prog_3_method_9_code (3 : Nat) (Option.some Jvm.ClassFile.FieldType.boolean)) : Cond) ∈ COM := com_of 606 (by decide +kernel) (by decide +kernel)
theorem mw_607 : ((Jvm.Cond.methodLink "RodBench$Bodies" (77 : Nat) ({ cls := "RodBench$Bodies", name := "isWhole", desc := "(I)Z" } : Jvm.MethodName)) : Cond) ∈ COM := com_of 607 (by decide +kernel) (by decide +kernel)
theorem mw_609 : ((Jvm.Cond.instanceMethod ({ cls := "RodBench$Bodies", name := "isWhole", desc := "(I)Z" } : Jvm.MethodName)) : Cond) ∈ COM := com_of 609 (by decide +kernel) (by decide +kernel)
theorem mw_610 : ((Jvm.Cond.code ({ cls := "RodBench$Bodies", name := "isWhole", desc := "(I)Z" } : Jvm.MethodName) prog_3_method_10_code (2 : Nat) (Option.some Jvm.ClassFile.FieldType.boolean)) : Cond) ∈ COM := com_of 610 (by decide +kernel) (by decide +kernel)
theorem mw_611 : ((Jvm.Cond.methodLink "RodBenchLaw" (18 : Nat) ({ cls := "RodBench", name := "move", desc := "(III)I" } : Jvm.MethodName)) : Cond) ∈ COM := com_of 611 (by decide +kernel) (by decide +kernel)
theorem mw_612 : ((Jvm.Cond.instanceMethod ({ cls := "RodBench", name := "move", desc := "(III)I" } : Jvm.MethodName)) : Cond) ∈ COM := com_of 612 (by decide +kernel) (by decide +kernel)
theorem mw_613 : ((Jvm.Cond.selects "RodBench" ({ cls := "RodBench", name := "move", desc := "(III)I" } : Jvm.MethodName) ({ cls := "RodBench", name := "move", desc := "(III)I" } : Jvm.MethodName)) : Cond) ∈ COM := com_of 613 (by decide +kernel) (by decide +kernel)
theorem mw_614 : ((Jvm.Cond.code ({ cls := "RodBench", name := "move", desc := "(III)I" } : Jvm.MethodName) prog_1_method_3_code (6 : Nat) (Option.some Jvm.ClassFile.FieldType.int)) : Cond) ∈ COM := com_of 614 (by decide +kernel) (by decide +kernel)
theorem mw_615 : ((Jvm.Cond.methodLink "RodBench" (78 : Nat) ({ cls := "RodBench$Frame", name := "isPin", desc := "(I)Z" } : Jvm.MethodName)) : Cond) ∈ COM := com_of 615 (by decide +kernel) (by decide +kernel)
theorem mw_616 : ((Jvm.Cond.instanceMethod ({ cls := "RodBench$Frame", name := "isPin", desc := "(I)Z" } : Jvm.MethodName)) : Cond) ∈ COM := com_of 616 (by decide +kernel) (by decide +kernel)
theorem mw_617 : ((Jvm.Cond.selects "RodBench$Frame" ({ cls := "RodBench$Frame", name := "isPin", desc := "(I)Z" } : Jvm.MethodName) ({ cls := "RodBench$Frame", name := "isPin", desc := "(I)Z" } : Jvm.MethodName)) : Cond) ∈ COM := com_of 617 (by decide +kernel) (by decide +kernel)
theorem mw_618 : ((Jvm.Cond.code ({ cls := "RodBench$Frame", name := "isPin", desc := "(I)Z" } : Jvm.MethodName) prog_4_method_3_code (2 : Nat) (Option.some Jvm.ClassFile.FieldType.boolean)) : Cond) ∈ COM := com_of 618 (by decide +kernel) (by decide +kernel)
theorem mw_620 : ((Jvm.Cond.methodLink "RodBench" (82 : Nat) ({ cls := "java/util/List", name := "get", desc := "(I)Ljava/lang/Object;" } : Jvm.MethodName)) : Cond) ∈ COM := com_of 620 (by decide +kernel) (by decide +kernel)
theorem mw_621 : ((Jvm.Cond.methodLink "RodBenchLaw" (23 : Nat) ({ cls := "RodBench", name := "hold", desc := "(IZ)I" } : Jvm.MethodName)) : Cond) ∈ COM := com_of 621 (by decide +kernel) (by decide +kernel)
theorem mw_622 : ((Jvm.Cond.instanceMethod ({ cls := "RodBench", name := "hold", desc := "(IZ)I" } : Jvm.MethodName)) : Cond) ∈ COM := com_of 622 (by decide +kernel) (by decide +kernel)
theorem mw_623 : ((Jvm.Cond.selects "RodBench" ({ cls := "RodBench", name := "hold", desc := "(IZ)I" } : Jvm.MethodName) ({ cls := "RodBench", name := "hold", desc := "(IZ)I" } : Jvm.MethodName)) : Cond) ∈ COM := com_of 623 (by decide +kernel) (by decide +kernel)
theorem mw_624 : ((Jvm.Cond.code ({ cls := "RodBench", name := "hold", desc := "(IZ)I" } : Jvm.MethodName) prog_1_method_4_code (4 : Nat) (Option.some Jvm.ClassFile.FieldType.int)) : Cond) ∈ COM := com_of 624 (by decide +kernel) (by decide +kernel)
theorem mw_625 : ((Jvm.Cond.methodLink "RodBenchLaw" (28 : Nat) ({ cls := "RodBench", name := "rod", desc := "(IIII)I" } : Jvm.MethodName)) : Cond) ∈ COM := com_of 625 (by decide +kernel) (by decide +kernel)
theorem mw_626 : ((Jvm.Cond.instanceMethod ({ cls := "RodBench", name := "rod", desc := "(IIII)I" } : Jvm.MethodName)) : Cond) ∈ COM := com_of 626 (by decide +kernel) (by decide +kernel)
theorem mw_627 : ((Jvm.Cond.selects "RodBench" ({ cls := "RodBench", name := "rod", desc := "(IIII)I" } : Jvm.MethodName) ({ cls := "RodBench", name := "rod", desc := "(IIII)I" } : Jvm.MethodName)) : Cond) ∈ COM := com_of 627 (by decide +kernel) (by decide +kernel)
theorem mw_628 : ((Jvm.Cond.code ({ cls := "RodBench", name := "rod", desc := "(IIII)I" } : Jvm.MethodName) prog_1_method_5_code (7 : Nat) (Option.some Jvm.ClassFile.FieldType.int)) : Cond) ∈ COM := com_of 628 (by decide +kernel) (by decide +kernel)
theorem mw_629 : ((Jvm.Cond.methodLink "RodBench" (103 : Nat) ({ cls := "RodBench", name := "isPriceOf", desc := "(II)Z" } : Jvm.MethodName)) : Cond) ∈ COM := com_of 629 (by decide +kernel) (by decide +kernel)
theorem mw_630 : ((Jvm.Cond.static ({ cls := "RodBench", name := "isPriceOf", desc := "(II)Z" } : Jvm.MethodName)) : Cond) ∈ COM := com_of 630 (by decide +kernel) (by decide +kernel)
theorem mw_631 : ((Jvm.Cond.code ({ cls := "RodBench", name := "isPriceOf", desc := "(II)Z" } : Jvm.MethodName) prog_1_method_27_code (2 : Nat) (Option.some Jvm.ClassFile.FieldType.boolean)) : Cond) ∈ COM := com_of 631 (by decide +kernel) (by decide +kernel)
theorem mw_632 : ((Jvm.Cond.methodLink "RodBench" (106 : Nat) ({ cls := "RodBench$Frame", name := "areJoined", desc := "(LRodBench$Pin;LRodBench$Pin;)Z" } : Jvm.MethodName)) : Cond) ∈ COM := com_of 632 (by decide +kernel) (by decide +kernel)
theorem mw_633 : ((Jvm.Cond.instanceMethod ({ cls := "RodBench$Frame", name := "areJoined", desc := "(LRodBench$Pin;LRodBench$Pin;)Z" } : Jvm.MethodName)) : Cond) ∈ COM := com_of 633 (by decide +kernel) (by decide +kernel)
theorem mw_634 : ((Jvm.Cond.selects "RodBench$Frame" ({ cls := "RodBench$Frame", name := "areJoined", desc := "(LRodBench$Pin;LRodBench$Pin;)Z" } : Jvm.MethodName) ({ cls := "RodBench$Frame", name := "areJoined", desc := "(LRodBench$Pin;LRodBench$Pin;)Z" } : Jvm.MethodName)) : Cond) ∈ COM := com_of 634 (by decide +kernel) (by decide +kernel)
theorem mw_635 : ((Jvm.Cond.code ({ cls := "RodBench$Frame", name := "areJoined", desc := "(LRodBench$Pin;LRodBench$Pin;)Z" } : Jvm.MethodName) prog_4_method_6_code (4 : Nat) (Option.some Jvm.ClassFile.FieldType.boolean)) : Cond) ∈ COM := com_of 635 (by decide +kernel) (by decide +kernel)
theorem mw_636 : ((Jvm.Cond.methodLink "RodBench$Frame" (60 : Nat) ({ cls := "RodBench$Rod", name := "joins", desc := "(LRodBench$Pin;LRodBench$Pin;)Z" } : Jvm.MethodName)) : Cond) ∈ COM := com_of 636 (by decide +kernel) (by decide +kernel)
theorem mw_637 : ((Jvm.Cond.instanceMethod ({ cls := "RodBench$Rod", name := "joins", desc := "(LRodBench$Pin;LRodBench$Pin;)Z" } : Jvm.MethodName)) : Cond) ∈ COM := com_of 637 (by decide +kernel) (by decide +kernel)
theorem mw_638 : ((Jvm.Cond.selects "RodBench$Rod" ({ cls := "RodBench$Rod", name := "joins", desc := "(LRodBench$Pin;LRodBench$Pin;)Z" } : Jvm.MethodName) ({ cls := "RodBench$Rod", name := "joins", desc := "(LRodBench$Pin;LRodBench$Pin;)Z" } : Jvm.MethodName)) : Cond) ∈ COM := com_of 638 (by decide +kernel) (by decide +kernel)
theorem mw_639 : ((Jvm.Cond.code ({ cls := "RodBench$Rod", name := "joins", desc := "(LRodBench$Pin;LRodBench$Pin;)Z" } : Jvm.MethodName) prog_7_method_3_code (3 : Nat) (Option.some Jvm.ClassFile.FieldType.boolean)) : Cond) ∈ COM := com_of 639 (by decide +kernel) (by decide +kernel)
theorem mw_640 : ((Jvm.Cond.classLink "RodBench" (113 : Nat) "RodBench$Rod") : Cond) ∈ COM := com_of 640 (by decide +kernel) (by decide +kernel)
theorem mw_641 : ((Jvm.Cond.instantiable "RodBench$Rod" (6 : Nat)) : Cond) ∈ COM := com_of 641 (by decide +kernel) (by decide +kernel)
theorem mw_642 : ((Jvm.Cond.methodLink "RodBench" (115 : Nat) ({ cls := "RodBench$Rod", name := "<init>", desc := "(IILRodBench$Pin;LRodBench$Pin;I)V" } : Jvm.MethodName)) : Cond) ∈ COM := com_of 642 (by decide +kernel) (by decide +kernel)
theorem mw_643 : ((Jvm.Cond.instanceMethod ({ cls := "RodBench$Rod", name := "<init>", desc := "(IILRodBench$Pin;LRodBench$Pin;I)V" } : Jvm.MethodName)) : Cond) ∈ COM := com_of 643 (by decide +kernel) (by decide +kernel)
theorem mw_644 : ((Jvm.Cond.code ({ cls := "RodBench$Rod", name := "<init>", desc := "(IILRodBench$Pin;LRodBench$Pin;I)V" } : Jvm.MethodName) prog_7_method_1_code (6 : Nat) (Option.none : Option Jvm.ClassFile.FieldType)) : Cond) ∈ COM := com_of 644 (by decide +kernel) (by decide +kernel)
theorem mw_645 : ((Jvm.Cond.methodLink "RodBench$Rod" (3 : Nat) ({ cls := "java/lang/Object", name := "<init>", desc := "()V" } : Jvm.MethodName)) : Cond) ∈ COM := com_of 645 (by decide +kernel) (by decide +kernel)
theorem mw_646 : ((Jvm.Cond.fieldLink "RodBench$Rod" (9 : Nat) "RodBench$Rod" "number" "I") : Cond) ∈ COM := com_of 646 (by decide +kernel) (by decide +kernel)
theorem mw_647 : ((Jvm.Cond.fieldLink "RodBench$Offers" (44 : Nat) "RodBench$Rod" "number" "I") : Cond) ∈ COM := com_of 647 (by decide +kernel) (by decide +kernel)
theorem mw_648 : ((Jvm.Cond.fieldLink "RodBench$Rod" (15 : Nat) "RodBench$Rod" "kind" "I") : Cond) ∈ COM := com_of 648 (by decide +kernel) (by decide +kernel)
theorem mw_649 : ((Jvm.Cond.fieldLink "RodBench" (152 : Nat) "RodBench$Rod" "kind" "I") : Cond) ∈ COM := com_of 649 (by decide +kernel) (by decide +kernel)
theorem mw_650 : ((Jvm.Cond.fieldLink "RodBench$Rod" (18 : Nat) "RodBench$Rod" "first" "LRodBench$Pin;") : Cond) ∈ COM := com_of 650 (by decide +kernel) (by decide +kernel)
theorem mw_651 : ((Jvm.Cond.fieldLink "RodBench" (155 : Nat) "RodBench$Rod" "first" "LRodBench$Pin;") : Cond) ∈ COM := com_of 651 (by decide +kernel) (by decide +kernel)
theorem mw_652 : ((Jvm.Cond.fieldLink "RodBench$Trays" (133 : Nat) "RodBench$Rod" "first" "LRodBench$Pin;") : Cond) ∈ COM := com_of 652 (by decide +kernel) (by decide +kernel)
theorem mw_653 : ((Jvm.Cond.fieldLink "RodBench$Bodies" (93 : Nat) "RodBench$Rod" "first" "LRodBench$Pin;") : Cond) ∈ COM := com_of 653 (by decide +kernel) (by decide +kernel)
theorem mw_654 : ((Jvm.Cond.fieldLink "RodBench$Rod" (22 : Nat) "RodBench$Rod" "second" "LRodBench$Pin;") : Cond) ∈ COM := com_of 654 (by decide +kernel) (by decide +kernel)
theorem mw_655 : ((Jvm.Cond.fieldLink "RodBench" (162 : Nat) "RodBench$Rod" "second" "LRodBench$Pin;") : Cond) ∈ COM := com_of 655 (by decide +kernel) (by decide +kernel)
theorem mw_656 : ((Jvm.Cond.fieldLink "RodBench$Bodies" (102 : Nat) "RodBench$Rod" "second" "LRodBench$Pin;") : Cond) ∈ COM := com_of 656 (by decide +kernel) (by decide +kernel)
theorem mw_657 : ((Jvm.Cond.fieldLink "RodBench$Rod" (25 : Nat) "RodBench$Rod" "price" "I") : Cond) ∈ COM := com_of 657 (by decide +kernel) (by decide +kernel)
theorem mw_658 : ((Jvm.Cond.fieldLink "RodBench$Offers" (48 : Nat) "RodBench$Rod" "price" "I") : Cond) ∈ COM := com_of 658 (by decide +kernel) (by decide +kernel)
theorem mw_659 : ((Jvm.Cond.fieldLink "RodBench$Trays" (123 : Nat) "RodBench$Rod" "price" "I") : Cond) ∈ COM := com_of 659 (by decide +kernel) (by decide +kernel)
theorem mw_660 : ((Jvm.Cond.fieldLink "RodBench" (165 : Nat) "RodBench$Rod" "price" "I") : Cond) ∈ COM := com_of 660 (by decide +kernel) (by decide +kernel)
theorem mw_661 : ((Jvm.Cond.fieldLink "RodBench$Rod" (28 : Nat) "RodBench$Rod" "in" "Z") : Cond) ∈ COM := com_of 661 (by decide +kernel) (by decide +kernel)
theorem mw_662 : ((Jvm.Cond.fieldLink "RodBench$Frame" (50 : Nat) "RodBench$Rod" "in" "Z") : Cond) ∈ COM := com_of 662 (by decide +kernel) (by decide +kernel)
theorem mw_663 : ((Jvm.Cond.fieldLink "RodBench" (124 : Nat) "RodBench$Rod" "in" "Z") : Cond) ∈ COM := com_of 663 (by decide +kernel) (by decide +kernel)
theorem mw_664 : ((Jvm.Cond.fieldLink "RodBench$Balance" (54 : Nat) "RodBench$Rod" "in" "Z") : Cond) ∈ COM := com_of 664 (by decide +kernel) (by decide +kernel)
theorem mw_665 : ((Jvm.Cond.fieldLink "RodBench$Offers" (92 : Nat) "RodBench$Rod" "in" "Z") : Cond) ∈ COM := com_of 665 (by decide +kernel) (by decide +kernel)
theorem mw_666 : ((Jvm.Cond.fieldLink "RodBench$Trays" (126 : Nat) "RodBench$Rod" "in" "Z") : Cond) ∈ COM := com_of 666 (by decide +kernel) (by decide +kernel)
theorem mw_667 : ((Jvm.Cond.laysFinal "RodBench$Rod" "RodBench$Rod" "number" "I") : Cond) ∈ COM := com_of 667 (by decide +kernel) (by decide +kernel)
theorem mw_669 : ((Jvm.Cond.laysFinal "RodBench$Rod" "RodBench$Rod" "kind" "I") : Cond) ∈ COM := com_of 669 (by decide +kernel) (by decide +kernel)
theorem mw_671 : ((Jvm.Cond.laysFinal "RodBench$Rod" "RodBench$Rod" "first" "LRodBench$Pin;") : Cond) ∈ COM := com_of 671 (by decide +kernel) (by decide +kernel)
theorem mw_673 : ((Jvm.Cond.laysFinal "RodBench$Rod" "RodBench$Rod" "second" "LRodBench$Pin;") : Cond) ∈ COM := com_of 673 (by decide +kernel) (by decide +kernel)
theorem mw_675 : ((Jvm.Cond.laysFinal "RodBench$Rod" "RodBench$Rod" "price" "I") : Cond) ∈ COM := com_of 675 (by decide +kernel) (by decide +kernel)
theorem mw_677 : ((Jvm.Cond.lays "RodBench$Rod" "RodBench$Rod" "in" "Z") : Cond) ∈ COM := com_of 677 (by decide +kernel) (by decide +kernel)
theorem mw_679 : ((Jvm.Cond.superclass "RodBench$Rod" "java/lang/Object") : Cond) ∈ COM := com_of 679 (by decide +kernel) (by decide +kernel)
theorem mw_680 : ((Jvm.Cond.methodLink "RodBenchLaw" (33 : Nat) ({ cls := "RodBench", name := "put", desc := "(IZ)I" } : Jvm.MethodName)) : Cond) ∈ COM := com_of 680 (by decide +kernel) (by decide +kernel)
theorem mw_681 : ((Jvm.Cond.instanceMethod ({ cls := "RodBench", name := "put", desc := "(IZ)I" } : Jvm.MethodName)) : Cond) ∈ COM := com_of 681 (by decide +kernel) (by decide +kernel)
theorem mw_682 : ((Jvm.Cond.selects "RodBench" ({ cls := "RodBench", name := "put", desc := "(IZ)I" } : Jvm.MethodName) ({ cls := "RodBench", name := "put", desc := "(IZ)I" } : Jvm.MethodName)) : Cond) ∈ COM := com_of 682 (by decide +kernel) (by decide +kernel)
theorem mw_683 : ((Jvm.Cond.code ({ cls := "RodBench", name := "put", desc := "(IZ)I" } : Jvm.MethodName) prog_1_method_6_code (4 : Nat) (Option.some Jvm.ClassFile.FieldType.int)) : Cond) ∈ COM := com_of 683 (by decide +kernel) (by decide +kernel)
theorem mw_684 : ((Jvm.Cond.methodLink "RodBench" (118 : Nat) ({ cls := "RodBench$Frame", name := "isRod", desc := "(I)Z" } : Jvm.MethodName)) : Cond) ∈ COM := com_of 684 (by decide +kernel) (by decide +kernel)
theorem mw_685 : ((Jvm.Cond.instanceMethod ({ cls := "RodBench$Frame", name := "isRod", desc := "(I)Z" } : Jvm.MethodName)) : Cond) ∈ COM := com_of 685 (by decide +kernel) (by decide +kernel)
theorem mw_686 : ((Jvm.Cond.selects "RodBench$Frame" ({ cls := "RodBench$Frame", name := "isRod", desc := "(I)Z" } : Jvm.MethodName) ({ cls := "RodBench$Frame", name := "isRod", desc := "(I)Z" } : Jvm.MethodName)) : Cond) ∈ COM := com_of 686 (by decide +kernel) (by decide +kernel)
theorem mw_687 : ((Jvm.Cond.code ({ cls := "RodBench$Frame", name := "isRod", desc := "(I)Z" } : Jvm.MethodName) prog_4_method_4_code (2 : Nat) (Option.some Jvm.ClassFile.FieldType.boolean)) : Cond) ∈ COM := com_of 687 (by decide +kernel) (by decide +kernel)
theorem mw_688 : ((Jvm.Cond.methodLink "RodBench" (121 : Nat) ({ cls := "RodBench$Rod", name := "isOf", desc := "(I)Z" } : Jvm.MethodName)) : Cond) ∈ COM := com_of 688 (by decide +kernel) (by decide +kernel)
theorem mw_689 : ((Jvm.Cond.instanceMethod ({ cls := "RodBench$Rod", name := "isOf", desc := "(I)Z" } : Jvm.MethodName)) : Cond) ∈ COM := com_of 689 (by decide +kernel) (by decide +kernel)
theorem mw_690 : ((Jvm.Cond.selects "RodBench$Rod" ({ cls := "RodBench$Rod", name := "isOf", desc := "(I)Z" } : Jvm.MethodName) ({ cls := "RodBench$Rod", name := "isOf", desc := "(I)Z" } : Jvm.MethodName)) : Cond) ∈ COM := com_of 690 (by decide +kernel) (by decide +kernel)
theorem mw_691 : ((Jvm.Cond.code ({ cls := "RodBench$Rod", name := "isOf", desc := "(I)Z" } : Jvm.MethodName) prog_7_method_2_code (2 : Nat) (Option.some Jvm.ClassFile.FieldType.boolean)) : Cond) ∈ COM := com_of 691 (by decide +kernel) (by decide +kernel)
theorem mw_692 : ((Jvm.Cond.methodLink "RodBenchLaw" (37 : Nat) ({ cls := "RodBench", name := "count", desc := "(I)I" } : Jvm.MethodName)) : Cond) ∈ COM := com_of 692 (by decide +kernel) (by decide +kernel)
theorem mw_693 : ((Jvm.Cond.instanceMethod ({ cls := "RodBench", name := "count", desc := "(I)I" } : Jvm.MethodName)) : Cond) ∈ COM := com_of 693 (by decide +kernel) (by decide +kernel)
theorem mw_694 : ((Jvm.Cond.selects "RodBench" ({ cls := "RodBench", name := "count", desc := "(I)I" } : Jvm.MethodName) ({ cls := "RodBench", name := "count", desc := "(I)I" } : Jvm.MethodName)) : Cond) ∈ COM := com_of 694 (by decide +kernel) (by decide +kernel)
theorem mw_695 : ((Jvm.Cond.code ({ cls := "RodBench", name := "count", desc := "(I)I" } : Jvm.MethodName) prog_1_method_7_code (2 : Nat) (Option.some Jvm.ClassFile.FieldType.int)) : Cond) ∈ COM := com_of 695 (by decide +kernel) (by decide +kernel)
theorem mw_696 : ((Jvm.Cond.methodLink "RodBench" (133 : Nat) ({ cls := "RodBench$Balance", name := "motionCount", desc := "()I" } : Jvm.MethodName)) : Cond) ∈ COM := com_of 696 (by decide +kernel) (by decide +kernel)
theorem mw_697 : ((Jvm.Cond.instanceMethod ({ cls := "RodBench$Balance", name := "motionCount", desc := "()I" } : Jvm.MethodName)) : Cond) ∈ COM := com_of 697 (by decide +kernel) (by decide +kernel)
theorem mw_698 : ((Jvm.Cond.selects "RodBench$Balance" ({ cls := "RodBench$Balance", name := "motionCount", desc := "()I" } : Jvm.MethodName) ({ cls := "RodBench$Balance", name := "motionCount", desc := "()I" } : Jvm.MethodName)) : Cond) ∈ COM := com_of 698 (by decide +kernel) (by decide +kernel)
theorem mw_699 : ((Jvm.Cond.code ({ cls := "RodBench$Balance", name := "motionCount", desc := "()I" } : Jvm.MethodName) prog_2_method_2_code (1 : Nat) (Option.some Jvm.ClassFile.FieldType.int)) : Cond) ∈ COM := com_of 699 (by decide +kernel) (by decide +kernel)
theorem mw_700 : ((Jvm.Cond.methodLink "RodBench$Balance" (25 : Nat) ({ cls := "RodBench$Table", name := "looseColumns", desc := "()I" } : Jvm.MethodName)) : Cond) ∈ COM := com_of 700 (by decide +kernel) (by decide +kernel)
theorem mw_701 : ((Jvm.Cond.instanceMethod ({ cls := "RodBench$Table", name := "looseColumns", desc := "()I" } : Jvm.MethodName)) : Cond) ∈ COM := com_of 701 (by decide +kernel) (by decide +kernel)
theorem mw_702 : ((Jvm.Cond.selects "RodBench$Table" ({ cls := "RodBench$Table", name := "looseColumns", desc := "()I" } : Jvm.MethodName) ({ cls := "RodBench$Table", name := "looseColumns", desc := "()I" } : Jvm.MethodName)) : Cond) ∈ COM := com_of 702 (by decide +kernel) (by decide +kernel)
theorem mw_703 : ((Jvm.Cond.code ({ cls := "RodBench$Table", name := "looseColumns", desc := "()I" } : Jvm.MethodName) prog_9_method_5_code (1 : Nat) (Option.some Jvm.ClassFile.FieldType.int)) : Cond) ∈ COM := com_of 703 (by decide +kernel) (by decide +kernel)
theorem mw_704 : ((Jvm.Cond.methodLink "RodBench" (136 : Nat) ({ cls := "RodBench$Balance", name := "stressCount", desc := "()I" } : Jvm.MethodName)) : Cond) ∈ COM := com_of 704 (by decide +kernel) (by decide +kernel)
theorem mw_705 : ((Jvm.Cond.instanceMethod ({ cls := "RodBench$Balance", name := "stressCount", desc := "()I" } : Jvm.MethodName)) : Cond) ∈ COM := com_of 705 (by decide +kernel) (by decide +kernel)
theorem mw_706 : ((Jvm.Cond.selects "RodBench$Balance" ({ cls := "RodBench$Balance", name := "stressCount", desc := "()I" } : Jvm.MethodName) ({ cls := "RodBench$Balance", name := "stressCount", desc := "()I" } : Jvm.MethodName)) : Cond) ∈ COM := com_of 706 (by decide +kernel) (by decide +kernel)
theorem mw_707 : ((Jvm.Cond.code ({ cls := "RodBench$Balance", name := "stressCount", desc := "()I" } : Jvm.MethodName) prog_2_method_3_code (1 : Nat) (Option.some Jvm.ClassFile.FieldType.int)) : Cond) ∈ COM := com_of 707 (by decide +kernel) (by decide +kernel)
theorem mw_708 : ((Jvm.Cond.methodLink "RodBench" (139 : Nat) ({ cls := "RodBench$Bodies", name := "bodyCount", desc := "()I" } : Jvm.MethodName)) : Cond) ∈ COM := com_of 708 (by decide +kernel) (by decide +kernel)
theorem mw_709 : ((Jvm.Cond.instanceMethod ({ cls := "RodBench$Bodies", name := "bodyCount", desc := "()I" } : Jvm.MethodName)) : Cond) ∈ COM := com_of 709 (by decide +kernel) (by decide +kernel)
theorem mw_710 : ((Jvm.Cond.selects "RodBench$Bodies" ({ cls := "RodBench$Bodies", name := "bodyCount", desc := "()I" } : Jvm.MethodName) ({ cls := "RodBench$Bodies", name := "bodyCount", desc := "()I" } : Jvm.MethodName)) : Cond) ∈ COM := com_of 710 (by decide +kernel) (by decide +kernel)
theorem mw_711 : ((Jvm.Cond.code ({ cls := "RodBench$Bodies", name := "bodyCount", desc := "()I" } : Jvm.MethodName) prog_3_method_2_code (1 : Nat) (Option.some Jvm.ClassFile.FieldType.int)) : Cond) ∈ COM := com_of 711 (by decide +kernel) (by decide +kernel)
theorem mw_712 : ((Jvm.Cond.methodLink "RodBench" (142 : Nat) ({ cls := "RodBench$Bodies", name := "surplus", desc := "()I" } : Jvm.MethodName)) : Cond) ∈ COM := com_of 712 (by decide +kernel) (by decide +kernel)
theorem mw_713 : ((Jvm.Cond.instanceMethod ({ cls := "RodBench$Bodies", name := "surplus", desc := "()I" } : Jvm.MethodName)) : Cond) ∈ COM := com_of 713 (by decide +kernel) (by decide +kernel)
theorem mw_714 : ((Jvm.Cond.selects "RodBench$Bodies" ({ cls := "RodBench$Bodies", name := "surplus", desc := "()I" } : Jvm.MethodName) ({ cls := "RodBench$Bodies", name := "surplus", desc := "()I" } : Jvm.MethodName)) : Cond) ∈ COM := com_of 714 (by decide +kernel) (by decide +kernel)
theorem mw_715 : ((Jvm.Cond.code ({ cls := "RodBench$Bodies", name := "surplus", desc := "()I" } : Jvm.MethodName) prog_3_method_4_code (1 : Nat) (Option.some Jvm.ClassFile.FieldType.int)) : Cond) ∈ COM := com_of 715 (by decide +kernel) (by decide +kernel)
theorem mw_716 : ((Jvm.Cond.methodLink "RodBench" (145 : Nat) ({ cls := "RodBench", name := "neededCount", desc := "()I" } : Jvm.MethodName)) : Cond) ∈ COM := com_of 716 (by decide +kernel) (by decide +kernel)
theorem mw_718 : ((Jvm.Cond.instanceMethod ({ cls := "RodBench", name := "neededCount", desc := "()I" } : Jvm.MethodName)) : Cond) ∈ COM := com_of 718 (by decide +kernel) (by decide +kernel)
theorem mw_719 : ((Jvm.Cond.code ({ cls := "RodBench", name := "neededCount", desc := "()I" } : Jvm.MethodName) prog_1_method_29_code (3 : Nat) (Option.some Jvm.ClassFile.FieldType.int)) : Cond) ∈ COM := com_of 719 (by decide +kernel) (by decide +kernel)
theorem mw_720 : ((Jvm.Cond.methodLink "RodBench" (168 : Nat) ({ cls := "RodBench$Balance", name := "isNeeded", desc := "(LRodBench$Rod;)Z" } : Jvm.MethodName)) : Cond) ∈ COM := com_of 720 (by decide +kernel) (by decide +kernel)
theorem mw_721 : ((Jvm.Cond.instanceMethod ({ cls := "RodBench$Balance", name := "isNeeded", desc := "(LRodBench$Rod;)Z" } : Jvm.MethodName)) : Cond) ∈ COM := com_of 721 (by decide +kernel) (by decide +kernel)
theorem mw_722 : ((Jvm.Cond.selects "RodBench$Balance" ({ cls := "RodBench$Balance", name := "isNeeded", desc := "(LRodBench$Rod;)Z" } : Jvm.MethodName) ({ cls := "RodBench$Balance", name := "isNeeded", desc := "(LRodBench$Rod;)Z" } : Jvm.MethodName)) : Cond) ∈ COM := com_of 722 (by decide +kernel) (by decide +kernel)
theorem mw_723 : ((Jvm.Cond.code ({ cls := "RodBench$Balance", name := "isNeeded", desc := "(LRodBench$Rod;)Z" } : Jvm.MethodName) prog_2_method_8_code (3 : Nat) (Option.some Jvm.ClassFile.FieldType.boolean)) : Cond) ∈ COM := com_of 723 (by decide +kernel) (by decide +kernel)
theorem mw_724 : ((Jvm.Cond.methodLink "RodBench$Balance" (32 : Nat) ({ cls := "RodBench$Balance", name := "stressCount", desc := "()I" } : Jvm.MethodName)) : Cond) ∈ COM := com_of 724 (by decide +kernel) (by decide +kernel)
theorem mw_725 : ((Jvm.Cond.methodLink "RodBench$Balance" (64 : Nat) ({ cls := "RodBench$Balance", name := "stressNumber", desc := "(ILRodBench$Rod;)J" } : Jvm.MethodName)) : Cond) ∈ COM := com_of 725 (by decide +kernel) (by decide +kernel)
theorem mw_726 : ((Jvm.Cond.instanceMethod ({ cls := "RodBench$Balance", name := "stressNumber", desc := "(ILRodBench$Rod;)J" } : Jvm.MethodName)) : Cond) ∈ COM := com_of 726 (by decide +kernel) (by decide +kernel)
theorem mw_727 : ((Jvm.Cond.selects "RodBench$Balance" ({ cls := "RodBench$Balance", name := "stressNumber", desc := "(ILRodBench$Rod;)J" } : Jvm.MethodName) ({ cls := "RodBench$Balance", name := "stressNumber", desc := "(ILRodBench$Rod;)J" } : Jvm.MethodName)) : Cond) ∈ COM := com_of 727 (by decide +kernel) (by decide +kernel)
theorem mw_728 : ((Jvm.Cond.code ({ cls := "RodBench$Balance", name := "stressNumber", desc := "(ILRodBench$Rod;)J" } : Jvm.MethodName) prog_2_method_7_code (3 : Nat) (Option.some Jvm.ClassFile.FieldType.long)) : Cond) ∈ COM := com_of 728 (by decide +kernel) (by decide +kernel)
theorem mw_729 : ((Jvm.Cond.methodLink "RodBench$Balance" (60 : Nat) ({ cls := "RodBench$Balance", name := "columnOf", desc := "(LRodBench$Rod;)I" } : Jvm.MethodName)) : Cond) ∈ COM := com_of 729 (by decide +kernel) (by decide +kernel)
theorem mw_731 : ((Jvm.Cond.instanceMethod ({ cls := "RodBench$Balance", name := "columnOf", desc := "(LRodBench$Rod;)I" } : Jvm.MethodName)) : Cond) ∈ COM := com_of 731 (by decide +kernel) (by decide +kernel)
theorem mw_732 : ((Jvm.Cond.code ({ cls := "RodBench$Balance", name := "columnOf", desc := "(LRodBench$Rod;)I" } : Jvm.MethodName) prog_2_method_14_code (3 : Nat) (Option.some Jvm.ClassFile.FieldType.int)) : Cond) ∈ COM := com_of 732 (by decide +kernel) (by decide +kernel)
theorem mw_734 : ((Jvm.Cond.methodLink "RodBench$Balance" (41 : Nat) ({ cls := "java/util/List", name := "size", desc := "()I" } : Jvm.MethodName)) : Cond) ∈ COM := com_of 734 (by decide +kernel) (by decide +kernel)
theorem mw_736 : ((Jvm.Cond.methodLink "RodBench$Balance" (46 : Nat) ({ cls := "java/util/List", name := "get", desc := "(I)Ljava/lang/Object;" } : Jvm.MethodName)) : Cond) ∈ COM := com_of 736 (by decide +kernel) (by decide +kernel)
theorem mw_737 : ((Jvm.Cond.methodLink "RodBench$Balance" (50 : Nat) ({ cls := "RodBench$Table", name := "answer", desc := "(II)J" } : Jvm.MethodName)) : Cond) ∈ COM := com_of 737 (by decide +kernel) (by decide +kernel)
theorem mw_738 : ((Jvm.Cond.instanceMethod ({ cls := "RodBench$Table", name := "answer", desc := "(II)J" } : Jvm.MethodName)) : Cond) ∈ COM := com_of 738 (by decide +kernel) (by decide +kernel)
theorem mw_739 : ((Jvm.Cond.selects "RodBench$Table" ({ cls := "RodBench$Table", name := "answer", desc := "(II)J" } : Jvm.MethodName) ({ cls := "RodBench$Table", name := "answer", desc := "(II)J" } : Jvm.MethodName)) : Cond) ∈ COM := com_of 739 (by decide +kernel) (by decide +kernel)
theorem mw_740 : ((Jvm.Cond.code ({ cls := "RodBench$Table", name := "answer", desc := "(II)J" } : Jvm.MethodName) prog_9_method_8_code (6 : Nat) (Option.some Jvm.ClassFile.FieldType.long)) : Cond) ∈ COM := com_of 740 (by decide +kernel) (by decide +kernel)
theorem mw_741 : ((Jvm.Cond.methodLink "RodBenchLaw" (42 : Nat) ({ cls := "RodBench", name := "pinTold", desc := "(II)I" } : Jvm.MethodName)) : Cond) ∈ COM := com_of 741 (by decide +kernel) (by decide +kernel)
theorem mw_742 : ((Jvm.Cond.instanceMethod ({ cls := "RodBench", name := "pinTold", desc := "(II)I" } : Jvm.MethodName)) : Cond) ∈ COM := com_of 742 (by decide +kernel) (by decide +kernel)
theorem mw_743 : ((Jvm.Cond.selects "RodBench" ({ cls := "RodBench", name := "pinTold", desc := "(II)I" } : Jvm.MethodName) ({ cls := "RodBench", name := "pinTold", desc := "(II)I" } : Jvm.MethodName)) : Cond) ∈ COM := com_of 743 (by decide +kernel) (by decide +kernel)
theorem mw_744 : ((Jvm.Cond.code ({ cls := "RodBench", name := "pinTold", desc := "(II)I" } : Jvm.MethodName) prog_1_method_8_code (4 : Nat) (Option.some Jvm.ClassFile.FieldType.int)) : Cond) ∈ COM := com_of 744 (by decide +kernel) (by decide +kernel)
theorem mw_745 : ((Jvm.Cond.methodLink "RodBench" (148 : Nat) ({ cls := "RodBench$Frame", name := "rodsInAt", desc := "(LRodBench$Pin;)I" } : Jvm.MethodName)) : Cond) ∈ COM := com_of 745 (by decide +kernel) (by decide +kernel)
theorem mw_746 : ((Jvm.Cond.instanceMethod ({ cls := "RodBench$Frame", name := "rodsInAt", desc := "(LRodBench$Pin;)I" } : Jvm.MethodName)) : Cond) ∈ COM := com_of 746 (by decide +kernel) (by decide +kernel)
theorem mw_747 : ((Jvm.Cond.selects "RodBench$Frame" ({ cls := "RodBench$Frame", name := "rodsInAt", desc := "(LRodBench$Pin;)I" } : Jvm.MethodName) ({ cls := "RodBench$Frame", name := "rodsInAt", desc := "(LRodBench$Pin;)I" } : Jvm.MethodName)) : Cond) ∈ COM := com_of 747 (by decide +kernel) (by decide +kernel)
theorem mw_748 : ((Jvm.Cond.code ({ cls := "RodBench$Frame", name := "rodsInAt", desc := "(LRodBench$Pin;)I" } : Jvm.MethodName) prog_4_method_7_code (4 : Nat) (Option.some Jvm.ClassFile.FieldType.int)) : Cond) ∈ COM := com_of 748 (by decide +kernel) (by decide +kernel)
theorem mw_749 : ((Jvm.Cond.methodLink "RodBench$Frame" (64 : Nat) ({ cls := "RodBench$Rod", name := "endsAt", desc := "(LRodBench$Pin;)Z" } : Jvm.MethodName)) : Cond) ∈ COM := com_of 749 (by decide +kernel) (by decide +kernel)
theorem mw_750 : ((Jvm.Cond.methodLink "RodBenchLaw" (46 : Nat) ({ cls := "RodBench", name := "rodTold", desc := "(II)I" } : Jvm.MethodName)) : Cond) ∈ COM := com_of 750 (by decide +kernel) (by decide +kernel)
theorem mw_751 : ((Jvm.Cond.instanceMethod ({ cls := "RodBench", name := "rodTold", desc := "(II)I" } : Jvm.MethodName)) : Cond) ∈ COM := com_of 751 (by decide +kernel) (by decide +kernel)
theorem mw_752 : ((Jvm.Cond.selects "RodBench" ({ cls := "RodBench", name := "rodTold", desc := "(II)I" } : Jvm.MethodName) ({ cls := "RodBench", name := "rodTold", desc := "(II)I" } : Jvm.MethodName)) : Cond) ∈ COM := com_of 752 (by decide +kernel) (by decide +kernel)
theorem mw_753 : ((Jvm.Cond.code ({ cls := "RodBench", name := "rodTold", desc := "(II)I" } : Jvm.MethodName) prog_1_method_9_code (4 : Nat) (Option.some Jvm.ClassFile.FieldType.int)) : Cond) ∈ COM := com_of 753 (by decide +kernel) (by decide +kernel)
theorem mw_754 : ((Jvm.Cond.methodLink "RodBench" (172 : Nat) ({ cls := "RodBench$Bodies", name := "leastBodyOf", desc := "(LRodBench$Rod;)I" } : Jvm.MethodName)) : Cond) ∈ COM := com_of 754 (by decide +kernel) (by decide +kernel)
theorem mw_755 : ((Jvm.Cond.instanceMethod ({ cls := "RodBench$Bodies", name := "leastBodyOf", desc := "(LRodBench$Rod;)I" } : Jvm.MethodName)) : Cond) ∈ COM := com_of 755 (by decide +kernel) (by decide +kernel)
theorem mw_756 : ((Jvm.Cond.selects "RodBench$Bodies" ({ cls := "RodBench$Bodies", name := "leastBodyOf", desc := "(LRodBench$Rod;)I" } : Jvm.MethodName) ({ cls := "RodBench$Bodies", name := "leastBodyOf", desc := "(LRodBench$Rod;)I" } : Jvm.MethodName)) : Cond) ∈ COM := com_of 756 (by decide +kernel) (by decide +kernel)
theorem mw_757 : ((Jvm.Cond.code ({ cls := "RodBench$Bodies", name := "leastBodyOf", desc := "(LRodBench$Rod;)I" } : Jvm.MethodName) prog_3_method_6_code (4 : Nat) (Option.some Jvm.ClassFile.FieldType.int)) : Cond) ∈ COM := com_of 757 (by decide +kernel) (by decide +kernel)
theorem mw_758 : ((Jvm.Cond.methodLink "RodBenchLaw" (50 : Nat) ({ cls := "RodBench", name := "motion", desc := "(III)J" } : Jvm.MethodName)) : Cond) ∈ COM := com_of 758 (by decide +kernel) (by decide +kernel)
theorem mw_759 : ((Jvm.Cond.instanceMethod ({ cls := "RodBench", name := "motion", desc := "(III)J" } : Jvm.MethodName)) : Cond) ∈ COM := com_of 759 (by decide +kernel) (by decide +kernel)
theorem mw_760 : ((Jvm.Cond.selects "RodBench" ({ cls := "RodBench", name := "motion", desc := "(III)J" } : Jvm.MethodName) ({ cls := "RodBench", name := "motion", desc := "(III)J" } : Jvm.MethodName)) : Cond) ∈ COM := com_of 760 (by decide +kernel) (by decide +kernel)
theorem mw_761 : ((Jvm.Cond.code ({ cls := "RodBench", name := "motion", desc := "(III)J" } : Jvm.MethodName) prog_1_method_10_code (4 : Nat) (Option.some Jvm.ClassFile.FieldType.long)) : Cond) ∈ COM := com_of 761 (by decide +kernel) (by decide +kernel)
theorem mw_762 : ((Jvm.Cond.methodLink "RodBench" (176 : Nat) ({ cls := "RodBench$Balance", name := "isMotion", desc := "(I)Z" } : Jvm.MethodName)) : Cond) ∈ COM := com_of 762 (by decide +kernel) (by decide +kernel)
theorem mw_763 : ((Jvm.Cond.instanceMethod ({ cls := "RodBench$Balance", name := "isMotion", desc := "(I)Z" } : Jvm.MethodName)) : Cond) ∈ COM := com_of 763 (by decide +kernel) (by decide +kernel)
theorem mw_764 : ((Jvm.Cond.selects "RodBench$Balance" ({ cls := "RodBench$Balance", name := "isMotion", desc := "(I)Z" } : Jvm.MethodName) ({ cls := "RodBench$Balance", name := "isMotion", desc := "(I)Z" } : Jvm.MethodName)) : Cond) ∈ COM := com_of 764 (by decide +kernel) (by decide +kernel)
theorem mw_765 : ((Jvm.Cond.code ({ cls := "RodBench$Balance", name := "isMotion", desc := "(I)Z" } : Jvm.MethodName) prog_2_method_4_code (2 : Nat) (Option.some Jvm.ClassFile.FieldType.boolean)) : Cond) ∈ COM := com_of 765 (by decide +kernel) (by decide +kernel)
theorem mw_766 : ((Jvm.Cond.methodLink "RodBench$Balance" (29 : Nat) ({ cls := "RodBench$Balance", name := "motionCount", desc := "()I" } : Jvm.MethodName)) : Cond) ∈ COM := com_of 766 (by decide +kernel) (by decide +kernel)
theorem mw_767 : ((Jvm.Cond.constantLong "RodBench" (179 : Nat) (-4611686018427387904 : Int64)) : Cond) ∈ COM := com_of 767 (by decide +kernel) (by decide +kernel)
theorem mw_768 : ((Jvm.Cond.methodLink "RodBench" (181 : Nat) ({ cls := "RodBench$Balance", name := "motionNumber", desc := "(ILRodBench$Pin;I)J" } : Jvm.MethodName)) : Cond) ∈ COM := com_of 768 (by decide +kernel) (by decide +kernel)
theorem mw_769 : ((Jvm.Cond.instanceMethod ({ cls := "RodBench$Balance", name := "motionNumber", desc := "(ILRodBench$Pin;I)J" } : Jvm.MethodName)) : Cond) ∈ COM := com_of 769 (by decide +kernel) (by decide +kernel)
theorem mw_770 : ((Jvm.Cond.selects "RodBench$Balance" ({ cls := "RodBench$Balance", name := "motionNumber", desc := "(ILRodBench$Pin;I)J" } : Jvm.MethodName) ({ cls := "RodBench$Balance", name := "motionNumber", desc := "(ILRodBench$Pin;I)J" } : Jvm.MethodName)) : Cond) ∈ COM := com_of 770 (by decide +kernel) (by decide +kernel)
theorem mw_771 : ((Jvm.Cond.code ({ cls := "RodBench$Balance", name := "motionNumber", desc := "(ILRodBench$Pin;I)J" } : Jvm.MethodName) prog_2_method_6_code (5 : Nat) (Option.some Jvm.ClassFile.FieldType.long)) : Cond) ∈ COM := com_of 771 (by decide +kernel) (by decide +kernel)
theorem mw_772 : ((Jvm.Cond.methodLink "RodBenchLaw" (55 : Nat) ({ cls := "RodBench", name := "stress", desc := "(II)J" } : Jvm.MethodName)) : Cond) ∈ COM := com_of 772 (by decide +kernel) (by decide +kernel)
theorem mw_773 : ((Jvm.Cond.instanceMethod ({ cls := "RodBench", name := "stress", desc := "(II)J" } : Jvm.MethodName)) : Cond) ∈ COM := com_of 773 (by decide +kernel) (by decide +kernel)
theorem mw_774 : ((Jvm.Cond.selects "RodBench" ({ cls := "RodBench", name := "stress", desc := "(II)J" } : Jvm.MethodName) ({ cls := "RodBench", name := "stress", desc := "(II)J" } : Jvm.MethodName)) : Cond) ∈ COM := com_of 774 (by decide +kernel) (by decide +kernel)
theorem mw_775 : ((Jvm.Cond.code ({ cls := "RodBench", name := "stress", desc := "(II)J" } : Jvm.MethodName) prog_1_method_11_code (3 : Nat) (Option.some Jvm.ClassFile.FieldType.long)) : Cond) ∈ COM := com_of 775 (by decide +kernel) (by decide +kernel)
theorem mw_776 : ((Jvm.Cond.methodLink "RodBench" (185 : Nat) ({ cls := "RodBench$Balance", name := "isStress", desc := "(I)Z" } : Jvm.MethodName)) : Cond) ∈ COM := com_of 776 (by decide +kernel) (by decide +kernel)
theorem mw_777 : ((Jvm.Cond.instanceMethod ({ cls := "RodBench$Balance", name := "isStress", desc := "(I)Z" } : Jvm.MethodName)) : Cond) ∈ COM := com_of 777 (by decide +kernel) (by decide +kernel)
theorem mw_778 : ((Jvm.Cond.selects "RodBench$Balance" ({ cls := "RodBench$Balance", name := "isStress", desc := "(I)Z" } : Jvm.MethodName) ({ cls := "RodBench$Balance", name := "isStress", desc := "(I)Z" } : Jvm.MethodName)) : Cond) ∈ COM := com_of 778 (by decide +kernel) (by decide +kernel)
theorem mw_779 : ((Jvm.Cond.code ({ cls := "RodBench$Balance", name := "isStress", desc := "(I)Z" } : Jvm.MethodName) prog_2_method_5_code (2 : Nat) (Option.some Jvm.ClassFile.FieldType.boolean)) : Cond) ∈ COM := com_of 779 (by decide +kernel) (by decide +kernel)
theorem mw_780 : ((Jvm.Cond.methodLink "RodBench" (188 : Nat) ({ cls := "RodBench$Balance", name := "stressNumber", desc := "(ILRodBench$Rod;)J" } : Jvm.MethodName)) : Cond) ∈ COM := com_of 780 (by decide +kernel) (by decide +kernel)
theorem mw_781 : ((Jvm.Cond.methodLink "RodBenchLaw" (60 : Nat) ({ cls := "RodBench", name := "stiff", desc := "()I" } : Jvm.MethodName)) : Cond) ∈ COM := com_of 781 (by decide +kernel) (by decide +kernel)
theorem mw_782 : ((Jvm.Cond.instanceMethod ({ cls := "RodBench", name := "stiff", desc := "()I" } : Jvm.MethodName)) : Cond) ∈ COM := com_of 782 (by decide +kernel) (by decide +kernel)
theorem mw_783 : ((Jvm.Cond.selects "RodBench" ({ cls := "RodBench", name := "stiff", desc := "()I" } : Jvm.MethodName) ({ cls := "RodBench", name := "stiff", desc := "()I" } : Jvm.MethodName)) : Cond) ∈ COM := com_of 783 (by decide +kernel) (by decide +kernel)
theorem mw_784 : ((Jvm.Cond.code ({ cls := "RodBench", name := "stiff", desc := "()I" } : Jvm.MethodName) prog_1_method_12_code (1 : Nat) (Option.some Jvm.ClassFile.FieldType.int)) : Cond) ∈ COM := com_of 784 (by decide +kernel) (by decide +kernel)
theorem mw_785 : ((Jvm.Cond.methodLink "RodBench" (192 : Nat) ({ cls := "RodBench$Frame", name := "planeMotions", desc := "()I" } : Jvm.MethodName)) : Cond) ∈ COM := com_of 785 (by decide +kernel) (by decide +kernel)
theorem mw_786 : ((Jvm.Cond.instanceMethod ({ cls := "RodBench$Frame", name := "planeMotions", desc := "()I" } : Jvm.MethodName)) : Cond) ∈ COM := com_of 786 (by decide +kernel) (by decide +kernel)
theorem mw_787 : ((Jvm.Cond.selects "RodBench$Frame" ({ cls := "RodBench$Frame", name := "planeMotions", desc := "()I" } : Jvm.MethodName) ({ cls := "RodBench$Frame", name := "planeMotions", desc := "()I" } : Jvm.MethodName)) : Cond) ∈ COM := com_of 787 (by decide +kernel) (by decide +kernel)
theorem mw_788 : ((Jvm.Cond.code ({ cls := "RodBench$Frame", name := "planeMotions", desc := "()I" } : Jvm.MethodName) prog_4_method_8_code (3 : Nat) (Option.some Jvm.ClassFile.FieldType.int)) : Cond) ∈ COM := com_of 788 (by decide +kernel) (by decide +kernel)
theorem mw_789 : ((Jvm.Cond.methodLink "RodBenchLaw" (65 : Nat) ({ cls := "RodBench", name := "tight", desc := "()I" } : Jvm.MethodName)) : Cond) ∈ COM := com_of 789 (by decide +kernel) (by decide +kernel)
theorem mw_790 : ((Jvm.Cond.instanceMethod ({ cls := "RodBench", name := "tight", desc := "()I" } : Jvm.MethodName)) : Cond) ∈ COM := com_of 790 (by decide +kernel) (by decide +kernel)
theorem mw_791 : ((Jvm.Cond.selects "RodBench" ({ cls := "RodBench", name := "tight", desc := "()I" } : Jvm.MethodName) ({ cls := "RodBench", name := "tight", desc := "()I" } : Jvm.MethodName)) : Cond) ∈ COM := com_of 791 (by decide +kernel) (by decide +kernel)
theorem mw_792 : ((Jvm.Cond.code ({ cls := "RodBench", name := "tight", desc := "()I" } : Jvm.MethodName) prog_1_method_13_code (1 : Nat) (Option.some Jvm.ClassFile.FieldType.int)) : Cond) ∈ COM := com_of 792 (by decide +kernel) (by decide +kernel)
theorem mw_793 : ((Jvm.Cond.methodLink "RodBench" (195 : Nat) ({ cls := "RodBench", name := "isTightAs", desc := "(I)Z" } : Jvm.MethodName)) : Cond) ∈ COM := com_of 793 (by decide +kernel) (by decide +kernel)
theorem mw_795 : ((Jvm.Cond.instanceMethod ({ cls := "RodBench", name := "isTightAs", desc := "(I)Z" } : Jvm.MethodName)) : Cond) ∈ COM := com_of 795 (by decide +kernel) (by decide +kernel)
theorem mw_796 : ((Jvm.Cond.code ({ cls := "RodBench", name := "isTightAs", desc := "(I)Z" } : Jvm.MethodName) prog_1_method_30_code (6 : Nat) (Option.some Jvm.ClassFile.FieldType.boolean)) : Cond) ∈ COM := com_of 796 (by decide +kernel) (by decide +kernel)
theorem mw_797 : ((Jvm.Cond.methodLink "RodBenchLaw" (69 : Nat) ({ cls := "RodBench", name := "load", desc := "(III)I" } : Jvm.MethodName)) : Cond) ∈ COM := com_of 797 (by decide +kernel) (by decide +kernel)
theorem mw_798 : ((Jvm.Cond.instanceMethod ({ cls := "RodBench", name := "load", desc := "(III)I" } : Jvm.MethodName)) : Cond) ∈ COM := com_of 798 (by decide +kernel) (by decide +kernel)
theorem mw_799 : ((Jvm.Cond.selects "RodBench" ({ cls := "RodBench", name := "load", desc := "(III)I" } : Jvm.MethodName) ({ cls := "RodBench", name := "load", desc := "(III)I" } : Jvm.MethodName)) : Cond) ∈ COM := com_of 799 (by decide +kernel) (by decide +kernel)
theorem mw_800 : ((Jvm.Cond.code ({ cls := "RodBench", name := "load", desc := "(III)I" } : Jvm.MethodName) prog_1_method_14_code (5 : Nat) (Option.some Jvm.ClassFile.FieldType.int)) : Cond) ∈ COM := com_of 800 (by decide +kernel) (by decide +kernel)
theorem mw_801 : ((Jvm.Cond.methodLink "RodBench" (198 : Nat) ({ cls := "RodBench", name := "isForce", desc := "(I)Z" } : Jvm.MethodName)) : Cond) ∈ COM := com_of 801 (by decide +kernel) (by decide +kernel)
theorem mw_802 : ((Jvm.Cond.static ({ cls := "RodBench", name := "isForce", desc := "(I)Z" } : Jvm.MethodName)) : Cond) ∈ COM := com_of 802 (by decide +kernel) (by decide +kernel)
theorem mw_803 : ((Jvm.Cond.code ({ cls := "RodBench", name := "isForce", desc := "(I)Z" } : Jvm.MethodName) prog_1_method_26_code (1 : Nat) (Option.some Jvm.ClassFile.FieldType.boolean)) : Cond) ∈ COM := com_of 803 (by decide +kernel) (by decide +kernel)
theorem mw_804 : ((Jvm.Cond.methodLink "RodBenchLaw" (73 : Nat) ({ cls := "RodBench", name := "carry", desc := "()I" } : Jvm.MethodName)) : Cond) ∈ COM := com_of 804 (by decide +kernel) (by decide +kernel)
theorem mw_805 : ((Jvm.Cond.instanceMethod ({ cls := "RodBench", name := "carry", desc := "()I" } : Jvm.MethodName)) : Cond) ∈ COM := com_of 805 (by decide +kernel) (by decide +kernel)
theorem mw_806 : ((Jvm.Cond.selects "RodBench" ({ cls := "RodBench", name := "carry", desc := "()I" } : Jvm.MethodName) ({ cls := "RodBench", name := "carry", desc := "()I" } : Jvm.MethodName)) : Cond) ∈ COM := com_of 806 (by decide +kernel) (by decide +kernel)
theorem mw_807 : ((Jvm.Cond.code ({ cls := "RodBench", name := "carry", desc := "()I" } : Jvm.MethodName) prog_1_method_15_code (1 : Nat) (Option.some Jvm.ClassFile.FieldType.int)) : Cond) ∈ COM := com_of 807 (by decide +kernel) (by decide +kernel)
theorem mw_808 : ((Jvm.Cond.methodLink "RodBench" (201 : Nat) ({ cls := "RodBench$Balance", name := "isCarried", desc := "()Z" } : Jvm.MethodName)) : Cond) ∈ COM := com_of 808 (by decide +kernel) (by decide +kernel)
theorem mw_809 : ((Jvm.Cond.instanceMethod ({ cls := "RodBench$Balance", name := "isCarried", desc := "()Z" } : Jvm.MethodName)) : Cond) ∈ COM := com_of 809 (by decide +kernel) (by decide +kernel)
theorem mw_810 : ((Jvm.Cond.selects "RodBench$Balance" ({ cls := "RodBench$Balance", name := "isCarried", desc := "()Z" } : Jvm.MethodName) ({ cls := "RodBench$Balance", name := "isCarried", desc := "()Z" } : Jvm.MethodName)) : Cond) ∈ COM := com_of 810 (by decide +kernel) (by decide +kernel)
theorem mw_811 : ((Jvm.Cond.code ({ cls := "RodBench$Balance", name := "isCarried", desc := "()Z" } : Jvm.MethodName) prog_2_method_9_code (1 : Nat) (Option.some Jvm.ClassFile.FieldType.boolean)) : Cond) ∈ COM := com_of 811 (by decide +kernel) (by decide +kernel)
theorem mw_812 : ((Jvm.Cond.methodLink "RodBench$Balance" (68 : Nat) ({ cls := "RodBench$Table", name := "hasSolution", desc := "()Z" } : Jvm.MethodName)) : Cond) ∈ COM := com_of 812 (by decide +kernel) (by decide +kernel)
theorem mw_813 : ((Jvm.Cond.instanceMethod ({ cls := "RodBench$Table", name := "hasSolution", desc := "()Z" } : Jvm.MethodName)) : Cond) ∈ COM := com_of 813 (by decide +kernel) (by decide +kernel)
theorem mw_814 : ((Jvm.Cond.selects "RodBench$Table" ({ cls := "RodBench$Table", name := "hasSolution", desc := "()Z" } : Jvm.MethodName) ({ cls := "RodBench$Table", name := "hasSolution", desc := "()Z" } : Jvm.MethodName)) : Cond) ∈ COM := com_of 814 (by decide +kernel) (by decide +kernel)
theorem mw_815 : ((Jvm.Cond.code ({ cls := "RodBench$Table", name := "hasSolution", desc := "()Z" } : Jvm.MethodName) prog_9_method_9_code (2 : Nat) (Option.some Jvm.ClassFile.FieldType.boolean)) : Cond) ∈ COM := com_of 815 (by decide +kernel) (by decide +kernel)
theorem mw_816 : ((Jvm.Cond.methodLink "RodBenchLaw" (77 : Nat) ({ cls := "RodBench", name := "force", desc := "(II)J" } : Jvm.MethodName)) : Cond) ∈ COM := com_of 816 (by decide +kernel) (by decide +kernel)
theorem mw_817 : ((Jvm.Cond.instanceMethod ({ cls := "RodBench", name := "force", desc := "(II)J" } : Jvm.MethodName)) : Cond) ∈ COM := com_of 817 (by decide +kernel) (by decide +kernel)
theorem mw_818 : ((Jvm.Cond.selects "RodBench" ({ cls := "RodBench", name := "force", desc := "(II)J" } : Jvm.MethodName) ({ cls := "RodBench", name := "force", desc := "(II)J" } : Jvm.MethodName)) : Cond) ∈ COM := com_of 818 (by decide +kernel) (by decide +kernel)
theorem mw_819 : ((Jvm.Cond.code ({ cls := "RodBench", name := "force", desc := "(II)J" } : Jvm.MethodName) prog_1_method_16_code (4 : Nat) (Option.some Jvm.ClassFile.FieldType.long)) : Cond) ∈ COM := com_of 819 (by decide +kernel) (by decide +kernel)
theorem mw_820 : ((Jvm.Cond.methodLink "RodBench" (205 : Nat) ({ cls := "RodBench$Balance", name := "forceAbove", desc := "(LRodBench$Rod;)J" } : Jvm.MethodName)) : Cond) ∈ COM := com_of 820 (by decide +kernel) (by decide +kernel)
theorem mw_821 : ((Jvm.Cond.instanceMethod ({ cls := "RodBench$Balance", name := "forceAbove", desc := "(LRodBench$Rod;)J" } : Jvm.MethodName)) : Cond) ∈ COM := com_of 821 (by decide +kernel) (by decide +kernel)
theorem mw_822 : ((Jvm.Cond.selects "RodBench$Balance" ({ cls := "RodBench$Balance", name := "forceAbove", desc := "(LRodBench$Rod;)J" } : Jvm.MethodName) ({ cls := "RodBench$Balance", name := "forceAbove", desc := "(LRodBench$Rod;)J" } : Jvm.MethodName)) : Cond) ∈ COM := com_of 822 (by decide +kernel) (by decide +kernel)
theorem mw_823 : ((Jvm.Cond.code ({ cls := "RodBench$Balance", name := "forceAbove", desc := "(LRodBench$Rod;)J" } : Jvm.MethodName) prog_2_method_10_code (2 : Nat) (Option.some Jvm.ClassFile.FieldType.long)) : Cond) ∈ COM := com_of 823 (by decide +kernel) (by decide +kernel)
theorem mw_824 : ((Jvm.Cond.methodLink "RodBench$Balance" (72 : Nat) ({ cls := "RodBench$Table", name := "solutionAbove", desc := "(I)J" } : Jvm.MethodName)) : Cond) ∈ COM := com_of 824 (by decide +kernel) (by decide +kernel)
theorem mw_825 : ((Jvm.Cond.instanceMethod ({ cls := "RodBench$Table", name := "solutionAbove", desc := "(I)J" } : Jvm.MethodName)) : Cond) ∈ COM := com_of 825 (by decide +kernel) (by decide +kernel)
theorem mw_826 : ((Jvm.Cond.selects "RodBench$Table" ({ cls := "RodBench$Table", name := "solutionAbove", desc := "(I)J" } : Jvm.MethodName) ({ cls := "RodBench$Table", name := "solutionAbove", desc := "(I)J" } : Jvm.MethodName)) : Cond) ∈ COM := com_of 826 (by decide +kernel) (by decide +kernel)
theorem mw_827 : ((Jvm.Cond.code ({ cls := "RodBench$Table", name := "solutionAbove", desc := "(I)J" } : Jvm.MethodName) prog_9_method_10_code (5 : Nat) (Option.some Jvm.ClassFile.FieldType.long)) : Cond) ∈ COM := com_of 827 (by decide +kernel) (by decide +kernel)
theorem mw_828 : ((Jvm.Cond.methodLink "RodBench" (209 : Nat) ({ cls := "RodBench$Balance", name := "forceBelow", desc := "(LRodBench$Rod;)J" } : Jvm.MethodName)) : Cond) ∈ COM := com_of 828 (by decide +kernel) (by decide +kernel)
theorem mw_829 : ((Jvm.Cond.instanceMethod ({ cls := "RodBench$Balance", name := "forceBelow", desc := "(LRodBench$Rod;)J" } : Jvm.MethodName)) : Cond) ∈ COM := com_of 829 (by decide +kernel) (by decide +kernel)
theorem mw_830 : ((Jvm.Cond.selects "RodBench$Balance" ({ cls := "RodBench$Balance", name := "forceBelow", desc := "(LRodBench$Rod;)J" } : Jvm.MethodName) ({ cls := "RodBench$Balance", name := "forceBelow", desc := "(LRodBench$Rod;)J" } : Jvm.MethodName)) : Cond) ∈ COM := com_of 830 (by decide +kernel) (by decide +kernel)
theorem mw_831 : ((Jvm.Cond.code ({ cls := "RodBench$Balance", name := "forceBelow", desc := "(LRodBench$Rod;)J" } : Jvm.MethodName) prog_2_method_11_code (2 : Nat) (Option.some Jvm.ClassFile.FieldType.long)) : Cond) ∈ COM := com_of 831 (by decide +kernel) (by decide +kernel)
theorem mw_832 : ((Jvm.Cond.methodLink "RodBench$Balance" (76 : Nat) ({ cls := "RodBench$Table", name := "solutionBelow", desc := "(I)J" } : Jvm.MethodName)) : Cond) ∈ COM := com_of 832 (by decide +kernel) (by decide +kernel)
theorem mw_833 : ((Jvm.Cond.instanceMethod ({ cls := "RodBench$Table", name := "solutionBelow", desc := "(I)J" } : Jvm.MethodName)) : Cond) ∈ COM := com_of 833 (by decide +kernel) (by decide +kernel)
theorem mw_834 : ((Jvm.Cond.selects "RodBench$Table" ({ cls := "RodBench$Table", name := "solutionBelow", desc := "(I)J" } : Jvm.MethodName) ({ cls := "RodBench$Table", name := "solutionBelow", desc := "(I)J" } : Jvm.MethodName)) : Cond) ∈ COM := com_of 834 (by decide +kernel) (by decide +kernel)
theorem mw_835 : ((Jvm.Cond.code ({ cls := "RodBench$Table", name := "solutionBelow", desc := "(I)J" } : Jvm.MethodName) prog_9_method_11_code (3 : Nat) (Option.some Jvm.ClassFile.FieldType.long)) : Cond) ∈ COM := com_of 835 (by decide +kernel) (by decide +kernel)
theorem mw_836 : ((Jvm.Cond.methodLink "RodBenchLaw" (81 : Nat) ({ cls := "RodBench", name := "gives", desc := "()I" } : Jvm.MethodName)) : Cond) ∈ COM := com_of 836 (by decide +kernel) (by decide +kernel)
theorem mw_837 : ((Jvm.Cond.instanceMethod ({ cls := "RodBench", name := "gives", desc := "()I" } : Jvm.MethodName)) : Cond) ∈ COM := com_of 837 (by decide +kernel) (by decide +kernel)
theorem mw_838 : ((Jvm.Cond.selects "RodBench" ({ cls := "RodBench", name := "gives", desc := "()I" } : Jvm.MethodName) ({ cls := "RodBench", name := "gives", desc := "()I" } : Jvm.MethodName)) : Cond) ∈ COM := com_of 838 (by decide +kernel) (by decide +kernel)
theorem mw_839 : ((Jvm.Cond.code ({ cls := "RodBench", name := "gives", desc := "()I" } : Jvm.MethodName) prog_1_method_17_code (2 : Nat) (Option.some Jvm.ClassFile.FieldType.int)) : Cond) ∈ COM := com_of 839 (by decide +kernel) (by decide +kernel)
theorem mw_840 : ((Jvm.Cond.methodLink "RodBench" (212 : Nat) ({ cls := "RodBench$Balance", name := "workOf", desc := "(I)J" } : Jvm.MethodName)) : Cond) ∈ COM := com_of 840 (by decide +kernel) (by decide +kernel)
theorem mw_841 : ((Jvm.Cond.instanceMethod ({ cls := "RodBench$Balance", name := "workOf", desc := "(I)J" } : Jvm.MethodName)) : Cond) ∈ COM := com_of 841 (by decide +kernel) (by decide +kernel)
theorem mw_842 : ((Jvm.Cond.selects "RodBench$Balance" ({ cls := "RodBench$Balance", name := "workOf", desc := "(I)J" } : Jvm.MethodName) ({ cls := "RodBench$Balance", name := "workOf", desc := "(I)J" } : Jvm.MethodName)) : Cond) ∈ COM := com_of 842 (by decide +kernel) (by decide +kernel)
theorem mw_843 : ((Jvm.Cond.code ({ cls := "RodBench$Balance", name := "workOf", desc := "(I)J" } : Jvm.MethodName) prog_2_method_12_code (6 : Nat) (Option.some Jvm.ClassFile.FieldType.long)) : Cond) ∈ COM := com_of 843 (by decide +kernel) (by decide +kernel)
theorem mw_844 : ((Jvm.Cond.classLink "RodBench$Balance" (79 : Nat) "RodBench$Pin") : Cond) ∈ COM := com_of 844 (by decide +kernel) (by decide +kernel)
theorem mw_845 : ((Jvm.Cond.methodLink "RodBenchLaw" (85 : Nat) ({ cls := "RodBench", name := "could", desc := "()I" } : Jvm.MethodName)) : Cond) ∈ COM := com_of 845 (by decide +kernel) (by decide +kernel)
theorem mw_846 : ((Jvm.Cond.instanceMethod ({ cls := "RodBench", name := "could", desc := "()I" } : Jvm.MethodName)) : Cond) ∈ COM := com_of 846 (by decide +kernel) (by decide +kernel)
theorem mw_847 : ((Jvm.Cond.selects "RodBench" ({ cls := "RodBench", name := "could", desc := "()I" } : Jvm.MethodName) ({ cls := "RodBench", name := "could", desc := "()I" } : Jvm.MethodName)) : Cond) ∈ COM := com_of 847 (by decide +kernel) (by decide +kernel)
theorem mw_848 : ((Jvm.Cond.code ({ cls := "RodBench", name := "could", desc := "()I" } : Jvm.MethodName) prog_1_method_18_code (1 : Nat) (Option.some Jvm.ClassFile.FieldType.int)) : Cond) ∈ COM := com_of 848 (by decide +kernel) (by decide +kernel)
theorem mw_849 : ((Jvm.Cond.methodLink "RodBench" (216 : Nat) ({ cls := "RodBench$Bodies", name := "areAllOne", desc := "()Z" } : Jvm.MethodName)) : Cond) ∈ COM := com_of 849 (by decide +kernel) (by decide +kernel)
theorem mw_850 : ((Jvm.Cond.instanceMethod ({ cls := "RodBench$Bodies", name := "areAllOne", desc := "()Z" } : Jvm.MethodName)) : Cond) ∈ COM := com_of 850 (by decide +kernel) (by decide +kernel)
theorem mw_851 : ((Jvm.Cond.selects "RodBench$Bodies" ({ cls := "RodBench$Bodies", name := "areAllOne", desc := "()Z" } : Jvm.MethodName) ({ cls := "RodBench$Bodies", name := "areAllOne", desc := "()Z" } : Jvm.MethodName)) : Cond) ∈ COM := com_of 851 (by decide +kernel) (by decide +kernel)
theorem mw_852 : ((Jvm.Cond.code ({ cls := "RodBench$Bodies", name := "areAllOne", desc := "()Z" } : Jvm.MethodName) prog_3_method_5_code (2 : Nat) (Option.some Jvm.ClassFile.FieldType.boolean)) : Cond) ∈ COM := com_of 852 (by decide +kernel) (by decide +kernel)
theorem mw_853 : ((Jvm.Cond.methodLink "RodBenchLaw" (89 : Nat) ({ cls := "RodBench", name := "body", desc := "(II)I" } : Jvm.MethodName)) : Cond) ∈ COM := com_of 853 (by decide +kernel) (by decide +kernel)
theorem mw_854 : ((Jvm.Cond.instanceMethod ({ cls := "RodBench", name := "body", desc := "(II)I" } : Jvm.MethodName)) : Cond) ∈ COM := com_of 854 (by decide +kernel) (by decide +kernel)
theorem mw_855 : ((Jvm.Cond.selects "RodBench" ({ cls := "RodBench", name := "body", desc := "(II)I" } : Jvm.MethodName) ({ cls := "RodBench", name := "body", desc := "(II)I" } : Jvm.MethodName)) : Cond) ∈ COM := com_of 855 (by decide +kernel) (by decide +kernel)
theorem mw_856 : ((Jvm.Cond.code ({ cls := "RodBench", name := "body", desc := "(II)I" } : Jvm.MethodName) prog_1_method_19_code (3 : Nat) (Option.some Jvm.ClassFile.FieldType.int)) : Cond) ∈ COM := com_of 856 (by decide +kernel) (by decide +kernel)
theorem mw_857 : ((Jvm.Cond.methodLink "RodBench" (219 : Nat) ({ cls := "RodBench$Bodies", name := "isBody", desc := "(I)Z" } : Jvm.MethodName)) : Cond) ∈ COM := com_of 857 (by decide +kernel) (by decide +kernel)
theorem mw_858 : ((Jvm.Cond.instanceMethod ({ cls := "RodBench$Bodies", name := "isBody", desc := "(I)Z" } : Jvm.MethodName)) : Cond) ∈ COM := com_of 858 (by decide +kernel) (by decide +kernel)
theorem mw_859 : ((Jvm.Cond.selects "RodBench$Bodies" ({ cls := "RodBench$Bodies", name := "isBody", desc := "(I)Z" } : Jvm.MethodName) ({ cls := "RodBench$Bodies", name := "isBody", desc := "(I)Z" } : Jvm.MethodName)) : Cond) ∈ COM := com_of 859 (by decide +kernel) (by decide +kernel)
theorem mw_860 : ((Jvm.Cond.code ({ cls := "RodBench$Bodies", name := "isBody", desc := "(I)Z" } : Jvm.MethodName) prog_3_method_3_code (2 : Nat) (Option.some Jvm.ClassFile.FieldType.boolean)) : Cond) ∈ COM := com_of 860 (by decide +kernel) (by decide +kernel)
theorem mw_861 : ((Jvm.Cond.methodLink "RodBench$Bodies" (29 : Nat) ({ cls := "RodBench$Bodies", name := "bodyCount", desc := "()I" } : Jvm.MethodName)) : Cond) ∈ COM := com_of 861 (by decide +kernel) (by decide +kernel)
theorem mw_862 : ((Jvm.Cond.methodLink "RodBench" (222 : Nat) ({ cls := "RodBench$Bodies", name := "pinOf", desc := "(II)I" } : Jvm.MethodName)) : Cond) ∈ COM := com_of 862 (by decide +kernel) (by decide +kernel)
theorem mw_863 : ((Jvm.Cond.instanceMethod ({ cls := "RodBench$Bodies", name := "pinOf", desc := "(II)I" } : Jvm.MethodName)) : Cond) ∈ COM := com_of 863 (by decide +kernel) (by decide +kernel)
theorem mw_864 : ((Jvm.Cond.selects "RodBench$Bodies" ({ cls := "RodBench$Bodies", name := "pinOf", desc := "(II)I" } : Jvm.MethodName) ({ cls := "RodBench$Bodies", name := "pinOf", desc := "(II)I" } : Jvm.MethodName)) : Cond) ∈ COM := com_of 864 (by decide +kernel) (by decide +kernel)
theorem mw_865 : ((Jvm.Cond.code ({ cls := "RodBench$Bodies", name := "pinOf", desc := "(II)I" } : Jvm.MethodName) prog_3_method_7_code (5 : Nat) (Option.some Jvm.ClassFile.FieldType.int)) : Cond) ∈ COM := com_of 865 (by decide +kernel) (by decide +kernel)
theorem mw_866 : ((Jvm.Cond.methodLink "RodBench$Bodies" (59 : Nat) ({ cls := "RodBench$Bodies", name := "isBody", desc := "(I)Z" } : Jvm.MethodName)) : Cond) ∈ COM := com_of 866 (by decide +kernel) (by decide +kernel)
theorem mw_867 : ((Jvm.Cond.methodLink "RodBenchLaw" (93 : Nat) ({ cls := "RodBench", name := "plan", desc := "(I)I" } : Jvm.MethodName)) : Cond) ∈ COM := com_of 867 (by decide +kernel) (by decide +kernel)
theorem mw_868 : ((Jvm.Cond.instanceMethod ({ cls := "RodBench", name := "plan", desc := "(I)I" } : Jvm.MethodName)) : Cond) ∈ COM := com_of 868 (by decide +kernel) (by decide +kernel)
theorem mw_869 : ((Jvm.Cond.selects "RodBench" ({ cls := "RodBench", name := "plan", desc := "(I)I" } : Jvm.MethodName) ({ cls := "RodBench", name := "plan", desc := "(I)I" } : Jvm.MethodName)) : Cond) ∈ COM := com_of 869 (by decide +kernel) (by decide +kernel)
theorem mw_870 : ((Jvm.Cond.code ({ cls := "RodBench", name := "plan", desc := "(I)I" } : Jvm.MethodName) prog_1_method_20_code (2 : Nat) (Option.some Jvm.ClassFile.FieldType.int)) : Cond) ∈ COM := com_of 870 (by decide +kernel) (by decide +kernel)
theorem mw_871 : ((Jvm.Cond.methodLink "RodBench" (226 : Nat) ({ cls := "RodBench$Offers", name := "takenRod", desc := "(I)I" } : Jvm.MethodName)) : Cond) ∈ COM := com_of 871 (by decide +kernel) (by decide +kernel)
theorem mw_872 : ((Jvm.Cond.instanceMethod ({ cls := "RodBench$Offers", name := "takenRod", desc := "(I)I" } : Jvm.MethodName)) : Cond) ∈ COM := com_of 872 (by decide +kernel) (by decide +kernel)
theorem mw_873 : ((Jvm.Cond.selects "RodBench$Offers" ({ cls := "RodBench$Offers", name := "takenRod", desc := "(I)I" } : Jvm.MethodName) ({ cls := "RodBench$Offers", name := "takenRod", desc := "(I)I" } : Jvm.MethodName)) : Cond) ∈ COM := com_of 873 (by decide +kernel) (by decide +kernel)
theorem mw_874 : ((Jvm.Cond.code ({ cls := "RodBench$Offers", name := "takenRod", desc := "(I)I" } : Jvm.MethodName) prog_5_method_2_code (2 : Nat) (Option.some Jvm.ClassFile.FieldType.int)) : Cond) ∈ COM := com_of 874 (by decide +kernel) (by decide +kernel)
theorem mw_875 : ((Jvm.Cond.methodLink "RodBenchLaw" (97 : Nat) ({ cls := "RodBench", name := "cheapest", desc := "()I" } : Jvm.MethodName)) : Cond) ∈ COM := com_of 875 (by decide +kernel) (by decide +kernel)
theorem mw_876 : ((Jvm.Cond.instanceMethod ({ cls := "RodBench", name := "cheapest", desc := "()I" } : Jvm.MethodName)) : Cond) ∈ COM := com_of 876 (by decide +kernel) (by decide +kernel)
theorem mw_877 : ((Jvm.Cond.selects "RodBench" ({ cls := "RodBench", name := "cheapest", desc := "()I" } : Jvm.MethodName) ({ cls := "RodBench", name := "cheapest", desc := "()I" } : Jvm.MethodName)) : Cond) ∈ COM := com_of 877 (by decide +kernel) (by decide +kernel)
theorem mw_878 : ((Jvm.Cond.code ({ cls := "RodBench", name := "cheapest", desc := "()I" } : Jvm.MethodName) prog_1_method_21_code (1 : Nat) (Option.some Jvm.ClassFile.FieldType.int)) : Cond) ∈ COM := com_of 878 (by decide +kernel) (by decide +kernel)
theorem mw_879 : ((Jvm.Cond.methodLink "RodBench" (230 : Nat) ({ cls := "RodBench$Offers", name := "holds", desc := "()Z" } : Jvm.MethodName)) : Cond) ∈ COM := com_of 879 (by decide +kernel) (by decide +kernel)
theorem mw_880 : ((Jvm.Cond.instanceMethod ({ cls := "RodBench$Offers", name := "holds", desc := "()Z" } : Jvm.MethodName)) : Cond) ∈ COM := com_of 880 (by decide +kernel) (by decide +kernel)
theorem mw_881 : ((Jvm.Cond.selects "RodBench$Offers" ({ cls := "RodBench$Offers", name := "holds", desc := "()Z" } : Jvm.MethodName) ({ cls := "RodBench$Offers", name := "holds", desc := "()Z" } : Jvm.MethodName)) : Cond) ∈ COM := com_of 881 (by decide +kernel) (by decide +kernel)
theorem mw_882 : ((Jvm.Cond.code ({ cls := "RodBench$Offers", name := "holds", desc := "()Z" } : Jvm.MethodName) prog_5_method_4_code (1 : Nat) (Option.some Jvm.ClassFile.FieldType.boolean)) : Cond) ∈ COM := com_of 882 (by decide +kernel) (by decide +kernel)
theorem mw_883 : ((Jvm.Cond.methodLink "RodBench$Offers" (56 : Nat) ({ cls := "RodBench$Table", name := "rank", desc := "()I" } : Jvm.MethodName)) : Cond) ∈ COM := com_of 883 (by decide +kernel) (by decide +kernel)
theorem mw_884 : ((Jvm.Cond.instanceMethod ({ cls := "RodBench$Table", name := "rank", desc := "()I" } : Jvm.MethodName)) : Cond) ∈ COM := com_of 884 (by decide +kernel) (by decide +kernel)
theorem mw_885 : ((Jvm.Cond.selects "RodBench$Table" ({ cls := "RodBench$Table", name := "rank", desc := "()I" } : Jvm.MethodName) ({ cls := "RodBench$Table", name := "rank", desc := "()I" } : Jvm.MethodName)) : Cond) ∈ COM := com_of 885 (by decide +kernel) (by decide +kernel)
theorem mw_886 : ((Jvm.Cond.code ({ cls := "RodBench$Table", name := "rank", desc := "()I" } : Jvm.MethodName) prog_9_method_6_code (1 : Nat) (Option.some Jvm.ClassFile.FieldType.int)) : Cond) ∈ COM := com_of 886 (by decide +kernel) (by decide +kernel)
theorem mw_887 : ((Jvm.Cond.methodLink "RodBench$Offers" (59 : Nat) ({ cls := "RodBench$Frame", name := "planeMotions", desc := "()I" } : Jvm.MethodName)) : Cond) ∈ COM := com_of 887 (by decide +kernel) (by decide +kernel)
theorem mw_888 : ((Jvm.Cond.methodLink "RodBench" (233 : Nat) ({ cls := "RodBench$Offers", name := "priceOfAll", desc := "()I" } : Jvm.MethodName)) : Cond) ∈ COM := com_of 888 (by decide +kernel) (by decide +kernel)
theorem mw_889 : ((Jvm.Cond.instanceMethod ({ cls := "RodBench$Offers", name := "priceOfAll", desc := "()I" } : Jvm.MethodName)) : Cond) ∈ COM := com_of 889 (by decide +kernel) (by decide +kernel)
theorem mw_890 : ((Jvm.Cond.selects "RodBench$Offers" ({ cls := "RodBench$Offers", name := "priceOfAll", desc := "()I" } : Jvm.MethodName) ({ cls := "RodBench$Offers", name := "priceOfAll", desc := "()I" } : Jvm.MethodName)) : Cond) ∈ COM := com_of 890 (by decide +kernel) (by decide +kernel)
theorem mw_891 : ((Jvm.Cond.code ({ cls := "RodBench$Offers", name := "priceOfAll", desc := "()I" } : Jvm.MethodName) prog_5_method_3_code (3 : Nat) (Option.some Jvm.ClassFile.FieldType.int)) : Cond) ∈ COM := com_of 891 (by decide +kernel) (by decide +kernel)
theorem mw_892 : ((Jvm.Cond.methodLink "RodBenchLaw" (101 : Nat) ({ cls := "RodBench", name := "tray", desc := "(III)I" } : Jvm.MethodName)) : Cond) ∈ COM := com_of 892 (by decide +kernel) (by decide +kernel)
theorem mw_893 : ((Jvm.Cond.instanceMethod ({ cls := "RodBench", name := "tray", desc := "(III)I" } : Jvm.MethodName)) : Cond) ∈ COM := com_of 893 (by decide +kernel) (by decide +kernel)
theorem mw_894 : ((Jvm.Cond.selects "RodBench" ({ cls := "RodBench", name := "tray", desc := "(III)I" } : Jvm.MethodName) ({ cls := "RodBench", name := "tray", desc := "(III)I" } : Jvm.MethodName)) : Cond) ∈ COM := com_of 894 (by decide +kernel) (by decide +kernel)
theorem mw_895 : ((Jvm.Cond.code ({ cls := "RodBench", name := "tray", desc := "(III)I" } : Jvm.MethodName) prog_1_method_22_code (4 : Nat) (Option.some Jvm.ClassFile.FieldType.int)) : Cond) ∈ COM := com_of 895 (by decide +kernel) (by decide +kernel)
theorem mw_896 : ((Jvm.Cond.methodLink "RodBench" (236 : Nat) ({ cls := "RodBench$Trays", name := "fill", desc := "(III)I" } : Jvm.MethodName)) : Cond) ∈ COM := com_of 896 (by decide +kernel) (by decide +kernel)
theorem mw_897 : ((Jvm.Cond.instanceMethod ({ cls := "RodBench$Trays", name := "fill", desc := "(III)I" } : Jvm.MethodName)) : Cond) ∈ COM := com_of 897 (by decide +kernel) (by decide +kernel)
theorem mw_898 : ((Jvm.Cond.selects "RodBench$Trays" ({ cls := "RodBench$Trays", name := "fill", desc := "(III)I" } : Jvm.MethodName) ({ cls := "RodBench$Trays", name := "fill", desc := "(III)I" } : Jvm.MethodName)) : Cond) ∈ COM := com_of 898 (by decide +kernel) (by decide +kernel)
theorem mw_899 : ((Jvm.Cond.code ({ cls := "RodBench$Trays", name := "fill", desc := "(III)I" } : Jvm.MethodName) prog_11_method_3_code (4 : Nat) (Option.some Jvm.ClassFile.FieldType.int)) : Cond) ∈ COM := com_of 899 (by decide +kernel) (by decide +kernel)
theorem mw_900 : ((Jvm.Cond.methodLink "RodBench$Trays" (29 : Nat) ({ cls := "RodBench$Trays", name := "isTray", desc := "(I)Z" } : Jvm.MethodName)) : Cond) ∈ COM := com_of 900 (by decide +kernel) (by decide +kernel)
theorem mw_901 : ((Jvm.Cond.static ({ cls := "RodBench$Trays", name := "isTray", desc := "(I)Z" } : Jvm.MethodName)) : Cond) ∈ COM := com_of 901 (by decide +kernel) (by decide +kernel)
theorem mw_902 : ((Jvm.Cond.code ({ cls := "RodBench$Trays", name := "isTray", desc := "(I)Z" } : Jvm.MethodName) prog_11_method_5_code (1 : Nat) (Option.some Jvm.ClassFile.FieldType.boolean)) : Cond) ∈ COM := com_of 902 (by decide +kernel) (by decide +kernel)
theorem mw_903 : ((Jvm.Cond.methodLink "RodBench$Trays" (33 : Nat) ({ cls := "RodBench$Trays", name := "isThing", desc := "(II)Z" } : Jvm.MethodName)) : Cond) ∈ COM := com_of 903 (by decide +kernel) (by decide +kernel)
theorem mw_905 : ((Jvm.Cond.instanceMethod ({ cls := "RodBench$Trays", name := "isThing", desc := "(II)Z" } : Jvm.MethodName)) : Cond) ∈ COM := com_of 905 (by decide +kernel) (by decide +kernel)
theorem mw_906 : ((Jvm.Cond.code ({ cls := "RodBench$Trays", name := "isThing", desc := "(II)Z" } : Jvm.MethodName) prog_11_method_6_code (3 : Nat) (Option.some Jvm.ClassFile.FieldType.boolean)) : Cond) ∈ COM := com_of 906 (by decide +kernel) (by decide +kernel)
theorem mw_907 : ((Jvm.Cond.methodLink "RodBench$Trays" (72 : Nat) ({ cls := "RodBench$Frame", name := "isRod", desc := "(I)Z" } : Jvm.MethodName)) : Cond) ∈ COM := com_of 907 (by decide +kernel) (by decide +kernel)
theorem mw_908 : ((Jvm.Cond.methodLink "RodBench$Trays" (77 : Nat) ({ cls := "RodBench$Balance", name := "isMotion", desc := "(I)Z" } : Jvm.MethodName)) : Cond) ∈ COM := com_of 908 (by decide +kernel) (by decide +kernel)
theorem mw_909 : ((Jvm.Cond.methodLink "RodBench$Trays" (37 : Nat) ({ cls := "RodBench$Trays", name := "refuse", desc := "(I)I" } : Jvm.MethodName)) : Cond) ∈ COM := com_of 909 (by decide +kernel) (by decide +kernel)
theorem mw_911 : ((Jvm.Cond.instanceMethod ({ cls := "RodBench$Trays", name := "refuse", desc := "(I)I" } : Jvm.MethodName)) : Cond) ∈ COM := com_of 911 (by decide +kernel) (by decide +kernel)
theorem mw_912 : ((Jvm.Cond.code ({ cls := "RodBench$Trays", name := "refuse", desc := "(I)I" } : Jvm.MethodName) prog_11_method_18_code (2 : Nat) (Option.some Jvm.ClassFile.FieldType.int)) : Cond) ∈ COM := com_of 912 (by decide +kernel) (by decide +kernel)
theorem mw_913 : ((Jvm.Cond.methodLink "RodBench$Trays" (41 : Nat) ({ cls := "RodBench$Trays", name := "thingFor", desc := "(II)LRodBench$Thing;" } : Jvm.MethodName)) : Cond) ∈ COM := com_of 913 (by decide +kernel) (by decide +kernel)
theorem mw_915 : ((Jvm.Cond.instanceMethod ({ cls := "RodBench$Trays", name := "thingFor", desc := "(II)LRodBench$Thing;" } : Jvm.MethodName)) : Cond) ∈ COM := com_of 915 (by decide +kernel) (by decide +kernel)
theorem mw_916 : ((Jvm.Cond.code ({ cls := "RodBench$Trays", name := "thingFor", desc := "(II)LRodBench$Thing;" } : Jvm.MethodName) prog_11_method_7_code (3 : Nat) (Option.some (Jvm.ClassFile.FieldType.object "RodBench$Thing"))) : Cond) ∈ COM := com_of 916 (by decide +kernel) (by decide +kernel)
theorem mw_918 : ((Jvm.Cond.methodLink "RodBench$Trays" (86 : Nat) ({ cls := "java/util/List", name := "get", desc := "(I)Ljava/lang/Object;" } : Jvm.MethodName)) : Cond) ∈ COM := com_of 918 (by decide +kernel) (by decide +kernel)
theorem mw_919 : ((Jvm.Cond.methodLink "RodBench$Trays" (92 : Nat) ({ cls := "RodBench$Trays", name := "motionRow", desc := "(I)LRodBench$Row;" } : Jvm.MethodName)) : Cond) ∈ COM := com_of 919 (by decide +kernel) (by decide +kernel)
theorem mw_921 : ((Jvm.Cond.instanceMethod ({ cls := "RodBench$Trays", name := "motionRow", desc := "(I)LRodBench$Row;" } : Jvm.MethodName)) : Cond) ∈ COM := com_of 921 (by decide +kernel) (by decide +kernel)
theorem mw_922 : ((Jvm.Cond.code ({ cls := "RodBench$Trays", name := "motionRow", desc := "(I)LRodBench$Row;" } : Jvm.MethodName) prog_11_method_8_code (4 : Nat) (Option.some (Jvm.ClassFile.FieldType.object "RodBench$Row"))) : Cond) ∈ COM := com_of 922 (by decide +kernel) (by decide +kernel)
theorem mw_923 : ((Jvm.Cond.classLink "RodBench$Trays" (99 : Nat) "RodBench$Row") : Cond) ∈ COM := com_of 923 (by decide +kernel) (by decide +kernel)
theorem mw_924 : ((Jvm.Cond.instantiable "RodBench$Row" (2 : Nat)) : Cond) ∈ COM := com_of 924 (by decide +kernel) (by decide +kernel)
theorem mw_926 : ((Jvm.Cond.methodLink "RodBench$Trays" (104 : Nat) ({ cls := "java/util/List", name := "size", desc := "()I" } : Jvm.MethodName)) : Cond) ∈ COM := com_of 926 (by decide +kernel) (by decide +kernel)
theorem mw_927 : ((Jvm.Cond.methodLink "RodBench$Trays" (108 : Nat) ({ cls := "RodBench$Row", name := "<init>", desc := "(II)V" } : Jvm.MethodName)) : Cond) ∈ COM := com_of 927 (by decide +kernel) (by decide +kernel)
theorem mw_928 : ((Jvm.Cond.instanceMethod ({ cls := "RodBench$Row", name := "<init>", desc := "(II)V" } : Jvm.MethodName)) : Cond) ∈ COM := com_of 928 (by decide +kernel) (by decide +kernel)
theorem mw_929 : ((Jvm.Cond.code ({ cls := "RodBench$Row", name := "<init>", desc := "(II)V" } : Jvm.MethodName) prog_8_method_1_code (3 : Nat) (Option.none : Option Jvm.ClassFile.FieldType)) : Cond) ∈ COM := com_of 929 (by decide +kernel) (by decide +kernel)
theorem mw_930 : ((Jvm.Cond.methodLink "RodBench$Row" (1 : Nat) ({ cls := "java/lang/Object", name := "<init>", desc := "()V" } : Jvm.MethodName)) : Cond) ∈ COM := com_of 930 (by decide +kernel) (by decide +kernel)
theorem mw_931 : ((Jvm.Cond.methodLink "RodBench$Row" (13 : Nat) ({ cls := "java/lang/Math", name := "max", desc := "(II)I" } : Jvm.MethodName)) : Cond) ∈ COM := com_of 931 (by decide +kernel) (by decide +kernel)
theorem mw_932 : ((Jvm.Cond.fieldLink "RodBench$Row" (7 : Nat) "RodBench$Row" "sort" "I") : Cond) ∈ COM := com_of 932 (by decide +kernel) (by decide +kernel)
theorem mw_933 : ((Jvm.Cond.fieldLink "RodBench$Trays" (147 : Nat) "RodBench$Row" "sort" "I") : Cond) ∈ COM := com_of 933 (by decide +kernel) (by decide +kernel)
theorem mw_934 : ((Jvm.Cond.fieldLink "RodBench$Row" (19 : Nat) "RodBench$Row" "numbers" "[J") : Cond) ∈ COM := com_of 934 (by decide +kernel) (by decide +kernel)
theorem mw_935 : ((Jvm.Cond.fieldLink "RodBench$Trays" (111 : Nat) "RodBench$Row" "numbers" "[J") : Cond) ∈ COM := com_of 935 (by decide +kernel) (by decide +kernel)
theorem mw_936 : ((Jvm.Cond.laysFinal "RodBench$Row" "RodBench$Row" "sort" "I") : Cond) ∈ COM := com_of 936 (by decide +kernel) (by decide +kernel)
theorem mw_938 : ((Jvm.Cond.laysFinal "RodBench$Row" "RodBench$Row" "numbers" "[J") : Cond) ∈ COM := com_of 938 (by decide +kernel) (by decide +kernel)
theorem mw_940 : ((Jvm.Cond.superclass "RodBench$Row" "java/lang/Object") : Cond) ∈ COM := com_of 940 (by decide +kernel) (by decide +kernel)
theorem mw_941 : ((Jvm.Cond.classLink "RodBench$Trays" (115 : Nat) "RodBench$Pin") : Cond) ∈ COM := com_of 941 (by decide +kernel) (by decide +kernel)
theorem mw_942 : ((Jvm.Cond.methodLink "RodBench$Trays" (117 : Nat) ({ cls := "RodBench$Balance", name := "motionNumber", desc := "(ILRodBench$Pin;I)J" } : Jvm.MethodName)) : Cond) ∈ COM := com_of 942 (by decide +kernel) (by decide +kernel)
theorem mw_943 : ((Jvm.Cond.methodLink "RodBench$Trays" (96 : Nat) ({ cls := "RodBench$Trays", name := "rodRow", desc := "(I)LRodBench$Row;" } : Jvm.MethodName)) : Cond) ∈ COM := com_of 943 (by decide +kernel) (by decide +kernel)
theorem mw_945 : ((Jvm.Cond.instanceMethod ({ cls := "RodBench$Trays", name := "rodRow", desc := "(I)LRodBench$Row;" } : Jvm.MethodName)) : Cond) ∈ COM := com_of 945 (by decide +kernel) (by decide +kernel)
theorem mw_946 : ((Jvm.Cond.code ({ cls := "RodBench$Trays", name := "rodRow", desc := "(I)LRodBench$Row;" } : Jvm.MethodName) prog_11_method_9_code (5 : Nat) (Option.some (Jvm.ClassFile.FieldType.object "RodBench$Row"))) : Cond) ∈ COM := com_of 946 (by decide +kernel) (by decide +kernel)
theorem mw_947 : ((Jvm.Cond.classLink "RodBench$Trays" (121 : Nat) "RodBench$Rod") : Cond) ∈ COM := com_of 947 (by decide +kernel) (by decide +kernel)
theorem mw_948 : ((Jvm.Cond.methodLink "RodBench$Trays" (45 : Nat) ({ cls := "RodBench$Trays", name := "done", desc := "(I)I" } : Jvm.MethodName)) : Cond) ∈ COM := com_of 948 (by decide +kernel) (by decide +kernel)
theorem mw_950 : ((Jvm.Cond.instanceMethod ({ cls := "RodBench$Trays", name := "done", desc := "(I)I" } : Jvm.MethodName)) : Cond) ∈ COM := com_of 950 (by decide +kernel) (by decide +kernel)
theorem mw_951 : ((Jvm.Cond.code ({ cls := "RodBench$Trays", name := "done", desc := "(I)I" } : Jvm.MethodName) prog_11_method_17_code (2 : Nat) (Option.some Jvm.ClassFile.FieldType.int)) : Cond) ∈ COM := com_of 951 (by decide +kernel) (by decide +kernel)
theorem mw_952 : ((Jvm.Cond.methodLink "RodBenchLaw" (105 : Nat) ({ cls := "RodBench", name := "forge", desc := "(III)I" } : Jvm.MethodName)) : Cond) ∈ COM := com_of 952 (by decide +kernel) (by decide +kernel)
theorem mw_953 : ((Jvm.Cond.instanceMethod ({ cls := "RodBench", name := "forge", desc := "(III)I" } : Jvm.MethodName)) : Cond) ∈ COM := com_of 953 (by decide +kernel) (by decide +kernel)
theorem mw_954 : ((Jvm.Cond.selects "RodBench" ({ cls := "RodBench", name := "forge", desc := "(III)I" } : Jvm.MethodName) ({ cls := "RodBench", name := "forge", desc := "(III)I" } : Jvm.MethodName)) : Cond) ∈ COM := com_of 954 (by decide +kernel) (by decide +kernel)
theorem mw_955 : ((Jvm.Cond.code ({ cls := "RodBench", name := "forge", desc := "(III)I" } : Jvm.MethodName) prog_1_method_23_code (4 : Nat) (Option.some Jvm.ClassFile.FieldType.int)) : Cond) ∈ COM := com_of 955 (by decide +kernel) (by decide +kernel)
theorem mw_956 : ((Jvm.Cond.methodLink "RodBench" (240 : Nat) ({ cls := "RodBench$Trays", name := "work", desc := "(III)I" } : Jvm.MethodName)) : Cond) ∈ COM := com_of 956 (by decide +kernel) (by decide +kernel)
theorem mw_957 : ((Jvm.Cond.instanceMethod ({ cls := "RodBench$Trays", name := "work", desc := "(III)I" } : Jvm.MethodName)) : Cond) ∈ COM := com_of 957 (by decide +kernel) (by decide +kernel)
theorem mw_958 : ((Jvm.Cond.selects "RodBench$Trays" ({ cls := "RodBench$Trays", name := "work", desc := "(III)I" } : Jvm.MethodName) ({ cls := "RodBench$Trays", name := "work", desc := "(III)I" } : Jvm.MethodName)) : Cond) ∈ COM := com_of 958 (by decide +kernel) (by decide +kernel)
theorem mw_959 : ((Jvm.Cond.code ({ cls := "RodBench$Trays", name := "work", desc := "(III)I" } : Jvm.MethodName) prog_11_method_4_code (5 : Nat) (Option.some Jvm.ClassFile.FieldType.int)) : Cond) ∈ COM := com_of 959 (by decide +kernel) (by decide +kernel)
theorem mw_960 : ((Jvm.Cond.methodLink "RodBench$Trays" (48 : Nat) ({ cls := "java/lang/Math", name := "floorMod", desc := "(II)I" } : Jvm.MethodName)) : Cond) ∈ COM := com_of 960 (by decide +kernel) (by decide +kernel)
theorem mw_961 : ((Jvm.Cond.static ({ cls := "java/lang/Math", name := "floorMod", desc := "(II)I" } : Jvm.MethodName)) : Cond) ∈ COM := com_of 961 (by decide +kernel) (by decide +kernel)
theorem mw_962 : ((Jvm.Cond.code ({ cls := "java/lang/Math", name := "floorMod", desc := "(II)I" } : Jvm.MethodName) prog_18_method_50_code (3 : Nat) (Option.some Jvm.ClassFile.FieldType.int)) : Cond) ∈ COM := com_of 962 (by decide +kernel) (by decide +kernel)
theorem mw_963 : ((Jvm.Cond.methodLink "RodBench$Trays" (54 : Nat) ({ cls := "RodBench$Trays", name := "firstPinAs", desc := "(LRodBench$Thing;I)I" } : Jvm.MethodName)) : Cond) ∈ COM := com_of 963 (by decide +kernel) (by decide +kernel)
theorem mw_965 : ((Jvm.Cond.instanceMethod ({ cls := "RodBench$Trays", name := "firstPinAs", desc := "(LRodBench$Thing;I)I" } : Jvm.MethodName)) : Cond) ∈ COM := com_of 965 (by decide +kernel) (by decide +kernel)
theorem mw_966 : ((Jvm.Cond.code ({ cls := "RodBench$Trays", name := "firstPinAs", desc := "(LRodBench$Thing;I)I" } : Jvm.MethodName) prog_11_method_10_code (4 : Nat) (Option.some Jvm.ClassFile.FieldType.int)) : Cond) ∈ COM := com_of 966 (by decide +kernel) (by decide +kernel)
theorem mw_967 : ((Jvm.Cond.methodLink "RodBench$Trays" (130 : Nat) ({ cls := "RodBench$Rod", name := "isOf", desc := "(I)Z" } : Jvm.MethodName)) : Cond) ∈ COM := com_of 967 (by decide +kernel) (by decide +kernel)
theorem mw_968 : ((Jvm.Cond.methodLink "RodBench$Trays" (58 : Nat) ({ cls := "RodBench$Trays", name := "howManyAre", desc := "(LRodBench$Thing;I)I" } : Jvm.MethodName)) : Cond) ∈ COM := com_of 968 (by decide +kernel) (by decide +kernel)
theorem mw_970 : ((Jvm.Cond.instanceMethod ({ cls := "RodBench$Trays", name := "howManyAre", desc := "(LRodBench$Thing;I)I" } : Jvm.MethodName)) : Cond) ∈ COM := com_of 970 (by decide +kernel) (by decide +kernel)
theorem mw_971 : ((Jvm.Cond.code ({ cls := "RodBench$Trays", name := "howManyAre", desc := "(LRodBench$Thing;I)I" } : Jvm.MethodName) prog_11_method_11_code (6 : Nat) (Option.some Jvm.ClassFile.FieldType.int)) : Cond) ∈ COM := com_of 971 (by decide +kernel) (by decide +kernel)
theorem mw_972 : ((Jvm.Cond.methodLink "RodBench$Trays" (140 : Nat) ({ cls := "RodBench$Trays", name := "rowOf", desc := "(LRodBench$Thing;I)LRodBench$Row;" } : Jvm.MethodName)) : Cond) ∈ COM := com_of 972 (by decide +kernel) (by decide +kernel)
theorem mw_973 : ((Jvm.Cond.static ({ cls := "RodBench$Trays", name := "rowOf", desc := "(LRodBench$Thing;I)LRodBench$Row;" } : Jvm.MethodName)) : Cond) ∈ COM := com_of 973 (by decide +kernel) (by decide +kernel)
theorem mw_974 : ((Jvm.Cond.code ({ cls := "RodBench$Trays", name := "rowOf", desc := "(LRodBench$Thing;I)LRodBench$Row;" } : Jvm.MethodName) prog_11_method_15_code (3 : Nat) (Option.some (Jvm.ClassFile.FieldType.object "RodBench$Row"))) : Cond) ∈ COM := com_of 974 (by decide +kernel) (by decide +kernel)
theorem mw_975 : ((Jvm.Cond.methodLink "RodBench$Trays" (144 : Nat) ({ cls := "RodBench$Trays", name := "refuseRow", desc := "(LRodBench$Thing;)I" } : Jvm.MethodName)) : Cond) ∈ COM := com_of 975 (by decide +kernel) (by decide +kernel)
theorem mw_977 : ((Jvm.Cond.instanceMethod ({ cls := "RodBench$Trays", name := "refuseRow", desc := "(LRodBench$Thing;)I" } : Jvm.MethodName)) : Cond) ∈ COM := com_of 977 (by decide +kernel) (by decide +kernel)
theorem mw_978 : ((Jvm.Cond.code ({ cls := "RodBench$Trays", name := "refuseRow", desc := "(LRodBench$Thing;)I" } : Jvm.MethodName) prog_11_method_16_code (2 : Nat) (Option.some Jvm.ClassFile.FieldType.int)) : Cond) ∈ COM := com_of 978 (by decide +kernel) (by decide +kernel)
theorem mw_979 : ((Jvm.Cond.methodLink "RodBench$Trays" (61 : Nat) ({ cls := "RodBench$Trays", name := "numberAt", desc := "(LRodBench$Thing;II)I" } : Jvm.MethodName)) : Cond) ∈ COM := com_of 979 (by decide +kernel) (by decide +kernel)
theorem mw_981 : ((Jvm.Cond.instanceMethod ({ cls := "RodBench$Trays", name := "numberAt", desc := "(LRodBench$Thing;II)I" } : Jvm.MethodName)) : Cond) ∈ COM := com_of 981 (by decide +kernel) (by decide +kernel)
theorem mw_982 : ((Jvm.Cond.code ({ cls := "RodBench$Trays", name := "numberAt", desc := "(LRodBench$Thing;II)I" } : Jvm.MethodName) prog_11_method_12_code (5 : Nat) (Option.some Jvm.ClassFile.FieldType.int)) : Cond) ∈ COM := com_of 982 (by decide +kernel) (by decide +kernel)
theorem mw_983 : ((Jvm.Cond.methodLink "RodBench$Trays" (65 : Nat) ({ cls := "RodBench$Trays", name := "sumOfCopied", desc := "(LRodBench$Thing;I)I" } : Jvm.MethodName)) : Cond) ∈ COM := com_of 983 (by decide +kernel) (by decide +kernel)
theorem mw_985 : ((Jvm.Cond.instanceMethod ({ cls := "RodBench$Trays", name := "sumOfCopied", desc := "(LRodBench$Thing;I)I" } : Jvm.MethodName)) : Cond) ∈ COM := com_of 985 (by decide +kernel) (by decide +kernel)
theorem mw_986 : ((Jvm.Cond.code ({ cls := "RodBench$Trays", name := "sumOfCopied", desc := "(LRodBench$Thing;I)I" } : Jvm.MethodName) prog_11_method_13_code (6 : Nat) (Option.some Jvm.ClassFile.FieldType.int)) : Cond) ∈ COM := com_of 986 (by decide +kernel) (by decide +kernel)
theorem mw_987 : ((Jvm.Cond.methodLink "RodBench$Trays" (68 : Nat) ({ cls := "RodBench$Trays", name := "priceAsSpare", desc := "(LRodBench$Thing;)I" } : Jvm.MethodName)) : Cond) ∈ COM := com_of 987 (by decide +kernel) (by decide +kernel)
theorem mw_989 : ((Jvm.Cond.instanceMethod ({ cls := "RodBench$Trays", name := "priceAsSpare", desc := "(LRodBench$Thing;)I" } : Jvm.MethodName)) : Cond) ∈ COM := com_of 989 (by decide +kernel) (by decide +kernel)
theorem mw_990 : ((Jvm.Cond.code ({ cls := "RodBench$Trays", name := "priceAsSpare", desc := "(LRodBench$Thing;)I" } : Jvm.MethodName) prog_11_method_14_code (3 : Nat) (Option.some Jvm.ClassFile.FieldType.int)) : Cond) ∈ COM := com_of 990 (by decide +kernel) (by decide +kernel)
theorem mw_991 : ((Jvm.Cond.methodLink "RodBenchLaw" (109 : Nat) ({ cls := "RodBench", name := "status", desc := "()I" } : Jvm.MethodName)) : Cond) ∈ COM := com_of 991 (by decide +kernel) (by decide +kernel)
theorem mw_992 : ((Jvm.Cond.instanceMethod ({ cls := "RodBench", name := "status", desc := "()I" } : Jvm.MethodName)) : Cond) ∈ COM := com_of 992 (by decide +kernel) (by decide +kernel)
theorem mw_993 : ((Jvm.Cond.selects "RodBench" ({ cls := "RodBench", name := "status", desc := "()I" } : Jvm.MethodName) ({ cls := "RodBench", name := "status", desc := "()I" } : Jvm.MethodName)) : Cond) ∈ COM := com_of 993 (by decide +kernel) (by decide +kernel)
theorem mw_994 : ((Jvm.Cond.code ({ cls := "RodBench", name := "status", desc := "()I" } : Jvm.MethodName) prog_1_method_24_code (1 : Nat) (Option.some Jvm.ClassFile.FieldType.int)) : Cond) ∈ COM := com_of 994 (by decide +kernel) (by decide +kernel)
theorem mw_995 : ((Jvm.Cond.methodLink "RodBench" (243 : Nat) ({ cls := "RodBench$Trays", name := "latestStatus", desc := "()I" } : Jvm.MethodName)) : Cond) ∈ COM := com_of 995 (by decide +kernel) (by decide +kernel)
theorem mw_996 : ((Jvm.Cond.instanceMethod ({ cls := "RodBench$Trays", name := "latestStatus", desc := "()I" } : Jvm.MethodName)) : Cond) ∈ COM := com_of 996 (by decide +kernel) (by decide +kernel)
theorem mw_997 : ((Jvm.Cond.selects "RodBench$Trays" ({ cls := "RodBench$Trays", name := "latestStatus", desc := "()I" } : Jvm.MethodName) ({ cls := "RodBench$Trays", name := "latestStatus", desc := "()I" } : Jvm.MethodName)) : Cond) ∈ COM := com_of 997 (by decide +kernel) (by decide +kernel)
theorem mw_998 : ((Jvm.Cond.code ({ cls := "RodBench$Trays", name := "latestStatus", desc := "()I" } : Jvm.MethodName) prog_11_method_2_code (1 : Nat) (Option.some Jvm.ClassFile.FieldType.int)) : Cond) ∈ COM := com_of 998 (by decide +kernel) (by decide +kernel)
theorem mw_999 : ((Jvm.Cond.classLink "RodBenchLaw" (10 : Nat) "RodBenchModel") : Cond) ∈ COM := com_of 999 (by decide +kernel) (by decide +kernel)
theorem mw_1000 : ((Jvm.Cond.instantiable "RodBenchModel" (32 : Nat)) : Cond) ∈ COM := com_of 1000 (by decide +kernel) (by decide +kernel)
theorem mw_1001 : ((Jvm.Cond.methodLink "RodBenchLaw" (12 : Nat) ({ cls := "RodBenchModel", name := "<init>", desc := "()V" } : Jvm.MethodName)) : Cond) ∈ COM := com_of 1001 (by decide +kernel) (by decide +kernel)
theorem mw_1002 : ((Jvm.Cond.instanceMethod ({ cls := "RodBenchModel", name := "<init>", desc := "()V" } : Jvm.MethodName)) : Cond) ∈ COM := com_of 1002 (by decide +kernel) (by decide +kernel)
theorem mw_1003 : ((Jvm.Cond.code ({ cls := "RodBenchModel", name := "<init>", desc := "()V" } : Jvm.MethodName) prog_13_method_1_code (1 : Nat) (Option.none : Option Jvm.ClassFile.FieldType)) : Cond) ∈ COM := com_of 1003 (by decide +kernel) (by decide +kernel)
theorem mw_1004 : ((Jvm.Cond.methodLink "RodBenchModel" (1 : Nat) ({ cls := "java/lang/Object", name := "<init>", desc := "()V" } : Jvm.MethodName)) : Cond) ∈ COM := com_of 1004 (by decide +kernel) (by decide +kernel)
theorem mw_1005 : ((Jvm.Cond.fieldLink "RodBenchModel" (87 : Nat) "RodBenchModel" "pins" "I") : Cond) ∈ COM := com_of 1005 (by decide +kernel) (by decide +kernel)
theorem mw_1006 : ((Jvm.Cond.fieldLink "RodBenchModel" (91 : Nat) "RodBenchModel" "rods" "I") : Cond) ∈ COM := com_of 1006 (by decide +kernel) (by decide +kernel)
theorem mw_1007 : ((Jvm.Cond.fieldLink "RodBenchModel" (7 : Nat) "RodBenchModel" "px" "[I") : Cond) ∈ COM := com_of 1007 (by decide +kernel) (by decide +kernel)
theorem mw_1008 : ((Jvm.Cond.fieldLink "RodBenchModel" (13 : Nat) "RodBenchModel" "py" "[I") : Cond) ∈ COM := com_of 1008 (by decide +kernel) (by decide +kernel)
theorem mw_1009 : ((Jvm.Cond.fieldLink "RodBenchModel" (16 : Nat) "RodBenchModel" "fx" "[I") : Cond) ∈ COM := com_of 1009 (by decide +kernel) (by decide +kernel)
theorem mw_1010 : ((Jvm.Cond.fieldLink "RodBenchModel" (19 : Nat) "RodBenchModel" "fy" "[I") : Cond) ∈ COM := com_of 1010 (by decide +kernel) (by decide +kernel)
theorem mw_1011 : ((Jvm.Cond.fieldLink "RodBenchModel" (22 : Nat) "RodBenchModel" "held" "[Z") : Cond) ∈ COM := com_of 1011 (by decide +kernel) (by decide +kernel)
theorem mw_1012 : ((Jvm.Cond.fieldLink "RodBenchModel" (26 : Nat) "RodBenchModel" "rKind" "[I") : Cond) ∈ COM := com_of 1012 (by decide +kernel) (by decide +kernel)
theorem mw_1013 : ((Jvm.Cond.fieldLink "RodBenchModel" (29 : Nat) "RodBenchModel" "rA" "[I") : Cond) ∈ COM := com_of 1013 (by decide +kernel) (by decide +kernel)
theorem mw_1014 : ((Jvm.Cond.fieldLink "RodBenchModel" (32 : Nat) "RodBenchModel" "rB" "[I") : Cond) ∈ COM := com_of 1014 (by decide +kernel) (by decide +kernel)
theorem mw_1015 : ((Jvm.Cond.fieldLink "RodBenchModel" (35 : Nat) "RodBenchModel" "rPrice" "[I") : Cond) ∈ COM := com_of 1015 (by decide +kernel) (by decide +kernel)
theorem mw_1016 : ((Jvm.Cond.fieldLink "RodBenchModel" (38 : Nat) "RodBenchModel" "isIn" "[Z") : Cond) ∈ COM := com_of 1016 (by decide +kernel) (by decide +kernel)
theorem mw_1017 : ((Jvm.Cond.fieldLink "RodBenchModel" (41 : Nat) "RodBenchModel" "m" "[J") : Cond) ∈ COM := com_of 1017 (by decide +kernel) (by decide +kernel)
theorem mw_1018 : ((Jvm.Cond.fieldLink "RodBenchModel" (98 : Nat) "RodBenchModel" "rows" "I") : Cond) ∈ COM := com_of 1018 (by decide +kernel) (by decide +kernel)
theorem mw_1019 : ((Jvm.Cond.fieldLink "RodBenchModel" (105 : Nat) "RodBenchModel" "columns" "I") : Cond) ∈ COM := com_of 1019 (by decide +kernel) (by decide +kernel)
theorem mw_1020 : ((Jvm.Cond.fieldLink "RodBenchModel" (45 : Nat) "RodBenchModel" "rowOf" "[I") : Cond) ∈ COM := com_of 1020 (by decide +kernel) (by decide +kernel)
theorem mw_1021 : ((Jvm.Cond.fieldLink "RodBenchModel" (48 : Nat) "RodBenchModel" "nul" "[J") : Cond) ∈ COM := com_of 1021 (by decide +kernel) (by decide +kernel)
theorem mw_1022 : ((Jvm.Cond.fieldLink "RodBenchModel" (51 : Nat) "RodBenchModel" "columnRod" "[I") : Cond) ∈ COM := com_of 1022 (by decide +kernel) (by decide +kernel)
theorem mw_1023 : ((Jvm.Cond.fieldLink "RodBenchModel" (153 : Nat) "RodBenchModel" "bodies" "I") : Cond) ∈ COM := com_of 1023 (by decide +kernel) (by decide +kernel)
theorem mw_1024 : ((Jvm.Cond.fieldLink "RodBenchModel" (54 : Nat) "RodBenchModel" "body" "[I") : Cond) ∈ COM := com_of 1024 (by decide +kernel) (by decide +kernel)
theorem mw_1025 : ((Jvm.Cond.fieldLink "RodBenchModel" (57 : Nat) "RodBenchModel" "taken" "[Z") : Cond) ∈ COM := com_of 1025 (by decide +kernel) (by decide +kernel)
theorem mw_1026 : ((Jvm.Cond.fieldLink "RodBenchModel" (60 : Nat) "RodBenchModel" "tried" "[Z") : Cond) ∈ COM := com_of 1026 (by decide +kernel) (by decide +kernel)
theorem mw_1027 : ((Jvm.Cond.fieldLink "RodBenchModel" (63 : Nat) "RodBenchModel" "chosen" "[Z") : Cond) ∈ COM := com_of 1027 (by decide +kernel) (by decide +kernel)
theorem mw_1028 : ((Jvm.Cond.fieldLink "RodBenchModel" (162 : Nat) "RodBenchModel" "planN" "I") : Cond) ∈ COM := com_of 1028 (by decide +kernel) (by decide +kernel)
theorem mw_1029 : ((Jvm.Cond.fieldLink "RodBenchModel" (66 : Nat) "RodBenchModel" "plan" "[I") : Cond) ∈ COM := com_of 1029 (by decide +kernel) (by decide +kernel)
theorem mw_1030 : ((Jvm.Cond.fieldLink "RodBenchModel" (69 : Nat) "RodBenchModel" "tray" "[I") : Cond) ∈ COM := com_of 1030 (by decide +kernel) (by decide +kernel)
theorem mw_1031 : ((Jvm.Cond.fieldLink "RodBenchModel" (72 : Nat) "RodBenchModel" "trayN" "[I") : Cond) ∈ COM := com_of 1031 (by decide +kernel) (by decide +kernel)
theorem mw_1032 : ((Jvm.Cond.fieldLink "RodBenchModel" (75 : Nat) "RodBenchModel" "trayKind" "[I") : Cond) ∈ COM := com_of 1032 (by decide +kernel) (by decide +kernel)
theorem mw_1033 : ((Jvm.Cond.fieldLink "RodBenchModel" (78 : Nat) "RodBenchModel" "trayFirst" "[I") : Cond) ∈ COM := com_of 1033 (by decide +kernel) (by decide +kernel)
theorem mw_1034 : ((Jvm.Cond.fieldLink "RodBenchModel" (81 : Nat) "RodBenchModel" "cell" "[J") : Cond) ∈ COM := com_of 1034 (by decide +kernel) (by decide +kernel)
theorem mw_1035 : ((Jvm.Cond.fieldLink "RodBenchModel" (206 : Nat) "RodBenchModel" "status" "I") : Cond) ∈ COM := com_of 1035 (by decide +kernel) (by decide +kernel)
theorem mw_1036 : ((Jvm.Cond.fieldLink "RodBenchModel" (84 : Nat) "RodBenchModel" "trayOrder" "[I") : Cond) ∈ COM := com_of 1036 (by decide +kernel) (by decide +kernel)
theorem mw_1037 : ((Jvm.Cond.lays "RodBenchModel" "RodBenchModel" "pins" "I") : Cond) ∈ COM := com_of 1037 (by decide +kernel) (by decide +kernel)
theorem mw_1039 : ((Jvm.Cond.lays "RodBenchModel" "RodBenchModel" "rods" "I") : Cond) ∈ COM := com_of 1039 (by decide +kernel) (by decide +kernel)
theorem mw_1041 : ((Jvm.Cond.laysFinal "RodBenchModel" "RodBenchModel" "px" "[I") : Cond) ∈ COM := com_of 1041 (by decide +kernel) (by decide +kernel)
theorem mw_1043 : ((Jvm.Cond.laysFinal "RodBenchModel" "RodBenchModel" "py" "[I") : Cond) ∈ COM := com_of 1043 (by decide +kernel) (by decide +kernel)
theorem mw_1045 : ((Jvm.Cond.laysFinal "RodBenchModel" "RodBenchModel" "fx" "[I") : Cond) ∈ COM := com_of 1045 (by decide +kernel) (by decide +kernel)
theorem mw_1047 : ((Jvm.Cond.laysFinal "RodBenchModel" "RodBenchModel" "fy" "[I") : Cond) ∈ COM := com_of 1047 (by decide +kernel) (by decide +kernel)
theorem mw_1049 : ((Jvm.Cond.laysFinal "RodBenchModel" "RodBenchModel" "held" "[Z") : Cond) ∈ COM := com_of 1049 (by decide +kernel) (by decide +kernel)
theorem mw_1051 : ((Jvm.Cond.laysFinal "RodBenchModel" "RodBenchModel" "rKind" "[I") : Cond) ∈ COM := com_of 1051 (by decide +kernel) (by decide +kernel)
theorem mw_1053 : ((Jvm.Cond.laysFinal "RodBenchModel" "RodBenchModel" "rA" "[I") : Cond) ∈ COM := com_of 1053 (by decide +kernel) (by decide +kernel)
theorem mw_1055 : ((Jvm.Cond.laysFinal "RodBenchModel" "RodBenchModel" "rB" "[I") : Cond) ∈ COM := com_of 1055 (by decide +kernel) (by decide +kernel)
theorem mw_1057 : ((Jvm.Cond.laysFinal "RodBenchModel" "RodBenchModel" "rPrice" "[I") : Cond) ∈ COM := com_of 1057 (by decide +kernel) (by decide +kernel)
theorem mw_1059 : ((Jvm.Cond.laysFinal "RodBenchModel" "RodBenchModel" "isIn" "[Z") : Cond) ∈ COM := com_of 1059 (by decide +kernel) (by decide +kernel)
theorem mw_1061 : ((Jvm.Cond.laysFinal "RodBenchModel" "RodBenchModel" "m" "[J") : Cond) ∈ COM := com_of 1061 (by decide +kernel) (by decide +kernel)
theorem mw_1063 : ((Jvm.Cond.lays "RodBenchModel" "RodBenchModel" "rows" "I") : Cond) ∈ COM := com_of 1063 (by decide +kernel) (by decide +kernel)
theorem mw_1065 : ((Jvm.Cond.lays "RodBenchModel" "RodBenchModel" "columns" "I") : Cond) ∈ COM := com_of 1065 (by decide +kernel) (by decide +kernel)
theorem mw_1067 : ((Jvm.Cond.laysFinal "RodBenchModel" "RodBenchModel" "rowOf" "[I") : Cond) ∈ COM := com_of 1067 (by decide +kernel) (by decide +kernel)
theorem mw_1069 : ((Jvm.Cond.laysFinal "RodBenchModel" "RodBenchModel" "nul" "[J") : Cond) ∈ COM := com_of 1069 (by decide +kernel) (by decide +kernel)
theorem mw_1071 : ((Jvm.Cond.laysFinal "RodBenchModel" "RodBenchModel" "columnRod" "[I") : Cond) ∈ COM := com_of 1071 (by decide +kernel) (by decide +kernel)
theorem mw_1073 : ((Jvm.Cond.lays "RodBenchModel" "RodBenchModel" "bodies" "I") : Cond) ∈ COM := com_of 1073 (by decide +kernel) (by decide +kernel)
theorem mw_1075 : ((Jvm.Cond.laysFinal "RodBenchModel" "RodBenchModel" "body" "[I") : Cond) ∈ COM := com_of 1075 (by decide +kernel) (by decide +kernel)
theorem mw_1077 : ((Jvm.Cond.laysFinal "RodBenchModel" "RodBenchModel" "taken" "[Z") : Cond) ∈ COM := com_of 1077 (by decide +kernel) (by decide +kernel)
theorem mw_1079 : ((Jvm.Cond.laysFinal "RodBenchModel" "RodBenchModel" "tried" "[Z") : Cond) ∈ COM := com_of 1079 (by decide +kernel) (by decide +kernel)
theorem mw_1081 : ((Jvm.Cond.laysFinal "RodBenchModel" "RodBenchModel" "chosen" "[Z") : Cond) ∈ COM := com_of 1081 (by decide +kernel) (by decide +kernel)
theorem mw_1083 : ((Jvm.Cond.lays "RodBenchModel" "RodBenchModel" "planN" "I") : Cond) ∈ COM := com_of 1083 (by decide +kernel) (by decide +kernel)
theorem mw_1085 : ((Jvm.Cond.laysFinal "RodBenchModel" "RodBenchModel" "plan" "[I") : Cond) ∈ COM := com_of 1085 (by decide +kernel) (by decide +kernel)
theorem mw_1087 : ((Jvm.Cond.laysFinal "RodBenchModel" "RodBenchModel" "tray" "[I") : Cond) ∈ COM := com_of 1087 (by decide +kernel) (by decide +kernel)
theorem mw_1089 : ((Jvm.Cond.laysFinal "RodBenchModel" "RodBenchModel" "trayN" "[I") : Cond) ∈ COM := com_of 1089 (by decide +kernel) (by decide +kernel)
theorem mw_1091 : ((Jvm.Cond.laysFinal "RodBenchModel" "RodBenchModel" "trayKind" "[I") : Cond) ∈ COM := com_of 1091 (by decide +kernel) (by decide +kernel)
theorem mw_1093 : ((Jvm.Cond.laysFinal "RodBenchModel" "RodBenchModel" "trayFirst" "[I") : Cond) ∈ COM := com_of 1093 (by decide +kernel) (by decide +kernel)
theorem mw_1095 : ((Jvm.Cond.laysFinal "RodBenchModel" "RodBenchModel" "cell" "[J") : Cond) ∈ COM := com_of 1095 (by decide +kernel) (by decide +kernel)
theorem mw_1097 : ((Jvm.Cond.lays "RodBenchModel" "RodBenchModel" "status" "I") : Cond) ∈ COM := com_of 1097 (by decide +kernel) (by decide +kernel)
theorem mw_1099 : ((Jvm.Cond.laysFinal "RodBenchModel" "RodBenchModel" "trayOrder" "[I") : Cond) ∈ COM := com_of 1099 (by decide +kernel) (by decide +kernel)
theorem mw_1101 : ((Jvm.Cond.superclass "RodBenchModel" "java/lang/Object") : Cond) ∈ COM := com_of 1101 (by decide +kernel) (by decide +kernel)
theorem mw_1102 : ((Jvm.Cond.methodLink "RodBenchLaw" (17 : Nat) ({ cls := "RodBenchModel", name := "pin", desc := "(II)I" } : Jvm.MethodName)) : Cond) ∈ COM := com_of 1102 (by decide +kernel) (by decide +kernel)
theorem mw_1103 : ((Jvm.Cond.instanceMethod ({ cls := "RodBenchModel", name := "pin", desc := "(II)I" } : Jvm.MethodName)) : Cond) ∈ COM := com_of 1103 (by decide +kernel) (by decide +kernel)
theorem mw_1104 : ((Jvm.Cond.selects "RodBenchModel" ({ cls := "RodBenchModel", name := "pin", desc := "(II)I" } : Jvm.MethodName) ({ cls := "RodBenchModel", name := "pin", desc := "(II)I" } : Jvm.MethodName)) : Cond) ∈ COM := com_of 1104 (by decide +kernel) (by decide +kernel)
theorem mw_1105 : ((Jvm.Cond.code ({ cls := "RodBenchModel", name := "pin", desc := "(II)I" } : Jvm.MethodName) prog_13_method_31_code (3 : Nat) (Option.some Jvm.ClassFile.FieldType.int)) : Cond) ∈ COM := com_of 1105 (by decide +kernel) (by decide +kernel)
theorem mw_1106 : ((Jvm.Cond.methodLink "RodBenchModel" (168 : Nat) ({ cls := "RodBenchModel", name := "isPlace", desc := "(I)Z" } : Jvm.MethodName)) : Cond) ∈ COM := com_of 1106 (by decide +kernel) (by decide +kernel)
theorem mw_1107 : ((Jvm.Cond.static ({ cls := "RodBenchModel", name := "isPlace", desc := "(I)Z" } : Jvm.MethodName)) : Cond) ∈ COM := com_of 1107 (by decide +kernel) (by decide +kernel)
theorem mw_1108 : ((Jvm.Cond.code ({ cls := "RodBenchModel", name := "isPlace", desc := "(I)Z" } : Jvm.MethodName) prog_13_method_4_code (1 : Nat) (Option.some Jvm.ClassFile.FieldType.boolean)) : Cond) ∈ COM := com_of 1108 (by decide +kernel) (by decide +kernel)
theorem mw_1109 : ((Jvm.Cond.methodLink "RodBenchModel" (171 : Nat) ({ cls := "RodBenchModel", name := "pinAt", desc := "(II)I" } : Jvm.MethodName)) : Cond) ∈ COM := com_of 1109 (by decide +kernel) (by decide +kernel)
theorem mw_1111 : ((Jvm.Cond.instanceMethod ({ cls := "RodBenchModel", name := "pinAt", desc := "(II)I" } : Jvm.MethodName)) : Cond) ∈ COM := com_of 1111 (by decide +kernel) (by decide +kernel)
theorem mw_1112 : ((Jvm.Cond.code ({ cls := "RodBenchModel", name := "pinAt", desc := "(II)I" } : Jvm.MethodName) prog_13_method_5_code (4 : Nat) (Option.some Jvm.ClassFile.FieldType.int)) : Cond) ∈ COM := com_of 1112 (by decide +kernel) (by decide +kernel)
theorem mw_1113 : ((Jvm.Cond.methodLink "RodBenchLaw" (22 : Nat) ({ cls := "RodBenchModel", name := "move", desc := "(III)I" } : Jvm.MethodName)) : Cond) ∈ COM := com_of 1113 (by decide +kernel) (by decide +kernel)
theorem mw_1114 : ((Jvm.Cond.instanceMethod ({ cls := "RodBenchModel", name := "move", desc := "(III)I" } : Jvm.MethodName)) : Cond) ∈ COM := com_of 1114 (by decide +kernel) (by decide +kernel)
theorem mw_1115 : ((Jvm.Cond.selects "RodBenchModel" ({ cls := "RodBenchModel", name := "move", desc := "(III)I" } : Jvm.MethodName) ({ cls := "RodBenchModel", name := "move", desc := "(III)I" } : Jvm.MethodName)) : Cond) ∈ COM := com_of 1115 (by decide +kernel) (by decide +kernel)
theorem mw_1116 : ((Jvm.Cond.code ({ cls := "RodBenchModel", name := "move", desc := "(III)I" } : Jvm.MethodName) prog_13_method_32_code (5 : Nat) (Option.some Jvm.ClassFile.FieldType.int)) : Cond) ∈ COM := com_of 1116 (by decide +kernel) (by decide +kernel)
theorem mw_1117 : ((Jvm.Cond.methodLink "RodBenchModel" (175 : Nat) ({ cls := "RodBenchModel", name := "isPin", desc := "(I)Z" } : Jvm.MethodName)) : Cond) ∈ COM := com_of 1117 (by decide +kernel) (by decide +kernel)
theorem mw_1119 : ((Jvm.Cond.instanceMethod ({ cls := "RodBenchModel", name := "isPin", desc := "(I)Z" } : Jvm.MethodName)) : Cond) ∈ COM := com_of 1119 (by decide +kernel) (by decide +kernel)
theorem mw_1120 : ((Jvm.Cond.code ({ cls := "RodBenchModel", name := "isPin", desc := "(I)Z" } : Jvm.MethodName) prog_13_method_2_code (2 : Nat) (Option.some Jvm.ClassFile.FieldType.boolean)) : Cond) ∈ COM := com_of 1120 (by decide +kernel) (by decide +kernel)
theorem mw_1121 : ((Jvm.Cond.methodLink "RodBenchLaw" (27 : Nat) ({ cls := "RodBenchModel", name := "hold", desc := "(IZ)I" } : Jvm.MethodName)) : Cond) ∈ COM := com_of 1121 (by decide +kernel) (by decide +kernel)
theorem mw_1122 : ((Jvm.Cond.instanceMethod ({ cls := "RodBenchModel", name := "hold", desc := "(IZ)I" } : Jvm.MethodName)) : Cond) ∈ COM := com_of 1122 (by decide +kernel) (by decide +kernel)
theorem mw_1123 : ((Jvm.Cond.selects "RodBenchModel" ({ cls := "RodBenchModel", name := "hold", desc := "(IZ)I" } : Jvm.MethodName) ({ cls := "RodBenchModel", name := "hold", desc := "(IZ)I" } : Jvm.MethodName)) : Cond) ∈ COM := com_of 1123 (by decide +kernel) (by decide +kernel)
theorem mw_1124 : ((Jvm.Cond.code ({ cls := "RodBenchModel", name := "hold", desc := "(IZ)I" } : Jvm.MethodName) prog_13_method_33_code (4 : Nat) (Option.some Jvm.ClassFile.FieldType.int)) : Cond) ∈ COM := com_of 1124 (by decide +kernel) (by decide +kernel)
theorem mw_1125 : ((Jvm.Cond.methodLink "RodBenchLaw" (32 : Nat) ({ cls := "RodBenchModel", name := "rod", desc := "(IIII)I" } : Jvm.MethodName)) : Cond) ∈ COM := com_of 1125 (by decide +kernel) (by decide +kernel)
theorem mw_1126 : ((Jvm.Cond.instanceMethod ({ cls := "RodBenchModel", name := "rod", desc := "(IIII)I" } : Jvm.MethodName)) : Cond) ∈ COM := com_of 1126 (by decide +kernel) (by decide +kernel)
theorem mw_1127 : ((Jvm.Cond.selects "RodBenchModel" ({ cls := "RodBenchModel", name := "rod", desc := "(IIII)I" } : Jvm.MethodName) ({ cls := "RodBenchModel", name := "rod", desc := "(IIII)I" } : Jvm.MethodName)) : Cond) ∈ COM := com_of 1127 (by decide +kernel) (by decide +kernel)
theorem mw_1128 : ((Jvm.Cond.code ({ cls := "RodBenchModel", name := "rod", desc := "(IIII)I" } : Jvm.MethodName) prog_13_method_34_code (6 : Nat) (Option.some Jvm.ClassFile.FieldType.int)) : Cond) ∈ COM := com_of 1128 (by decide +kernel) (by decide +kernel)
theorem mw_1129 : ((Jvm.Cond.methodLink "RodBenchLaw" (36 : Nat) ({ cls := "RodBenchModel", name := "put", desc := "(IZ)I" } : Jvm.MethodName)) : Cond) ∈ COM := com_of 1129 (by decide +kernel) (by decide +kernel)
theorem mw_1130 : ((Jvm.Cond.instanceMethod ({ cls := "RodBenchModel", name := "put", desc := "(IZ)I" } : Jvm.MethodName)) : Cond) ∈ COM := com_of 1130 (by decide +kernel) (by decide +kernel)
theorem mw_1131 : ((Jvm.Cond.selects "RodBenchModel" ({ cls := "RodBenchModel", name := "put", desc := "(IZ)I" } : Jvm.MethodName) ({ cls := "RodBenchModel", name := "put", desc := "(IZ)I" } : Jvm.MethodName)) : Cond) ∈ COM := com_of 1131 (by decide +kernel) (by decide +kernel)
theorem mw_1132 : ((Jvm.Cond.code ({ cls := "RodBenchModel", name := "put", desc := "(IZ)I" } : Jvm.MethodName) prog_13_method_35_code (4 : Nat) (Option.some Jvm.ClassFile.FieldType.int)) : Cond) ∈ COM := com_of 1132 (by decide +kernel) (by decide +kernel)
theorem mw_1133 : ((Jvm.Cond.methodLink "RodBenchModel" (178 : Nat) ({ cls := "RodBenchModel", name := "isRod", desc := "(I)Z" } : Jvm.MethodName)) : Cond) ∈ COM := com_of 1133 (by decide +kernel) (by decide +kernel)
theorem mw_1135 : ((Jvm.Cond.instanceMethod ({ cls := "RodBenchModel", name := "isRod", desc := "(I)Z" } : Jvm.MethodName)) : Cond) ∈ COM := com_of 1135 (by decide +kernel) (by decide +kernel)
theorem mw_1136 : ((Jvm.Cond.code ({ cls := "RodBenchModel", name := "isRod", desc := "(I)Z" } : Jvm.MethodName) prog_13_method_3_code (2 : Nat) (Option.some Jvm.ClassFile.FieldType.boolean)) : Cond) ∈ COM := com_of 1136 (by decide +kernel) (by decide +kernel)
theorem mw_1137 : ((Jvm.Cond.methodLink "RodBenchLaw" (41 : Nat) ({ cls := "RodBenchModel", name := "count", desc := "(I)I" } : Jvm.MethodName)) : Cond) ∈ COM := com_of 1137 (by decide +kernel) (by decide +kernel)
theorem mw_1138 : ((Jvm.Cond.instanceMethod ({ cls := "RodBenchModel", name := "count", desc := "(I)I" } : Jvm.MethodName)) : Cond) ∈ COM := com_of 1138 (by decide +kernel) (by decide +kernel)
theorem mw_1139 : ((Jvm.Cond.selects "RodBenchModel" ({ cls := "RodBenchModel", name := "count", desc := "(I)I" } : Jvm.MethodName) ({ cls := "RodBenchModel", name := "count", desc := "(I)I" } : Jvm.MethodName)) : Cond) ∈ COM := com_of 1139 (by decide +kernel) (by decide +kernel)
theorem mw_1140 : ((Jvm.Cond.code ({ cls := "RodBenchModel", name := "count", desc := "(I)I" } : Jvm.MethodName) prog_13_method_36_code (4 : Nat) (Option.some Jvm.ClassFile.FieldType.int)) : Cond) ∈ COM := com_of 1140 (by decide +kernel) (by decide +kernel)
theorem mw_1141 : ((Jvm.Cond.methodLink "RodBenchModel" (112 : Nat) ({ cls := "RodBenchModel", name := "freePins", desc := "()I" } : Jvm.MethodName)) : Cond) ∈ COM := com_of 1141 (by decide +kernel) (by decide +kernel)
theorem mw_1143 : ((Jvm.Cond.instanceMethod ({ cls := "RodBenchModel", name := "freePins", desc := "()I" } : Jvm.MethodName)) : Cond) ∈ COM := com_of 1143 (by decide +kernel) (by decide +kernel)
theorem mw_1144 : ((Jvm.Cond.code ({ cls := "RodBenchModel", name := "freePins", desc := "()I" } : Jvm.MethodName) prog_13_method_12_code (3 : Nat) (Option.some Jvm.ClassFile.FieldType.int)) : Cond) ∈ COM := com_of 1144 (by decide +kernel) (by decide +kernel)
theorem mw_1145 : ((Jvm.Cond.methodLink "RodBenchModel" (181 : Nat) ({ cls := "RodBenchModel", name := "inCount", desc := "()I" } : Jvm.MethodName)) : Cond) ∈ COM := com_of 1145 (by decide +kernel) (by decide +kernel)
theorem mw_1147 : ((Jvm.Cond.instanceMethod ({ cls := "RodBenchModel", name := "inCount", desc := "()I" } : Jvm.MethodName)) : Cond) ∈ COM := com_of 1147 (by decide +kernel) (by decide +kernel)
theorem mw_1148 : ((Jvm.Cond.code ({ cls := "RodBenchModel", name := "inCount", desc := "()I" } : Jvm.MethodName) prog_13_method_18_code (3 : Nat) (Option.some Jvm.ClassFile.FieldType.int)) : Cond) ∈ COM := com_of 1148 (by decide +kernel) (by decide +kernel)
theorem mw_1149 : ((Jvm.Cond.methodLink "RodBenchModel" (184 : Nat) ({ cls := "RodBenchModel", name := "motions", desc := "()I" } : Jvm.MethodName)) : Cond) ∈ COM := com_of 1149 (by decide +kernel) (by decide +kernel)
theorem mw_1151 : ((Jvm.Cond.instanceMethod ({ cls := "RodBenchModel", name := "motions", desc := "()I" } : Jvm.MethodName)) : Cond) ∈ COM := com_of 1151 (by decide +kernel) (by decide +kernel)
theorem mw_1152 : ((Jvm.Cond.code ({ cls := "RodBenchModel", name := "motions", desc := "()I" } : Jvm.MethodName) prog_13_method_15_code (1 : Nat) (Option.some Jvm.ClassFile.FieldType.int)) : Cond) ∈ COM := com_of 1152 (by decide +kernel) (by decide +kernel)
theorem mw_1153 : ((Jvm.Cond.methodLink "RodBenchModel" (122 : Nat) ({ cls := "RodBenchModel", name := "motionsOf", desc := "([Z)I" } : Jvm.MethodName)) : Cond) ∈ COM := com_of 1153 (by decide +kernel) (by decide +kernel)
theorem mw_1155 : ((Jvm.Cond.instanceMethod ({ cls := "RodBenchModel", name := "motionsOf", desc := "([Z)I" } : Jvm.MethodName)) : Cond) ∈ COM := com_of 1155 (by decide +kernel) (by decide +kernel)
theorem mw_1156 : ((Jvm.Cond.code ({ cls := "RodBenchModel", name := "motionsOf", desc := "([Z)I" } : Jvm.MethodName) prog_13_method_14_code (3 : Nat) (Option.some Jvm.ClassFile.FieldType.int)) : Cond) ∈ COM := com_of 1156 (by decide +kernel) (by decide +kernel)
theorem mw_1157 : ((Jvm.Cond.methodLink "RodBenchModel" (116 : Nat) ({ cls := "RodBenchModel", name := "motionRow", desc := "(II)V" } : Jvm.MethodName)) : Cond) ∈ COM := com_of 1157 (by decide +kernel) (by decide +kernel)
theorem mw_1159 : ((Jvm.Cond.instanceMethod ({ cls := "RodBenchModel", name := "motionRow", desc := "(II)V" } : Jvm.MethodName)) : Cond) ∈ COM := com_of 1159 (by decide +kernel) (by decide +kernel)
theorem mw_1160 : ((Jvm.Cond.code ({ cls := "RodBenchModel", name := "motionRow", desc := "(II)V" } : Jvm.MethodName) prog_13_method_13_code (5 : Nat) (Option.none : Option Jvm.ClassFile.FieldType)) : Cond) ∈ COM := com_of 1160 (by decide +kernel) (by decide +kernel)
theorem mw_1161 : ((Jvm.Cond.methodLink "RodBenchModel" (108 : Nat) ({ cls := "RodBenchModel", name := "freeColumn", desc := "(I)I" } : Jvm.MethodName)) : Cond) ∈ COM := com_of 1161 (by decide +kernel) (by decide +kernel)
theorem mw_1163 : ((Jvm.Cond.instanceMethod ({ cls := "RodBenchModel", name := "freeColumn", desc := "(I)I" } : Jvm.MethodName)) : Cond) ∈ COM := com_of 1163 (by decide +kernel) (by decide +kernel)
theorem mw_1164 : ((Jvm.Cond.code ({ cls := "RodBenchModel", name := "freeColumn", desc := "(I)I" } : Jvm.MethodName) prog_13_method_11_code (4 : Nat) (Option.some Jvm.ClassFile.FieldType.int)) : Cond) ∈ COM := com_of 1164 (by decide +kernel) (by decide +kernel)
theorem mw_1165 : ((Jvm.Cond.methodLink "RodBenchModel" (119 : Nat) ({ cls := "RodBenchModel", name := "steps", desc := "(I)I" } : Jvm.MethodName)) : Cond) ∈ COM := com_of 1165 (by decide +kernel) (by decide +kernel)
theorem mw_1167 : ((Jvm.Cond.instanceMethod ({ cls := "RodBenchModel", name := "steps", desc := "(I)I" } : Jvm.MethodName)) : Cond) ∈ COM := com_of 1167 (by decide +kernel) (by decide +kernel)
theorem mw_1168 : ((Jvm.Cond.code ({ cls := "RodBenchModel", name := "steps", desc := "(I)I" } : Jvm.MethodName) prog_13_method_8_code (13 : Nat) (Option.some Jvm.ClassFile.FieldType.int)) : Cond) ∈ COM := com_of 1168 (by decide +kernel) (by decide +kernel)
theorem mw_1169 : ((Jvm.Cond.methodLink "RodBenchModel" (101 : Nat) ({ cls := "RodBenchModel", name := "lower", desc := "(II)V" } : Jvm.MethodName)) : Cond) ∈ COM := com_of 1169 (by decide +kernel) (by decide +kernel)
theorem mw_1171 : ((Jvm.Cond.instanceMethod ({ cls := "RodBenchModel", name := "lower", desc := "(II)V" } : Jvm.MethodName)) : Cond) ∈ COM := com_of 1171 (by decide +kernel) (by decide +kernel)
theorem mw_1172 : ((Jvm.Cond.code ({ cls := "RodBenchModel", name := "lower", desc := "(II)V" } : Jvm.MethodName) prog_13_method_7_code (6 : Nat) (Option.none : Option Jvm.ClassFile.FieldType)) : Cond) ∈ COM := com_of 1172 (by decide +kernel) (by decide +kernel)
theorem mw_1173 : ((Jvm.Cond.methodLink "RodBenchModel" (94 : Nat) ({ cls := "RodBenchModel", name := "gcd", desc := "(JJ)J" } : Jvm.MethodName)) : Cond) ∈ COM := com_of 1173 (by decide +kernel) (by decide +kernel)
theorem mw_1174 : ((Jvm.Cond.static ({ cls := "RodBenchModel", name := "gcd", desc := "(JJ)J" } : Jvm.MethodName)) : Cond) ∈ COM := com_of 1174 (by decide +kernel) (by decide +kernel)
theorem mw_1175 : ((Jvm.Cond.code ({ cls := "RodBenchModel", name := "gcd", desc := "(JJ)J" } : Jvm.MethodName) prog_13_method_6_code (10 : Nat) (Option.some Jvm.ClassFile.FieldType.long)) : Cond) ∈ COM := com_of 1175 (by decide +kernel) (by decide +kernel)
theorem mw_1176 : ((Jvm.Cond.methodLink "RodBenchModel" (129 : Nat) ({ cls := "RodBenchModel", name := "stresses", desc := "()I" } : Jvm.MethodName)) : Cond) ∈ COM := com_of 1176 (by decide +kernel) (by decide +kernel)
theorem mw_1178 : ((Jvm.Cond.instanceMethod ({ cls := "RodBenchModel", name := "stresses", desc := "()I" } : Jvm.MethodName)) : Cond) ∈ COM := com_of 1178 (by decide +kernel) (by decide +kernel)
theorem mw_1179 : ((Jvm.Cond.code ({ cls := "RodBenchModel", name := "stresses", desc := "()I" } : Jvm.MethodName) prog_13_method_19_code (6 : Nat) (Option.some Jvm.ClassFile.FieldType.int)) : Cond) ∈ COM := com_of 1179 (by decide +kernel) (by decide +kernel)
theorem mw_1180 : ((Jvm.Cond.methodLink "RodBenchModel" (187 : Nat) ({ cls := "RodBenchModel", name := "findBodies", desc := "()V" } : Jvm.MethodName)) : Cond) ∈ COM := com_of 1180 (by decide +kernel) (by decide +kernel)
theorem mw_1182 : ((Jvm.Cond.instanceMethod ({ cls := "RodBenchModel", name := "findBodies", desc := "()V" } : Jvm.MethodName)) : Cond) ∈ COM := com_of 1182 (by decide +kernel) (by decide +kernel)
theorem mw_1183 : ((Jvm.Cond.code ({ cls := "RodBenchModel", name := "findBodies", desc := "()V" } : Jvm.MethodName) prog_13_method_28_code (5 : Nat) (Option.none : Option Jvm.ClassFile.FieldType)) : Cond) ∈ COM := com_of 1183 (by decide +kernel) (by decide +kernel)
theorem mw_1184 : ((Jvm.Cond.methodLink "RodBenchModel" (150 : Nat) ({ cls := "RodBenchModel", name := "size", desc := "(I)I" } : Jvm.MethodName)) : Cond) ∈ COM := com_of 1184 (by decide +kernel) (by decide +kernel)
theorem mw_1185 : ((Jvm.Cond.static ({ cls := "RodBenchModel", name := "size", desc := "(I)I" } : Jvm.MethodName)) : Cond) ∈ COM := com_of 1185 (by decide +kernel) (by decide +kernel)
theorem mw_1186 : ((Jvm.Cond.code ({ cls := "RodBenchModel", name := "size", desc := "(I)I" } : Jvm.MethodName) prog_13_method_23_code (3 : Nat) (Option.some Jvm.ClassFile.FieldType.int)) : Cond) ∈ COM := com_of 1186 (by decide +kernel) (by decide +kernel)
theorem mw_1187 : ((Jvm.Cond.methodLink "RodBenchModel" (156 : Nat) ({ cls := "RodBenchModel", name := "even", desc := "(I)I" } : Jvm.MethodName)) : Cond) ∈ COM := com_of 1187 (by decide +kernel) (by decide +kernel)
theorem mw_1189 : ((Jvm.Cond.instanceMethod ({ cls := "RodBenchModel", name := "even", desc := "(I)I" } : Jvm.MethodName)) : Cond) ∈ COM := com_of 1189 (by decide +kernel) (by decide +kernel)
theorem mw_1190 : ((Jvm.Cond.code ({ cls := "RodBenchModel", name := "even", desc := "(I)I" } : Jvm.MethodName) prog_13_method_25_code (4 : Nat) (Option.some Jvm.ClassFile.FieldType.int)) : Cond) ∈ COM := com_of 1190 (by decide +kernel) (by decide +kernel)
theorem mw_1191 : ((Jvm.Cond.methodLink "RodBenchModel" (142 : Nat) ({ cls := "RodBenchModel", name := "isBetween", desc := "(II)Z" } : Jvm.MethodName)) : Cond) ∈ COM := com_of 1191 (by decide +kernel) (by decide +kernel)
theorem mw_1193 : ((Jvm.Cond.instanceMethod ({ cls := "RodBenchModel", name := "isBetween", desc := "(II)Z" } : Jvm.MethodName)) : Cond) ∈ COM := com_of 1193 (by decide +kernel) (by decide +kernel)
theorem mw_1194 : ((Jvm.Cond.code ({ cls := "RodBenchModel", name := "isBetween", desc := "(II)Z" } : Jvm.MethodName) prog_13_method_24_code (3 : Nat) (Option.some Jvm.ClassFile.FieldType.boolean)) : Cond) ∈ COM := com_of 1194 (by decide +kernel) (by decide +kernel)
theorem mw_1195 : ((Jvm.Cond.methodLink "RodBenchModel" (146 : Nat) ({ cls := "RodBenchModel", name := "isEven", desc := "(I)Z" } : Jvm.MethodName)) : Cond) ∈ COM := com_of 1195 (by decide +kernel) (by decide +kernel)
theorem mw_1197 : ((Jvm.Cond.instanceMethod ({ cls := "RodBenchModel", name := "isEven", desc := "(I)Z" } : Jvm.MethodName)) : Cond) ∈ COM := com_of 1197 (by decide +kernel) (by decide +kernel)
theorem mw_1198 : ((Jvm.Cond.code ({ cls := "RodBenchModel", name := "isEven", desc := "(I)Z" } : Jvm.MethodName) prog_13_method_26_code (6 : Nat) (Option.some Jvm.ClassFile.FieldType.boolean)) : Cond) ∈ COM := com_of 1198 (by decide +kernel) (by decide +kernel)
theorem mw_1199 : ((Jvm.Cond.methodLink "RodBenchModel" (159 : Nat) ({ cls := "RodBenchModel", name := "isAhead", desc := "(II)Z" } : Jvm.MethodName)) : Cond) ∈ COM := com_of 1199 (by decide +kernel) (by decide +kernel)
theorem mw_1201 : ((Jvm.Cond.instanceMethod ({ cls := "RodBenchModel", name := "isAhead", desc := "(II)Z" } : Jvm.MethodName)) : Cond) ∈ COM := com_of 1201 (by decide +kernel) (by decide +kernel)
theorem mw_1202 : ((Jvm.Cond.code ({ cls := "RodBenchModel", name := "isAhead", desc := "(II)Z" } : Jvm.MethodName) prog_13_method_27_code (7 : Nat) (Option.some Jvm.ClassFile.FieldType.boolean)) : Cond) ∈ COM := com_of 1202 (by decide +kernel) (by decide +kernel)
theorem mw_1203 : ((Jvm.Cond.methodLink "RodBenchModel" (190 : Nat) ({ cls := "RodBenchModel", name := "isNeeded", desc := "(I)Z" } : Jvm.MethodName)) : Cond) ∈ COM := com_of 1203 (by decide +kernel) (by decide +kernel)
theorem mw_1205 : ((Jvm.Cond.instanceMethod ({ cls := "RodBenchModel", name := "isNeeded", desc := "(I)Z" } : Jvm.MethodName)) : Cond) ∈ COM := com_of 1205 (by decide +kernel) (by decide +kernel)
theorem mw_1206 : ((Jvm.Cond.code ({ cls := "RodBenchModel", name := "isNeeded", desc := "(I)Z" } : Jvm.MethodName) prog_13_method_22_code (5 : Nat) (Option.some Jvm.ClassFile.FieldType.boolean)) : Cond) ∈ COM := com_of 1206 (by decide +kernel) (by decide +kernel)
theorem mw_1207 : ((Jvm.Cond.methodLink "RodBenchModel" (132 : Nat) ({ cls := "RodBenchModel", name := "columnOf", desc := "(I)I" } : Jvm.MethodName)) : Cond) ∈ COM := com_of 1207 (by decide +kernel) (by decide +kernel)
theorem mw_1209 : ((Jvm.Cond.instanceMethod ({ cls := "RodBenchModel", name := "columnOf", desc := "(I)I" } : Jvm.MethodName)) : Cond) ∈ COM := com_of 1209 (by decide +kernel) (by decide +kernel)
theorem mw_1210 : ((Jvm.Cond.code ({ cls := "RodBenchModel", name := "columnOf", desc := "(I)I" } : Jvm.MethodName) prog_13_method_20_code (3 : Nat) (Option.some Jvm.ClassFile.FieldType.int)) : Cond) ∈ COM := com_of 1210 (by decide +kernel) (by decide +kernel)
theorem mw_1211 : ((Jvm.Cond.methodLink "RodBenchModel" (135 : Nat) ({ cls := "RodBenchModel", name := "loose", desc := "(I)I" } : Jvm.MethodName)) : Cond) ∈ COM := com_of 1211 (by decide +kernel) (by decide +kernel)
theorem mw_1213 : ((Jvm.Cond.instanceMethod ({ cls := "RodBenchModel", name := "loose", desc := "(I)I" } : Jvm.MethodName)) : Cond) ∈ COM := com_of 1213 (by decide +kernel) (by decide +kernel)
theorem mw_1214 : ((Jvm.Cond.code ({ cls := "RodBenchModel", name := "loose", desc := "(I)I" } : Jvm.MethodName) prog_13_method_9_code (4 : Nat) (Option.some Jvm.ClassFile.FieldType.int)) : Cond) ∈ COM := com_of 1214 (by decide +kernel) (by decide +kernel)
theorem mw_1215 : ((Jvm.Cond.methodLink "RodBenchModel" (138 : Nat) ({ cls := "RodBenchModel", name := "nulOf", desc := "(I)V" } : Jvm.MethodName)) : Cond) ∈ COM := com_of 1215 (by decide +kernel) (by decide +kernel)
theorem mw_1217 : ((Jvm.Cond.instanceMethod ({ cls := "RodBenchModel", name := "nulOf", desc := "(I)V" } : Jvm.MethodName)) : Cond) ∈ COM := com_of 1217 (by decide +kernel) (by decide +kernel)
theorem mw_1218 : ((Jvm.Cond.code ({ cls := "RodBenchModel", name := "nulOf", desc := "(I)V" } : Jvm.MethodName) prog_13_method_10_code (11 : Nat) (Option.none : Option Jvm.ClassFile.FieldType)) : Cond) ∈ COM := com_of 1218 (by decide +kernel) (by decide +kernel)
theorem mw_1219 : ((Jvm.Cond.methodLink "RodBenchLaw" (45 : Nat) ({ cls := "RodBenchModel", name := "pinTold", desc := "(II)I" } : Jvm.MethodName)) : Cond) ∈ COM := com_of 1219 (by decide +kernel) (by decide +kernel)
theorem mw_1220 : ((Jvm.Cond.instanceMethod ({ cls := "RodBenchModel", name := "pinTold", desc := "(II)I" } : Jvm.MethodName)) : Cond) ∈ COM := com_of 1220 (by decide +kernel) (by decide +kernel)
theorem mw_1221 : ((Jvm.Cond.selects "RodBenchModel" ({ cls := "RodBenchModel", name := "pinTold", desc := "(II)I" } : Jvm.MethodName) ({ cls := "RodBenchModel", name := "pinTold", desc := "(II)I" } : Jvm.MethodName)) : Cond) ∈ COM := com_of 1221 (by decide +kernel) (by decide +kernel)
theorem mw_1222 : ((Jvm.Cond.code ({ cls := "RodBenchModel", name := "pinTold", desc := "(II)I" } : Jvm.MethodName) prog_13_method_37_code (5 : Nat) (Option.some Jvm.ClassFile.FieldType.int)) : Cond) ∈ COM := com_of 1222 (by decide +kernel) (by decide +kernel)
theorem mw_1223 : ((Jvm.Cond.methodLink "RodBenchLaw" (49 : Nat) ({ cls := "RodBenchModel", name := "rodTold", desc := "(II)I" } : Jvm.MethodName)) : Cond) ∈ COM := com_of 1223 (by decide +kernel) (by decide +kernel)
theorem mw_1224 : ((Jvm.Cond.instanceMethod ({ cls := "RodBenchModel", name := "rodTold", desc := "(II)I" } : Jvm.MethodName)) : Cond) ∈ COM := com_of 1224 (by decide +kernel) (by decide +kernel)
theorem mw_1225 : ((Jvm.Cond.selects "RodBenchModel" ({ cls := "RodBenchModel", name := "rodTold", desc := "(II)I" } : Jvm.MethodName) ({ cls := "RodBenchModel", name := "rodTold", desc := "(II)I" } : Jvm.MethodName)) : Cond) ∈ COM := com_of 1225 (by decide +kernel) (by decide +kernel)
theorem mw_1226 : ((Jvm.Cond.code ({ cls := "RodBenchModel", name := "rodTold", desc := "(II)I" } : Jvm.MethodName) prog_13_method_38_code (4 : Nat) (Option.some Jvm.ClassFile.FieldType.int)) : Cond) ∈ COM := com_of 1226 (by decide +kernel) (by decide +kernel)
theorem mw_1227 : ((Jvm.Cond.methodLink "RodBenchLaw" (54 : Nat) ({ cls := "RodBenchModel", name := "motion", desc := "(III)J" } : Jvm.MethodName)) : Cond) ∈ COM := com_of 1227 (by decide +kernel) (by decide +kernel)
theorem mw_1228 : ((Jvm.Cond.instanceMethod ({ cls := "RodBenchModel", name := "motion", desc := "(III)J" } : Jvm.MethodName)) : Cond) ∈ COM := com_of 1228 (by decide +kernel) (by decide +kernel)
theorem mw_1229 : ((Jvm.Cond.selects "RodBenchModel" ({ cls := "RodBenchModel", name := "motion", desc := "(III)J" } : Jvm.MethodName) ({ cls := "RodBenchModel", name := "motion", desc := "(III)J" } : Jvm.MethodName)) : Cond) ∈ COM := com_of 1229 (by decide +kernel) (by decide +kernel)
theorem mw_1230 : ((Jvm.Cond.code ({ cls := "RodBenchModel", name := "motion", desc := "(III)J" } : Jvm.MethodName) prog_13_method_39_code (5 : Nat) (Option.some Jvm.ClassFile.FieldType.long)) : Cond) ∈ COM := com_of 1230 (by decide +kernel) (by decide +kernel)
theorem mw_1231 : ((Jvm.Cond.constantLong "RodBenchModel" (193 : Nat) (-4611686018427387904 : Int64)) : Cond) ∈ COM := com_of 1231 (by decide +kernel) (by decide +kernel)
theorem mw_1232 : ((Jvm.Cond.methodLink "RodBenchLaw" (59 : Nat) ({ cls := "RodBenchModel", name := "stress", desc := "(II)J" } : Jvm.MethodName)) : Cond) ∈ COM := com_of 1232 (by decide +kernel) (by decide +kernel)
theorem mw_1233 : ((Jvm.Cond.instanceMethod ({ cls := "RodBenchModel", name := "stress", desc := "(II)J" } : Jvm.MethodName)) : Cond) ∈ COM := com_of 1233 (by decide +kernel) (by decide +kernel)
theorem mw_1234 : ((Jvm.Cond.selects "RodBenchModel" ({ cls := "RodBenchModel", name := "stress", desc := "(II)J" } : Jvm.MethodName) ({ cls := "RodBenchModel", name := "stress", desc := "(II)J" } : Jvm.MethodName)) : Cond) ∈ COM := com_of 1234 (by decide +kernel) (by decide +kernel)
theorem mw_1235 : ((Jvm.Cond.code ({ cls := "RodBenchModel", name := "stress", desc := "(II)J" } : Jvm.MethodName) prog_13_method_40_code (3 : Nat) (Option.some Jvm.ClassFile.FieldType.long)) : Cond) ∈ COM := com_of 1235 (by decide +kernel) (by decide +kernel)
theorem mw_1236 : ((Jvm.Cond.methodLink "RodBenchLaw" (64 : Nat) ({ cls := "RodBenchModel", name := "stiff", desc := "()I" } : Jvm.MethodName)) : Cond) ∈ COM := com_of 1236 (by decide +kernel) (by decide +kernel)
theorem mw_1237 : ((Jvm.Cond.instanceMethod ({ cls := "RodBenchModel", name := "stiff", desc := "()I" } : Jvm.MethodName)) : Cond) ∈ COM := com_of 1237 (by decide +kernel) (by decide +kernel)
theorem mw_1238 : ((Jvm.Cond.selects "RodBenchModel" ({ cls := "RodBenchModel", name := "stiff", desc := "()I" } : Jvm.MethodName) ({ cls := "RodBenchModel", name := "stiff", desc := "()I" } : Jvm.MethodName)) : Cond) ∈ COM := com_of 1238 (by decide +kernel) (by decide +kernel)
theorem mw_1239 : ((Jvm.Cond.code ({ cls := "RodBenchModel", name := "stiff", desc := "()I" } : Jvm.MethodName) prog_13_method_41_code (1 : Nat) (Option.some Jvm.ClassFile.FieldType.int)) : Cond) ∈ COM := com_of 1239 (by decide +kernel) (by decide +kernel)
theorem mw_1240 : ((Jvm.Cond.methodLink "RodBenchModel" (195 : Nat) ({ cls := "RodBenchModel", name := "isStiff", desc := "([Z)Z" } : Jvm.MethodName)) : Cond) ∈ COM := com_of 1240 (by decide +kernel) (by decide +kernel)
theorem mw_1242 : ((Jvm.Cond.instanceMethod ({ cls := "RodBenchModel", name := "isStiff", desc := "([Z)Z" } : Jvm.MethodName)) : Cond) ∈ COM := com_of 1242 (by decide +kernel) (by decide +kernel)
theorem mw_1243 : ((Jvm.Cond.code ({ cls := "RodBenchModel", name := "isStiff", desc := "([Z)Z" } : Jvm.MethodName) prog_13_method_17_code (2 : Nat) (Option.some Jvm.ClassFile.FieldType.boolean)) : Cond) ∈ COM := com_of 1243 (by decide +kernel) (by decide +kernel)
theorem mw_1244 : ((Jvm.Cond.methodLink "RodBenchModel" (126 : Nat) ({ cls := "RodBenchModel", name := "planeMotions", desc := "()I" } : Jvm.MethodName)) : Cond) ∈ COM := com_of 1244 (by decide +kernel) (by decide +kernel)
theorem mw_1246 : ((Jvm.Cond.instanceMethod ({ cls := "RodBenchModel", name := "planeMotions", desc := "()I" } : Jvm.MethodName)) : Cond) ∈ COM := com_of 1246 (by decide +kernel) (by decide +kernel)
theorem mw_1247 : ((Jvm.Cond.code ({ cls := "RodBenchModel", name := "planeMotions", desc := "()I" } : Jvm.MethodName) prog_13_method_16_code (3 : Nat) (Option.some Jvm.ClassFile.FieldType.int)) : Cond) ∈ COM := com_of 1247 (by decide +kernel) (by decide +kernel)
theorem mw_1248 : ((Jvm.Cond.methodLink "RodBenchLaw" (68 : Nat) ({ cls := "RodBenchModel", name := "tight", desc := "()I" } : Jvm.MethodName)) : Cond) ∈ COM := com_of 1248 (by decide +kernel) (by decide +kernel)
theorem mw_1249 : ((Jvm.Cond.instanceMethod ({ cls := "RodBenchModel", name := "tight", desc := "()I" } : Jvm.MethodName)) : Cond) ∈ COM := com_of 1249 (by decide +kernel) (by decide +kernel)
theorem mw_1250 : ((Jvm.Cond.selects "RodBenchModel" ({ cls := "RodBenchModel", name := "tight", desc := "()I" } : Jvm.MethodName) ({ cls := "RodBenchModel", name := "tight", desc := "()I" } : Jvm.MethodName)) : Cond) ∈ COM := com_of 1250 (by decide +kernel) (by decide +kernel)
theorem mw_1251 : ((Jvm.Cond.code ({ cls := "RodBenchModel", name := "tight", desc := "()I" } : Jvm.MethodName) prog_13_method_42_code (7 : Nat) (Option.some Jvm.ClassFile.FieldType.int)) : Cond) ∈ COM := com_of 1251 (by decide +kernel) (by decide +kernel)
theorem mw_1252 : ((Jvm.Cond.methodLink "RodBenchLaw" (72 : Nat) ({ cls := "RodBenchModel", name := "load", desc := "(III)I" } : Jvm.MethodName)) : Cond) ∈ COM := com_of 1252 (by decide +kernel) (by decide +kernel)
theorem mw_1253 : ((Jvm.Cond.instanceMethod ({ cls := "RodBenchModel", name := "load", desc := "(III)I" } : Jvm.MethodName)) : Cond) ∈ COM := com_of 1253 (by decide +kernel) (by decide +kernel)
theorem mw_1254 : ((Jvm.Cond.selects "RodBenchModel" ({ cls := "RodBenchModel", name := "load", desc := "(III)I" } : Jvm.MethodName) ({ cls := "RodBenchModel", name := "load", desc := "(III)I" } : Jvm.MethodName)) : Cond) ∈ COM := com_of 1254 (by decide +kernel) (by decide +kernel)
theorem mw_1255 : ((Jvm.Cond.code ({ cls := "RodBenchModel", name := "load", desc := "(III)I" } : Jvm.MethodName) prog_13_method_43_code (4 : Nat) (Option.some Jvm.ClassFile.FieldType.int)) : Cond) ∈ COM := com_of 1255 (by decide +kernel) (by decide +kernel)
theorem mw_1256 : ((Jvm.Cond.methodLink "RodBenchLaw" (76 : Nat) ({ cls := "RodBenchModel", name := "carry", desc := "()I" } : Jvm.MethodName)) : Cond) ∈ COM := com_of 1256 (by decide +kernel) (by decide +kernel)
theorem mw_1257 : ((Jvm.Cond.instanceMethod ({ cls := "RodBenchModel", name := "carry", desc := "()I" } : Jvm.MethodName)) : Cond) ∈ COM := com_of 1257 (by decide +kernel) (by decide +kernel)
theorem mw_1258 : ((Jvm.Cond.selects "RodBenchModel" ({ cls := "RodBenchModel", name := "carry", desc := "()I" } : Jvm.MethodName) ({ cls := "RodBenchModel", name := "carry", desc := "()I" } : Jvm.MethodName)) : Cond) ∈ COM := com_of 1258 (by decide +kernel) (by decide +kernel)
theorem mw_1259 : ((Jvm.Cond.code ({ cls := "RodBenchModel", name := "carry", desc := "()I" } : Jvm.MethodName) prog_13_method_44_code (1 : Nat) (Option.some Jvm.ClassFile.FieldType.int)) : Cond) ∈ COM := com_of 1259 (by decide +kernel) (by decide +kernel)
theorem mw_1260 : ((Jvm.Cond.methodLink "RodBenchModel" (199 : Nat) ({ cls := "RodBenchModel", name := "carries", desc := "()Z" } : Jvm.MethodName)) : Cond) ∈ COM := com_of 1260 (by decide +kernel) (by decide +kernel)
theorem mw_1262 : ((Jvm.Cond.instanceMethod ({ cls := "RodBenchModel", name := "carries", desc := "()Z" } : Jvm.MethodName)) : Cond) ∈ COM := com_of 1262 (by decide +kernel) (by decide +kernel)
theorem mw_1263 : ((Jvm.Cond.code ({ cls := "RodBenchModel", name := "carries", desc := "()Z" } : Jvm.MethodName) prog_13_method_21_code (3 : Nat) (Option.some Jvm.ClassFile.FieldType.boolean)) : Cond) ∈ COM := com_of 1263 (by decide +kernel) (by decide +kernel)
theorem mw_1264 : ((Jvm.Cond.methodLink "RodBenchLaw" (80 : Nat) ({ cls := "RodBenchModel", name := "force", desc := "(II)J" } : Jvm.MethodName)) : Cond) ∈ COM := com_of 1264 (by decide +kernel) (by decide +kernel)
theorem mw_1265 : ((Jvm.Cond.instanceMethod ({ cls := "RodBenchModel", name := "force", desc := "(II)J" } : Jvm.MethodName)) : Cond) ∈ COM := com_of 1265 (by decide +kernel) (by decide +kernel)
theorem mw_1266 : ((Jvm.Cond.selects "RodBenchModel" ({ cls := "RodBenchModel", name := "force", desc := "(II)J" } : Jvm.MethodName) ({ cls := "RodBenchModel", name := "force", desc := "(II)J" } : Jvm.MethodName)) : Cond) ∈ COM := com_of 1266 (by decide +kernel) (by decide +kernel)
theorem mw_1267 : ((Jvm.Cond.code ({ cls := "RodBenchModel", name := "force", desc := "(II)J" } : Jvm.MethodName) prog_13_method_45_code (10 : Nat) (Option.some Jvm.ClassFile.FieldType.long)) : Cond) ∈ COM := com_of 1267 (by decide +kernel) (by decide +kernel)
theorem mw_1268 : ((Jvm.Cond.methodLink "RodBenchLaw" (84 : Nat) ({ cls := "RodBenchModel", name := "gives", desc := "()I" } : Jvm.MethodName)) : Cond) ∈ COM := com_of 1268 (by decide +kernel) (by decide +kernel)
theorem mw_1269 : ((Jvm.Cond.instanceMethod ({ cls := "RodBenchModel", name := "gives", desc := "()I" } : Jvm.MethodName)) : Cond) ∈ COM := com_of 1269 (by decide +kernel) (by decide +kernel)
theorem mw_1270 : ((Jvm.Cond.selects "RodBenchModel" ({ cls := "RodBenchModel", name := "gives", desc := "()I" } : Jvm.MethodName) ({ cls := "RodBenchModel", name := "gives", desc := "()I" } : Jvm.MethodName)) : Cond) ∈ COM := com_of 1270 (by decide +kernel) (by decide +kernel)
theorem mw_1271 : ((Jvm.Cond.code ({ cls := "RodBenchModel", name := "gives", desc := "()I" } : Jvm.MethodName) prog_13_method_46_code (7 : Nat) (Option.some Jvm.ClassFile.FieldType.int)) : Cond) ∈ COM := com_of 1271 (by decide +kernel) (by decide +kernel)
theorem mw_1272 : ((Jvm.Cond.methodLink "RodBenchLaw" (88 : Nat) ({ cls := "RodBenchModel", name := "could", desc := "()I" } : Jvm.MethodName)) : Cond) ∈ COM := com_of 1272 (by decide +kernel) (by decide +kernel)
theorem mw_1273 : ((Jvm.Cond.instanceMethod ({ cls := "RodBenchModel", name := "could", desc := "()I" } : Jvm.MethodName)) : Cond) ∈ COM := com_of 1273 (by decide +kernel) (by decide +kernel)
theorem mw_1274 : ((Jvm.Cond.selects "RodBenchModel" ({ cls := "RodBenchModel", name := "could", desc := "()I" } : Jvm.MethodName) ({ cls := "RodBenchModel", name := "could", desc := "()I" } : Jvm.MethodName)) : Cond) ∈ COM := com_of 1274 (by decide +kernel) (by decide +kernel)
theorem mw_1275 : ((Jvm.Cond.code ({ cls := "RodBenchModel", name := "could", desc := "()I" } : Jvm.MethodName) prog_13_method_47_code (1 : Nat) (Option.some Jvm.ClassFile.FieldType.int)) : Cond) ∈ COM := com_of 1275 (by decide +kernel) (by decide +kernel)
theorem mw_1276 : ((Jvm.Cond.methodLink "RodBenchLaw" (92 : Nat) ({ cls := "RodBenchModel", name := "body", desc := "(II)I" } : Jvm.MethodName)) : Cond) ∈ COM := com_of 1276 (by decide +kernel) (by decide +kernel)
theorem mw_1277 : ((Jvm.Cond.instanceMethod ({ cls := "RodBenchModel", name := "body", desc := "(II)I" } : Jvm.MethodName)) : Cond) ∈ COM := com_of 1277 (by decide +kernel) (by decide +kernel)
theorem mw_1278 : ((Jvm.Cond.selects "RodBenchModel" ({ cls := "RodBenchModel", name := "body", desc := "(II)I" } : Jvm.MethodName) ({ cls := "RodBenchModel", name := "body", desc := "(II)I" } : Jvm.MethodName)) : Cond) ∈ COM := com_of 1278 (by decide +kernel) (by decide +kernel)
theorem mw_1279 : ((Jvm.Cond.code ({ cls := "RodBenchModel", name := "body", desc := "(II)I" } : Jvm.MethodName) prog_13_method_48_code (5 : Nat) (Option.some Jvm.ClassFile.FieldType.int)) : Cond) ∈ COM := com_of 1279 (by decide +kernel) (by decide +kernel)
theorem mw_1280 : ((Jvm.Cond.methodLink "RodBenchLaw" (96 : Nat) ({ cls := "RodBenchModel", name := "plan", desc := "(I)I" } : Jvm.MethodName)) : Cond) ∈ COM := com_of 1280 (by decide +kernel) (by decide +kernel)
theorem mw_1281 : ((Jvm.Cond.instanceMethod ({ cls := "RodBenchModel", name := "plan", desc := "(I)I" } : Jvm.MethodName)) : Cond) ∈ COM := com_of 1281 (by decide +kernel) (by decide +kernel)
theorem mw_1282 : ((Jvm.Cond.selects "RodBenchModel" ({ cls := "RodBenchModel", name := "plan", desc := "(I)I" } : Jvm.MethodName) ({ cls := "RodBenchModel", name := "plan", desc := "(I)I" } : Jvm.MethodName)) : Cond) ∈ COM := com_of 1282 (by decide +kernel) (by decide +kernel)
theorem mw_1283 : ((Jvm.Cond.code ({ cls := "RodBenchModel", name := "plan", desc := "(I)I" } : Jvm.MethodName) prog_13_method_49_code (2 : Nat) (Option.some Jvm.ClassFile.FieldType.int)) : Cond) ∈ COM := com_of 1283 (by decide +kernel) (by decide +kernel)
theorem mw_1284 : ((Jvm.Cond.methodLink "RodBenchModel" (203 : Nat) ({ cls := "RodBenchModel", name := "makePlan", desc := "()V" } : Jvm.MethodName)) : Cond) ∈ COM := com_of 1284 (by decide +kernel) (by decide +kernel)
theorem mw_1286 : ((Jvm.Cond.instanceMethod ({ cls := "RodBenchModel", name := "makePlan", desc := "()V" } : Jvm.MethodName)) : Cond) ∈ COM := com_of 1286 (by decide +kernel) (by decide +kernel)
theorem mw_1287 : ((Jvm.Cond.code ({ cls := "RodBenchModel", name := "makePlan", desc := "()V" } : Jvm.MethodName) prog_13_method_29_code (4 : Nat) (Option.none : Option Jvm.ClassFile.FieldType)) : Cond) ∈ COM := com_of 1287 (by decide +kernel) (by decide +kernel)
theorem mw_1288 : ((Jvm.Cond.methodLink "RodBenchModel" (165 : Nat) ({ cls := "RodBenchModel", name := "cheapestLeft", desc := "()I" } : Jvm.MethodName)) : Cond) ∈ COM := com_of 1288 (by decide +kernel) (by decide +kernel)
theorem mw_1290 : ((Jvm.Cond.instanceMethod ({ cls := "RodBenchModel", name := "cheapestLeft", desc := "()I" } : Jvm.MethodName)) : Cond) ∈ COM := com_of 1290 (by decide +kernel) (by decide +kernel)
theorem mw_1291 : ((Jvm.Cond.code ({ cls := "RodBenchModel", name := "cheapestLeft", desc := "()I" } : Jvm.MethodName) prog_13_method_30_code (3 : Nat) (Option.some Jvm.ClassFile.FieldType.int)) : Cond) ∈ COM := com_of 1291 (by decide +kernel) (by decide +kernel)
theorem mw_1292 : ((Jvm.Cond.methodLink "RodBenchLaw" (100 : Nat) ({ cls := "RodBenchModel", name := "cheapest", desc := "()I" } : Jvm.MethodName)) : Cond) ∈ COM := com_of 1292 (by decide +kernel) (by decide +kernel)
theorem mw_1293 : ((Jvm.Cond.instanceMethod ({ cls := "RodBenchModel", name := "cheapest", desc := "()I" } : Jvm.MethodName)) : Cond) ∈ COM := com_of 1293 (by decide +kernel) (by decide +kernel)
theorem mw_1294 : ((Jvm.Cond.selects "RodBenchModel" ({ cls := "RodBenchModel", name := "cheapest", desc := "()I" } : Jvm.MethodName) ({ cls := "RodBenchModel", name := "cheapest", desc := "()I" } : Jvm.MethodName)) : Cond) ∈ COM := com_of 1294 (by decide +kernel) (by decide +kernel)
theorem mw_1295 : ((Jvm.Cond.code ({ cls := "RodBenchModel", name := "cheapest", desc := "()I" } : Jvm.MethodName) prog_13_method_50_code (3 : Nat) (Option.some Jvm.ClassFile.FieldType.int)) : Cond) ∈ COM := com_of 1295 (by decide +kernel) (by decide +kernel)
theorem mw_1296 : ((Jvm.Cond.methodLink "RodBenchLaw" (104 : Nat) ({ cls := "RodBenchModel", name := "tray", desc := "(III)I" } : Jvm.MethodName)) : Cond) ∈ COM := com_of 1296 (by decide +kernel) (by decide +kernel)
theorem mw_1297 : ((Jvm.Cond.instanceMethod ({ cls := "RodBenchModel", name := "tray", desc := "(III)I" } : Jvm.MethodName)) : Cond) ∈ COM := com_of 1297 (by decide +kernel) (by decide +kernel)
theorem mw_1298 : ((Jvm.Cond.selects "RodBenchModel" ({ cls := "RodBenchModel", name := "tray", desc := "(III)I" } : Jvm.MethodName) ({ cls := "RodBenchModel", name := "tray", desc := "(III)I" } : Jvm.MethodName)) : Cond) ∈ COM := com_of 1298 (by decide +kernel) (by decide +kernel)
theorem mw_1299 : ((Jvm.Cond.code ({ cls := "RodBenchModel", name := "tray", desc := "(III)I" } : Jvm.MethodName) prog_13_method_53_code (7 : Nat) (Option.some Jvm.ClassFile.FieldType.int)) : Cond) ∈ COM := com_of 1299 (by decide +kernel) (by decide +kernel)
theorem mw_1300 : ((Jvm.Cond.methodLink "RodBenchModel" (209 : Nat) ({ cls := "RodBenchModel", name := "refused", desc := "(I)I" } : Jvm.MethodName)) : Cond) ∈ COM := com_of 1300 (by decide +kernel) (by decide +kernel)
theorem mw_1302 : ((Jvm.Cond.instanceMethod ({ cls := "RodBenchModel", name := "refused", desc := "(I)I" } : Jvm.MethodName)) : Cond) ∈ COM := com_of 1302 (by decide +kernel) (by decide +kernel)
theorem mw_1303 : ((Jvm.Cond.code ({ cls := "RodBenchModel", name := "refused", desc := "(I)I" } : Jvm.MethodName) prog_13_method_51_code (2 : Nat) (Option.some Jvm.ClassFile.FieldType.int)) : Cond) ∈ COM := com_of 1303 (by decide +kernel) (by decide +kernel)
theorem mw_1304 : ((Jvm.Cond.methodLink "RodBenchModel" (212 : Nat) ({ cls := "RodBenchModel", name := "done", desc := "(I)I" } : Jvm.MethodName)) : Cond) ∈ COM := com_of 1304 (by decide +kernel) (by decide +kernel)
theorem mw_1306 : ((Jvm.Cond.instanceMethod ({ cls := "RodBenchModel", name := "done", desc := "(I)I" } : Jvm.MethodName)) : Cond) ∈ COM := com_of 1306 (by decide +kernel) (by decide +kernel)
theorem mw_1307 : ((Jvm.Cond.code ({ cls := "RodBenchModel", name := "done", desc := "(I)I" } : Jvm.MethodName) prog_13_method_52_code (2 : Nat) (Option.some Jvm.ClassFile.FieldType.int)) : Cond) ∈ COM := com_of 1307 (by decide +kernel) (by decide +kernel)
theorem mw_1308 : ((Jvm.Cond.methodLink "RodBenchLaw" (108 : Nat) ({ cls := "RodBenchModel", name := "forge", desc := "(III)I" } : Jvm.MethodName)) : Cond) ∈ COM := com_of 1308 (by decide +kernel) (by decide +kernel)
theorem mw_1309 : ((Jvm.Cond.instanceMethod ({ cls := "RodBenchModel", name := "forge", desc := "(III)I" } : Jvm.MethodName)) : Cond) ∈ COM := com_of 1309 (by decide +kernel) (by decide +kernel)
theorem mw_1310 : ((Jvm.Cond.selects "RodBenchModel" ({ cls := "RodBenchModel", name := "forge", desc := "(III)I" } : Jvm.MethodName) ({ cls := "RodBenchModel", name := "forge", desc := "(III)I" } : Jvm.MethodName)) : Cond) ∈ COM := com_of 1310 (by decide +kernel) (by decide +kernel)
theorem mw_1311 : ((Jvm.Cond.code ({ cls := "RodBenchModel", name := "forge", desc := "(III)I" } : Jvm.MethodName) prog_13_method_54_code (8 : Nat) (Option.some Jvm.ClassFile.FieldType.int)) : Cond) ∈ COM := com_of 1311 (by decide +kernel) (by decide +kernel)
theorem mw_1312 : ((Jvm.Cond.methodLink "RodBenchLaw" (112 : Nat) ({ cls := "RodBenchModel", name := "status", desc := "()I" } : Jvm.MethodName)) : Cond) ∈ COM := com_of 1312 (by decide +kernel) (by decide +kernel)
theorem mw_1313 : ((Jvm.Cond.instanceMethod ({ cls := "RodBenchModel", name := "status", desc := "()I" } : Jvm.MethodName)) : Cond) ∈ COM := com_of 1313 (by decide +kernel) (by decide +kernel)
theorem mw_1314 : ((Jvm.Cond.selects "RodBenchModel" ({ cls := "RodBenchModel", name := "status", desc := "()I" } : Jvm.MethodName) ({ cls := "RodBenchModel", name := "status", desc := "()I" } : Jvm.MethodName)) : Cond) ∈ COM := com_of 1314 (by decide +kernel) (by decide +kernel)
theorem mw_1315 : ((Jvm.Cond.code ({ cls := "RodBenchModel", name := "status", desc := "()I" } : Jvm.MethodName) prog_13_method_55_code (1 : Nat) (Option.some Jvm.ClassFile.FieldType.int)) : Cond) ∈ COM := com_of 1315 (by decide +kernel) (by decide +kernel)
theorem mw_1331 : ((Jvm.Cond.sameMethod "[Ljava/lang/Object;" "java/lang/Object" "getClass" "()Ljava/lang/Class;") : Cond) ∈ COM := com_of 1331 (by decide +kernel) (by decide +kernel)
theorem mw_1332 : ((Jvm.Cond.selects "[Ljava/lang/Object;" ({ cls := "java/lang/Object", name := "getClass", desc := "()Ljava/lang/Class;" } : Jvm.MethodName) ({ cls := "java/lang/Object", name := "getClass", desc := "()Ljava/lang/Class;" } : Jvm.MethodName)) : Cond) ∈ COM := com_of 1332 (by decide +kernel) (by decide +kernel)
end
section
theorem zz_end : True := trivial
end
