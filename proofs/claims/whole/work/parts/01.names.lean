-- ===== PART A: goes FIRST, ahead of the names: the tables' words, and 'selects' of the private methods out of them =====
/-- a private method of a class that the tables say can be made, by its rows of tables_1 -/
def lw_okq (q : MethodName × Nat) : Prop := (q.1.cls ≠ "java/lang/invoke/MethodHandle" ∧ q.1.cls ≠ "java/lang/invoke/VarHandle") ∧ Cond.instantiable q.1.cls q.2 ∈ tables_1 ∧ Cond.privateMethod q.1 ∈ tables_1 ∧ Cond.instanceMethod q.1 ∈ tables_1
theorem lw_p0 : lw_okq (⟨"ModularGains", "refresh", "()V"⟩, 7) := ⟨⟨by decide +kernel, by decide +kernel⟩, List.mem_of_getElem? (i := 14) (by decide +kernel), List.mem_of_getElem? (i := 271) (by decide +kernel), List.mem_of_getElem? (i := 272) (by decide +kernel)⟩
theorem lw_p1 : lw_okq (⟨"ModularGains$Gains", "forgetLinks", "()V"⟩, 9) := ⟨⟨by decide +kernel, by decide +kernel⟩, List.mem_of_getElem? (i := 58) (by decide +kernel), List.mem_of_getElem? (i := 279) (by decide +kernel), List.mem_of_getElem? (i := 280) (by decide +kernel)⟩
theorem lw_p2 : lw_okq (⟨"ModularGains$Gains", "addLink", "(III)V"⟩, 9) := ⟨⟨by decide +kernel, by decide +kernel⟩, List.mem_of_getElem? (i := 58) (by decide +kernel), List.mem_of_getElem? (i := 293) (by decide +kernel), List.mem_of_getElem? (i := 294) (by decide +kernel)⟩
theorem lw_p3 : lw_okq (⟨"ModularGains$Gains", "pairByWeights", "(J)V"⟩, 9) := ⟨⟨by decide +kernel, by decide +kernel⟩, List.mem_of_getElem? (i := 58) (by decide +kernel), List.mem_of_getElem? (i := 298) (by decide +kernel), List.mem_of_getElem? (i := 299) (by decide +kernel)⟩
theorem lw_p4 : lw_okq (⟨"ModularGains$Gains", "pairByNumbers", "()V"⟩, 9) := ⟨⟨by decide +kernel, by decide +kernel⟩, List.mem_of_getElem? (i := 58) (by decide +kernel), List.mem_of_getElem? (i := 303) (by decide +kernel), List.mem_of_getElem? (i := 304) (by decide +kernel)⟩
theorem lw_p5 : lw_okq (⟨"ModularGains", "startAnew", "()V"⟩, 7) := ⟨⟨by decide +kernel, by decide +kernel⟩, List.mem_of_getElem? (i := 14) (by decide +kernel), List.mem_of_getElem? (i := 319) (by decide +kernel), List.mem_of_getElem? (i := 320) (by decide +kernel)⟩
theorem lw_p6 : lw_okq (⟨"ModularGains$Partition", "renumber", "()V"⟩, 4) := ⟨⟨by decide +kernel, by decide +kernel⟩, List.mem_of_getElem? (i := 106) (by decide +kernel), List.mem_of_getElem? (i := 367) (by decide +kernel), List.mem_of_getElem? (i := 368) (by decide +kernel)⟩
theorem lw_p7 : lw_okq (⟨"ModularGains$Gains", "sumWithin", "([[JLModularGains$Partition;)J"⟩, 9) := ⟨⟨by decide +kernel, by decide +kernel⟩, List.mem_of_getElem? (i := 58) (by decide +kernel), List.mem_of_getElem? (i := 389) (by decide +kernel), List.mem_of_getElem? (i := 390) (by decide +kernel)⟩
theorem lw_p8 : lw_okq (⟨"ModularGains", "moveGain", "(II)J"⟩, 7) := ⟨⟨by decide +kernel, by decide +kernel⟩, List.mem_of_getElem? (i := 14) (by decide +kernel), List.mem_of_getElem? (i := 411) (by decide +kernel), List.mem_of_getElem? (i := 412) (by decide +kernel)⟩
theorem lw_p9 : lw_okq (⟨"ModularGains", "mergeGain", "(II)J"⟩, 7) := ⟨⟨by decide +kernel, by decide +kernel⟩, List.mem_of_getElem? (i := 14) (by decide +kernel), List.mem_of_getElem? (i := 427) (by decide +kernel), List.mem_of_getElem? (i := 428) (by decide +kernel)⟩
theorem lw_p10 : lw_okq (⟨"ModularGains$Walk", "enterFrom", "(I)V"⟩, 7) := ⟨⟨by decide +kernel, by decide +kernel⟩, List.mem_of_getElem? (i := 128) (by decide +kernel), List.mem_of_getElem? (i := 463) (by decide +kernel), List.mem_of_getElem? (i := 464) (by decide +kernel)⟩
theorem lw_p11 : lw_okq (⟨"ModularGains$Walk", "weigh", "(I)V"⟩, 7) := ⟨⟨by decide +kernel, by decide +kernel⟩, List.mem_of_getElem? (i := 128) (by decide +kernel), List.mem_of_getElem? (i := 467) (by decide +kernel), List.mem_of_getElem? (i := 468) (by decide +kernel)⟩
theorem lw_p12 : lw_okq (⟨"ModularGains$Walk", "settle", "(I)V"⟩, 7) := ⟨⟨by decide +kernel, by decide +kernel⟩, List.mem_of_getElem? (i := 128) (by decide +kernel), List.mem_of_getElem? (i := 472) (by decide +kernel), List.mem_of_getElem? (i := 473) (by decide +kernel)⟩
theorem lw_p13 : lw_okq (⟨"ModularGains", "mergeOnce", "(LModularGains$Partition;)V"⟩, 7) := ⟨⟨by decide +kernel, by decide +kernel⟩, List.mem_of_getElem? (i := 14) (by decide +kernel), List.mem_of_getElem? (i := 512) (by decide +kernel), List.mem_of_getElem? (i := 513) (by decide +kernel)⟩
theorem lw_p14 : lw_okq (⟨"ModularGains$Spread", "drawOrder", "()V"⟩, 4) := ⟨⟨by decide +kernel, by decide +kernel⟩, List.mem_of_getElem? (i := 178) (by decide +kernel), List.mem_of_getElem? (i := 532) (by decide +kernel), List.mem_of_getElem? (i := 533) (by decide +kernel)⟩
theorem lw_p15 : lw_okq (⟨"ModularGains$Spread", "relabelAll", "()Z"⟩, 4) := ⟨⟨by decide +kernel, by decide +kernel⟩, List.mem_of_getElem? (i := 178) (by decide +kernel), List.mem_of_getElem? (i := 538) (by decide +kernel), List.mem_of_getElem? (i := 539) (by decide +kernel)⟩
def lw_privs_1 : List (MethodName × Nat) := [(⟨"ModularGains", "refresh", "()V"⟩, 7), (⟨"ModularGains$Gains", "forgetLinks", "()V"⟩, 9), (⟨"ModularGains$Gains", "addLink", "(III)V"⟩, 9), (⟨"ModularGains$Gains", "pairByWeights", "(J)V"⟩, 9), (⟨"ModularGains$Gains", "pairByNumbers", "()V"⟩, 9), (⟨"ModularGains", "startAnew", "()V"⟩, 7), (⟨"ModularGains$Partition", "renumber", "()V"⟩, 4), (⟨"ModularGains$Gains", "sumWithin", "([[JLModularGains$Partition;)J"⟩, 9), (⟨"ModularGains", "moveGain", "(II)J"⟩, 7), (⟨"ModularGains", "mergeGain", "(II)J"⟩, 7), (⟨"ModularGains$Walk", "enterFrom", "(I)V"⟩, 7), (⟨"ModularGains$Walk", "weigh", "(I)V"⟩, 7), (⟨"ModularGains$Walk", "settle", "(I)V"⟩, 7), (⟨"ModularGains", "mergeOnce", "(LModularGains$Partition;)V"⟩, 7), (⟨"ModularGains$Spread", "drawOrder", "()V"⟩, 4), (⟨"ModularGains$Spread", "relabelAll", "()Z"⟩, 4)]
theorem lw_r1 : ∀ q ∈ lw_privs_1, lw_okq q := List.forall_mem_cons.mpr ⟨lw_p0, List.forall_mem_cons.mpr ⟨lw_p1, List.forall_mem_cons.mpr ⟨lw_p2, List.forall_mem_cons.mpr ⟨lw_p3, List.forall_mem_cons.mpr ⟨lw_p4, List.forall_mem_cons.mpr ⟨lw_p5, List.forall_mem_cons.mpr ⟨lw_p6, List.forall_mem_cons.mpr ⟨lw_p7, List.forall_mem_cons.mpr ⟨lw_p8, List.forall_mem_cons.mpr ⟨lw_p9, List.forall_mem_cons.mpr ⟨lw_p10, List.forall_mem_cons.mpr ⟨lw_p11, List.forall_mem_cons.mpr ⟨lw_p12, List.forall_mem_cons.mpr ⟨lw_p13, List.forall_mem_cons.mpr ⟨lw_p14, List.forall_mem_cons.mpr ⟨lw_p15, fun _ h => absurd h List.not_mem_nil⟩⟩⟩⟩⟩⟩⟩⟩⟩⟩⟩⟩⟩⟩⟩⟩
theorem lw_p16 : lw_okq (⟨"ModularGains$Spread", "strongestLabel", "(I)I"⟩, 4) := ⟨⟨by decide +kernel, by decide +kernel⟩, List.mem_of_getElem? (i := 178) (by decide +kernel), List.mem_of_getElem? (i := 542) (by decide +kernel), List.mem_of_getElem? (i := 543) (by decide +kernel)⟩
theorem lw_p17 : lw_okq (⟨"ModularGains$Spread", "bearersOf", "(I)I"⟩, 4) := ⟨⟨by decide +kernel, by decide +kernel⟩, List.mem_of_getElem? (i := 178) (by decide +kernel), List.mem_of_getElem? (i := 546) (by decide +kernel), List.mem_of_getElem? (i := 547) (by decide +kernel)⟩
theorem lw_p18 : lw_okq (⟨"ModularGains$Spread", "weightTo", "(II)I"⟩, 4) := ⟨⟨by decide +kernel, by decide +kernel⟩, List.mem_of_getElem? (i := 178) (by decide +kernel), List.mem_of_getElem? (i := 550) (by decide +kernel), List.mem_of_getElem? (i := 551) (by decide +kernel)⟩
theorem lw_p19 : lw_okq (⟨"ModularGains$Steps", "scan", "()V"⟩, 12) := ⟨⟨by decide +kernel, by decide +kernel⟩, List.mem_of_getElem? (i := 198) (by decide +kernel), List.mem_of_getElem? (i := 567) (by decide +kernel), List.mem_of_getElem? (i := 568) (by decide +kernel)⟩
theorem lw_p20 : lw_okq (⟨"ModularGains$Steps", "standsHigher", "(JJ)Z"⟩, 12) := ⟨⟨by decide +kernel, by decide +kernel⟩, List.mem_of_getElem? (i := 198) (by decide +kernel), List.mem_of_getElem? (i := 574) (by decide +kernel), List.mem_of_getElem? (i := 575) (by decide +kernel)⟩
theorem lw_p21 : lw_okq (⟨"ModularGains$Steps", "comesSooner", "(JJ)Z"⟩, 12) := ⟨⟨by decide +kernel, by decide +kernel⟩, List.mem_of_getElem? (i := 198) (by decide +kernel), List.mem_of_getElem? (i := 578) (by decide +kernel), List.mem_of_getElem? (i := 579) (by decide +kernel)⟩
theorem lw_p22 : lw_okq (⟨"ModularGains$Steps", "note", "(JJ)V"⟩, 12) := ⟨⟨by decide +kernel, by decide +kernel⟩, List.mem_of_getElem? (i := 198) (by decide +kernel), List.mem_of_getElem? (i := 582) (by decide +kernel), List.mem_of_getElem? (i := 583) (by decide +kernel)⟩
theorem lw_p23 : lw_okq (⟨"ModularGains$Steps", "keep", "(JJ)V"⟩, 12) := ⟨⟨by decide +kernel, by decide +kernel⟩, List.mem_of_getElem? (i := 198) (by decide +kernel), List.mem_of_getElem? (i := 588) (by decide +kernel), List.mem_of_getElem? (i := 589) (by decide +kernel)⟩
theorem lw_p24 : lw_okq (⟨"ModularGains$Steps", "makeRoom", "()V"⟩, 12) := ⟨⟨by decide +kernel, by decide +kernel⟩, List.mem_of_getElem? (i := 198) (by decide +kernel), List.mem_of_getElem? (i := 592) (by decide +kernel), List.mem_of_getElem? (i := 593) (by decide +kernel)⟩
theorem lw_p25 : lw_okq (⟨"ModularGainsModel", "alone", "()V"⟩, 36) := ⟨⟨by decide +kernel, by decide +kernel⟩, List.mem_of_getElem? (i := 632) (by decide +kernel), List.mem_of_getElem? (i := 760) (by decide +kernel), List.mem_of_getElem? (i := 761) (by decide +kernel)⟩
theorem lw_p26 : lw_okq (⟨"ModularGainsModel", "isNode", "(I)Z"⟩, 36) := ⟨⟨by decide +kernel, by decide +kernel⟩, List.mem_of_getElem? (i := 632) (by decide +kernel), List.mem_of_getElem? (i := 768) (by decide +kernel), List.mem_of_getElem? (i := 769) (by decide +kernel)⟩
theorem lw_p27 : lw_okq (⟨"ModularGainsModel", "moveIn", "([III)V"⟩, 36) := ⟨⟨by decide +kernel, by decide +kernel⟩, List.mem_of_getElem? (i := 632) (by decide +kernel), List.mem_of_getElem? (i := 784) (by decide +kernel), List.mem_of_getElem? (i := 785) (by decide +kernel)⟩
theorem lw_p28 : lw_okq (⟨"ModularGainsModel", "free", "([I)I"⟩, 36) := ⟨⟨by decide +kernel, by decide +kernel⟩, List.mem_of_getElem? (i := 632) (by decide +kernel), List.mem_of_getElem? (i := 788) (by decide +kernel), List.mem_of_getElem? (i := 789) (by decide +kernel)⟩
theorem lw_p29 : lw_okq (⟨"ModularGainsModel", "number", "([I)I"⟩, 36) := ⟨⟨by decide +kernel, by decide +kernel⟩, List.mem_of_getElem? (i := 632) (by decide +kernel), List.mem_of_getElem? (i := 792) (by decide +kernel), List.mem_of_getElem? (i := 793) (by decide +kernel)⟩
theorem lw_p30 : lw_okq (⟨"ModularGainsModel", "weigh", "()V"⟩, 36) := ⟨⟨by decide +kernel, by decide +kernel⟩, List.mem_of_getElem? (i := 632) (by decide +kernel), List.mem_of_getElem? (i := 804) (by decide +kernel), List.mem_of_getElem? (i := 805) (by decide +kernel)⟩
theorem lw_p31 : lw_okq (⟨"ModularGainsModel", "counts", "(I)Z"⟩, 36) := ⟨⟨by decide +kernel, by decide +kernel⟩, List.mem_of_getElem? (i := 632) (by decide +kernel), List.mem_of_getElem? (i := 808) (by decide +kernel), List.mem_of_getElem? (i := 809) (by decide +kernel)⟩
def lw_privs_2 : List (MethodName × Nat) := [(⟨"ModularGains$Spread", "strongestLabel", "(I)I"⟩, 4), (⟨"ModularGains$Spread", "bearersOf", "(I)I"⟩, 4), (⟨"ModularGains$Spread", "weightTo", "(II)I"⟩, 4), (⟨"ModularGains$Steps", "scan", "()V"⟩, 12), (⟨"ModularGains$Steps", "standsHigher", "(JJ)Z"⟩, 12), (⟨"ModularGains$Steps", "comesSooner", "(JJ)Z"⟩, 12), (⟨"ModularGains$Steps", "note", "(JJ)V"⟩, 12), (⟨"ModularGains$Steps", "keep", "(JJ)V"⟩, 12), (⟨"ModularGains$Steps", "makeRoom", "()V"⟩, 12), (⟨"ModularGainsModel", "alone", "()V"⟩, 36), (⟨"ModularGainsModel", "isNode", "(I)Z"⟩, 36), (⟨"ModularGainsModel", "moveIn", "([III)V"⟩, 36), (⟨"ModularGainsModel", "free", "([I)I"⟩, 36), (⟨"ModularGainsModel", "number", "([I)I"⟩, 36), (⟨"ModularGainsModel", "weigh", "()V"⟩, 36), (⟨"ModularGainsModel", "counts", "(I)Z"⟩, 36)]
theorem lw_r2 : ∀ q ∈ lw_privs_2, lw_okq q := List.forall_mem_cons.mpr ⟨lw_p16, List.forall_mem_cons.mpr ⟨lw_p17, List.forall_mem_cons.mpr ⟨lw_p18, List.forall_mem_cons.mpr ⟨lw_p19, List.forall_mem_cons.mpr ⟨lw_p20, List.forall_mem_cons.mpr ⟨lw_p21, List.forall_mem_cons.mpr ⟨lw_p22, List.forall_mem_cons.mpr ⟨lw_p23, List.forall_mem_cons.mpr ⟨lw_p24, List.forall_mem_cons.mpr ⟨lw_p25, List.forall_mem_cons.mpr ⟨lw_p26, List.forall_mem_cons.mpr ⟨lw_p27, List.forall_mem_cons.mpr ⟨lw_p28, List.forall_mem_cons.mpr ⟨lw_p29, List.forall_mem_cons.mpr ⟨lw_p30, List.forall_mem_cons.mpr ⟨lw_p31, fun _ h => absurd h List.not_mem_nil⟩⟩⟩⟩⟩⟩⟩⟩⟩⟩⟩⟩⟩⟩⟩⟩
theorem lw_p32 : lw_okq (⟨"ModularGainsModel", "valueOf", "([I)J"⟩, 36) := ⟨⟨by decide +kernel, by decide +kernel⟩, List.mem_of_getElem? (i := 632) (by decide +kernel), List.mem_of_getElem? (i := 812) (by decide +kernel), List.mem_of_getElem? (i := 813) (by decide +kernel)⟩
theorem lw_p33 : lw_okq (⟨"ModularGainsModel", "judge", "([I)V"⟩, 36) := ⟨⟨by decide +kernel, by decide +kernel⟩, List.mem_of_getElem? (i := 632) (by decide +kernel), List.mem_of_getElem? (i := 816) (by decide +kernel), List.mem_of_getElem? (i := 817) (by decide +kernel)⟩
theorem lw_p34 : lw_okq (⟨"ModularGainsModel", "moveGain", "(II)J"⟩, 36) := ⟨⟨by decide +kernel, by decide +kernel⟩, List.mem_of_getElem? (i := 632) (by decide +kernel), List.mem_of_getElem? (i := 830) (by decide +kernel), List.mem_of_getElem? (i := 831) (by decide +kernel)⟩
theorem lw_p35 : lw_okq (⟨"ModularGainsModel", "copy", "([I[I)V"⟩, 36) := ⟨⟨by decide +kernel, by decide +kernel⟩, List.mem_of_getElem? (i := 632) (by decide +kernel), List.mem_of_getElem? (i := 834) (by decide +kernel), List.mem_of_getElem? (i := 835) (by decide +kernel)⟩
theorem lw_p36 : lw_okq (⟨"ModularGainsModel", "mergeGain", "(II)J"⟩, 36) := ⟨⟨by decide +kernel, by decide +kernel⟩, List.mem_of_getElem? (i := 632) (by decide +kernel), List.mem_of_getElem? (i := 842) (by decide +kernel), List.mem_of_getElem? (i := 843) (by decide +kernel)⟩
theorem lw_p37 : lw_okq (⟨"ModularGainsModel", "mergeIn", "([III)V"⟩, 36) := ⟨⟨by decide +kernel, by decide +kernel⟩, List.mem_of_getElem? (i := 632) (by decide +kernel), List.mem_of_getElem? (i := 846) (by decide +kernel), List.mem_of_getElem? (i := 847) (by decide +kernel)⟩
theorem lw_p38 : lw_okq (⟨"ModularGainsModel", "findBest", "()V"⟩, 36) := ⟨⟨by decide +kernel, by decide +kernel⟩, List.mem_of_getElem? (i := 632) (by decide +kernel), List.mem_of_getElem? (i := 862) (by decide +kernel), List.mem_of_getElem? (i := 863) (by decide +kernel)⟩
theorem lw_p39 : lw_okq (⟨"ModularGainsModel", "first", "()V"⟩, 36) := ⟨⟨by decide +kernel, by decide +kernel⟩, List.mem_of_getElem? (i := 632) (by decide +kernel), List.mem_of_getElem? (i := 866) (by decide +kernel), List.mem_of_getElem? (i := 867) (by decide +kernel)⟩
theorem lw_p40 : lw_okq (⟨"ModularGainsModel", "next", "()Z"⟩, 36) := ⟨⟨by decide +kernel, by decide +kernel⟩, List.mem_of_getElem? (i := 632) (by decide +kernel), List.mem_of_getElem? (i := 870) (by decide +kernel), List.mem_of_getElem? (i := 871) (by decide +kernel)⟩
theorem lw_p41 : lw_okq (⟨"ModularGainsModel", "beginMerging", "()V"⟩, 36) := ⟨⟨by decide +kernel, by decide +kernel⟩, List.mem_of_getElem? (i := 632) (by decide +kernel), List.mem_of_getElem? (i := 882) (by decide +kernel), List.mem_of_getElem? (i := 883) (by decide +kernel)⟩
theorem lw_p42 : lw_okq (⟨"ModularGainsModel", "mergeOnce", "()V"⟩, 36) := ⟨⟨by decide +kernel, by decide +kernel⟩, List.mem_of_getElem? (i := 632) (by decide +kernel), List.mem_of_getElem? (i := 886) (by decide +kernel), List.mem_of_getElem? (i := 887) (by decide +kernel)⟩
theorem lw_p43 : lw_okq (⟨"ModularGainsModel", "isLeast", "(I)Z"⟩, 36) := ⟨⟨by decide +kernel, by decide +kernel⟩, List.mem_of_getElem? (i := 632) (by decide +kernel), List.mem_of_getElem? (i := 890) (by decide +kernel), List.mem_of_getElem? (i := 891) (by decide +kernel)⟩
theorem lw_p44 : lw_okq (⟨"ModularGainsModel", "spread", "(I)I"⟩, 36) := ⟨⟨by decide +kernel, by decide +kernel⟩, List.mem_of_getElem? (i := 632) (by decide +kernel), List.mem_of_getElem? (i := 902) (by decide +kernel), List.mem_of_getElem? (i := 903) (by decide +kernel)⟩
theorem lw_p45 : lw_okq (⟨"ModularGainsModel", "round", "()Z"⟩, 36) := ⟨⟨by decide +kernel, by decide +kernel⟩, List.mem_of_getElem? (i := 632) (by decide +kernel), List.mem_of_getElem? (i := 906) (by decide +kernel), List.mem_of_getElem? (i := 907) (by decide +kernel)⟩
theorem lw_p46 : lw_okq (⟨"ModularGainsModel", "wanted", "(I)I"⟩, 36) := ⟨⟨by decide +kernel, by decide +kernel⟩, List.mem_of_getElem? (i := 632) (by decide +kernel), List.mem_of_getElem? (i := 912) (by decide +kernel), List.mem_of_getElem? (i := 913) (by decide +kernel)⟩
theorem lw_p47 : lw_okq (⟨"ModularGainsModel", "findPlateaus", "()V"⟩, 36) := ⟨⟨by decide +kernel, by decide +kernel⟩, List.mem_of_getElem? (i := 632) (by decide +kernel), List.mem_of_getElem? (i := 924) (by decide +kernel), List.mem_of_getElem? (i := 925) (by decide +kernel)⟩
def lw_privs_3 : List (MethodName × Nat) := [(⟨"ModularGainsModel", "valueOf", "([I)J"⟩, 36), (⟨"ModularGainsModel", "judge", "([I)V"⟩, 36), (⟨"ModularGainsModel", "moveGain", "(II)J"⟩, 36), (⟨"ModularGainsModel", "copy", "([I[I)V"⟩, 36), (⟨"ModularGainsModel", "mergeGain", "(II)J"⟩, 36), (⟨"ModularGainsModel", "mergeIn", "([III)V"⟩, 36), (⟨"ModularGainsModel", "findBest", "()V"⟩, 36), (⟨"ModularGainsModel", "first", "()V"⟩, 36), (⟨"ModularGainsModel", "next", "()Z"⟩, 36), (⟨"ModularGainsModel", "beginMerging", "()V"⟩, 36), (⟨"ModularGainsModel", "mergeOnce", "()V"⟩, 36), (⟨"ModularGainsModel", "isLeast", "(I)Z"⟩, 36), (⟨"ModularGainsModel", "spread", "(I)I"⟩, 36), (⟨"ModularGainsModel", "round", "()Z"⟩, 36), (⟨"ModularGainsModel", "wanted", "(I)I"⟩, 36), (⟨"ModularGainsModel", "findPlateaus", "()V"⟩, 36)]
theorem lw_r3 : ∀ q ∈ lw_privs_3, lw_okq q := List.forall_mem_cons.mpr ⟨lw_p32, List.forall_mem_cons.mpr ⟨lw_p33, List.forall_mem_cons.mpr ⟨lw_p34, List.forall_mem_cons.mpr ⟨lw_p35, List.forall_mem_cons.mpr ⟨lw_p36, List.forall_mem_cons.mpr ⟨lw_p37, List.forall_mem_cons.mpr ⟨lw_p38, List.forall_mem_cons.mpr ⟨lw_p39, List.forall_mem_cons.mpr ⟨lw_p40, List.forall_mem_cons.mpr ⟨lw_p41, List.forall_mem_cons.mpr ⟨lw_p42, List.forall_mem_cons.mpr ⟨lw_p43, List.forall_mem_cons.mpr ⟨lw_p44, List.forall_mem_cons.mpr ⟨lw_p45, List.forall_mem_cons.mpr ⟨lw_p46, List.forall_mem_cons.mpr ⟨lw_p47, fun _ h => absurd h List.not_mem_nil⟩⟩⟩⟩⟩⟩⟩⟩⟩⟩⟩⟩⟩⟩⟩⟩
theorem lw_p48 : lw_okq (⟨"ModularGainsModel", "show", "(I)V"⟩, 36) := ⟨⟨by decide +kernel, by decide +kernel⟩, List.mem_of_getElem? (i := 632) (by decide +kernel), List.mem_of_getElem? (i := 928) (by decide +kernel), List.mem_of_getElem? (i := 929) (by decide +kernel)⟩
def lw_privs_4 : List (MethodName × Nat) := [(⟨"ModularGainsModel", "show", "(I)V"⟩, 36)]
theorem lw_r4 : ∀ q ∈ lw_privs_4, lw_okq q := List.forall_mem_cons.mpr ⟨lw_p48, fun _ h => absurd h List.not_mem_nil⟩
def lw_privs : List (MethodName × Nat) := lw_privs_1 ++ (lw_privs_2 ++ (lw_privs_3 ++ (lw_privs_4)))
def lw_tbl : List Cond := k2_sels lw_privs ++ tables_1
theorem lw_privs_ok : ∀ q ∈ lw_privs, lw_okq q := by
  show ∀ q ∈ lw_privs_1 ++ (lw_privs_2 ++ (lw_privs_3 ++ (lw_privs_4))), lw_okq q
  exact List.forall_mem_append.mpr ⟨lw_r1, List.forall_mem_append.mpr ⟨lw_r2, List.forall_mem_append.mpr ⟨lw_r3, lw_r4⟩⟩⟩
-- ===== end of PART A; then your names; then what follows =====
def R_Ga : String := "ModularGains$Gains"
def F_Ga : u_T := fun k => match k with
  | 0 => ("ModularGains$Gains", "x", "I", false)
  | 1 => ("ModularGains$Gains", "y", "I", false)
  | 2 => ("ModularGains$Gains", "nodes", "I", false)
  | 3 => ("ModularGains$Gains", "aloneB", "J", false)
  | 4 => ("ModularGains$Gains", "pairA", "[[J", true)
  | 5 => ("ModularGains$Gains", "pairB", "[[J", true)
  | 6 => ("ModularGains$Gains", "link", "[[I", true)
  | 7 => ("ModularGains$Gains", "near", "[I", true)
  | _ => ("ModularGains$Gains", "has", "[J", true)
def t_Ga : Nat → FieldType := fun k => match k with
  | 0 => .int
  | 1 => .int
  | 2 => .int
  | 3 => .long
  | 4 => .array (.array .long)
  | 5 => .array (.array .long)
  | 6 => .array (.array .int)
  | 7 => .array .int
  | _ => .array .long
theorem n_Ga : ∀ a, a < 9 → ∀ b, b < 9 → a ≠ b → (F_Ga a).2.1 ≠ (F_Ga b).2.1 := by decide +kernel
theorem t_Ga_ok : ∀ k, k < 9 → parseFieldDescriptor (F_Ga k).2.2.1 = some (t_Ga k) := by decide +kernel
def R_Gr : String := "ModularGains$Graph"
def F_Gr : u_T := fun k => match k with
  | 0 => ("ModularGains$Graph", "manner", "I", false)
  | 1 => ("ModularGains$Graph", "nodes", "I", false)
  | 2 => ("ModularGains$Graph", "arcs", "I", false)
  | 3 => ("ModularGains$Graph", "from", "[I", true)
  | 4 => ("ModularGains$Graph", "to", "[I", true)
  | _ => ("ModularGains$Graph", "weight", "[I", true)
def t_Gr : Nat → FieldType := fun k => match k with
  | 0 => .int
  | 1 => .int
  | 2 => .int
  | 3 => .array .int
  | 4 => .array .int
  | _ => .array .int
theorem n_Gr : ∀ a, a < 6 → ∀ b, b < 6 → a ≠ b → (F_Gr a).2.1 ≠ (F_Gr b).2.1 := by decide +kernel
theorem t_Gr_ok : ∀ k, k < 6 → parseFieldDescriptor (F_Gr k).2.2.1 = some (t_Gr k) := by decide +kernel
def R_Pa : String := "ModularGains$Partition"
def F_Pa : u_T := fun k => match k with
  | 0 => ("ModularGains$Partition", "nodes", "I", false)
  | 1 => ("ModularGains$Partition", "count", "I", false)
  | 2 => ("ModularGains$Partition", "groups", "[I", true)
  | _ => ("ModularGains$Partition", "names", "[I", true)
def t_Pa : Nat → FieldType := fun k => match k with
  | 0 => .int
  | 1 => .int
  | 2 => .array .int
  | _ => .array .int
theorem n_Pa : ∀ a, a < 4 → ∀ b, b < 4 → a ≠ b → (F_Pa a).2.1 ≠ (F_Pa b).2.1 := by decide +kernel
theorem t_Pa_ok : ∀ k, k < 4 → parseFieldDescriptor (F_Pa k).2.2.1 = some (t_Pa k) := by decide +kernel
def R_Pe : String := "ModularGains$Peak"
def F_Pe : u_T := fun k => match k with
  | 0 => ("ModularGains$Peak", "gains", "LModularGains$Gains;", true)
  | 1 => ("ModularGains$Peak", "walk", "LModularGains$Walk;", true)
  | 2 => ("ModularGains$Peak", "code", "J", false)
  | _ => ("ModularGains$Peak", "alike", "I", false)
def t_Pe : Nat → FieldType := fun k => match k with
  | 0 => .object "ModularGains$Gains"
  | 1 => .object "ModularGains$Walk"
  | 2 => .long
  | _ => .int
theorem n_Pe : ∀ a, a < 4 → ∀ b, b < 4 → a ≠ b → (F_Pe a).2.1 ≠ (F_Pe b).2.1 := by decide +kernel
theorem t_Pe_ok : ∀ k, k < 4 → parseFieldDescriptor (F_Pe k).2.2.1 = some (t_Pe k) := by decide +kernel
def R_Sp : String := "ModularGains$Spread"
def F_Sp : u_T := fun k => match k with
  | 0 => ("ModularGains$Spread", "gains", "LModularGains$Gains;", true)
  | 1 => ("ModularGains$Spread", "labels", "[I", true)
  | 2 => ("ModularGains$Spread", "order", "[I", true)
  | _ => ("ModularGains$Spread", "drawn", "I", false)
def t_Sp : Nat → FieldType := fun k => match k with
  | 0 => .object "ModularGains$Gains"
  | 1 => .array .int
  | 2 => .array .int
  | _ => .int
theorem n_Sp : ∀ a, a < 4 → ∀ b, b < 4 → a ≠ b → (F_Sp a).2.1 ≠ (F_Sp b).2.1 := by decide +kernel
theorem t_Sp_ok : ∀ k, k < 4 → parseFieldDescriptor (F_Sp k).2.2.1 = some (t_Sp k) := by decide +kernel
def R_St : String := "ModularGains$Steps"
def F_St : u_T := fun k => match k with
  | 0 => ("ModularGains$Steps", "walk", "LModularGains$Walk;", true)
  | 1 => ("ModularGains$Steps", "known", "Z", false)
  | 2 => ("ModularGains$Steps", "count", "I", false)
  | 3 => ("ModularGains$Steps", "above", "[J", false)
  | 4 => ("ModularGains$Steps", "below", "[J", false)
  | 5 => ("ModularGains$Steps", "codes", "[J", false)
  | 6 => ("ModularGains$Steps", "lastA", "J", false)
  | 7 => ("ModularGains$Steps", "lastB", "J", false)
  | 8 => ("ModularGains$Steps", "found", "Z", false)
  | 9 => ("ModularGains$Steps", "foundA", "J", false)
  | 10 => ("ModularGains$Steps", "foundB", "J", false)
  | _ => ("ModularGains$Steps", "foundCode", "J", false)
def t_St : Nat → FieldType := fun k => match k with
  | 0 => .object "ModularGains$Walk"
  | 1 => .boolean
  | 2 => .int
  | 3 => .array .long
  | 4 => .array .long
  | 5 => .array .long
  | 6 => .long
  | 7 => .long
  | 8 => .boolean
  | 9 => .long
  | 10 => .long
  | _ => .long
theorem n_St : ∀ a, a < 12 → ∀ b, b < 12 → a ≠ b → (F_St a).2.1 ≠ (F_St b).2.1 := by decide +kernel
theorem t_St_ok : ∀ k, k < 12 → parseFieldDescriptor (F_St k).2.2.1 = some (t_St k) := by decide +kernel
def R_Wa : String := "ModularGains$Walk"
def F_Wa : u_T := fun k => match k with
  | 0 => ("ModularGains$Walk", "gains", "LModularGains$Gains;", true)
  | 1 => ("ModularGains$Walk", "groups", "[I", true)
  | 2 => ("ModularGains$Walk", "opened", "[I", true)
  | 3 => ("ModularGains$Walk", "sumsA", "[J", true)
  | 4 => ("ModularGains$Walk", "sumsB", "[J", true)
  | 5 => ("ModularGains$Walk", "bringA", "[[J", true)
  | _ => ("ModularGains$Walk", "bringB", "[[J", true)
def t_Wa : Nat → FieldType := fun k => match k with
  | 0 => .object "ModularGains$Gains"
  | 1 => .array .int
  | 2 => .array .int
  | 3 => .array .long
  | 4 => .array .long
  | 5 => .array (.array .long)
  | _ => .array (.array .long)
theorem n_Wa : ∀ a, a < 7 → ∀ b, b < 7 → a ≠ b → (F_Wa a).2.1 ≠ (F_Wa b).2.1 := by decide +kernel
theorem t_Wa_ok : ∀ k, k < 7 → parseFieldDescriptor (F_Wa k).2.2.1 = some (t_Wa k) := by decide +kernel
def R_MG : String := "ModularGains"
def F_MG : u_T := fun k => match k with
  | 0 => ("ModularGains", "graph", "LModularGains$Graph;", true)
  | 1 => ("ModularGains", "gains", "LModularGains$Gains;", true)
  | 2 => ("ModularGains", "hand", "LModularGains$Partition;", true)
  | 3 => ("ModularGains", "trial", "LModularGains$Partition;", true)
  | 4 => ("ModularGains", "peak", "LModularGains$Peak;", true)
  | 5 => ("ModularGains", "spread", "LModularGains$Spread;", true)
  | _ => ("ModularGains", "steps", "LModularGains$Steps;", true)
def t_MG : Nat → FieldType := fun k => match k with
  | 0 => .object "ModularGains$Graph"
  | 1 => .object "ModularGains$Gains"
  | 2 => .object "ModularGains$Partition"
  | 3 => .object "ModularGains$Partition"
  | 4 => .object "ModularGains$Peak"
  | 5 => .object "ModularGains$Spread"
  | _ => .object "ModularGains$Steps"
theorem n_MG : ∀ a, a < 7 → ∀ b, b < 7 → a ≠ b → (F_MG a).2.1 ≠ (F_MG b).2.1 := by decide +kernel
theorem t_MG_ok : ∀ k, k < 7 → parseFieldDescriptor (F_MG k).2.2.1 = some (t_MG k) := by decide +kernel
def R_Mo : String := "ModularGainsModel"
def F_Mo : u_T := fun k => match k with
  | 0 => ("ModularGainsModel", "manner", "I", false)
  | 1 => ("ModularGainsModel", "above", "I", false)
  | 2 => ("ModularGainsModel", "below", "I", false)
  | 3 => ("ModularGainsModel", "nodes", "I", false)
  | 4 => ("ModularGainsModel", "arcs", "I", false)
  | 5 => ("ModularGainsModel", "left", "I", false)
  | 6 => ("ModularGainsModel", "ones", "[I", true)
  | 7 => ("ModularGainsModel", "others", "[I", true)
  | 8 => ("ModularGainsModel", "weights", "[I", true)
  | 9 => ("ModularGainsModel", "there", "[Z", true)
  | 10 => ("ModularGainsModel", "hand", "[I", true)
  | 11 => ("ModularGainsModel", "isBest", "Z", false)
  | 12 => ("ModularGainsModel", "arePlateaus", "Z", false)
  | 13 => ("ModularGainsModel", "between", "[I", true)
  | 14 => ("ModularGainsModel", "joins", "[Z", true)
  | 15 => ("ModularGainsModel", "has", "[I", true)
  | 16 => ("ModularGainsModel", "all", "J", false)
  | 17 => ("ModularGainsModel", "sums", "[J", true)
  | 18 => ("ModularGainsModel", "sizes", "[J", true)
  | 19 => ("ModularGainsModel", "a", "J", false)
  | 20 => ("ModularGainsModel", "b", "J", false)
  | 21 => ("ModularGainsModel", "names", "[I", true)
  | 22 => ("ModularGainsModel", "trial", "[I", true)
  | 23 => ("ModularGainsModel", "walk", "[I", true)
  | 24 => ("ModularGainsModel", "found", "[I", true)
  | 25 => ("ModularGainsModel", "bestOf", "[I", true)
  | 26 => ("ModularGainsModel", "ties", "I", false)
  | 27 => ("ModularGainsModel", "tried", "[I", true)
  | 28 => ("ModularGainsModel", "order", "[I", true)
  | 29 => ("ModularGainsModel", "label", "[I", true)
  | 30 => ("ModularGainsModel", "z", "I", false)
  | 31 => ("ModularGainsModel", "plateaus", "I", false)
  | 32 => ("ModularGainsModel", "shown", "[I", true)
  | 33 => ("ModularGainsModel", "beginsAbove", "[J", true)
  | 34 => ("ModularGainsModel", "beginsBelow", "[J", true)
  | _ => ("ModularGainsModel", "shownOf", "[J", true)
def t_Mo : Nat → FieldType := fun k => match k with
  | 0 => .int
  | 1 => .int
  | 2 => .int
  | 3 => .int
  | 4 => .int
  | 5 => .int
  | 6 => .array .int
  | 7 => .array .int
  | 8 => .array .int
  | 9 => .array .boolean
  | 10 => .array .int
  | 11 => .boolean
  | 12 => .boolean
  | 13 => .array .int
  | 14 => .array .boolean
  | 15 => .array .int
  | 16 => .long
  | 17 => .array .long
  | 18 => .array .long
  | 19 => .long
  | 20 => .long
  | 21 => .array .int
  | 22 => .array .int
  | 23 => .array .int
  | 24 => .array .int
  | 25 => .array .int
  | 26 => .int
  | 27 => .array .int
  | 28 => .array .int
  | 29 => .array .int
  | 30 => .int
  | 31 => .int
  | 32 => .array .int
  | 33 => .array .long
  | 34 => .array .long
  | _ => .array .long
theorem n_Mo : ∀ a, a < 36 → ∀ b, b < 36 → a ≠ b → (F_Mo a).2.1 ≠ (F_Mo b).2.1 := by decide +kernel
theorem t_Mo_ok : ∀ k, k < 36 → parseFieldDescriptor (F_Mo k).2.2.1 = some (t_Mo k) := by decide +kernel
def R_La : String := "ModularGainsLaw"
def R_Ar : String := "java/util/Arrays"
def R_Ma : String := "java/lang/Math"
abbrev cls9 : List vw_C := [(R_Ga, F_Ga, 9), (R_Gr, F_Gr, 6), (R_Pa, F_Pa, 4), (R_Pe, F_Pe, 4), (R_Sp, F_Sp, 4), (R_St, F_St, 12), (R_Wa, F_Wa, 7), (R_MG, F_MG, 7), (R_Mo, F_Mo, 36)]
def ALLW : List Cond := lw_tbl.filter goodWord
theorem allw_good : GoodIn ALLW ALLW := fun w h => ⟨h, good_of_word (List.mem_filter.mp h).2⟩
theorem in_all {w : Cond} (i : Nat) (h : lw_tbl[i]? = some w) (hg : goodWord w = true) : w ∈ ALLW := List.mem_filter.mpr ⟨List.mem_of_getElem? h, hg⟩
abbrev b_MG_init : ByteArray := prog_1_method_1_code
def y_MG_init : MethodName := ⟨R_MG, "<init>", "()V"⟩
def w_MG_init : List Cond := .code y_MG_init b_MG_init 2 (Option.none : Option Jvm.ClassFile.FieldType) :: ALLW
abbrev b_MG_manner : ByteArray := prog_1_method_2_code
def y_MG_manner : MethodName := ⟨R_MG, "manner", "(I)I"⟩
def w_MG_manner : List Cond := .code y_MG_manner b_MG_manner 3 (Option.some Jvm.ClassFile.FieldType.int) :: ALLW
abbrev b_MG_resolution : ByteArray := prog_1_method_3_code
def y_MG_resolution : MethodName := ⟨R_MG, "resolution", "(II)I"⟩
def w_MG_resolution : List Cond := .code y_MG_resolution b_MG_resolution 3 (Option.some Jvm.ClassFile.FieldType.int) :: ALLW
abbrev b_MG_node : ByteArray := prog_1_method_4_code
def y_MG_node : MethodName := ⟨R_MG, "node", "()I"⟩
def w_MG_node : List Cond := .code y_MG_node b_MG_node 2 (Option.some Jvm.ClassFile.FieldType.int) :: ALLW
abbrev b_MG_arc : ByteArray := prog_1_method_5_code
def y_MG_arc : MethodName := ⟨R_MG, "arc", "(III)I"⟩
def w_MG_arc : List Cond := .code y_MG_arc b_MG_arc 5 (Option.some Jvm.ClassFile.FieldType.int) :: ALLW
abbrev b_MG_drop : ByteArray := prog_1_method_6_code
def y_MG_drop : MethodName := ⟨R_MG, "drop", "(I)I"⟩
def w_MG_drop : List Cond := .code y_MG_drop b_MG_drop 2 (Option.some Jvm.ClassFile.FieldType.int) :: ALLW
abbrev b_MG_clear : ByteArray := prog_1_method_7_code
def y_MG_clear : MethodName := ⟨R_MG, "clear", "()I"⟩
def w_MG_clear : List Cond := .code y_MG_clear b_MG_clear 2 (Option.some Jvm.ClassFile.FieldType.int) :: ALLW
abbrev b_MG_put : ByteArray := prog_1_method_8_code
def y_MG_put : MethodName := ⟨R_MG, "put", "(II)I"⟩
def w_MG_put : List Cond := .code y_MG_put b_MG_put 3 (Option.some Jvm.ClassFile.FieldType.int) :: ALLW
abbrev b_MG_group : ByteArray := prog_1_method_9_code
def y_MG_group : MethodName := ⟨R_MG, "group", "(I)I"⟩
def w_MG_group : List Cond := .code y_MG_group b_MG_group 2 (Option.some Jvm.ClassFile.FieldType.int) :: ALLW
abbrev b_MG_value : ByteArray := prog_1_method_10_code
def y_MG_value : MethodName := ⟨R_MG, "value", "()J"⟩
def w_MG_value : List Cond := .code y_MG_value b_MG_value 1 (Option.some Jvm.ClassFile.FieldType.long) :: ALLW
abbrev b_MG_part : ByteArray := prog_1_method_11_code
def y_MG_part : MethodName := ⟨R_MG, "part", "(I)J"⟩
def w_MG_part : List Cond := .code y_MG_part b_MG_part 2 (Option.some Jvm.ClassFile.FieldType.long) :: ALLW
abbrev b_MG_move : ByteArray := prog_1_method_12_code
def y_MG_move : MethodName := ⟨R_MG, "move", "(II)J"⟩
def w_MG_move : List Cond := .code y_MG_move b_MG_move 3 (Option.some Jvm.ClassFile.FieldType.long) :: ALLW
abbrev b_MG_merge : ByteArray := prog_1_method_13_code
def y_MG_merge : MethodName := ⟨R_MG, "merge", "(II)J"⟩
def w_MG_merge : List Cond := .code y_MG_merge b_MG_merge 3 (Option.some Jvm.ClassFile.FieldType.long) :: ALLW
abbrev b_MG_rests : ByteArray := prog_1_method_14_code
def y_MG_rests : MethodName := ⟨R_MG, "rests", "()I"⟩
def w_MG_rests : List Cond := .code y_MG_rests b_MG_rests 3 (Option.some Jvm.ClassFile.FieldType.int) :: ALLW
abbrev b_MG_joined : ByteArray := prog_1_method_15_code
def y_MG_joined : MethodName := ⟨R_MG, "joined", "()I"⟩
def w_MG_joined : List Cond := .code y_MG_joined b_MG_joined 2 (Option.some Jvm.ClassFile.FieldType.int) :: ALLW
abbrev b_MG_best : ByteArray := prog_1_method_16_code
def y_MG_best : MethodName := ⟨R_MG, "best", "()I"⟩
def w_MG_best : List Cond := .code y_MG_best b_MG_best 1 (Option.some Jvm.ClassFile.FieldType.int) :: ALLW
abbrev b_MG_ties : ByteArray := prog_1_method_17_code
def y_MG_ties : MethodName := ⟨R_MG, "ties", "()I"⟩
def w_MG_ties : List Cond := .code y_MG_ties b_MG_ties 1 (Option.some Jvm.ClassFile.FieldType.int) :: ALLW
abbrev b_MG_merged : ByteArray := prog_1_method_18_code
def y_MG_merged : MethodName := ⟨R_MG, "merged", "(I)I"⟩
def w_MG_merged : List Cond := .code y_MG_merged b_MG_merged 3 (Option.some Jvm.ClassFile.FieldType.int) :: ALLW
abbrev b_MG_mergedBest : ByteArray := prog_1_method_19_code
def y_MG_mergedBest : MethodName := ⟨R_MG, "mergedBest", "()I"⟩
def w_MG_mergedBest : List Cond := .code y_MG_mergedBest b_MG_mergedBest 7 (Option.some Jvm.ClassFile.FieldType.int) :: ALLW
abbrev b_MG_labels : ByteArray := prog_1_method_20_code
def y_MG_labels : MethodName := ⟨R_MG, "labels", "(I)I"⟩
def w_MG_labels : List Cond := .code y_MG_labels b_MG_labels 3 (Option.some Jvm.ClassFile.FieldType.int) :: ALLW
abbrev b_MG_together : ByteArray := prog_1_method_21_code
def y_MG_together : MethodName := ⟨R_MG, "together", "(II)I"⟩
def w_MG_together : List Cond := .code y_MG_together b_MG_together 5 (Option.some Jvm.ClassFile.FieldType.int) :: ALLW
abbrev b_MG_plateaus : ByteArray := prog_1_method_22_code
def y_MG_plateaus : MethodName := ⟨R_MG, "plateaus", "()I"⟩
def w_MG_plateaus : List Cond := .code y_MG_plateaus b_MG_plateaus 1 (Option.some Jvm.ClassFile.FieldType.int) :: ALLW
abbrev b_MG_begins : ByteArray := prog_1_method_23_code
def y_MG_begins : MethodName := ⟨R_MG, "begins", "(II)J"⟩
def w_MG_begins : List Cond := .code y_MG_begins b_MG_begins 3 (Option.some Jvm.ClassFile.FieldType.long) :: ALLW
abbrev b_MG_plateau : ByteArray := prog_1_method_24_code
def y_MG_plateau : MethodName := ⟨R_MG, "plateau", "(I)I"⟩
def w_MG_plateau : List Cond := .code y_MG_plateau b_MG_plateau 2 (Option.some Jvm.ClassFile.FieldType.int) :: ALLW
abbrev b_MG_refresh : ByteArray := prog_1_method_25_code
def y_MG_refresh : MethodName := ⟨R_MG, "refresh", "()V"⟩
def w_MG_refresh : List Cond := .code y_MG_refresh b_MG_refresh 1 (Option.none : Option Jvm.ClassFile.FieldType) :: ALLW
abbrev b_MG_startAnew : ByteArray := prog_1_method_26_code
def y_MG_startAnew : MethodName := ⟨R_MG, "startAnew", "()V"⟩
def w_MG_startAnew : List Cond := .code y_MG_startAnew b_MG_startAnew 1 (Option.none : Option Jvm.ClassFile.FieldType) :: ALLW
abbrev b_MG_moveGain : ByteArray := prog_1_method_27_code
def y_MG_moveGain : MethodName := ⟨R_MG, "moveGain", "(II)J"⟩
def w_MG_moveGain : List Cond := .code y_MG_moveGain b_MG_moveGain 3 (Option.some Jvm.ClassFile.FieldType.long) :: ALLW
abbrev b_MG_mergeGain : ByteArray := prog_1_method_28_code
def y_MG_mergeGain : MethodName := ⟨R_MG, "mergeGain", "(II)J"⟩
def w_MG_mergeGain : List Cond := .code y_MG_mergeGain b_MG_mergeGain 5 (Option.some Jvm.ClassFile.FieldType.long) :: ALLW
abbrev b_MG_mergeOnce : ByteArray := prog_1_method_29_code
def y_MG_mergeOnce : MethodName := ⟨R_MG, "mergeOnce", "(LModularGains$Partition;)V"⟩
def w_MG_mergeOnce : List Cond := .code y_MG_mergeOnce b_MG_mergeOnce 10 (Option.none : Option Jvm.ClassFile.FieldType) :: ALLW
abbrev b_Mo_init : ByteArray := prog_10_method_1_code
def y_Mo_init : MethodName := ⟨R_Mo, "<init>", "()V"⟩
def w_Mo_init : List Cond := .code y_Mo_init b_Mo_init 1 (Option.none : Option Jvm.ClassFile.FieldType) :: ALLW
abbrev b_Mo_manner : ByteArray := prog_10_method_2_code
def y_Mo_manner : MethodName := ⟨R_Mo, "manner", "(I)I"⟩
def w_Mo_manner : List Cond := .code y_Mo_manner b_Mo_manner 3 (Option.some Jvm.ClassFile.FieldType.int) :: ALLW
abbrev b_Mo_resolution : ByteArray := prog_10_method_3_code
def y_Mo_resolution : MethodName := ⟨R_Mo, "resolution", "(II)I"⟩
def w_Mo_resolution : List Cond := .code y_Mo_resolution b_Mo_resolution 3 (Option.some Jvm.ClassFile.FieldType.int) :: ALLW
abbrev b_Mo_alone : ByteArray := prog_10_method_4_code
def y_Mo_alone : MethodName := ⟨R_Mo, "alone", "()V"⟩
def w_Mo_alone : List Cond := .code y_Mo_alone b_Mo_alone 2 (Option.none : Option Jvm.ClassFile.FieldType) :: ALLW
abbrev b_Mo_isNode : ByteArray := prog_10_method_5_code
def y_Mo_isNode : MethodName := ⟨R_Mo, "isNode", "(I)Z"⟩
def w_Mo_isNode : List Cond := .code y_Mo_isNode b_Mo_isNode 2 (Option.some Jvm.ClassFile.FieldType.boolean) :: ALLW
abbrev b_Mo_node : ByteArray := prog_10_method_6_code
def y_Mo_node : MethodName := ⟨R_Mo, "node", "()I"⟩
def w_Mo_node : List Cond := .code y_Mo_node b_Mo_node 1 (Option.some Jvm.ClassFile.FieldType.int) :: ALLW
abbrev b_Mo_arc : ByteArray := prog_10_method_7_code
def y_Mo_arc : MethodName := ⟨R_Mo, "arc", "(III)I"⟩
def w_Mo_arc : List Cond := .code y_Mo_arc b_Mo_arc 4 (Option.some Jvm.ClassFile.FieldType.int) :: ALLW
abbrev b_Mo_drop : ByteArray := prog_10_method_8_code
def y_Mo_drop : MethodName := ⟨R_Mo, "drop", "(I)I"⟩
def w_Mo_drop : List Cond := .code y_Mo_drop b_Mo_drop 2 (Option.some Jvm.ClassFile.FieldType.int) :: ALLW
abbrev b_Mo_clear : ByteArray := prog_10_method_9_code
def y_Mo_clear : MethodName := ⟨R_Mo, "clear", "()I"⟩
def w_Mo_clear : List Cond := .code y_Mo_clear b_Mo_clear 2 (Option.some Jvm.ClassFile.FieldType.int) :: ALLW
abbrev b_Mo_counts : ByteArray := prog_10_method_10_code
def y_Mo_counts : MethodName := ⟨R_Mo, "counts", "(I)Z"⟩
def w_Mo_counts : List Cond := .code y_Mo_counts b_Mo_counts 2 (Option.some Jvm.ClassFile.FieldType.boolean) :: ALLW
abbrev b_Mo_weigh : ByteArray := prog_10_method_11_code
def y_Mo_weigh : MethodName := ⟨R_Mo, "weigh", "()V"⟩
def w_Mo_weigh : List Cond := .code y_Mo_weigh b_Mo_weigh 2 (Option.none : Option Jvm.ClassFile.FieldType) :: ALLW
abbrev b_Mo_judge : ByteArray := prog_10_method_12_code
def y_Mo_judge : MethodName := ⟨R_Mo, "judge", "([I)V"⟩
def w_Mo_judge : List Cond := .code y_Mo_judge b_Mo_judge 6 (Option.none : Option Jvm.ClassFile.FieldType) :: ALLW
abbrev b_Mo_valueOf : ByteArray := prog_10_method_13_code
def y_Mo_valueOf : MethodName := ⟨R_Mo, "valueOf", "([I)J"⟩
def w_Mo_valueOf : List Cond := .code y_Mo_valueOf b_Mo_valueOf 2 (Option.some Jvm.ClassFile.FieldType.long) :: ALLW
abbrev b_Mo_number : ByteArray := prog_10_method_14_code
def y_Mo_number : MethodName := ⟨R_Mo, "number", "([I)I"⟩
def w_Mo_number : List Cond := .code y_Mo_number b_Mo_number 5 (Option.some Jvm.ClassFile.FieldType.int) :: ALLW
abbrev b_Mo_copy : ByteArray := prog_10_method_15_code
def y_Mo_copy : MethodName := ⟨R_Mo, "copy", "([I[I)V"⟩
def w_Mo_copy : List Cond := .code y_Mo_copy b_Mo_copy 4 (Option.none : Option Jvm.ClassFile.FieldType) :: ALLW
abbrev b_Mo_free : ByteArray := prog_10_method_16_code
def y_Mo_free : MethodName := ⟨R_Mo, "free", "([I)I"⟩
def w_Mo_free : List Cond := .code y_Mo_free b_Mo_free 5 (Option.some Jvm.ClassFile.FieldType.int) :: ALLW
abbrev b_Mo_moveIn : ByteArray := prog_10_method_17_code
def y_Mo_moveIn : MethodName := ⟨R_Mo, "moveIn", "([III)V"⟩
def w_Mo_moveIn : List Cond := .code y_Mo_moveIn b_Mo_moveIn 6 (Option.none : Option Jvm.ClassFile.FieldType) :: ALLW
abbrev b_Mo_put : ByteArray := prog_10_method_18_code
def y_Mo_put : MethodName := ⟨R_Mo, "put", "(II)I"⟩
def w_Mo_put : List Cond := .code y_Mo_put b_Mo_put 3 (Option.some Jvm.ClassFile.FieldType.int) :: ALLW
abbrev b_Mo_group : ByteArray := prog_10_method_19_code
def y_Mo_group : MethodName := ⟨R_Mo, "group", "(I)I"⟩
def w_Mo_group : List Cond := .code y_Mo_group b_Mo_group 2 (Option.some Jvm.ClassFile.FieldType.int) :: ALLW
abbrev b_Mo_value : ByteArray := prog_10_method_20_code
def y_Mo_value : MethodName := ⟨R_Mo, "value", "()J"⟩
def w_Mo_value : List Cond := .code y_Mo_value b_Mo_value 1 (Option.some Jvm.ClassFile.FieldType.long) :: ALLW
abbrev b_Mo_part : ByteArray := prog_10_method_21_code
def y_Mo_part : MethodName := ⟨R_Mo, "part", "(I)J"⟩
def w_Mo_part : List Cond := .code y_Mo_part b_Mo_part 2 (Option.some Jvm.ClassFile.FieldType.long) :: ALLW
abbrev b_Mo_moveGain : ByteArray := prog_10_method_22_code
def y_Mo_moveGain : MethodName := ⟨R_Mo, "moveGain", "(II)J"⟩
def w_Mo_moveGain : List Cond := .code y_Mo_moveGain b_Mo_moveGain 3 (Option.some Jvm.ClassFile.FieldType.long) :: ALLW
abbrev b_Mo_mergeGain : ByteArray := prog_10_method_23_code
def y_Mo_mergeGain : MethodName := ⟨R_Mo, "mergeGain", "(II)J"⟩
def w_Mo_mergeGain : List Cond := .code y_Mo_mergeGain b_Mo_mergeGain 3 (Option.some Jvm.ClassFile.FieldType.long) :: ALLW
abbrev b_Mo_mergeIn : ByteArray := prog_10_method_24_code
def y_Mo_mergeIn : MethodName := ⟨R_Mo, "mergeIn", "([III)V"⟩
def w_Mo_mergeIn : List Cond := .code y_Mo_mergeIn b_Mo_mergeIn 6 (Option.none : Option Jvm.ClassFile.FieldType) :: ALLW
abbrev b_Mo_move : ByteArray := prog_10_method_25_code
def y_Mo_move : MethodName := ⟨R_Mo, "move", "(II)J"⟩
def w_Mo_move : List Cond := .code y_Mo_move b_Mo_move 3 (Option.some Jvm.ClassFile.FieldType.long) :: ALLW
abbrev b_Mo_merge : ByteArray := prog_10_method_26_code
def y_Mo_merge : MethodName := ⟨R_Mo, "merge", "(II)J"⟩
def w_Mo_merge : List Cond := .code y_Mo_merge b_Mo_merge 3 (Option.some Jvm.ClassFile.FieldType.long) :: ALLW
abbrev b_Mo_rests : ByteArray := prog_10_method_27_code
def y_Mo_rests : MethodName := ⟨R_Mo, "rests", "()I"⟩
def w_Mo_rests : List Cond := .code y_Mo_rests b_Mo_rests 3 (Option.some Jvm.ClassFile.FieldType.int) :: ALLW
abbrev b_Mo_joined : ByteArray := prog_10_method_28_code
def y_Mo_joined : MethodName := ⟨R_Mo, "joined", "()I"⟩
def w_Mo_joined : List Cond := .code y_Mo_joined b_Mo_joined 7 (Option.some Jvm.ClassFile.FieldType.int) :: ALLW
abbrev b_Mo_first : ByteArray := prog_10_method_29_code
def y_Mo_first : MethodName := ⟨R_Mo, "first", "()V"⟩
def w_Mo_first : List Cond := .code y_Mo_first b_Mo_first 2 (Option.none : Option Jvm.ClassFile.FieldType) :: ALLW
abbrev b_Mo_next : ByteArray := prog_10_method_30_code
def y_Mo_next : MethodName := ⟨R_Mo, "next", "()Z"⟩
def w_Mo_next : List Cond := .code y_Mo_next b_Mo_next 4 (Option.some Jvm.ClassFile.FieldType.boolean) :: ALLW
abbrev b_Mo_findBest : ByteArray := prog_10_method_31_code
def y_Mo_findBest : MethodName := ⟨R_Mo, "findBest", "()V"⟩
def w_Mo_findBest : List Cond := .code y_Mo_findBest b_Mo_findBest 5 (Option.none : Option Jvm.ClassFile.FieldType) :: ALLW
abbrev b_Mo_best : ByteArray := prog_10_method_32_code
def y_Mo_best : MethodName := ⟨R_Mo, "best", "()I"⟩
def w_Mo_best : List Cond := .code y_Mo_best b_Mo_best 1 (Option.some Jvm.ClassFile.FieldType.int) :: ALLW
abbrev b_Mo_ties : ByteArray := prog_10_method_33_code
def y_Mo_ties : MethodName := ⟨R_Mo, "ties", "()I"⟩
def w_Mo_ties : List Cond := .code y_Mo_ties b_Mo_ties 1 (Option.some Jvm.ClassFile.FieldType.int) :: ALLW
abbrev b_Mo_mergeOnce : ByteArray := prog_10_method_34_code
def y_Mo_mergeOnce : MethodName := ⟨R_Mo, "mergeOnce", "()V"⟩
def w_Mo_mergeOnce : List Cond := .code y_Mo_mergeOnce b_Mo_mergeOnce 10 (Option.none : Option Jvm.ClassFile.FieldType) :: ALLW
abbrev b_Mo_isLeast : ByteArray := prog_10_method_35_code
def y_Mo_isLeast : MethodName := ⟨R_Mo, "isLeast", "(I)Z"⟩
def w_Mo_isLeast : List Cond := .code y_Mo_isLeast b_Mo_isLeast 3 (Option.some Jvm.ClassFile.FieldType.boolean) :: ALLW
abbrev b_Mo_beginMerging : ByteArray := prog_10_method_36_code
def y_Mo_beginMerging : MethodName := ⟨R_Mo, "beginMerging", "()V"⟩
def w_Mo_beginMerging : List Cond := .code y_Mo_beginMerging b_Mo_beginMerging 2 (Option.none : Option Jvm.ClassFile.FieldType) :: ALLW
abbrev b_Mo_merged : ByteArray := prog_10_method_37_code
def y_Mo_merged : MethodName := ⟨R_Mo, "merged", "(I)I"⟩
def w_Mo_merged : List Cond := .code y_Mo_merged b_Mo_merged 3 (Option.some Jvm.ClassFile.FieldType.int) :: ALLW
abbrev b_Mo_mergedBest : ByteArray := prog_10_method_38_code
def y_Mo_mergedBest : MethodName := ⟨R_Mo, "mergedBest", "()I"⟩
def w_Mo_mergedBest : List Cond := .code y_Mo_mergedBest b_Mo_mergedBest 7 (Option.some Jvm.ClassFile.FieldType.int) :: ALLW
abbrev b_Mo_round : ByteArray := prog_10_method_39_code
def y_Mo_round : MethodName := ⟨R_Mo, "round", "()Z"⟩
def w_Mo_round : List Cond := .code y_Mo_round b_Mo_round 5 (Option.some Jvm.ClassFile.FieldType.boolean) :: ALLW
abbrev b_Mo_wanted : ByteArray := prog_10_method_40_code
def y_Mo_wanted : MethodName := ⟨R_Mo, "wanted", "(I)I"⟩
def w_Mo_wanted : List Cond := .code y_Mo_wanted b_Mo_wanted 9 (Option.some Jvm.ClassFile.FieldType.int) :: ALLW
abbrev b_Mo_spread : ByteArray := prog_10_method_41_code
def y_Mo_spread : MethodName := ⟨R_Mo, "spread", "(I)I"⟩
def w_Mo_spread : List Cond := .code y_Mo_spread b_Mo_spread 3 (Option.some Jvm.ClassFile.FieldType.int) :: ALLW
abbrev b_Mo_labels : ByteArray := prog_10_method_42_code
def y_Mo_labels : MethodName := ⟨R_Mo, "labels", "(I)I"⟩
def w_Mo_labels : List Cond := .code y_Mo_labels b_Mo_labels 4 (Option.some Jvm.ClassFile.FieldType.int) :: ALLW
abbrev b_Mo_together : ByteArray := prog_10_method_43_code
def y_Mo_together : MethodName := ⟨R_Mo, "together", "(II)I"⟩
def w_Mo_together : List Cond := .code y_Mo_together b_Mo_together 6 (Option.some Jvm.ClassFile.FieldType.int) :: ALLW
abbrev b_Mo_show : ByteArray := prog_10_method_44_code
def y_Mo_show : MethodName := ⟨R_Mo, "show", "(I)V"⟩
def w_Mo_show : List Cond := .code y_Mo_show b_Mo_show 3 (Option.none : Option Jvm.ClassFile.FieldType) :: ALLW
abbrev b_Mo_findPlateaus : ByteArray := prog_10_method_45_code
def y_Mo_findPlateaus : MethodName := ⟨R_Mo, "findPlateaus", "()V"⟩
def w_Mo_findPlateaus : List Cond := .code y_Mo_findPlateaus b_Mo_findPlateaus 21 (Option.none : Option Jvm.ClassFile.FieldType) :: ALLW
abbrev b_Mo_plateaus : ByteArray := prog_10_method_46_code
def y_Mo_plateaus : MethodName := ⟨R_Mo, "plateaus", "()I"⟩
def w_Mo_plateaus : List Cond := .code y_Mo_plateaus b_Mo_plateaus 1 (Option.some Jvm.ClassFile.FieldType.int) :: ALLW
abbrev b_Mo_begins : ByteArray := prog_10_method_47_code
def y_Mo_begins : MethodName := ⟨R_Mo, "begins", "(II)J"⟩
def w_Mo_begins : List Cond := .code y_Mo_begins b_Mo_begins 9 (Option.some Jvm.ClassFile.FieldType.long) :: ALLW
abbrev b_Mo_plateau : ByteArray := prog_10_method_48_code
def y_Mo_plateau : MethodName := ⟨R_Mo, "plateau", "(I)I"⟩
def w_Mo_plateau : List Cond := .code y_Mo_plateau b_Mo_plateau 3 (Option.some Jvm.ClassFile.FieldType.int) :: ALLW
abbrev b_Ga_init : ByteArray := prog_2_method_1_code
def y_Ga_init : MethodName := ⟨R_Ga, "<init>", "()V"⟩
def w_Ga_init : List Cond := .code y_Ga_init b_Ga_init 1 (Option.none : Option Jvm.ClassFile.FieldType) :: ALLW
abbrev b_Ga_build : ByteArray := prog_2_method_2_code
def y_Ga_build : MethodName := ⟨R_Ga, "build", "(LModularGains$Graph;)V"⟩
def w_Ga_build : List Cond := .code y_Ga_build b_Ga_build 5 (Option.none : Option Jvm.ClassFile.FieldType) :: ALLW
abbrev b_Ga_forgetLinks : ByteArray := prog_2_method_3_code
def y_Ga_forgetLinks : MethodName := ⟨R_Ga, "forgetLinks", "()V"⟩
def w_Ga_forgetLinks : List Cond := .code y_Ga_forgetLinks b_Ga_forgetLinks 2 (Option.none : Option Jvm.ClassFile.FieldType) :: ALLW
abbrev b_Ga_addLink : ByteArray := prog_2_method_4_code
def y_Ga_addLink : MethodName := ⟨R_Ga, "addLink", "(III)V"⟩
def w_Ga_addLink : List Cond := .code y_Ga_addLink b_Ga_addLink 4 (Option.none : Option Jvm.ClassFile.FieldType) :: ALLW
abbrev b_Ga_pairByWeights : ByteArray := prog_2_method_5_code
def y_Ga_pairByWeights : MethodName := ⟨R_Ga, "pairByWeights", "(J)V"⟩
def w_Ga_pairByWeights : List Cond := .code y_Ga_pairByWeights b_Ga_pairByWeights 5 (Option.none : Option Jvm.ClassFile.FieldType) :: ALLW
abbrev b_Ga_pairByNumbers : ByteArray := prog_2_method_6_code
def y_Ga_pairByNumbers : MethodName := ⟨R_Ga, "pairByNumbers", "()V"⟩
def w_Ga_pairByNumbers : List Cond := .code y_Ga_pairByNumbers b_Ga_pairByNumbers 3 (Option.none : Option Jvm.ClassFile.FieldType) :: ALLW
abbrev b_Ga_worth : ByteArray := prog_2_method_7_code
def y_Ga_worth : MethodName := ⟨R_Ga, "worth", "(JJ)J"⟩
def w_Ga_worth : List Cond := .code y_Ga_worth b_Ga_worth 5 (Option.some Jvm.ClassFile.FieldType.long) :: ALLW
abbrev b_Ga_worthOf : ByteArray := prog_2_method_8_code
def y_Ga_worthOf : MethodName := ⟨R_Ga, "worthOf", "(LModularGains$Partition;)J"⟩
def w_Ga_worthOf : List Cond := .code y_Ga_worthOf b_Ga_worthOf 2 (Option.some Jvm.ClassFile.FieldType.long) :: ALLW
abbrev b_Ga_sumA : ByteArray := prog_2_method_9_code
def y_Ga_sumA : MethodName := ⟨R_Ga, "sumA", "(LModularGains$Partition;)J"⟩
def w_Ga_sumA : List Cond := .code y_Ga_sumA b_Ga_sumA 2 (Option.some Jvm.ClassFile.FieldType.long) :: ALLW
abbrev b_Ga_sumB : ByteArray := prog_2_method_10_code
def y_Ga_sumB : MethodName := ⟨R_Ga, "sumB", "(LModularGains$Partition;)J"⟩
def w_Ga_sumB : List Cond := .code y_Ga_sumB b_Ga_sumB 2 (Option.some Jvm.ClassFile.FieldType.long) :: ALLW
abbrev b_Ga_sumWithin : ByteArray := prog_2_method_11_code
def y_Ga_sumWithin : MethodName := ⟨R_Ga, "sumWithin", "([[JLModularGains$Partition;)J"⟩
def w_Ga_sumWithin : List Cond := .code y_Ga_sumWithin b_Ga_sumWithin 7 (Option.some Jvm.ClassFile.FieldType.long) :: ALLW
abbrev b_Ga_between : ByteArray := prog_2_method_12_code
def y_Ga_between : MethodName := ⟨R_Ga, "between", "(LModularGains$Partition;II)J"⟩
def w_Ga_between : List Cond := .code y_Ga_between b_Ga_between 8 (Option.some Jvm.ClassFile.FieldType.long) :: ALLW
abbrev b_Ga_hangTogether : ByteArray := prog_2_method_13_code
def y_Ga_hangTogether : MethodName := ⟨R_Ga, "hangTogether", "(I)Z"⟩
def w_Ga_hangTogether : List Cond := .code y_Ga_hangTogether b_Ga_hangTogether 5 (Option.some Jvm.ClassFile.FieldType.boolean) :: ALLW
abbrev b_Gr_init : ByteArray := prog_3_method_1_code
def y_Gr_init : MethodName := ⟨R_Gr, "<init>", "()V"⟩
def w_Gr_init : List Cond := .code y_Gr_init b_Gr_init 1 (Option.none : Option Jvm.ClassFile.FieldType) :: ALLW
abbrev b_Gr_hasNode : ByteArray := prog_3_method_2_code
def y_Gr_hasNode : MethodName := ⟨R_Gr, "hasNode", "(I)Z"⟩
def w_Gr_hasNode : List Cond := .code y_Gr_hasNode b_Gr_hasNode 2 (Option.some Jvm.ClassFile.FieldType.boolean) :: ALLW
abbrev b_Gr_hasNodes : ByteArray := prog_3_method_3_code
def y_Gr_hasNodes : MethodName := ⟨R_Gr, "hasNodes", "(II)Z"⟩
def w_Gr_hasNodes : List Cond := .code y_Gr_hasNodes b_Gr_hasNodes 3 (Option.some Jvm.ClassFile.FieldType.boolean) :: ALLW
abbrev b_Gr_hasArc : ByteArray := prog_3_method_4_code
def y_Gr_hasArc : MethodName := ⟨R_Gr, "hasArc", "(I)Z"⟩
def w_Gr_hasArc : List Cond := .code y_Gr_hasArc b_Gr_hasArc 2 (Option.some Jvm.ClassFile.FieldType.boolean) :: ALLW
abbrev b_Gr_counts : ByteArray := prog_3_method_5_code
def y_Gr_counts : MethodName := ⟨R_Gr, "counts", "(I)Z"⟩
def w_Gr_counts : List Cond := .code y_Gr_counts b_Gr_counts 2 (Option.some Jvm.ClassFile.FieldType.boolean) :: ALLW
abbrev b_Gr_addArc : ByteArray := prog_3_method_6_code
def y_Gr_addArc : MethodName := ⟨R_Gr, "addArc", "(III)I"⟩
def w_Gr_addArc : List Cond := .code y_Gr_addArc b_Gr_addArc 5 (Option.some Jvm.ClassFile.FieldType.int) :: ALLW
abbrev b_Gr_countArcs : ByteArray := prog_3_method_7_code
def y_Gr_countArcs : MethodName := ⟨R_Gr, "countArcs", "()I"⟩
def w_Gr_countArcs : List Cond := .code y_Gr_countArcs b_Gr_countArcs 3 (Option.some Jvm.ClassFile.FieldType.int) :: ALLW
abbrev b_Pa_init : ByteArray := prog_4_method_1_code
def y_Pa_init : MethodName := ⟨R_Pa, "<init>", "()V"⟩
def w_Pa_init : List Cond := .code y_Pa_init b_Pa_init 1 (Option.none : Option Jvm.ClassFile.FieldType) :: ALLW
abbrev b_Pa_separate : ByteArray := prog_4_method_2_code
def y_Pa_separate : MethodName := ⟨R_Pa, "separate", "(I)V"⟩
def w_Pa_separate : List Cond := .code y_Pa_separate b_Pa_separate 3 (Option.none : Option Jvm.ClassFile.FieldType) :: ALLW
abbrev b_Pa_copy : ByteArray := prog_4_method_3_code
def y_Pa_copy : MethodName := ⟨R_Pa, "copy", "(LModularGains$Partition;)V"⟩
def w_Pa_copy : List Cond := .code y_Pa_copy b_Pa_copy 2 (Option.none : Option Jvm.ClassFile.FieldType) :: ALLW
abbrev b_Pa_take : ByteArray := prog_4_method_4_code
def y_Pa_take : MethodName := ⟨R_Pa, "take", "([II)V"⟩
def w_Pa_take : List Cond := .code y_Pa_take b_Pa_take 4 (Option.none : Option Jvm.ClassFile.FieldType) :: ALLW
abbrev b_Pa_decode : ByteArray := prog_4_method_5_code
def y_Pa_decode : MethodName := ⟨R_Pa, "decode", "(JI)V"⟩
def w_Pa_decode : List Cond := .code y_Pa_decode b_Pa_decode 5 (Option.none : Option Jvm.ClassFile.FieldType) :: ALLW
abbrev b_Pa_shift : ByteArray := prog_4_method_6_code
def y_Pa_shift : MethodName := ⟨R_Pa, "shift", "(II)V"⟩
def w_Pa_shift : List Cond := .code y_Pa_shift b_Pa_shift 3 (Option.none : Option Jvm.ClassFile.FieldType) :: ALLW
abbrev b_Pa_unite : ByteArray := prog_4_method_7_code
def y_Pa_unite : MethodName := ⟨R_Pa, "unite", "(II)V"⟩
def w_Pa_unite : List Cond := .code y_Pa_unite b_Pa_unite 4 (Option.none : Option Jvm.ClassFile.FieldType) :: ALLW
abbrev b_Pa_membersOf : ByteArray := prog_4_method_8_code
def y_Pa_membersOf : MethodName := ⟨R_Pa, "membersOf", "(I)I"⟩
def w_Pa_membersOf : List Cond := .code y_Pa_membersOf b_Pa_membersOf 4 (Option.some Jvm.ClassFile.FieldType.int) :: ALLW
abbrev b_Pa_renumber : ByteArray := prog_4_method_9_code
def y_Pa_renumber : MethodName := ⟨R_Pa, "renumber", "()V"⟩
def w_Pa_renumber : List Cond := .code y_Pa_renumber b_Pa_renumber 3 (Option.none : Option Jvm.ClassFile.FieldType) :: ALLW
abbrev b_Pe_init : ByteArray := prog_5_method_1_code
def y_Pe_init : MethodName := ⟨R_Pe, "<init>", "(LModularGains$Gains;LModularGains$Walk;)V"⟩
def w_Pe_init : List Cond := .code y_Pe_init b_Pe_init 3 (Option.none : Option Jvm.ClassFile.FieldType) :: ALLW
abbrev b_Pe_search : ByteArray := prog_5_method_2_code
def y_Pe_search : MethodName := ⟨R_Pe, "search", "()V"⟩
def w_Pe_search : List Cond := .code y_Pe_search b_Pe_search 7 (Option.none : Option Jvm.ClassFile.FieldType) :: ALLW
abbrev b_Sp_init : ByteArray := prog_6_method_1_code
def y_Sp_init : MethodName := ⟨R_Sp, "<init>", "(LModularGains$Gains;)V"⟩
def w_Sp_init : List Cond := .code y_Sp_init b_Sp_init 2 (Option.none : Option Jvm.ClassFile.FieldType) :: ALLW
abbrev b_Sp_run : ByteArray := prog_6_method_2_code
def y_Sp_run : MethodName := ⟨R_Sp, "run", "(I)I"⟩
def w_Sp_run : List Cond := .code y_Sp_run b_Sp_run 5 (Option.some Jvm.ClassFile.FieldType.int) :: ALLW
abbrev b_Sp_drawOrder : ByteArray := prog_6_method_3_code
def y_Sp_drawOrder : MethodName := ⟨R_Sp, "drawOrder", "()V"⟩
def w_Sp_drawOrder : List Cond := .code y_Sp_drawOrder b_Sp_drawOrder 4 (Option.none : Option Jvm.ClassFile.FieldType) :: ALLW
abbrev b_Sp_relabelAll : ByteArray := prog_6_method_4_code
def y_Sp_relabelAll : MethodName := ⟨R_Sp, "relabelAll", "()Z"⟩
def w_Sp_relabelAll : List Cond := .code y_Sp_relabelAll b_Sp_relabelAll 5 (Option.some Jvm.ClassFile.FieldType.boolean) :: ALLW
abbrev b_Sp_strongestLabel : ByteArray := prog_6_method_5_code
def y_Sp_strongestLabel : MethodName := ⟨R_Sp, "strongestLabel", "(I)I"⟩
def w_Sp_strongestLabel : List Cond := .code y_Sp_strongestLabel b_Sp_strongestLabel 8 (Option.some Jvm.ClassFile.FieldType.int) :: ALLW
abbrev b_Sp_bearersOf : ByteArray := prog_6_method_6_code
def y_Sp_bearersOf : MethodName := ⟨R_Sp, "bearersOf", "(I)I"⟩
def w_Sp_bearersOf : List Cond := .code y_Sp_bearersOf b_Sp_bearersOf 4 (Option.some Jvm.ClassFile.FieldType.int) :: ALLW
abbrev b_Sp_weightTo : ByteArray := prog_6_method_7_code
def y_Sp_weightTo : MethodName := ⟨R_Sp, "weightTo", "(II)I"⟩
def w_Sp_weightTo : List Cond := .code y_Sp_weightTo b_Sp_weightTo 5 (Option.some Jvm.ClassFile.FieldType.int) :: ALLW
abbrev b_St_init : ByteArray := prog_7_method_1_code
def y_St_init : MethodName := ⟨R_St, "<init>", "(LModularGains$Walk;)V"⟩
def w_St_init : List Cond := .code y_St_init b_St_init 2 (Option.none : Option Jvm.ClassFile.FieldType) :: ALLW
abbrev b_St_forget : ByteArray := prog_7_method_2_code
def y_St_forget : MethodName := ⟨R_St, "forget", "()V"⟩
def w_St_forget : List Cond := .code y_St_forget b_St_forget 1 (Option.none : Option Jvm.ClassFile.FieldType) :: ALLW
abbrev b_St_has : ByteArray := prog_7_method_3_code
def y_St_has : MethodName := ⟨R_St, "has", "(I)Z"⟩
def w_St_has : List Cond := .code y_St_has b_St_has 2 (Option.some Jvm.ClassFile.FieldType.boolean) :: ALLW
abbrev b_St_find : ByteArray := prog_7_method_4_code
def y_St_find : MethodName := ⟨R_St, "find", "()V"⟩
def w_St_find : List Cond := .code y_St_find b_St_find 2 (Option.none : Option Jvm.ClassFile.FieldType) :: ALLW
abbrev b_St_scan : ByteArray := prog_7_method_5_code
def y_St_scan : MethodName := ⟨R_St, "scan", "()V"⟩
def w_St_scan : List Cond := .code y_St_scan b_St_scan 7 (Option.none : Option Jvm.ClassFile.FieldType) :: ALLW
abbrev b_St_standsHigher : ByteArray := prog_7_method_6_code
def y_St_standsHigher : MethodName := ⟨R_St, "standsHigher", "(JJ)Z"⟩
def w_St_standsHigher : List Cond := .code y_St_standsHigher b_St_standsHigher 5 (Option.some Jvm.ClassFile.FieldType.boolean) :: ALLW
abbrev b_St_comesSooner : ByteArray := prog_7_method_7_code
def y_St_comesSooner : MethodName := ⟨R_St, "comesSooner", "(JJ)Z"⟩
def w_St_comesSooner : List Cond := .code y_St_comesSooner b_St_comesSooner 9 (Option.some Jvm.ClassFile.FieldType.boolean) :: ALLW
abbrev b_St_note : ByteArray := prog_7_method_8_code
def y_St_note : MethodName := ⟨R_St, "note", "(JJ)V"⟩
def w_St_note : List Cond := .code y_St_note b_St_note 5 (Option.none : Option Jvm.ClassFile.FieldType) :: ALLW
abbrev b_St_keep : ByteArray := prog_7_method_9_code
def y_St_keep : MethodName := ⟨R_St, "keep", "(JJ)V"⟩
def w_St_keep : List Cond := .code y_St_keep b_St_keep 7 (Option.none : Option Jvm.ClassFile.FieldType) :: ALLW
abbrev b_St_makeRoom : ByteArray := prog_7_method_10_code
def y_St_makeRoom : MethodName := ⟨R_St, "makeRoom", "()V"⟩
def w_St_makeRoom : List Cond := .code y_St_makeRoom b_St_makeRoom 2 (Option.none : Option Jvm.ClassFile.FieldType) :: ALLW
abbrev b_St_commonDivisor : ByteArray := prog_7_method_11_code
def y_St_commonDivisor : MethodName := ⟨R_St, "commonDivisor", "(JJ)J"⟩
def w_St_commonDivisor : List Cond := .code y_St_commonDivisor b_St_commonDivisor 11 (Option.some Jvm.ClassFile.FieldType.long) :: ALLW
abbrev b_Wa_init : ByteArray := prog_8_method_1_code
def y_Wa_init : MethodName := ⟨R_Wa, "<init>", "(LModularGains$Gains;)V"⟩
def w_Wa_init : List Cond := .code y_Wa_init b_Wa_init 2 (Option.none : Option Jvm.ClassFile.FieldType) :: ALLW
abbrev b_Wa_start : ByteArray := prog_8_method_2_code
def y_Wa_start : MethodName := ⟨R_Wa, "start", "()V"⟩
def w_Wa_start : List Cond := .code y_Wa_start b_Wa_start 1 (Option.none : Option Jvm.ClassFile.FieldType) :: ALLW
abbrev b_Wa_step : ByteArray := prog_8_method_3_code
def y_Wa_step : MethodName := ⟨R_Wa, "step", "()Z"⟩
def w_Wa_step : List Cond := .code y_Wa_step b_Wa_step 2 (Option.some Jvm.ClassFile.FieldType.boolean) :: ALLW
abbrev b_Wa_enterFrom : ByteArray := prog_8_method_4_code
def y_Wa_enterFrom : MethodName := ⟨R_Wa, "enterFrom", "(I)V"⟩
def w_Wa_enterFrom : List Cond := .code y_Wa_enterFrom b_Wa_enterFrom 3 (Option.none : Option Jvm.ClassFile.FieldType) :: ALLW
abbrev b_Wa_weigh : ByteArray := prog_8_method_5_code
def y_Wa_weigh : MethodName := ⟨R_Wa, "weigh", "(I)V"⟩
def w_Wa_weigh : List Cond := .code y_Wa_weigh b_Wa_weigh 5 (Option.none : Option Jvm.ClassFile.FieldType) :: ALLW
abbrev b_Wa_settle : ByteArray := prog_8_method_6_code
def y_Wa_settle : MethodName := ⟨R_Wa, "settle", "(I)V"⟩
def w_Wa_settle : List Cond := .code y_Wa_settle b_Wa_settle 3 (Option.none : Option Jvm.ClassFile.FieldType) :: ALLW
abbrev b_Wa_a : ByteArray := prog_8_method_7_code
def y_Wa_a : MethodName := ⟨R_Wa, "a", "()J"⟩
def w_Wa_a : List Cond := .code y_Wa_a b_Wa_a 1 (Option.some Jvm.ClassFile.FieldType.long) :: ALLW
abbrev b_Wa_b : ByteArray := prog_8_method_8_code
def y_Wa_b : MethodName := ⟨R_Wa, "b", "()J"⟩
def w_Wa_b : List Cond := .code y_Wa_b b_Wa_b 1 (Option.some Jvm.ClassFile.FieldType.long) :: ALLW
abbrev b_Wa_code : ByteArray := prog_8_method_9_code
def y_Wa_code : MethodName := ⟨R_Wa, "code", "()J"⟩
def w_Wa_code : List Cond := .code y_Wa_code b_Wa_code 4 (Option.some Jvm.ClassFile.FieldType.long) :: ALLW
abbrev b_Wa_groupIn : ByteArray := prog_8_method_10_code
def y_Wa_groupIn : MethodName := ⟨R_Wa, "groupIn", "(JI)I"⟩
def w_Wa_groupIn : List Cond := .code y_Wa_groupIn b_Wa_groupIn 3 (Option.some Jvm.ClassFile.FieldType.int) :: ALLW
abbrev b_Ma_abs : ByteArray := prog_12_method_61_code
def y_Ma_abs : MethodName := ⟨R_Ma, "abs", "(J)J"⟩
def w_Ma_abs : List Cond := .code y_Ma_abs b_Ma_abs 2 (Option.some Jvm.ClassFile.FieldType.long) :: ALLW
abbrev b_Ma_max : ByteArray := prog_12_method_65_code
def y_Ma_max : MethodName := ⟨R_Ma, "max", "(II)I"⟩
def w_Ma_max : List Cond := .code y_Ma_max b_Ma_max 2 (Option.some Jvm.ClassFile.FieldType.int) :: ALLW
abbrev b_Ma_min : ByteArray := prog_12_method_69_code
def y_Ma_min : MethodName := ⟨R_Ma, "min", "(II)I"⟩
def w_Ma_min : List Cond := .code y_Ma_min b_Ma_min 2 (Option.some Jvm.ClassFile.FieldType.int) :: ALLW
abbrev b_Ar_copyOf_AJI : ByteArray := prog_14_method_124_code
def y_Ar_copyOf_AJI : MethodName := ⟨R_Ar, "copyOf", "([JI)[J"⟩
def w_Ar_copyOf_AJI : List Cond := .code y_Ar_copyOf_AJI b_Ar_copyOf_AJI 3 (Option.some (Jvm.ClassFile.FieldType.array Jvm.ClassFile.FieldType.long)) :: ALLW
abbrev b_Ar_fill_AII : ByteArray := prog_14_method_103_code
def y_Ar_fill_AII : MethodName := ⟨R_Ar, "fill", "([II)V"⟩
def w_Ar_fill_AII : List Cond := .code y_Ar_fill_AII b_Ar_fill_AII 4 (Option.none : Option Jvm.ClassFile.FieldType) :: ALLW
abbrev b_Ar_fill_AJJ : ByteArray := prog_14_method_101_code
def y_Ar_fill_AJJ : MethodName := ⟨R_Ar, "fill", "([JJ)V"⟩
def w_Ar_fill_AJJ : List Cond := .code y_Ar_fill_AJJ b_Ar_fill_AJJ 5 (Option.none : Option Jvm.ClassFile.FieldType) :: ALLW
