section
-- ===== PART A: goes FIRST, ahead of the names: the tables' words, and 'selects' of the private methods out of them =====
/-- a private method of a class that the tables say can be made, by its rows of tables_1 -/
def lw_okq (q : MethodName × Nat) : Prop := (q.1.cls ≠ "java/lang/invoke/MethodHandle" ∧ q.1.cls ≠ "java/lang/invoke/VarHandle") ∧ Cond.instantiable q.1.cls q.2 ∈ tables_1 ∧ Cond.privateMethod q.1 ∈ tables_1 ∧ Cond.instanceMethod q.1 ∈ tables_1
theorem lw_p0 : lw_okq (⟨"FairRates", "refuse", "(I)I"⟩, 11) := ⟨⟨by decide +kernel, by decide +kernel⟩, List.mem_of_getElem? (i := 15) (by decide +kernel), List.mem_of_getElem? (i := 231) (by decide +kernel), List.mem_of_getElem? (i := 232) (by decide +kernel)⟩
theorem lw_p1 : lw_okq (⟨"FairRates$Post", "forgetFlow", "(I)V"⟩, 16) := ⟨⟨by decide +kernel, by decide +kernel⟩, List.mem_of_getElem? (i := 23) (by decide +kernel), List.mem_of_getElem? (i := 306) (by decide +kernel), List.mem_of_getElem? (i := 307) (by decide +kernel)⟩
theorem lw_p2 : lw_okq (⟨"FairRates$Post", "forgetAt", "(II)V"⟩, 16) := ⟨⟨by decide +kernel, by decide +kernel⟩, List.mem_of_getElem? (i := 23) (by decide +kernel), List.mem_of_getElem? (i := 310) (by decide +kernel), List.mem_of_getElem? (i := 311) (by decide +kernel)⟩
theorem lw_p3 : lw_okq (⟨"FairRates", "whyNotRoute", "(II)I"⟩, 11) := ⟨⟨by decide +kernel, by decide +kernel⟩, List.mem_of_getElem? (i := 15) (by decide +kernel), List.mem_of_getElem? (i := 347) (by decide +kernel), List.mem_of_getElem? (i := 348) (by decide +kernel)⟩
theorem lw_p4 : lw_okq (⟨"FairRates$Post", "lowestFrom", "(II)I"⟩, 16) := ⟨⟨by decide +kernel, by decide +kernel⟩, List.mem_of_getElem? (i := 23) (by decide +kernel), List.mem_of_getElem? (i := 369) (by decide +kernel), List.mem_of_getElem? (i := 370) (by decide +kernel)⟩
theorem lw_p5 : lw_okq (⟨"FairRates$Plan", "byWeight", "(II)I"⟩, 9) := ⟨⟨by decide +kernel, by decide +kernel⟩, List.mem_of_getElem? (i := 29) (by decide +kernel), List.mem_of_getElem? (i := 377) (by decide +kernel), List.mem_of_getElem? (i := 378) (by decide +kernel)⟩
theorem lw_p6 : lw_okq (⟨"FairRates$Post", "arriveForth", "(II)I"⟩, 16) := ⟨⟨by decide +kernel, by decide +kernel⟩, List.mem_of_getElem? (i := 23) (by decide +kernel), List.mem_of_getElem? (i := 382) (by decide +kernel), List.mem_of_getElem? (i := 383) (by decide +kernel)⟩
theorem lw_p7 : lw_okq (⟨"FairRates$Post", "tellAhead", "(III)V"⟩, 16) := ⟨⟨by decide +kernel, by decide +kernel⟩, List.mem_of_getElem? (i := 23) (by decide +kernel), List.mem_of_getElem? (i := 386) (by decide +kernel), List.mem_of_getElem? (i := 387) (by decide +kernel)⟩
theorem lw_p8 : lw_okq (⟨"FairRates$Post", "isLostAt", "(I)Z"⟩, 16) := ⟨⟨by decide +kernel, by decide +kernel⟩, List.mem_of_getElem? (i := 23) (by decide +kernel), List.mem_of_getElem? (i := 390) (by decide +kernel), List.mem_of_getElem? (i := 391) (by decide +kernel)⟩
theorem lw_p9 : lw_okq (⟨"FairRates$Post", "tell", "(II)V"⟩, 16) := ⟨⟨by decide +kernel, by decide +kernel⟩, List.mem_of_getElem? (i := 23) (by decide +kernel), List.mem_of_getElem? (i := 418) (by decide +kernel), List.mem_of_getElem? (i := 419) (by decide +kernel)⟩
theorem lw_p10 : lw_okq (⟨"FairRates$Post", "arriveBack", "(II)I"⟩, 16) := ⟨⟨by decide +kernel, by decide +kernel⟩, List.mem_of_getElem? (i := 23) (by decide +kernel), List.mem_of_getElem? (i := 422) (by decide +kernel), List.mem_of_getElem? (i := 423) (by decide +kernel)⟩
theorem lw_p11 : lw_okq (⟨"FairRates$Post", "tellBehind", "(III)V"⟩, 16) := ⟨⟨by decide +kernel, by decide +kernel⟩, List.mem_of_getElem? (i := 23) (by decide +kernel), List.mem_of_getElem? (i := 426) (by decide +kernel), List.mem_of_getElem? (i := 427) (by decide +kernel)⟩
theorem lw_p12 : lw_okq (⟨"FairRates$Post", "highestBelow", "(II)I"⟩, 16) := ⟨⟨by decide +kernel, by decide +kernel⟩, List.mem_of_getElem? (i := 23) (by decide +kernel), List.mem_of_getElem? (i := 430) (by decide +kernel), List.mem_of_getElem? (i := 431) (by decide +kernel)⟩
theorem lw_p13 : lw_okq (⟨"FairRates$Water", "nextSurface", "(I)I"⟩, 10) := ⟨⟨by decide +kernel, by decide +kernel⟩, List.mem_of_getElem? (i := 142) (by decide +kernel), List.mem_of_getElem? (i := 499) (by decide +kernel), List.mem_of_getElem? (i := 500) (by decide +kernel)⟩
theorem lw_p14 : lw_okq (⟨"FairRates$Water", "linksAt", "(I)I"⟩, 10) := ⟨⟨by decide +kernel, by decide +kernel⟩, List.mem_of_getElem? (i := 142) (by decide +kernel), List.mem_of_getElem? (i := 506) (by decide +kernel), List.mem_of_getElem? (i := 507) (by decide +kernel)⟩
theorem lw_p15 : lw_okq (⟨"FairRates$Water", "fixedBy", "(III)I"⟩, 10) := ⟨⟨by decide +kernel, by decide +kernel⟩, List.mem_of_getElem? (i := 142) (by decide +kernel), List.mem_of_getElem? (i := 510) (by decide +kernel), List.mem_of_getElem? (i := 511) (by decide +kernel)⟩
def lw_privs_1 : List (MethodName × Nat) := [(⟨"FairRates", "refuse", "(I)I"⟩, 11), (⟨"FairRates$Post", "forgetFlow", "(I)V"⟩, 16), (⟨"FairRates$Post", "forgetAt", "(II)V"⟩, 16), (⟨"FairRates", "whyNotRoute", "(II)I"⟩, 11), (⟨"FairRates$Post", "lowestFrom", "(II)I"⟩, 16), (⟨"FairRates$Plan", "byWeight", "(II)I"⟩, 9), (⟨"FairRates$Post", "arriveForth", "(II)I"⟩, 16), (⟨"FairRates$Post", "tellAhead", "(III)V"⟩, 16), (⟨"FairRates$Post", "isLostAt", "(I)Z"⟩, 16), (⟨"FairRates$Post", "tell", "(II)V"⟩, 16), (⟨"FairRates$Post", "arriveBack", "(II)I"⟩, 16), (⟨"FairRates$Post", "tellBehind", "(III)V"⟩, 16), (⟨"FairRates$Post", "highestBelow", "(II)I"⟩, 16), (⟨"FairRates$Water", "nextSurface", "(I)I"⟩, 10), (⟨"FairRates$Water", "linksAt", "(I)I"⟩, 10), (⟨"FairRates$Water", "fixedBy", "(III)I"⟩, 10)]
theorem lw_r1 : ∀ q ∈ lw_privs_1, lw_okq q := List.forall_mem_cons.mpr ⟨lw_p0, List.forall_mem_cons.mpr ⟨lw_p1, List.forall_mem_cons.mpr ⟨lw_p2, List.forall_mem_cons.mpr ⟨lw_p3, List.forall_mem_cons.mpr ⟨lw_p4, List.forall_mem_cons.mpr ⟨lw_p5, List.forall_mem_cons.mpr ⟨lw_p6, List.forall_mem_cons.mpr ⟨lw_p7, List.forall_mem_cons.mpr ⟨lw_p8, List.forall_mem_cons.mpr ⟨lw_p9, List.forall_mem_cons.mpr ⟨lw_p10, List.forall_mem_cons.mpr ⟨lw_p11, List.forall_mem_cons.mpr ⟨lw_p12, List.forall_mem_cons.mpr ⟨lw_p13, List.forall_mem_cons.mpr ⟨lw_p14, List.forall_mem_cons.mpr ⟨lw_p15, fun _ h => absurd h List.not_mem_nil⟩⟩⟩⟩⟩⟩⟩⟩⟩⟩⟩⟩⟩⟩⟩⟩
theorem lw_p16 : lw_okq (⟨"FairRates$Water", "fix", "(II)V"⟩, 10) := ⟨⟨by decide +kernel, by decide +kernel⟩, List.mem_of_getElem? (i := 142) (by decide +kernel), List.mem_of_getElem? (i := 514) (by decide +kernel), List.mem_of_getElem? (i := 515) (by decide +kernel)⟩
theorem lw_p17 : lw_okq (⟨"FairRates$Post", "markBelow", "(II)Z"⟩, 16) := ⟨⟨by decide +kernel, by decide +kernel⟩, List.mem_of_getElem? (i := 23) (by decide +kernel), List.mem_of_getElem? (i := 601) (by decide +kernel), List.mem_of_getElem? (i := 602) (by decide +kernel)⟩
theorem lw_p18 : lw_okq (⟨"FairRates", "farFromFair", "(LFairRates$Post;)J"⟩, 11) := ⟨⟨by decide +kernel, by decide +kernel⟩, List.mem_of_getElem? (i := 15) (by decide +kernel), List.mem_of_getElem? (i := 636) (by decide +kernel), List.mem_of_getElem? (i := 637) (by decide +kernel)⟩
theorem lw_p19 : lw_okq (⟨"FairRates", "newSheet", "()LFairRates$Plan;"⟩, 11) := ⟨⟨by decide +kernel, by decide +kernel⟩, List.mem_of_getElem? (i := 15) (by decide +kernel), List.mem_of_getElem? (i := 665) (by decide +kernel), List.mem_of_getElem? (i := 666) (by decide +kernel)⟩
theorem lw_p20 : lw_okq (⟨"FairRates", "otherLevels", "()I"⟩, 11) := ⟨⟨by decide +kernel, by decide +kernel⟩, List.mem_of_getElem? (i := 15) (by decide +kernel), List.mem_of_getElem? (i := 693) (by decide +kernel), List.mem_of_getElem? (i := 694) (by decide +kernel)⟩
theorem lw_p21 : lw_okq (⟨"FairRates", "widen", "(II)V"⟩, 11) := ⟨⟨by decide +kernel, by decide +kernel⟩, List.mem_of_getElem? (i := 15) (by decide +kernel), List.mem_of_getElem? (i := 706) (by decide +kernel), List.mem_of_getElem? (i := 707) (by decide +kernel)⟩
theorem lw_p22 : lw_okq (⟨"FairRates", "blow", "(I)I"⟩, 11) := ⟨⟨by decide +kernel, by decide +kernel⟩, List.mem_of_getElem? (i := 15) (by decide +kernel), List.mem_of_getElem? (i := 722) (by decide +kernel), List.mem_of_getElem? (i := 723) (by decide +kernel)⟩
theorem lw_p23 : lw_okq (⟨"FairRates", "someoneComes", "(I)I"⟩, 11) := ⟨⟨by decide +kernel, by decide +kernel⟩, List.mem_of_getElem? (i := 15) (by decide +kernel), List.mem_of_getElem? (i := 730) (by decide +kernel), List.mem_of_getElem? (i := 731) (by decide +kernel)⟩
theorem lw_p24 : lw_okq (⟨"FairRates", "someoneGoes", "(I)I"⟩, 11) := ⟨⟨by decide +kernel, by decide +kernel⟩, List.mem_of_getElem? (i := 15) (by decide +kernel), List.mem_of_getElem? (i := 734) (by decide +kernel), List.mem_of_getElem? (i := 735) (by decide +kernel)⟩
theorem lw_p25 : lw_okq (⟨"java/lang/Throwable", "fillInStackTrace", "(I)Ljava/lang/Throwable;"⟩, 6) := ⟨⟨by decide +kernel, by decide +kernel⟩, List.mem_of_getElem? (i := 803) (by decide +kernel), List.mem_of_getElem? (i := 801) (by decide +kernel), List.mem_of_getElem? (i := 802) (by decide +kernel)⟩
theorem lw_p26 : lw_okq (⟨"FairRatesModel", "refuse", "(I)I"⟩, 18) := ⟨⟨by decide +kernel, by decide +kernel⟩, List.mem_of_getElem? (i := 850) (by decide +kernel), List.mem_of_getElem? (i := 939) (by decide +kernel), List.mem_of_getElem? (i := 940) (by decide +kernel)⟩
theorem lw_p27 : lw_okq (⟨"FairRatesModel", "bound", "(I)I"⟩, 18) := ⟨⟨by decide +kernel, by decide +kernel⟩, List.mem_of_getElem? (i := 850) (by decide +kernel), List.mem_of_getElem? (i := 943) (by decide +kernel), List.mem_of_getElem? (i := 944) (by decide +kernel)⟩
theorem lw_p28 : lw_okq (⟨"FairRatesModel", "goesOver", "(II)Z"⟩, 18) := ⟨⟨by decide +kernel, by decide +kernel⟩, List.mem_of_getElem? (i := 850) (by decide +kernel), List.mem_of_getElem? (i := 947) (by decide +kernel), List.mem_of_getElem? (i := 948) (by decide +kernel)⟩
theorem lw_p29 : lw_okq (⟨"FairRatesModel", "whyNot", "(IIII)I"⟩, 18) := ⟨⟨by decide +kernel, by decide +kernel⟩, List.mem_of_getElem? (i := 850) (by decide +kernel), List.mem_of_getElem? (i := 958) (by decide +kernel), List.mem_of_getElem? (i := 959) (by decide +kernel)⟩
theorem lw_p30 : lw_okq (⟨"FairRatesModel", "freeNumber", "()I"⟩, 18) := ⟨⟨by decide +kernel, by decide +kernel⟩, List.mem_of_getElem? (i := 850) (by decide +kernel), List.mem_of_getElem? (i := 966) (by decide +kernel), List.mem_of_getElem? (i := 967) (by decide +kernel)⟩
theorem lw_p31 : lw_okq (⟨"FairRatesModel", "roomOf", "(I)I"⟩, 18) := ⟨⟨by decide +kernel, by decide +kernel⟩, List.mem_of_getElem? (i := 850) (by decide +kernel), List.mem_of_getElem? (i := 970) (by decide +kernel), List.mem_of_getElem? (i := 971) (by decide +kernel)⟩
def lw_privs_2 : List (MethodName × Nat) := [(⟨"FairRates$Water", "fix", "(II)V"⟩, 10), (⟨"FairRates$Post", "markBelow", "(II)Z"⟩, 16), (⟨"FairRates", "farFromFair", "(LFairRates$Post;)J"⟩, 11), (⟨"FairRates", "newSheet", "()LFairRates$Plan;"⟩, 11), (⟨"FairRates", "otherLevels", "()I"⟩, 11), (⟨"FairRates", "widen", "(II)V"⟩, 11), (⟨"FairRates", "blow", "(I)I"⟩, 11), (⟨"FairRates", "someoneComes", "(I)I"⟩, 11), (⟨"FairRates", "someoneGoes", "(I)I"⟩, 11), (⟨"java/lang/Throwable", "fillInStackTrace", "(I)Ljava/lang/Throwable;"⟩, 6), (⟨"FairRatesModel", "refuse", "(I)I"⟩, 18), (⟨"FairRatesModel", "bound", "(I)I"⟩, 18), (⟨"FairRatesModel", "goesOver", "(II)Z"⟩, 18), (⟨"FairRatesModel", "whyNot", "(IIII)I"⟩, 18), (⟨"FairRatesModel", "freeNumber", "()I"⟩, 18), (⟨"FairRatesModel", "roomOf", "(I)I"⟩, 18)]
theorem lw_r2 : ∀ q ∈ lw_privs_2, lw_okq q := List.forall_mem_cons.mpr ⟨lw_p16, List.forall_mem_cons.mpr ⟨lw_p17, List.forall_mem_cons.mpr ⟨lw_p18, List.forall_mem_cons.mpr ⟨lw_p19, List.forall_mem_cons.mpr ⟨lw_p20, List.forall_mem_cons.mpr ⟨lw_p21, List.forall_mem_cons.mpr ⟨lw_p22, List.forall_mem_cons.mpr ⟨lw_p23, List.forall_mem_cons.mpr ⟨lw_p24, List.forall_mem_cons.mpr ⟨lw_p25, List.forall_mem_cons.mpr ⟨lw_p26, List.forall_mem_cons.mpr ⟨lw_p27, List.forall_mem_cons.mpr ⟨lw_p28, List.forall_mem_cons.mpr ⟨lw_p29, List.forall_mem_cons.mpr ⟨lw_p30, List.forall_mem_cons.mpr ⟨lw_p31, fun _ h => absurd h List.not_mem_nil⟩⟩⟩⟩⟩⟩⟩⟩⟩⟩⟩⟩⟩⟩⟩⟩
theorem lw_p32 : lw_okq (⟨"FairRatesModel", "namedBy", "(I)I"⟩, 18) := ⟨⟨by decide +kernel, by decide +kernel⟩, List.mem_of_getElem? (i := 850) (by decide +kernel), List.mem_of_getElem? (i := 979) (by decide +kernel), List.mem_of_getElem? (i := 980) (by decide +kernel)⟩
theorem lw_p33 : lw_okq (⟨"FairRatesModel", "lay", "(IIIIII)V"⟩, 18) := ⟨⟨by decide +kernel, by decide +kernel⟩, List.mem_of_getElem? (i := 850) (by decide +kernel), List.mem_of_getElem? (i := 983) (by decide +kernel), List.mem_of_getElem? (i := 984) (by decide +kernel)⟩
theorem lw_p34 : lw_okq (⟨"FairRatesModel", "knowsNothing", "(II)V"⟩, 18) := ⟨⟨by decide +kernel, by decide +kernel⟩, List.mem_of_getElem? (i := 850) (by decide +kernel), List.mem_of_getElem? (i := 987) (by decide +kernel), List.mem_of_getElem? (i := 988) (by decide +kernel)⟩
theorem lw_p35 : lw_okq (⟨"FairRatesModel", "isFlow", "(I)Z"⟩, 18) := ⟨⟨by decide +kernel, by decide +kernel⟩, List.mem_of_getElem? (i := 850) (by decide +kernel), List.mem_of_getElem? (i := 995) (by decide +kernel), List.mem_of_getElem? (i := 996) (by decide +kernel)⟩
theorem lw_p36 : lw_okq (⟨"FairRatesModel", "flowMany", "()I"⟩, 18) := ⟨⟨by decide +kernel, by decide +kernel⟩, List.mem_of_getElem? (i := 850) (by decide +kernel), List.mem_of_getElem? (i := 1000) (by decide +kernel), List.mem_of_getElem? (i := 1001) (by decide +kernel)⟩
theorem lw_p37 : lw_okq (⟨"FairRatesModel", "isBound", "()Z"⟩, 18) := ⟨⟨by decide +kernel, by decide +kernel⟩, List.mem_of_getElem? (i := 850) (by decide +kernel), List.mem_of_getElem? (i := 1009) (by decide +kernel), List.mem_of_getElem? (i := 1010) (by decide +kernel)⟩
theorem lw_p38 : lw_okq (⟨"FairRatesModel", "heldMany", "()I"⟩, 18) := ⟨⟨by decide +kernel, by decide +kernel⟩, List.mem_of_getElem? (i := 850) (by decide +kernel), List.mem_of_getElem? (i := 1017) (by decide +kernel), List.mem_of_getElem? (i := 1018) (by decide +kernel)⟩
theorem lw_p39 : lw_okq (⟨"FairRatesModel", "reroute", "(II)I"⟩, 18) := ⟨⟨by decide +kernel, by decide +kernel⟩, List.mem_of_getElem? (i := 850) (by decide +kernel), List.mem_of_getElem? (i := 1025) (by decide +kernel), List.mem_of_getElem? (i := 1026) (by decide +kernel)⟩
theorem lw_p40 : lw_okq (⟨"FairRatesModel", "sends", "(I)V"⟩, 18) := ⟨⟨by decide +kernel, by decide +kernel⟩, List.mem_of_getElem? (i := 850) (by decide +kernel), List.mem_of_getElem? (i := 1041) (by decide +kernel), List.mem_of_getElem? (i := 1042) (by decide +kernel)⟩
theorem lw_p41 : lw_okq (⟨"FairRatesModel", "own", "(I)I"⟩, 18) := ⟨⟨by decide +kernel, by decide +kernel⟩, List.mem_of_getElem? (i := 850) (by decide +kernel), List.mem_of_getElem? (i := 1045) (by decide +kernel), List.mem_of_getElem? (i := 1046) (by decide +kernel)⟩
theorem lw_p42 : lw_okq (⟨"FairRatesModel", "forth", "(III)I"⟩, 18) := ⟨⟨by decide +kernel, by decide +kernel⟩, List.mem_of_getElem? (i := 850) (by decide +kernel), List.mem_of_getElem? (i := 1049) (by decide +kernel), List.mem_of_getElem? (i := 1050) (by decide +kernel)⟩
theorem lw_p43 : lw_okq (⟨"FairRatesModel", "advertises", "(I)I"⟩, 18) := ⟨⟨by decide +kernel, by decide +kernel⟩, List.mem_of_getElem? (i := 850) (by decide +kernel), List.mem_of_getElem? (i := 1053) (by decide +kernel), List.mem_of_getElem? (i := 1054) (by decide +kernel)⟩
theorem lw_p44 : lw_okq (⟨"FairRatesModel", "ratesBy", "(II)J"⟩, 18) := ⟨⟨by decide +kernel, by decide +kernel⟩, List.mem_of_getElem? (i := 850) (by decide +kernel), List.mem_of_getElem? (i := 1058) (by decide +kernel), List.mem_of_getElem? (i := 1059) (by decide +kernel)⟩
theorem lw_p45 : lw_okq (⟨"FairRatesModel", "elsewhere", "(II)I"⟩, 18) := ⟨⟨by decide +kernel, by decide +kernel⟩, List.mem_of_getElem? (i := 850) (by decide +kernel), List.mem_of_getElem? (i := 1062) (by decide +kernel), List.mem_of_getElem? (i := 1063) (by decide +kernel)⟩
theorem lw_p46 : lw_okq (⟨"FairRatesModel", "rate", "(II)I"⟩, 18) := ⟨⟨by decide +kernel, by decide +kernel⟩, List.mem_of_getElem? (i := 850) (by decide +kernel), List.mem_of_getElem? (i := 1066) (by decide +kernel), List.mem_of_getElem? (i := 1067) (by decide +kernel)⟩
theorem lw_p47 : lw_okq (⟨"FairRatesModel", "backTo", "(III)I"⟩, 18) := ⟨⟨by decide +kernel, by decide +kernel⟩, List.mem_of_getElem? (i := 850) (by decide +kernel), List.mem_of_getElem? (i := 1070) (by decide +kernel), List.mem_of_getElem? (i := 1071) (by decide +kernel)⟩
def lw_privs_3 : List (MethodName × Nat) := [(⟨"FairRatesModel", "namedBy", "(I)I"⟩, 18), (⟨"FairRatesModel", "lay", "(IIIIII)V"⟩, 18), (⟨"FairRatesModel", "knowsNothing", "(II)V"⟩, 18), (⟨"FairRatesModel", "isFlow", "(I)Z"⟩, 18), (⟨"FairRatesModel", "flowMany", "()I"⟩, 18), (⟨"FairRatesModel", "isBound", "()Z"⟩, 18), (⟨"FairRatesModel", "heldMany", "()I"⟩, 18), (⟨"FairRatesModel", "reroute", "(II)I"⟩, 18), (⟨"FairRatesModel", "sends", "(I)V"⟩, 18), (⟨"FairRatesModel", "own", "(I)I"⟩, 18), (⟨"FairRatesModel", "forth", "(III)I"⟩, 18), (⟨"FairRatesModel", "advertises", "(I)I"⟩, 18), (⟨"FairRatesModel", "ratesBy", "(II)J"⟩, 18), (⟨"FairRatesModel", "elsewhere", "(II)I"⟩, 18), (⟨"FairRatesModel", "rate", "(II)I"⟩, 18), (⟨"FairRatesModel", "backTo", "(III)I"⟩, 18)]
theorem lw_r3 : ∀ q ∈ lw_privs_3, lw_okq q := List.forall_mem_cons.mpr ⟨lw_p32, List.forall_mem_cons.mpr ⟨lw_p33, List.forall_mem_cons.mpr ⟨lw_p34, List.forall_mem_cons.mpr ⟨lw_p35, List.forall_mem_cons.mpr ⟨lw_p36, List.forall_mem_cons.mpr ⟨lw_p37, List.forall_mem_cons.mpr ⟨lw_p38, List.forall_mem_cons.mpr ⟨lw_p39, List.forall_mem_cons.mpr ⟨lw_p40, List.forall_mem_cons.mpr ⟨lw_p41, List.forall_mem_cons.mpr ⟨lw_p42, List.forall_mem_cons.mpr ⟨lw_p43, List.forall_mem_cons.mpr ⟨lw_p44, List.forall_mem_cons.mpr ⟨lw_p45, List.forall_mem_cons.mpr ⟨lw_p46, List.forall_mem_cons.mpr ⟨lw_p47, fun _ h => absurd h List.not_mem_nil⟩⟩⟩⟩⟩⟩⟩⟩⟩⟩⟩⟩⟩⟩⟩⟩
theorem lw_p48 : lw_okq (⟨"FairRatesModel", "nextLink", "(III)I"⟩, 18) := ⟨⟨by decide +kernel, by decide +kernel⟩, List.mem_of_getElem? (i := 850) (by decide +kernel), List.mem_of_getElem? (i := 1078) (by decide +kernel), List.mem_of_getElem? (i := 1079) (by decide +kernel)⟩
theorem lw_p49 : lw_okq (⟨"FairRatesModel", "round", "()Z"⟩, 18) := ⟨⟨by decide +kernel, by decide +kernel⟩, List.mem_of_getElem? (i := 850) (by decide +kernel), List.mem_of_getElem? (i := 1087) (by decide +kernel), List.mem_of_getElem? (i := 1088) (by decide +kernel)⟩
theorem lw_p50 : lw_okq (⟨"FairRatesModel", "isThere", "(I)Z"⟩, 18) := ⟨⟨by decide +kernel, by decide +kernel⟩, List.mem_of_getElem? (i := 850) (by decide +kernel), List.mem_of_getElem? (i := 1103) (by decide +kernel), List.mem_of_getElem? (i := 1104) (by decide +kernel)⟩
theorem lw_p51 : lw_okq (⟨"FairRatesModel", "layFair", "()V"⟩, 18) := ⟨⟨by decide +kernel, by decide +kernel⟩, List.mem_of_getElem? (i := 850) (by decide +kernel), List.mem_of_getElem? (i := 1116) (by decide +kernel), List.mem_of_getElem? (i := 1117) (by decide +kernel)⟩
theorem lw_p52 : lw_okq (⟨"FairRatesModel", "isOpen", "(I)Z"⟩, 18) := ⟨⟨by decide +kernel, by decide +kernel⟩, List.mem_of_getElem? (i := 850) (by decide +kernel), List.mem_of_getElem? (i := 1120) (by decide +kernel), List.mem_of_getElem? (i := 1121) (by decide +kernel)⟩
theorem lw_p53 : lw_okq (⟨"FairRatesModel", "tideOf", "(I)I"⟩, 18) := ⟨⟨by decide +kernel, by decide +kernel⟩, List.mem_of_getElem? (i := 850) (by decide +kernel), List.mem_of_getElem? (i := 1124) (by decide +kernel), List.mem_of_getElem? (i := 1125) (by decide +kernel)⟩
theorem lw_p54 : lw_okq (⟨"FairRatesModel", "waterBy", "(II)J"⟩, 18) := ⟨⟨by decide +kernel, by decide +kernel⟩, List.mem_of_getElem? (i := 850) (by decide +kernel), List.mem_of_getElem? (i := 1128) (by decide +kernel), List.mem_of_getElem? (i := 1129) (by decide +kernel)⟩
theorem lw_p55 : lw_okq (⟨"FairRatesModel", "fix", "(I)I"⟩, 18) := ⟨⟨by decide +kernel, by decide +kernel⟩, List.mem_of_getElem? (i := 850) (by decide +kernel), List.mem_of_getElem? (i := 1132) (by decide +kernel), List.mem_of_getElem? (i := 1133) (by decide +kernel)⟩
theorem lw_p56 : lw_okq (⟨"FairRatesModel", "fairRate", "(I)I"⟩, 18) := ⟨⟨by decide +kernel, by decide +kernel⟩, List.mem_of_getElem? (i := 850) (by decide +kernel), List.mem_of_getElem? (i := 1136) (by decide +kernel), List.mem_of_getElem? (i := 1137) (by decide +kernel)⟩
theorem lw_p57 : lw_okq (⟨"FairRatesModel", "usedOf", "(I)I"⟩, 18) := ⟨⟨by decide +kernel, by decide +kernel⟩, List.mem_of_getElem? (i := 850) (by decide +kernel), List.mem_of_getElem? (i := 1144) (by decide +kernel), List.mem_of_getElem? (i := 1145) (by decide +kernel)⟩
theorem lw_p58 : lw_okq (⟨"FairRatesModel", "leastLevel", "()I"⟩, 18) := ⟨⟨by decide +kernel, by decide +kernel⟩, List.mem_of_getElem? (i := 850) (by decide +kernel), List.mem_of_getElem? (i := 1152) (by decide +kernel), List.mem_of_getElem? (i := 1153) (by decide +kernel)⟩
theorem lw_p59 : lw_okq (⟨"FairRatesModel", "allRates", "()I"⟩, 18) := ⟨⟨by decide +kernel, by decide +kernel⟩, List.mem_of_getElem? (i := 850) (by decide +kernel), List.mem_of_getElem? (i := 1156) (by decide +kernel), List.mem_of_getElem? (i := 1157) (by decide +kernel)⟩
theorem lw_p60 : lw_okq (⟨"FairRatesModel", "hasFlows", "(I)Z"⟩, 18) := ⟨⟨by decide +kernel, by decide +kernel⟩, List.mem_of_getElem? (i := 850) (by decide +kernel), List.mem_of_getElem? (i := 1177) (by decide +kernel), List.mem_of_getElem? (i := 1178) (by decide +kernel)⟩
theorem lw_p61 : lw_okq (⟨"FairRatesModel", "leftOf", "(I)I"⟩, 18) := ⟨⟨by decide +kernel, by decide +kernel⟩, List.mem_of_getElem? (i := 850) (by decide +kernel), List.mem_of_getElem? (i := 1181) (by decide +kernel), List.mem_of_getElem? (i := 1182) (by decide +kernel)⟩
theorem lw_p62 : lw_okq (⟨"FairRatesModel", "passLevel", "(I)I"⟩, 18) := ⟨⟨by decide +kernel, by decide +kernel⟩, List.mem_of_getElem? (i := 850) (by decide +kernel), List.mem_of_getElem? (i := 1201) (by decide +kernel), List.mem_of_getElem? (i := 1202) (by decide +kernel)⟩
theorem lw_p63 : lw_okq (⟨"FairRatesModel", "bookedOf", "(I)I"⟩, 18) := ⟨⟨by decide +kernel, by decide +kernel⟩, List.mem_of_getElem? (i := 850) (by decide +kernel), List.mem_of_getElem? (i := 1213) (by decide +kernel), List.mem_of_getElem? (i := 1214) (by decide +kernel)⟩
def lw_privs_4 : List (MethodName × Nat) := [(⟨"FairRatesModel", "nextLink", "(III)I"⟩, 18), (⟨"FairRatesModel", "round", "()Z"⟩, 18), (⟨"FairRatesModel", "isThere", "(I)Z"⟩, 18), (⟨"FairRatesModel", "layFair", "()V"⟩, 18), (⟨"FairRatesModel", "isOpen", "(I)Z"⟩, 18), (⟨"FairRatesModel", "tideOf", "(I)I"⟩, 18), (⟨"FairRatesModel", "waterBy", "(II)J"⟩, 18), (⟨"FairRatesModel", "fix", "(I)I"⟩, 18), (⟨"FairRatesModel", "fairRate", "(I)I"⟩, 18), (⟨"FairRatesModel", "usedOf", "(I)I"⟩, 18), (⟨"FairRatesModel", "leastLevel", "()I"⟩, 18), (⟨"FairRatesModel", "allRates", "()I"⟩, 18), (⟨"FairRatesModel", "hasFlows", "(I)Z"⟩, 18), (⟨"FairRatesModel", "leftOf", "(I)I"⟩, 18), (⟨"FairRatesModel", "passLevel", "(I)I"⟩, 18), (⟨"FairRatesModel", "bookedOf", "(I)I"⟩, 18)]
theorem lw_r4 : ∀ q ∈ lw_privs_4, lw_okq q := List.forall_mem_cons.mpr ⟨lw_p48, List.forall_mem_cons.mpr ⟨lw_p49, List.forall_mem_cons.mpr ⟨lw_p50, List.forall_mem_cons.mpr ⟨lw_p51, List.forall_mem_cons.mpr ⟨lw_p52, List.forall_mem_cons.mpr ⟨lw_p53, List.forall_mem_cons.mpr ⟨lw_p54, List.forall_mem_cons.mpr ⟨lw_p55, List.forall_mem_cons.mpr ⟨lw_p56, List.forall_mem_cons.mpr ⟨lw_p57, List.forall_mem_cons.mpr ⟨lw_p58, List.forall_mem_cons.mpr ⟨lw_p59, List.forall_mem_cons.mpr ⟨lw_p60, List.forall_mem_cons.mpr ⟨lw_p61, List.forall_mem_cons.mpr ⟨lw_p62, List.forall_mem_cons.mpr ⟨lw_p63, fun _ h => absurd h List.not_mem_nil⟩⟩⟩⟩⟩⟩⟩⟩⟩⟩⟩⟩⟩⟩⟩⟩
theorem lw_p64 : lw_okq (⟨"FairRatesModel", "overbooked", "()I"⟩, 18) := ⟨⟨by decide +kernel, by decide +kernel⟩, List.mem_of_getElem? (i := 850) (by decide +kernel), List.mem_of_getElem? (i := 1221) (by decide +kernel), List.mem_of_getElem? (i := 1222) (by decide +kernel)⟩
theorem lw_p65 : lw_okq (⟨"FairRatesModel", "think", "()V"⟩, 18) := ⟨⟨by decide +kernel, by decide +kernel⟩, List.mem_of_getElem? (i := 850) (by decide +kernel), List.mem_of_getElem? (i := 1229) (by decide +kernel), List.mem_of_getElem? (i := 1230) (by decide +kernel)⟩
theorem lw_p66 : lw_okq (⟨"FairRatesModel", "endThought", "()V"⟩, 18) := ⟨⟨by decide +kernel, by decide +kernel⟩, List.mem_of_getElem? (i := 850) (by decide +kernel), List.mem_of_getElem? (i := 1233) (by decide +kernel), List.mem_of_getElem? (i := 1234) (by decide +kernel)⟩
theorem lw_p67 : lw_okq (⟨"FairRatesModel", "takeLevels", "()V"⟩, 18) := ⟨⟨by decide +kernel, by decide +kernel⟩, List.mem_of_getElem? (i := 850) (by decide +kernel), List.mem_of_getElem? (i := 1275) (by decide +kernel), List.mem_of_getElem? (i := 1276) (by decide +kernel)⟩
theorem lw_p68 : lw_okq (⟨"FairRatesModel", "othersBy", "(II)I"⟩, 18) := ⟨⟨by decide +kernel, by decide +kernel⟩, List.mem_of_getElem? (i := 850) (by decide +kernel), List.mem_of_getElem? (i := 1279) (by decide +kernel), List.mem_of_getElem? (i := 1280) (by decide +kernel)⟩
theorem lw_p69 : lw_okq (⟨"FairRatesModel", "draw", "()I"⟩, 18) := ⟨⟨by decide +kernel, by decide +kernel⟩, List.mem_of_getElem? (i := 850) (by decide +kernel), List.mem_of_getElem? (i := 1304) (by decide +kernel), List.mem_of_getElem? (i := 1305) (by decide +kernel)⟩
theorem lw_p70 : lw_okq (⟨"FairRatesModel", "comesByChance", "()V"⟩, 18) := ⟨⟨by decide +kernel, by decide +kernel⟩, List.mem_of_getElem? (i := 850) (by decide +kernel), List.mem_of_getElem? (i := 1311) (by decide +kernel), List.mem_of_getElem? (i := 1312) (by decide +kernel)⟩
theorem lw_p71 : lw_okq (⟨"FairRatesModel", "goesByChance", "()V"⟩, 18) := ⟨⟨by decide +kernel, by decide +kernel⟩, List.mem_of_getElem? (i := 850) (by decide +kernel), List.mem_of_getElem? (i := 1315) (by decide +kernel), List.mem_of_getElem? (i := 1316) (by decide +kernel)⟩
theorem lw_p72 : lw_okq (⟨"FairRatesModel", "linksWithFlows", "()I"⟩, 18) := ⟨⟨by decide +kernel, by decide +kernel⟩, List.mem_of_getElem? (i := 850) (by decide +kernel), List.mem_of_getElem? (i := 1323) (by decide +kernel), List.mem_of_getElem? (i := 1324) (by decide +kernel)⟩
theorem lw_p73 : lw_okq (⟨"FairRatesModel", "marksAll", "()I"⟩, 18) := ⟨⟨by decide +kernel, by decide +kernel⟩, List.mem_of_getElem? (i := 850) (by decide +kernel), List.mem_of_getElem? (i := 1327) (by decide +kernel), List.mem_of_getElem? (i := 1328) (by decide +kernel)⟩
theorem lw_p74 : lw_okq (⟨"FairRatesModel", "underWay", "()I"⟩, 18) := ⟨⟨by decide +kernel, by decide +kernel⟩, List.mem_of_getElem? (i := 850) (by decide +kernel), List.mem_of_getElem? (i := 1331) (by decide +kernel), List.mem_of_getElem? (i := 1332) (by decide +kernel)⟩
theorem lw_p75 : lw_okq (⟨"FairRatesModel", "toBeLost", "()I"⟩, 18) := ⟨⟨by decide +kernel, by decide +kernel⟩, List.mem_of_getElem? (i := 850) (by decide +kernel), List.mem_of_getElem? (i := 1335) (by decide +kernel), List.mem_of_getElem? (i := 1336) (by decide +kernel)⟩
def lw_privs_5 : List (MethodName × Nat) := [(⟨"FairRatesModel", "overbooked", "()I"⟩, 18), (⟨"FairRatesModel", "think", "()V"⟩, 18), (⟨"FairRatesModel", "endThought", "()V"⟩, 18), (⟨"FairRatesModel", "takeLevels", "()V"⟩, 18), (⟨"FairRatesModel", "othersBy", "(II)I"⟩, 18), (⟨"FairRatesModel", "draw", "()I"⟩, 18), (⟨"FairRatesModel", "comesByChance", "()V"⟩, 18), (⟨"FairRatesModel", "goesByChance", "()V"⟩, 18), (⟨"FairRatesModel", "linksWithFlows", "()I"⟩, 18), (⟨"FairRatesModel", "marksAll", "()I"⟩, 18), (⟨"FairRatesModel", "underWay", "()I"⟩, 18), (⟨"FairRatesModel", "toBeLost", "()I"⟩, 18)]
theorem lw_r5 : ∀ q ∈ lw_privs_5, lw_okq q := List.forall_mem_cons.mpr ⟨lw_p64, List.forall_mem_cons.mpr ⟨lw_p65, List.forall_mem_cons.mpr ⟨lw_p66, List.forall_mem_cons.mpr ⟨lw_p67, List.forall_mem_cons.mpr ⟨lw_p68, List.forall_mem_cons.mpr ⟨lw_p69, List.forall_mem_cons.mpr ⟨lw_p70, List.forall_mem_cons.mpr ⟨lw_p71, List.forall_mem_cons.mpr ⟨lw_p72, List.forall_mem_cons.mpr ⟨lw_p73, List.forall_mem_cons.mpr ⟨lw_p74, List.forall_mem_cons.mpr ⟨lw_p75, fun _ h => absurd h List.not_mem_nil⟩⟩⟩⟩⟩⟩⟩⟩⟩⟩⟩⟩
def lw_privs : List (MethodName × Nat) := lw_privs_1 ++ (lw_privs_2 ++ (lw_privs_3 ++ (lw_privs_4 ++ (lw_privs_5))))
def lw_tbl : List Cond := k2_sels lw_privs ++ tables_1
theorem lw_privs_ok : ∀ q ∈ lw_privs, lw_okq q := by
  show ∀ q ∈ lw_privs_1 ++ (lw_privs_2 ++ (lw_privs_3 ++ (lw_privs_4 ++ (lw_privs_5)))), lw_okq q
  exact List.forall_mem_append.mpr ⟨lw_r1, List.forall_mem_append.mpr ⟨lw_r2, List.forall_mem_append.mpr ⟨lw_r3, List.forall_mem_append.mpr ⟨lw_r4, lw_r5⟩⟩⟩⟩
def RX0 : String := "FairRates$Plan"
def TX0 : u_T := fun k => match k with
  | 0 => ("FairRates$Plan", "capacity", "[I", true)
  | 1 => ("FairRates$Plan", "crowd", "[I", true)
  | 2 => ("FairRates$Plan", "name", "[I", true)
  | 3 => ("FairRates$Plan", "path", "[I", true)
  | 4 => ("FairRates$Plan", "weight", "[I", true)
  | 5 => ("FairRates$Plan", "least", "[I", true)
  | 6 => ("FairRates$Plan", "want", "[I", true)
  | 7 => ("FairRates$Plan", "flows", "I", false)
  | _ => ("FairRates$Plan", "edits", "I", false)
def tyX0 : Nat → FieldType := fun k => match k with
  | 0 => .array .int
  | 1 => .array .int
  | 2 => .array .int
  | 3 => .array .int
  | 4 => .array .int
  | 5 => .array .int
  | 6 => .array .int
  | 7 => .int
  | _ => .int
abbrev wsX00 : List Cond := u_ws RX0 TX0 9
theorem nmX0 : ∀ a, a < 9 → ∀ b, b < 9 → a ≠ b → (TX0 a).2.1 ≠ (TX0 b).2.1 := by decide +kernel
theorem tyX0_ok : ∀ k, k < 9 → parseFieldDescriptor (TX0 k).2.2.1 = some (tyX0 k) := by decide +kernel
abbrev cX0_init : ByteArray := prog_2_method_1_code
def yX0_init : MethodName := ⟨RX0, "<init>", "()V"⟩
abbrev cX0_copy : ByteArray := prog_2_method_2_code
def yX0_copy : MethodName := ⟨RX0, "copy", "(LFairRates$Plan;)V"⟩
abbrev cX0_has : ByteArray := prog_2_method_3_code
def yX0_has : MethodName := ⟨RX0, "has", "(I)Z"⟩
abbrev cX0_goesOver : ByteArray := prog_2_method_4_code
def yX0_goesOver : MethodName := ⟨RX0, "goesOver", "(II)Z"⟩
abbrev cX0_freeNumber : ByteArray := prog_2_method_5_code
def yX0_freeNumber : MethodName := ⟨RX0, "freeNumber", "()I"⟩
abbrev cX0_flowNamed : ByteArray := prog_2_method_6_code
def yX0_flowNamed : MethodName := ⟨RX0, "flowNamed", "(I)I"⟩
abbrev cX0_setCapacity : ByteArray := prog_2_method_7_code
def yX0_setCapacity : MethodName := ⟨RX0, "setCapacity", "(II)V"⟩
abbrev cX0_partOf : ByteArray := prog_2_method_8_code
def yX0_partOf : MethodName := ⟨RX0, "partOf", "(II)I"⟩
abbrev cX0_setPart : ByteArray := prog_2_method_9_code
def yX0_setPart : MethodName := ⟨RX0, "setPart", "(III)V"⟩
abbrev cX0_add : ByteArray := prog_2_method_10_code
def yX0_add : MethodName := ⟨RX0, "add", "(IIIII)I"⟩
abbrev cX0_remove : ByteArray := prog_2_method_11_code
def yX0_remove : MethodName := ⟨RX0, "remove", "(I)V"⟩
abbrev cX0_setPath : ByteArray := prog_2_method_12_code
def yX0_setPath : MethodName := ⟨RX0, "setPath", "(II)V"⟩
abbrev cX0_linksInUse : ByteArray := prog_2_method_13_code
def yX0_linksInUse : MethodName := ⟨RX0, "linksInUse", "()I"⟩
abbrev cX0_boundOf : ByteArray := prog_2_method_14_code
def yX0_boundOf : MethodName := ⟨RX0, "boundOf", "(I)I"⟩
abbrev cX0_hasRoom : ByteArray := prog_2_method_15_code
def yX0_hasRoom : MethodName := ⟨RX0, "hasRoom", "(II)Z"⟩
abbrev cX0_ownOf : ByteArray := prog_2_method_16_code
def yX0_ownOf : MethodName := ⟨RX0, "ownOf", "(I)I"⟩
abbrev cX0_rateBy : ByteArray := prog_2_method_17_code
def yX0_rateBy : MethodName := ⟨RX0, "rateBy", "(II)I"⟩
abbrev cX0_byWeight : ByteArray := prog_2_method_18_code
def yX0_byWeight : MethodName := ⟨RX0, "byWeight", "(II)I"⟩
abbrev cX0_greatestLevel : ByteArray := prog_2_method_19_code
def yX0_greatestLevel : MethodName := ⟨RX0, "greatestLevel", "(I[I)I"⟩
def RX1 : String := "FairRates$Post"
def TX1 : u_T := fun k => match k with
  | 0 => ("FairRates$Post", "plan", "LFairRates$Plan;", true)
  | 1 => ("FairRates$Post", "ahead", "[I", true)
  | 2 => ("FairRates$Post", "behind", "[I", true)
  | 3 => ("FairRates$Post", "told", "[I", true)
  | 4 => ("FairRates$Post", "toLose", "[I", true)
  | 5 => ("FairRates$Post", "way", "[I", true)
  | 6 => ("FairRates$Post", "nextLink", "[I", true)
  | 7 => ("FairRates$Post", "borne", "[I", true)
  | 8 => ("FairRates$Post", "held", "I", false)
  | 9 => ("FairRates$Post", "letterCount", "I", false)
  | 10 => ("FairRates$Post", "roundCount", "I", false)
  | 11 => ("FairRates$Post", "lostCount", "I", false)
  | 12 => ("FairRates$Post", "offer", "[I", true)
  | 13 => ("FairRates$Post", "seenEdits", "I", false)
  | 14 => ("FairRates$Post", "limit", "[I", true)
  | _ => ("FairRates$Post", "isStirred", "Z", false)
def tyX1 : Nat → FieldType := fun k => match k with
  | 0 => .object "FairRates$Plan"
  | 1 => .array .int
  | 2 => .array .int
  | 3 => .array .int
  | 4 => .array .int
  | 5 => .array .int
  | 6 => .array .int
  | 7 => .array .int
  | 8 => .int
  | 9 => .int
  | 10 => .int
  | 11 => .int
  | 12 => .array .int
  | 13 => .int
  | 14 => .array .int
  | _ => .boolean
abbrev wsX10 : List Cond := u_ws RX1 TX1 16
theorem nmX1 : ∀ a, a < 16 → ∀ b, b < 16 → a ≠ b → (TX1 a).2.1 ≠ (TX1 b).2.1 := by decide +kernel
theorem tyX1_ok : ∀ k, k < 16 → parseFieldDescriptor (TX1 k).2.2.1 = some (tyX1 k) := by decide +kernel
abbrev cX1_init : ByteArray := prog_3_method_1_code
def yX1_init : MethodName := ⟨RX1, "<init>", "()V"⟩
abbrev cX1_copy : ByteArray := prog_3_method_2_code
def yX1_copy : MethodName := ⟨RX1, "copy", "(LFairRates$Post;)V"⟩
abbrev cX1_takeIn : ByteArray := prog_3_method_3_code
def yX1_takeIn : MethodName := ⟨RX1, "takeIn", "(IIIII)I"⟩
abbrev cX1_letGo : ByteArray := prog_3_method_4_code
def yX1_letGo : MethodName := ⟨RX1, "letGo", "(I)V"⟩
abbrev cX1_reroute : ByteArray := prog_3_method_5_code
def yX1_reroute : MethodName := ⟨RX1, "reroute", "(II)V"⟩
abbrev cX1_forgetAll : ByteArray := prog_3_method_6_code
def yX1_forgetAll : MethodName := ⟨RX1, "forgetAll", "()V"⟩
abbrev cX1_forgetFlow : ByteArray := prog_3_method_7_code
def yX1_forgetFlow : MethodName := ⟨RX1, "forgetFlow", "(I)V"⟩
abbrev cX1_forgetAt : ByteArray := prog_3_method_8_code
def yX1_forgetAt : MethodName := ⟨RX1, "forgetAt", "(II)V"⟩
abbrev cX1_isHeld : ByteArray := prog_3_method_9_code
def yX1_isHeld : MethodName := ⟨RX1, "isHeld", "(I)Z"⟩
abbrev cX1_elsewhere : ByteArray := prog_3_method_10_code
def yX1_elsewhere : MethodName := ⟨RX1, "elsewhere", "(II)I"⟩
abbrev cX1_offerOf : ByteArray := prog_3_method_11_code
def yX1_offerOf : MethodName := ⟨RX1, "offerOf", "(I)I"⟩
abbrev cX1_isMarked : ByteArray := prog_3_method_12_code
def yX1_isMarked : MethodName := ⟨RX1, "isMarked", "(II)Z"⟩
abbrev cX1_markCount : ByteArray := prog_3_method_13_code
def yX1_markCount : MethodName := ⟨RX1, "markCount", "()I"⟩
abbrev cX1_findMarks : ByteArray := prog_3_method_14_code
def yX1_findMarks : MethodName := ⟨RX1, "findMarks", "(I[I)I"⟩
abbrev cX1_markBelow : ByteArray := prog_3_method_15_code
def yX1_markBelow : MethodName := ⟨RX1, "markBelow", "(II)Z"⟩
abbrev cX1_tellAhead : ByteArray := prog_3_method_16_code
def yX1_tellAhead : MethodName := ⟨RX1, "tellAhead", "(III)V"⟩
abbrev cX1_tellBehind : ByteArray := prog_3_method_17_code
def yX1_tellBehind : MethodName := ⟨RX1, "tellBehind", "(III)V"⟩
abbrev cX1_tell : ByteArray := prog_3_method_18_code
def yX1_tell : MethodName := ⟨RX1, "tell", "(II)V"⟩
abbrev cX1_isLostAt : ByteArray := prog_3_method_19_code
def yX1_isLostAt : MethodName := ⟨RX1, "isLostAt", "(I)Z"⟩
abbrev cX1_send : ByteArray := prog_3_method_20_code
def yX1_send : MethodName := ⟨RX1, "send", "(I)V"⟩
abbrev cX1_goRound : ByteArray := prog_3_method_21_code
def yX1_goRound : MethodName := ⟨RX1, "goRound", "()Z"⟩
abbrev cX1_goOn : ByteArray := prog_3_method_22_code
def yX1_goOn : MethodName := ⟨RX1, "goOn", "(I)I"⟩
abbrev cX1_arriveForth : ByteArray := prog_3_method_23_code
def yX1_arriveForth : MethodName := ⟨RX1, "arriveForth", "(II)I"⟩
abbrev cX1_arriveBack : ByteArray := prog_3_method_24_code
def yX1_arriveBack : MethodName := ⟨RX1, "arriveBack", "(II)I"⟩
abbrev cX1_lowestFrom : ByteArray := prog_3_method_25_code
def yX1_lowestFrom : MethodName := ⟨RX1, "lowestFrom", "(II)I"⟩
abbrev cX1_highestBelow : ByteArray := prog_3_method_26_code
def yX1_highestBelow : MethodName := ⟨RX1, "highestBelow", "(II)I"⟩
abbrev cX1_bookedAt : ByteArray := prog_3_method_27_code
def yX1_bookedAt : MethodName := ⟨RX1, "bookedAt", "(I)I"⟩
abbrev cX1_overbooked : ByteArray := prog_3_method_28_code
def yX1_overbooked : MethodName := ⟨RX1, "overbooked", "()I"⟩
abbrev cX1_underWay : ByteArray := prog_3_method_29_code
def yX1_underWay : MethodName := ⟨RX1, "underWay", "()I"⟩
abbrev cX1_allToLose : ByteArray := prog_3_method_30_code
def yX1_allToLose : MethodName := ⟨RX1, "allToLose", "()I"⟩
def RX2 : String := "FairRates$Water"
def TX2 : u_T := fun k => match k with
  | 0 => ("FairRates$Water", "plan", "LFairRates$Plan;", true)
  | 1 => ("FairRates$Water", "level", "[I", true)
  | 2 => ("FairRates$Water", "witness", "[I", true)
  | 3 => ("FairRates$Water", "stepOf", "[I", true)
  | 4 => ("FairRates$Water", "stepLevel", "[I", true)
  | 5 => ("FairRates$Water", "stepFlows", "[I", true)
  | 6 => ("FairRates$Water", "stepLinks", "[I", true)
  | 7 => ("FairRates$Water", "tide", "[I", true)
  | 8 => ("FairRates$Water", "steps", "I", false)
  | _ => ("FairRates$Water", "seenEdits", "I", false)
def tyX2 : Nat → FieldType := fun k => match k with
  | 0 => .object "FairRates$Plan"
  | 1 => .array .int
  | 2 => .array .int
  | 3 => .array .int
  | 4 => .array .int
  | 5 => .array .int
  | 6 => .array .int
  | 7 => .array .int
  | 8 => .int
  | _ => .int
abbrev wsX20 : List Cond := u_ws RX2 TX2 10
theorem nmX2 : ∀ a, a < 10 → ∀ b, b < 10 → a ≠ b → (TX2 a).2.1 ≠ (TX2 b).2.1 := by decide +kernel
theorem tyX2_ok : ∀ k, k < 10 → parseFieldDescriptor (TX2 k).2.2.1 = some (tyX2 k) := by decide +kernel
abbrev cX2_init : ByteArray := prog_4_method_1_code
def yX2_init : MethodName := ⟨RX2, "<init>", "(LFairRates$Plan;)V"⟩
abbrev cX2_rise : ByteArray := prog_4_method_2_code
def yX2_rise : MethodName := ⟨RX2, "rise", "()V"⟩
abbrev cX2_nextSurface : ByteArray := prog_4_method_3_code
def yX2_nextSurface : MethodName := ⟨RX2, "nextSurface", "(I)I"⟩
abbrev cX2_linksAt : ByteArray := prog_4_method_4_code
def yX2_linksAt : MethodName := ⟨RX2, "linksAt", "(I)I"⟩
abbrev cX2_fixedBy : ByteArray := prog_4_method_5_code
def yX2_fixedBy : MethodName := ⟨RX2, "fixedBy", "(III)I"⟩
abbrev cX2_fix : ByteArray := prog_4_method_6_code
def yX2_fix : MethodName := ⟨RX2, "fix", "(II)V"⟩
abbrev cX2_rateOf : ByteArray := prog_4_method_7_code
def yX2_rateOf : MethodName := ⟨RX2, "rateOf", "(I)I"⟩
abbrev cX2_ratesOf : ByteArray := prog_4_method_8_code
def yX2_ratesOf : MethodName := ⟨RX2, "ratesOf", "(I)I"⟩
abbrev cX2_leftOf : ByteArray := prog_4_method_9_code
def yX2_leftOf : MethodName := ⟨RX2, "leftOf", "(I)I"⟩
abbrev cX2_witnessedBy : ByteArray := prog_4_method_10_code
def yX2_witnessedBy : MethodName := ⟨RX2, "witnessedBy", "(I)I"⟩
abbrev cX2_leastLevel : ByteArray := prog_4_method_11_code
def yX2_leastLevel : MethodName := ⟨RX2, "leastLevel", "()I"⟩
abbrev cX2_greatestLevel : ByteArray := prog_4_method_12_code
def yX2_greatestLevel : MethodName := ⟨RX2, "greatestLevel", "()I"⟩
abbrev cX2_below : ByteArray := prog_4_method_13_code
def yX2_below : MethodName := ⟨RX2, "below", "(II)I"⟩
abbrev cX2_rankOf : ByteArray := prog_4_method_14_code
def yX2_rankOf : MethodName := ⟨RX2, "rankOf", "(I)I"⟩
abbrev cX2_fullnessOf : ByteArray := prog_4_method_15_code
def yX2_fullnessOf : MethodName := ⟨RX2, "fullnessOf", "(I)I"⟩
def RX3 : String := "FairRates"
def TX3 : u_T := fun k => match k with
  | 0 => ("FairRates", "post", "LFairRates$Post;", true)
  | 1 => ("FairRates", "plan", "LFairRates$Plan;", true)
  | 2 => ("FairRates", "now", "LFairRates$Water;", true)
  | 3 => ("FairRates", "paper", "LFairRates$Post;", true)
  | 4 => ("FairRates", "then", "LFairRates$Water;", true)
  | 5 => ("FairRates", "firstKept", "LFairRates$Post;", true)
  | 6 => ("FairRates", "secondKept", "LFairRates$Post;", true)
  | 7 => ("FairRates", "isFirstKept", "Z", false)
  | 8 => ("FairRates", "isSecondKept", "Z", false)
  | 9 => ("FairRates", "refused", "[I", true)
  | _ => ("FairRates", "passLevels", "[I", true)
def tyX3 : Nat → FieldType := fun k => match k with
  | 0 => .object "FairRates$Post"
  | 1 => .object "FairRates$Plan"
  | 2 => .object "FairRates$Water"
  | 3 => .object "FairRates$Post"
  | 4 => .object "FairRates$Water"
  | 5 => .object "FairRates$Post"
  | 6 => .object "FairRates$Post"
  | 7 => .boolean
  | 8 => .boolean
  | 9 => .array .int
  | _ => .array .int
abbrev wsX30 : List Cond := u_ws RX3 TX3 11
theorem nmX3 : ∀ a, a < 11 → ∀ b, b < 11 → a ≠ b → (TX3 a).2.1 ≠ (TX3 b).2.1 := by decide +kernel
theorem tyX3_ok : ∀ k, k < 11 → parseFieldDescriptor (TX3 k).2.2.1 = some (tyX3 k) := by decide +kernel
abbrev cX3_init : ByteArray := prog_1_method_1_code
def yX3_init : MethodName := ⟨RX3, "<init>", "()V"⟩
abbrev cX3_link : ByteArray := prog_1_method_2_code
def yX3_link : MethodName := ⟨RX3, "link", "(II)I"⟩
abbrev cX3_come : ByteArray := prog_1_method_3_code
def yX3_come : MethodName := ⟨RX3, "come", "(IIIII)I"⟩
abbrev cX3_go : ByteArray := prog_1_method_4_code
def yX3_go : MethodName := ⟨RX3, "go", "(I)I"⟩
abbrev cX3_change : ByteArray := prog_1_method_5_code
def yX3_change : MethodName := ⟨RX3, "change", "(III)I"⟩
abbrev cX3_hold : ByteArray := prog_1_method_6_code
def yX3_hold : MethodName := ⟨RX3, "hold", "(IZ)I"⟩
abbrev cX3_route : ByteArray := prog_1_method_7_code
def yX3_route : MethodName := ⟨RX3, "route", "(II)I"⟩
abbrev cX3_lose : ByteArray := prog_1_method_8_code
def yX3_lose : MethodName := ⟨RX3, "lose", "(II)I"⟩
abbrev cX3_hop : ByteArray := prog_1_method_9_code
def yX3_hop : MethodName := ⟨RX3, "hop", "(I)I"⟩
abbrev cX3_letter : ByteArray := prog_1_method_10_code
def yX3_letter : MethodName := ⟨RX3, "letter", "(I)I"⟩
abbrev cX3_rounds : ByteArray := prog_1_method_11_code
def yX3_rounds : MethodName := ⟨RX3, "rounds", "(I)I"⟩
abbrev cX3_forget : ByteArray := prog_1_method_12_code
def yX3_forget : MethodName := ⟨RX3, "forget", "()I"⟩
abbrev cX3_keep : ByteArray := prog_1_method_13_code
def yX3_keep : MethodName := ⟨RX3, "keep", "(I)Z"⟩
abbrev cX3_again : ByteArray := prog_1_method_14_code
def yX3_again : MethodName := ⟨RX3, "again", "(I)Z"⟩
abbrev cX3_links : ByteArray := prog_1_method_15_code
def yX3_links : MethodName := ⟨RX3, "links", "(II)I"⟩
abbrev cX3_flow : ByteArray := prog_1_method_16_code
def yX3_flow : MethodName := ⟨RX3, "flow", "(II)I"⟩
abbrev cX3_named : ByteArray := prog_1_method_17_code
def yX3_named : MethodName := ⟨RX3, "named", "(I)I"⟩
abbrev cX3_fair : ByteArray := prog_1_method_18_code
def yX3_fair : MethodName := ⟨RX3, "fair", "(II)I"⟩
abbrev cX3_used : ByteArray := prog_1_method_19_code
def yX3_used : MethodName := ⟨RX3, "used", "(II)I"⟩
abbrev cX3_water : ByteArray := prog_1_method_20_code
def yX3_water : MethodName := ⟨RX3, "water", "(I)I"⟩
abbrev cX3_step : ByteArray := prog_1_method_21_code
def yX3_step : MethodName := ⟨RX3, "step", "(II)I"⟩
abbrev cX3_ranked : ByteArray := prog_1_method_22_code
def yX3_ranked : MethodName := ⟨RX3, "ranked", "(I)I"⟩
abbrev cX3_proof : ByteArray := prog_1_method_23_code
def yX3_proof : MethodName := ⟨RX3, "proof", "(II)I"⟩
abbrev cX3_fullest : ByteArray := prog_1_method_24_code
def yX3_fullest : MethodName := ⟨RX3, "fullest", "(I)I"⟩
abbrev cX3_even : ByteArray := prog_1_method_25_code
def yX3_even : MethodName := ⟨RX3, "even", "(I)J"⟩
abbrev cX3_advertised : ByteArray := prog_1_method_26_code
def yX3_advertised : MethodName := ⟨RX3, "advertised", "(I)I"⟩
abbrev cX3_pass : ByteArray := prog_1_method_27_code
def yX3_pass : MethodName := ⟨RX3, "pass", "(II)I"⟩
abbrev cX3_known : ByteArray := prog_1_method_28_code
def yX3_known : MethodName := ⟨RX3, "known", "(III)I"⟩
abbrev cX3_booked : ByteArray := prog_1_method_29_code
def yX3_booked : MethodName := ⟨RX3, "booked", "(I)I"⟩
abbrev cX3_over : ByteArray := prog_1_method_30_code
def yX3_over : MethodName := ⟨RX3, "over", "()I"⟩
abbrev cX3_settling : ByteArray := prog_1_method_31_code
def yX3_settling : MethodName := ⟨RX3, "settling", "(I)I"⟩
abbrev cX3_swings : ByteArray := prog_1_method_32_code
def yX3_swings : MethodName := ⟨RX3, "swings", "(III)I"⟩
abbrev cX3_peak : ByteArray := prog_1_method_33_code
def yX3_peak : MethodName := ⟨RX3, "peak", "(II)I"⟩
abbrev cX3_off : ByteArray := prog_1_method_34_code
def yX3_off : MethodName := ⟨RX3, "off", "()J"⟩
abbrev cX3_would : ByteArray := prog_1_method_35_code
def yX3_would : MethodName := ⟨RX3, "would", "(IIII)I"⟩
abbrev cX3_better : ByteArray := prog_1_method_36_code
def yX3_better : MethodName := ⟨RX3, "better", "(II)I"⟩
abbrev cX3_spares : ByteArray := prog_1_method_37_code
def yX3_spares : MethodName := ⟨RX3, "spares", "(II)I"⟩
abbrev cX3_weightFor : ByteArray := prog_1_method_38_code
def yX3_weightFor : MethodName := ⟨RX3, "weightFor", "(II)I"⟩
abbrev cX3_roomFor : ByteArray := prog_1_method_39_code
def yX3_roomFor : MethodName := ⟨RX3, "roomFor", "(I)I"⟩
abbrev cX3_touched : ByteArray := prog_1_method_40_code
def yX3_touched : MethodName := ⟨RX3, "touched", "(I)I"⟩
abbrev cX3_without : ByteArray := prog_1_method_41_code
def yX3_without : MethodName := ⟨RX3, "without", "(II)I"⟩
abbrev cX3_wider : ByteArray := prog_1_method_42_code
def yX3_wider : MethodName := ⟨RX3, "wider", "(III)I"⟩
abbrev cX3_tight : ByteArray := prog_1_method_43_code
def yX3_tight : MethodName := ⟨RX3, "tight", "()I"⟩
abbrev cX3_enough : ByteArray := prog_1_method_44_code
def yX3_enough : MethodName := ⟨RX3, "enough", "(I)I"⟩
abbrev cX3_storm : ByteArray := prog_1_method_45_code
def yX3_storm : MethodName := ⟨RX3, "storm", "(III)I"⟩
abbrev cX3_count : ByteArray := prog_1_method_46_code
def yX3_count : MethodName := ⟨RX3, "count", "(I)I"⟩
abbrev cX3_isLink : ByteArray := prog_1_method_47_code
def yX3_isLink : MethodName := ⟨RX3, "isLink", "(I)Z"⟩
abbrev cX3_isAmount : ByteArray := prog_1_method_48_code
def yX3_isAmount : MethodName := ⟨RX3, "isAmount", "(I)Z"⟩
abbrev cX3_isPath : ByteArray := prog_1_method_49_code
def yX3_isPath : MethodName := ⟨RX3, "isPath", "(I)Z"⟩
abbrev cX3_isWeight : ByteArray := prog_1_method_50_code
def yX3_isWeight : MethodName := ⟨RX3, "isWeight", "(I)Z"⟩
abbrev cX3_isPaperRounds : ByteArray := prog_1_method_51_code
def yX3_isPaperRounds : MethodName := ⟨RX3, "isPaperRounds", "(I)Z"⟩
abbrev cX3_canBe : ByteArray := prog_1_method_52_code
def yX3_canBe : MethodName := ⟨RX3, "canBe", "(II)Z"⟩
abbrev cX3_refuse : ByteArray := prog_1_method_53_code
def yX3_refuse : MethodName := ⟨RX3, "refuse", "(I)I"⟩
abbrev cX3_whyNoSuchFlow : ByteArray := prog_1_method_54_code
def yX3_whyNoSuchFlow : MethodName := ⟨RX3, "whyNoSuchFlow", "(LFairRates$Plan;IIII)I"⟩
abbrev cX3_whyNotCome : ByteArray := prog_1_method_55_code
def yX3_whyNotCome : MethodName := ⟨RX3, "whyNotCome", "(LFairRates$Plan;IIIII)I"⟩
abbrev cX3_whyNotRoute : ByteArray := prog_1_method_56_code
def yX3_whyNotRoute : MethodName := ⟨RX3, "whyNotRoute", "(II)I"⟩
abbrev cX3_newSheet : ByteArray := prog_1_method_57_code
def yX3_newSheet : MethodName := ⟨RX3, "newSheet", "()LFairRates$Plan;"⟩
abbrev cX3_widen : ByteArray := prog_1_method_58_code
def yX3_widen : MethodName := ⟨RX3, "widen", "(II)V"⟩
abbrev cX3_otherLevels : ByteArray := prog_1_method_59_code
def yX3_otherLevels : MethodName := ⟨RX3, "otherLevels", "()I"⟩
abbrev cX3_farFromFair : ByteArray := prog_1_method_60_code
def yX3_farFromFair : MethodName := ⟨RX3, "farFromFair", "(LFairRates$Post;)J"⟩
abbrev cX3_draw : ByteArray := prog_1_method_61_code
def yX3_draw : MethodName := ⟨RX3, "draw", "(I)I"⟩
abbrev cX3_blow : ByteArray := prog_1_method_62_code
def yX3_blow : MethodName := ⟨RX3, "blow", "(I)I"⟩
abbrev cX3_someoneComes : ByteArray := prog_1_method_63_code
def yX3_someoneComes : MethodName := ⟨RX3, "someoneComes", "(I)I"⟩
abbrev cX3_someoneGoes : ByteArray := prog_1_method_64_code
def yX3_someoneGoes : MethodName := ⟨RX3, "someoneGoes", "(I)I"⟩
abbrev cX3_commonDivisor : ByteArray := prog_1_method_65_code
def yX3_commonDivisor : MethodName := ⟨RX3, "commonDivisor", "(JJ)J"⟩
def RX4 : String := "FairRatesModel"
def TX4 : u_T := fun k => match k with
  | 0 => ("FairRatesModel", "thrown", "I", false)
  | 1 => ("FairRatesModel", "refusals", "[I", true)
  | 2 => ("FairRatesModel", "row", "[I", true)
  | 3 => ("FairRatesModel", "kept", "[I", true)
  | 4 => ("FairRatesModel", "isKept", "[Z", true)
  | 5 => ("FairRatesModel", "aside", "[I", true)
  | 6 => ("FairRatesModel", "knew", "[I", true)
  | 7 => ("FairRatesModel", "level", "[I", true)
  | 8 => ("FairRatesModel", "witness", "[I", true)
  | 9 => ("FairRatesModel", "stepOf", "[I", true)
  | 10 => ("FairRatesModel", "stepLevel", "[I", true)
  | 11 => ("FairRatesModel", "stepFlows", "[I", true)
  | 12 => ("FairRatesModel", "stepLinks", "[I", true)
  | 13 => ("FairRatesModel", "steps", "I", false)
  | 14 => ("FairRatesModel", "tide", "[I", true)
  | 15 => ("FairRatesModel", "marks", "I", false)
  | 16 => ("FairRatesModel", "levels", "[I", true)
  | _ => ("FairRatesModel", "seeded", "J", false)
def tyX4 : Nat → FieldType := fun k => match k with
  | 0 => .int
  | 1 => .array .int
  | 2 => .array .int
  | 3 => .array .int
  | 4 => .array .boolean
  | 5 => .array .int
  | 6 => .array .int
  | 7 => .array .int
  | 8 => .array .int
  | 9 => .array .int
  | 10 => .array .int
  | 11 => .array .int
  | 12 => .array .int
  | 13 => .int
  | 14 => .array .int
  | 15 => .int
  | 16 => .array .int
  | _ => .long
abbrev wsX40 : List Cond := u_ws RX4 TX4 18
theorem nmX4 : ∀ a, a < 18 → ∀ b, b < 18 → a ≠ b → (TX4 a).2.1 ≠ (TX4 b).2.1 := by decide +kernel
theorem tyX4_ok : ∀ k, k < 18 → parseFieldDescriptor (TX4 k).2.2.1 = some (tyX4 k) := by decide +kernel
abbrev cX4_init : ByteArray := prog_6_method_1_code
def yX4_init : MethodName := ⟨RX4, "<init>", "()V"⟩
abbrev cX4_thrown : ByteArray := prog_6_method_2_code
def yX4_thrown : MethodName := ⟨RX4, "thrown", "()I"⟩
abbrev cX4_in : ByteArray := prog_6_method_3_code
def yX4_in : MethodName := ⟨RX4, "in", "(JJJ)Z"⟩
abbrev cX4_lesser : ByteArray := prog_6_method_4_code
def yX4_lesser : MethodName := ⟨RX4, "lesser", "(II)I"⟩
abbrev cX4_ones : ByteArray := prog_6_method_5_code
def yX4_ones : MethodName := ⟨RX4, "ones", "(I)I"⟩
abbrev cX4_refuse : ByteArray := prog_6_method_6_code
def yX4_refuse : MethodName := ⟨RX4, "refuse", "(I)I"⟩
abbrev cX4_copy : ByteArray := prog_6_method_7_code
def yX4_copy : MethodName := ⟨RX4, "copy", "([II[II)V"⟩
abbrev cX4_think : ByteArray := prog_6_method_8_code
def yX4_think : MethodName := ⟨RX4, "think", "()V"⟩
abbrev cX4_endThought : ByteArray := prog_6_method_9_code
def yX4_endThought : MethodName := ⟨RX4, "endThought", "()V"⟩
abbrev cX4_keep : ByteArray := prog_6_method_10_code
def yX4_keep : MethodName := ⟨RX4, "keep", "(I)Z"⟩
abbrev cX4_again : ByteArray := prog_6_method_11_code
def yX4_again : MethodName := ⟨RX4, "again", "(I)Z"⟩
abbrev cX4_at : ByteArray := prog_6_method_12_code
def yX4_at : MethodName := ⟨RX4, "at", "(I)I"⟩
abbrev cX4_isLink : ByteArray := prog_6_method_13_code
def yX4_isLink : MethodName := ⟨RX4, "isLink", "(I)Z"⟩
abbrev cX4_isFlow : ByteArray := prog_6_method_14_code
def yX4_isFlow : MethodName := ⟨RX4, "isFlow", "(I)Z"⟩
abbrev cX4_goesOver : ByteArray := prog_6_method_15_code
def yX4_goesOver : MethodName := ⟨RX4, "goesOver", "(II)Z"⟩
abbrev cX4_flowMany : ByteArray := prog_6_method_16_code
def yX4_flowMany : MethodName := ⟨RX4, "flowMany", "()I"⟩
abbrev cX4_rate : ByteArray := prog_6_method_17_code
def yX4_rate : MethodName := ⟨RX4, "rate", "(II)I"⟩
abbrev cX4_own : ByteArray := prog_6_method_18_code
def yX4_own : MethodName := ⟨RX4, "own", "(I)I"⟩
abbrev cX4_bound : ByteArray := prog_6_method_19_code
def yX4_bound : MethodName := ⟨RX4, "bound", "(I)I"⟩
abbrev cX4_isBound : ByteArray := prog_6_method_20_code
def yX4_isBound : MethodName := ⟨RX4, "isBound", "()Z"⟩
abbrev cX4_link : ByteArray := prog_6_method_21_code
def yX4_link : MethodName := ⟨RX4, "link", "(II)I"⟩
abbrev cX4_areLinks : ByteArray := prog_6_method_22_code
def yX4_areLinks : MethodName := ⟨RX4, "areLinks", "(I)Z"⟩
abbrev cX4_namedBy : ByteArray := prog_6_method_23_code
def yX4_namedBy : MethodName := ⟨RX4, "namedBy", "(I)I"⟩
abbrev cX4_freeNumber : ByteArray := prog_6_method_24_code
def yX4_freeNumber : MethodName := ⟨RX4, "freeNumber", "()I"⟩
abbrev cX4_knowsNothing : ByteArray := prog_6_method_25_code
def yX4_knowsNothing : MethodName := ⟨RX4, "knowsNothing", "(II)V"⟩
abbrev cX4_lay : ByteArray := prog_6_method_26_code
def yX4_lay : MethodName := ⟨RX4, "lay", "(IIIIII)V"⟩
abbrev cX4_whyNot : ByteArray := prog_6_method_27_code
def yX4_whyNot : MethodName := ⟨RX4, "whyNot", "(IIII)I"⟩
abbrev cX4_roomOf : ByteArray := prog_6_method_28_code
def yX4_roomOf : MethodName := ⟨RX4, "roomOf", "(I)I"⟩
abbrev cX4_come : ByteArray := prog_6_method_29_code
def yX4_come : MethodName := ⟨RX4, "come", "(IIIII)I"⟩
abbrev cX4_go : ByteArray := prog_6_method_30_code
def yX4_go : MethodName := ⟨RX4, "go", "(I)I"⟩
abbrev cX4_change : ByteArray := prog_6_method_31_code
def yX4_change : MethodName := ⟨RX4, "change", "(III)I"⟩
abbrev cX4_heldMany : ByteArray := prog_6_method_32_code
def yX4_heldMany : MethodName := ⟨RX4, "heldMany", "()I"⟩
abbrev cX4_hold : ByteArray := prog_6_method_33_code
def yX4_hold : MethodName := ⟨RX4, "hold", "(IZ)I"⟩
abbrev cX4_reroute : ByteArray := prog_6_method_34_code
def yX4_reroute : MethodName := ⟨RX4, "reroute", "(II)I"⟩
abbrev cX4_route : ByteArray := prog_6_method_35_code
def yX4_route : MethodName := ⟨RX4, "route", "(II)I"⟩
abbrev cX4_lose : ByteArray := prog_6_method_36_code
def yX4_lose : MethodName := ⟨RX4, "lose", "(II)I"⟩
abbrev cX4_elsewhere : ByteArray := prog_6_method_37_code
def yX4_elsewhere : MethodName := ⟨RX4, "elsewhere", "(II)I"⟩
abbrev cX4_ratesBy : ByteArray := prog_6_method_38_code
def yX4_ratesBy : MethodName := ⟨RX4, "ratesBy", "(II)J"⟩
abbrev cX4_advertises : ByteArray := prog_6_method_39_code
def yX4_advertises : MethodName := ⟨RX4, "advertises", "(I)I"⟩
abbrev cX4_forth : ByteArray := prog_6_method_40_code
def yX4_forth : MethodName := ⟨RX4, "forth", "(III)I"⟩
abbrev cX4_backTo : ByteArray := prog_6_method_41_code
def yX4_backTo : MethodName := ⟨RX4, "backTo", "(III)I"⟩
abbrev cX4_sends : ByteArray := prog_6_method_42_code
def yX4_sends : MethodName := ⟨RX4, "sends", "(I)V"⟩
abbrev cX4_letter : ByteArray := prog_6_method_43_code
def yX4_letter : MethodName := ⟨RX4, "letter", "(I)I"⟩
abbrev cX4_nextLink : ByteArray := prog_6_method_44_code
def yX4_nextLink : MethodName := ⟨RX4, "nextLink", "(III)I"⟩
abbrev cX4_hop : ByteArray := prog_6_method_45_code
def yX4_hop : MethodName := ⟨RX4, "hop", "(I)I"⟩
abbrev cX4_round : ByteArray := prog_6_method_46_code
def yX4_round : MethodName := ⟨RX4, "round", "()Z"⟩
abbrev cX4_rounds : ByteArray := prog_6_method_47_code
def yX4_rounds : MethodName := ⟨RX4, "rounds", "(I)I"⟩
abbrev cX4_forget : ByteArray := prog_6_method_48_code
def yX4_forget : MethodName := ⟨RX4, "forget", "()I"⟩
abbrev cX4_fairRate : ByteArray := prog_6_method_49_code
def yX4_fairRate : MethodName := ⟨RX4, "fairRate", "(I)I"⟩
abbrev cX4_waterBy : ByteArray := prog_6_method_50_code
def yX4_waterBy : MethodName := ⟨RX4, "waterBy", "(II)J"⟩
abbrev cX4_tideOf : ByteArray := prog_6_method_51_code
def yX4_tideOf : MethodName := ⟨RX4, "tideOf", "(I)I"⟩
abbrev cX4_isOpen : ByteArray := prog_6_method_52_code
def yX4_isOpen : MethodName := ⟨RX4, "isOpen", "(I)Z"⟩
abbrev cX4_layFair : ByteArray := prog_6_method_53_code
def yX4_layFair : MethodName := ⟨RX4, "layFair", "()V"⟩
abbrev cX4_fix : ByteArray := prog_6_method_54_code
def yX4_fix : MethodName := ⟨RX4, "fix", "(I)I"⟩
abbrev cX4_allRates : ByteArray := prog_6_method_55_code
def yX4_allRates : MethodName := ⟨RX4, "allRates", "()I"⟩
abbrev cX4_usedOf : ByteArray := prog_6_method_56_code
def yX4_usedOf : MethodName := ⟨RX4, "usedOf", "(I)I"⟩
abbrev cX4_leastLevel : ByteArray := prog_6_method_57_code
def yX4_leastLevel : MethodName := ⟨RX4, "leastLevel", "()I"⟩
abbrev cX4_links : ByteArray := prog_6_method_58_code
def yX4_links : MethodName := ⟨RX4, "links", "(II)I"⟩
abbrev cX4_isThere : ByteArray := prog_6_method_59_code
def yX4_isThere : MethodName := ⟨RX4, "isThere", "(I)Z"⟩
abbrev cX4_flow : ByteArray := prog_6_method_60_code
def yX4_flow : MethodName := ⟨RX4, "flow", "(II)I"⟩
abbrev cX4_named : ByteArray := prog_6_method_61_code
def yX4_named : MethodName := ⟨RX4, "named", "(I)I"⟩
abbrev cX4_fair : ByteArray := prog_6_method_62_code
def yX4_fair : MethodName := ⟨RX4, "fair", "(II)I"⟩
abbrev cX4_used : ByteArray := prog_6_method_63_code
def yX4_used : MethodName := ⟨RX4, "used", "(II)I"⟩
abbrev cX4_water : ByteArray := prog_6_method_64_code
def yX4_water : MethodName := ⟨RX4, "water", "(I)I"⟩
abbrev cX4_step : ByteArray := prog_6_method_65_code
def yX4_step : MethodName := ⟨RX4, "step", "(II)I"⟩
abbrev cX4_ranked : ByteArray := prog_6_method_66_code
def yX4_ranked : MethodName := ⟨RX4, "ranked", "(I)I"⟩
abbrev cX4_proof : ByteArray := prog_6_method_67_code
def yX4_proof : MethodName := ⟨RX4, "proof", "(II)I"⟩
abbrev cX4_hasFlows : ByteArray := prog_6_method_68_code
def yX4_hasFlows : MethodName := ⟨RX4, "hasFlows", "(I)Z"⟩
abbrev cX4_leftOf : ByteArray := prog_6_method_69_code
def yX4_leftOf : MethodName := ⟨RX4, "leftOf", "(I)I"⟩
abbrev cX4_fullest : ByteArray := prog_6_method_70_code
def yX4_fullest : MethodName := ⟨RX4, "fullest", "(I)I"⟩
abbrev cX4_common : ByteArray := prog_6_method_71_code
def yX4_common : MethodName := ⟨RX4, "common", "(JJ)J"⟩
abbrev cX4_even : ByteArray := prog_6_method_72_code
def yX4_even : MethodName := ⟨RX4, "even", "(I)J"⟩
abbrev cX4_advertised : ByteArray := prog_6_method_73_code
def yX4_advertised : MethodName := ⟨RX4, "advertised", "(I)I"⟩
abbrev cX4_passLevel : ByteArray := prog_6_method_74_code
def yX4_passLevel : MethodName := ⟨RX4, "passLevel", "(I)I"⟩
abbrev cX4_pass : ByteArray := prog_6_method_75_code
def yX4_pass : MethodName := ⟨RX4, "pass", "(II)I"⟩
abbrev cX4_known : ByteArray := prog_6_method_76_code
def yX4_known : MethodName := ⟨RX4, "known", "(III)I"⟩
abbrev cX4_bookedOf : ByteArray := prog_6_method_77_code
def yX4_bookedOf : MethodName := ⟨RX4, "bookedOf", "(I)I"⟩
abbrev cX4_booked : ByteArray := prog_6_method_78_code
def yX4_booked : MethodName := ⟨RX4, "booked", "(I)I"⟩
abbrev cX4_overbooked : ByteArray := prog_6_method_79_code
def yX4_overbooked : MethodName := ⟨RX4, "overbooked", "()I"⟩
abbrev cX4_over : ByteArray := prog_6_method_80_code
def yX4_over : MethodName := ⟨RX4, "over", "()I"⟩
abbrev cX4_settling : ByteArray := prog_6_method_81_code
def yX4_settling : MethodName := ⟨RX4, "settling", "(I)I"⟩
abbrev cX4_swings : ByteArray := prog_6_method_82_code
def yX4_swings : MethodName := ⟨RX4, "swings", "(III)I"⟩
abbrev cX4_peak : ByteArray := prog_6_method_83_code
def yX4_peak : MethodName := ⟨RX4, "peak", "(II)I"⟩
abbrev cX4_off : ByteArray := prog_6_method_84_code
def yX4_off : MethodName := ⟨RX4, "off", "()J"⟩
abbrev cX4_would : ByteArray := prog_6_method_85_code
def yX4_would : MethodName := ⟨RX4, "would", "(IIII)I"⟩
abbrev cX4_better : ByteArray := prog_6_method_86_code
def yX4_better : MethodName := ⟨RX4, "better", "(II)I"⟩
abbrev cX4_spares : ByteArray := prog_6_method_87_code
def yX4_spares : MethodName := ⟨RX4, "spares", "(II)I"⟩
abbrev cX4_weightFor : ByteArray := prog_6_method_88_code
def yX4_weightFor : MethodName := ⟨RX4, "weightFor", "(II)I"⟩
abbrev cX4_roomFor : ByteArray := prog_6_method_89_code
def yX4_roomFor : MethodName := ⟨RX4, "roomFor", "(I)I"⟩
abbrev cX4_takeLevels : ByteArray := prog_6_method_90_code
def yX4_takeLevels : MethodName := ⟨RX4, "takeLevels", "()V"⟩
abbrev cX4_othersBy : ByteArray := prog_6_method_91_code
def yX4_othersBy : MethodName := ⟨RX4, "othersBy", "(II)I"⟩
abbrev cX4_touched : ByteArray := prog_6_method_92_code
def yX4_touched : MethodName := ⟨RX4, "touched", "(I)I"⟩
abbrev cX4_without : ByteArray := prog_6_method_93_code
def yX4_without : MethodName := ⟨RX4, "without", "(II)I"⟩
abbrev cX4_wider : ByteArray := prog_6_method_94_code
def yX4_wider : MethodName := ⟨RX4, "wider", "(III)I"⟩
abbrev cX4_tight : ByteArray := prog_6_method_95_code
def yX4_tight : MethodName := ⟨RX4, "tight", "()I"⟩
abbrev cX4_enough : ByteArray := prog_6_method_96_code
def yX4_enough : MethodName := ⟨RX4, "enough", "(I)I"⟩
abbrev cX4_draw : ByteArray := prog_6_method_97_code
def yX4_draw : MethodName := ⟨RX4, "draw", "()I"⟩
abbrev cX4_comesByChance : ByteArray := prog_6_method_98_code
def yX4_comesByChance : MethodName := ⟨RX4, "comesByChance", "()V"⟩
abbrev cX4_goesByChance : ByteArray := prog_6_method_99_code
def yX4_goesByChance : MethodName := ⟨RX4, "goesByChance", "()V"⟩
abbrev cX4_storm : ByteArray := prog_6_method_100_code
def yX4_storm : MethodName := ⟨RX4, "storm", "(III)I"⟩
abbrev cX4_linksWithFlows : ByteArray := prog_6_method_101_code
def yX4_linksWithFlows : MethodName := ⟨RX4, "linksWithFlows", "()I"⟩
abbrev cX4_marksAll : ByteArray := prog_6_method_102_code
def yX4_marksAll : MethodName := ⟨RX4, "marksAll", "()I"⟩
abbrev cX4_underWay : ByteArray := prog_6_method_103_code
def yX4_underWay : MethodName := ⟨RX4, "underWay", "()I"⟩
abbrev cX4_toBeLost : ByteArray := prog_6_method_104_code
def yX4_toBeLost : MethodName := ⟨RX4, "toBeLost", "()I"⟩
abbrev cX4_count : ByteArray := prog_6_method_105_code
def yX4_count : MethodName := ⟨RX4, "count", "(I)I"⟩
def RJx145de : String := "java/io/Serializable"
def TJx145de : u_T := fun k => match k with
  | _ => ("", "", "", false)
def tyJx145de : Nat → FieldType := fun k => match k with
  | _ => .int
def RJ6 : String := "java/lang/Integer"
def TJ6 : u_T := fun k => match k with
  | _ => ("", "", "", false)
def tyJ6 : Nat → FieldType := fun k => match k with
  | _ => .int
abbrev cJ6_numberOfTrailingZeros_0f7a4 : ByteArray := prog_9_method_48_code
def yJ6_numberOfTrailingZeros_0f7a4 : MethodName := ⟨RJ6, "numberOfTrailingZeros", "(I)I"⟩
abbrev cJ6_bitCount_0f7a4 : ByteArray := prog_9_method_49_code
def yJ6_bitCount_0f7a4 : MethodName := ⟨RJ6, "bitCount", "(I)I"⟩
def RJ9 : String := "java/lang/Math"
def TJ9 : u_T := fun k => match k with
  | _ => ("", "", "", false)
def tyJ9 : Nat → FieldType := fun k => match k with
  | _ => .int
abbrev cJ9_abs_0f7a4 : ByteArray := prog_10_method_59_code
def yJ9_abs_0f7a4 : MethodName := ⟨RJ9, "abs", "(I)I"⟩
abbrev cJ9_max_7cf53 : ByteArray := prog_10_method_65_code
def yJ9_max_7cf53 : MethodName := ⟨RJ9, "max", "(II)I"⟩
abbrev cJ9_min_7cf53 : ByteArray := prog_10_method_69_code
def yJ9_min_7cf53 : MethodName := ⟨RJ9, "min", "(II)I"⟩
def RJ0 : String := "java/lang/String"
def TJ0 : u_T := fun k => match k with
  | _ => ("", "", "", false)
def tyJ0 : Nat → FieldType := fun k => match k with
  | _ => .int
def RJ10 : String := "java/lang/System"
def TJ10 : u_T := fun k => match k with
  | _ => ("", "", "", false)
def tyJ10 : Nat → FieldType := fun k => match k with
  | _ => .int
def RJ7 : String := "java/util/Arrays"
def TJ7 : u_T := fun k => match k with
  | _ => ("", "", "", false)
def tyJ7 : Nat → FieldType := fun k => match k with
  | _ => .int
abbrev cJ7_fill_53178 : ByteArray := prog_15_method_103_code
def yJ7_fill_53178 : MethodName := ⟨RJ7, "fill", "([II)V"⟩
def RL : String := "FairRatesLaw"
abbrev cL_flow : ByteArray := method_3_code
def yL_flow : MethodName := ⟨RL, "flow", "(LFairRates;II[J)I"⟩
abbrev cL_fair : ByteArray := method_4_code
def yL_fair : MethodName := ⟨RL, "fair", "(LFairRates;II[J)I"⟩
abbrev cL_proof : ByteArray := method_5_code
def yL_proof : MethodName := ⟨RL, "proof", "(LFairRates;II[J)I"⟩
abbrev cL_law : ByteArray := code
def yL_law : MethodName := ⟨RL, "law", "([I)Z"⟩
abbrev vwCl : List vw_C := [(RX0, TX0, 9), (RX1, TX1, 16), (RX2, TX2, 10), (RX3, TX3, 11), (RX4, TX4, 18)]
end
section

/-! ===== the thin machine: a heap is a function of ints by cell and place, and one long ===== -/
abbrev th_H : Type := (Nat → Nat → Int32) × Int64
abbrev th_L : Type := List ((Nat × Bool) ⊕ (Nat × List Nat))
def th_cv (ad : Nat → Nat) : Value → Value
  | .ref i => .ref (ad i)
  | v => v
def th_fv (ad : Nat → Nat) (h : th_H) (i k : Nat) : Nat → Value
  | 0 => .int (h.1 i k)
  | 1 => .long h.2
  | j + 2 => .ref (ad j)
def th_fL (ad : Nat → Nat) (h : th_H) (i : Nat) (fs : List Nat) : List Value := fs.mapIdx (fun k x => th_fv ad h i k x)
def th_E (cI cZ : ClassId) (ad : Nat → Nat) (h : th_H) (i : Nat) : ((Nat × Bool) ⊕ (Nat × List Nat)) → va_E
  | .inl (n, b) => .inl (if b then cZ else cI, n, .inl (h.1 i))
  | .inr (ci, fs) => .inr (ci, th_fL ad h i fs)
def th_W (cI cZ : ClassId) (ad : Nat → Nat) (L : th_L) (h : th_H) : va_W := L.mapIdx (fun i d => (ad i, th_E cI cZ ad h i d))
theorem th_W_at {cI cZ : ClassId} {ad : Nat → Nat} {L : th_L} {h : th_H} {i : Nat} {d : (Nat × Bool) ⊕ (Nat × List Nat)} (hi : L[i]? = some d) : (th_W cI cZ ad L h)[i]? = some (ad i, th_E cI cZ ad h i d) := by
  simp [th_W, List.getElem?_mapIdx, hi]
theorem th_W_len {cI cZ : ClassId} {ad : Nat → Nat} {L : th_L} {h : th_H} : (th_W cI cZ ad L h).length = L.length := by simp [th_W]
theorem th_W_of {cI cZ : ClassId} {ad : Nat → Nat} {L : th_L} {h : th_H} {i : Nat} {q : Nat × va_E} (hi : (th_W cI cZ ad L h)[i]? = some q) : i < L.length ∧ q.1 = ad i := by
  have h1 : i < (th_W cI cZ ad L h).length := (List.getElem?_eq_some_iff.mp hi).1
  rw [th_W_len] at h1
  rw [th_W_at (List.getElem?_eq_getElem h1)] at hi
  cases hi
  exact ⟨h1, rfl⟩
def th_up (h : th_H) (a k : Nat) (v : Int32) : th_H := (fun i j => if i = a then (if j = k then v else h.1 i j) else h.1 i j, h.2)
def th_ul (h : th_H) (v : Int64) : th_H := (h.1, v)
def th_cp (h : th_H) (a b n : Nat) : th_H := (fun i j => if i = b then (if j < n then h.1 a j else h.1 b j) else h.1 i j, h.2)
theorem th_ext {α : Type} {l1 l2 : List α} (h1 : ∀ i : Nat, l1[i]? = l2[i]?) : l1 = l2 := List.ext_getElem? h1
theorem th_up_ne {h : th_H} {a k i : Nat} {v : Int32} (hi : i ≠ a) : (th_up h a k v).1 i = h.1 i := by
  funext j; simp [th_up, hi]
theorem th_up_arr {h : th_H} {a k : Nat} {v : Int32} : (th_up h a k v).1 a = upd (h.1 a) k v := by
  funext j; simp [th_up, upd]
theorem th_E_ne {cI cZ : ClassId} {ad : Nat → Nat} {h h2 : th_H} {i : Nat} (h1 : h2.1 i = h.1 i) (hl : h2.2 = h.2) (d : (Nat × Bool) ⊕ (Nat × List Nat)) : th_E cI cZ ad h2 i d = th_E cI cZ ad h i d := by
  have hf : ∀ k x, th_fv ad h2 i k x = th_fv ad h i k x := by
    intro k x
    match x with
    | 0 => simp [th_fv, h1]
    | 1 => simp [th_fv, hl]
    | j + 2 => rfl
  rcases d with ⟨n, b⟩ | ⟨ci, fs⟩
  · simp [th_E, h1]
  · simp [th_E, th_fL, hf]
theorem th_W_set {cI cZ : ClassId} {ad : Nat → Nat} {L : th_L} {h h2 : th_H} {a : Nat} {d : (Nat × Bool) ⊕ (Nat × List Nat)} {E : va_E} (ha : L[a]? = some d) (hE : E = th_E cI cZ ad h2 a d) (hne : ∀ i d', i ≠ a → L[i]? = some d' → th_E cI cZ ad h2 i d' = th_E cI cZ ad h i d') :
    (th_W cI cZ ad L h).set a (ad a, E) = th_W cI cZ ad L h2 := by
  apply List.ext_getElem?
  intro i
  by_cases hi : i = a
  · subst hi
    rw [th_W_at ha, hE]
    have : i < (th_W cI cZ ad L h).length := by rw [th_W_len]; exact (List.getElem?_eq_some_iff.mp ha).1
    simp [this]
  · rw [List.getElem?_set_ne (fun q => hi q.symm)]
    cases hd : L[i]? with
    | none =>
      have h1 : L.length ≤ i := by simpa using hd
      rw [List.getElem?_eq_none (by rw [th_W_len]; exact h1), List.getElem?_eq_none (by rw [th_W_len]; exact h1)]
    | some d' => rw [th_W_at hd, th_W_at hd, hne i d' hi hd]
/-- the addresses are apart -/
def th_DD (ad : Nat → Nat) (L : th_L) : Prop := ∀ i j : Nat, i < L.length → j < L.length → ad i = ad j → i = j
/-- what a walk may write -/
def th_A (ad : Nat → Nat) (L : th_L) (sz : Nat) : Nat → Prop := fun q => (∃ i : Nat, i < L.length ∧ q = ad i) ∨ sz ≤ q
theorem th_D {cI cZ : ClassId} {ad : Nat → Nat} {L : th_L} {h : th_H} {sz : Nat} (hD : th_DD ad L) : va_D (th_A ad L sz) (th_W cI cZ ad L h) := by
  refine ⟨fun i j x y hx hy hxy => ?_, fun k q hq => ?_⟩
  · obtain ⟨i1, i2⟩ := th_W_of hx
    obtain ⟨j1, j2⟩ := th_W_of hy
    exact hD i j i1 j1 (by rw [← i2, ← j2]; exact hxy)
  · obtain ⟨i1, i2⟩ := th_W_of hq
    exact Or.inl ⟨k, i1, i2⟩
theorem th_DD_of {cI cZ : ClassId} {ad : Nat → Nat} {L : th_L} {h : th_H} {A : Nat → Prop} (hD : va_D A (th_W cI cZ ad L h)) : th_DD ad L := by
  intro i j hi hj hij
  exact hD.1 i j _ _ (th_W_at (List.getElem?_eq_getElem hi)) (th_W_at (List.getElem?_eq_getElem hj)) hij
/-- the locals: null stands for 'not set' -/
def th_LH (ad : Nat → Nat) (nL : Nat) (a : Array Slot) (ls : List Value) : Prop := a.size = nL ∧ lv_wf a ∧ ∀ (i : Nat) (v : Value), ls[i]? = some v → v ≠ .null → a[i]? = some (.val (th_cv ad v))
def th_prs (ad : Nat → Nat) (nL : Nat) (ls : List Value) : List (Nat × Value) := (List.range nL).filterMap (fun (i : Nat) => match (ls[i]? : Option Value) with
  | none => none
  | some .null => none
  | some v => some (i, th_cv ad v))
theorem th_prs_in {ad : Nat → Nat} {nL j : Nat} {ls : List Value} {v : Value} (hj : j < nL) (h : ls[j]? = some v) (hv : v ≠ .null) : (j, th_cv ad v) ∈ th_prs ad nL ls := by
  refine List.mem_filterMap.mpr ⟨j, List.mem_range.mpr hj, ?_⟩
  rw [h]
  cases v <;> first | rfl | exact absurd rfl hv
theorem th_prs_of {ad : Nat → Nat} {nL : Nat} {ls : List Value} {q : Nat × Value} (h : q ∈ th_prs ad nL ls) : ∃ v, ls[q.1]? = some v ∧ v ≠ .null ∧ q.2 = th_cv ad v := by
  obtain ⟨i, -, hi⟩ := List.mem_filterMap.mp h
  cases hl : ls[i]? with
  | none => rw [hl] at hi; cases hi
  | some v =>
    rw [hl] at hi
    cases v <;> first | (cases hi; exact ⟨_, hl, (fun q => by cases q), rfl⟩) | cases hi
theorem th_LH.has {ad : Nat → Nat} {nL : Nat} {a : Array Slot} {ls : List Value} (h : th_LH ad nL a ls) : lv_has a nL (th_prs ad nL ls) := by
  refine ⟨h.1, h.2.1, fun q hq => ?_⟩
  obtain ⟨v, h1, h2, h3⟩ := th_prs_of hq
  rw [h3]
  exact h.2.2 q.1 v h1 h2
theorem th_LH.lt {ad : Nat → Nat} {nL : Nat} {a : Array Slot} {ls : List Value} (h : th_LH ad nL a ls) {j : Nat} {v : Value} (hj : ls[j]? = some v) (hv : v ≠ .null) : j < nL := by
  have h1 := h.2.2 j v hj hv
  rw [← h.1]
  exact (Array.getElem?_eq_some_iff.mp h1).1
def th_nlb (ls : List Value) : Nat → Bool
  | 0 => true
  | j + 1 => match ls[j]? with
    | some v => v.category != 2
    | none => true
theorem th_cat (ad : Nat → Nat) (v : Value) : (th_cv ad v).category = v.category := by cases v <;> rfl
theorem th_nlb_ne {ls : List Value} {j i : Nat} {v : Value} (h : th_nlb ls i = true) (hj : ls[j]? = some v) (he : j + 1 = i) : ¬ v.category = 2 := by
  subst he
  simp [th_nlb, hj] at h
  exact h
theorem th_LH.set1 {ad : Nat → Nat} {nL i : Nat} {a a' : Array Slot} {ls : List Value} {v : Value} (h : th_LH ad nL a ls) (hn : th_nlb ls i = true)
    (h2 : lv_has a' nL ((i, th_cv ad v) :: (th_prs ad nL ls).filter (fun q => !(q.1 == i) && !(q.1 + 1 == i && q.2.category == 2)))) : th_LH ad nL a' (ls.set i v) := by
  refine ⟨h2.1, h2.2.1, fun j w hj hw => ?_⟩
  by_cases hji : j = i
  · subst hji
    have hlt : j < ls.length := by
      have := (List.getElem?_eq_some_iff.mp hj).1
      simpa using this
    rw [List.getElem?_set_self hlt] at hj
    cases hj
    exact h2.2.2 _ List.mem_cons_self
  · rw [List.getElem?_set_ne (fun q => hji q.symm)] at hj
    have h3 := th_prs_in (ad := ad) (h.lt hj hw) hj hw
    refine h2.2.2 (j, th_cv ad w) (List.mem_cons_of_mem _ (List.mem_filter.mpr ⟨h3, ?_⟩))
    have h4 : ¬ (j + 1 = i ∧ w.category = 2) := fun q => th_nlb_ne hn hj q.1 q.2
    simp only [th_cat, Bool.and_eq_true, Bool.not_eq_true', beq_eq_false_iff_ne, ne_eq, Bool.and_eq_false_iff]
    refine ⟨hji, ?_⟩
    by_cases h5 : j + 1 = i
    · exact Or.inr (fun q => h4 ⟨h5, q⟩)
    · exact Or.inl h5
theorem th_LH.set2 {ad : Nat → Nat} {nL i : Nat} {a a' : Array Slot} {ls : List Value} {x : Int64} (h : th_LH ad nL a ls) (hn : th_nlb ls i = true)
    (h2 : lv_has a' nL ((i, .long x) :: (th_prs ad nL ls).filter (fun q => !(q.1 == i) && (!(q.1 == i + 1) && !(q.1 + 1 == i && q.2.category == 2))))) : th_LH ad nL a' ((ls.set i (.long x)).set (i + 1) .null) := by
  refine ⟨h2.1, h2.2.1, fun j w hj hw => ?_⟩
  by_cases hj1 : j = i + 1
  · subst hj1
    have hlt : i + 1 < ls.length := by
      have := (List.getElem?_eq_some_iff.mp hj).1
      simpa using this
    rw [List.getElem?_set_self (by simpa using hlt)] at hj
    cases hj
    exact absurd rfl hw
  · rw [List.getElem?_set_ne (fun q => hj1 q.symm)] at hj
    by_cases hji : j = i
    · subst hji
      have hlt : j < ls.length := by
        have := (List.getElem?_eq_some_iff.mp hj).1
        simpa using this
      rw [List.getElem?_set_self hlt] at hj
      cases hj
      exact h2.2.2 _ List.mem_cons_self
    · rw [List.getElem?_set_ne (fun q => hji q.symm)] at hj
      have h3 := th_prs_in (ad := ad) (h.lt hj hw) hj hw
      refine h2.2.2 (j, th_cv ad w) (List.mem_cons_of_mem _ (List.mem_filter.mpr ⟨h3, ?_⟩))
      have h4 : ¬ (j + 1 = i ∧ w.category = 2) := fun q => th_nlb_ne hn hj q.1 q.2
      simp only [th_cat, Bool.and_eq_true, Bool.not_eq_true', beq_eq_false_iff_ne, ne_eq, Bool.and_eq_false_iff]
      refine ⟨hji, hj1, ?_⟩
      by_cases h5 : j + 1 = i
      · exact Or.inr (fun q => h4 ⟨h5, q⟩)
      · exact Or.inl h5
def th_sp : List Value → List Value
  | [] => []
  | v :: vs => if v.category = 2 then v :: .null :: th_sp vs else v :: th_sp vs
def th_ls (n : Nat) (av : List Value) : List Value := th_sp av ++ List.replicate (n - (th_sp av).length) .null
theorem th_sp_in (ad : Nat → Nat) : ∀ (av : List Value) (k i : Nat) (v : Value), (th_sp av)[i]? = some v → v ≠ .null → (k + i, th_cv ad v) ∈ lv_args k (av.map (th_cv ad))
  | [], k, i, v, h, _ => by simp [th_sp] at h
  | w :: vs, k, i, v, h, hv => by
    unfold th_sp at h
    show _ ∈ (k, th_cv ad w) :: lv_args (if (th_cv ad w).category = 2 then k + 2 else k + 1) (vs.map (th_cv ad))
    rw [th_cat]
    by_cases hc : w.category = 2
    · rw [if_pos hc] at h
      rw [if_pos hc]
      match i, h with
      | 0, h => cases h; exact List.mem_cons_self
      | 1, h => cases h; exact absurd rfl hv
      | i + 2, h =>
        have := th_sp_in ad vs (k + 2) i v (by simpa using h) hv
        rw [show k + (i + 2) = k + 2 + i by omega]
        exact List.mem_cons_of_mem _ this
    · rw [if_neg hc] at h
      rw [if_neg hc]
      match i, h with
      | 0, h => cases h; exact List.mem_cons_self
      | i + 1, h =>
        have := th_sp_in ad vs (k + 1) i v (by simpa using h) hv
        rw [show k + (i + 1) = k + 1 + i by omega]
        exact List.mem_cons_of_mem _ this
theorem th_ls_in (ad : Nat → Nat) {n : Nat} {av : List Value} {i : Nat} {v : Value} (h : (th_ls n av)[i]? = some v) (hv : v ≠ .null) : (i, th_cv ad v) ∈ lv_args 0 (av.map (th_cv ad)) := by
  unfold th_ls at h
  rcases Nat.lt_or_ge i (th_sp av).length with hl | hl
  · rw [List.getElem?_append_left hl] at h
    have := th_sp_in ad av 0 i v h hv
    simpa using this
  · rw [List.getElem?_append_right hl] at h
    have h2 := List.mem_of_getElem? h
    exact absurd (List.eq_of_mem_replicate h2) hv
theorem th_lg (ad : Nat → Nat) (av : List Value) : (lg_sl (av.map (th_cv ad))).length = (lg_sl av).length := by
  induction av with
  | nil => rfl
  | cons v vs ih =>
    simp only [lg_sl, List.map_cons, List.flatMap_cons, List.length_append, th_cat] at ih ⊢
    rw [ih]
    by_cases hc : v.category = 2
    · simp [hc]
    · simp [hc]
/-- a method's start and end over the thin heap -/
def th_PC (D : va_G) (cI cZ : ClassId) (ad : Nat → Nat) (L : th_L) (sz : Nat) (h : th_H) (av : List Value) : Array Value → State → Prop := fun v U => v = (av.map (th_cv ad)).toArray ∧ U.heap.size = sz ∧ va_P D vwCl (th_W cI cZ ad L h) U.heap ∧ va_K D vwCl [(cI, .int), (cZ, .boolean)] U ∧ th_DD ad L
def th_QP (D : va_G) (cI cZ : ClassId) (ad : Nat → Nat) (L : th_L) (sz : Nat) (r : Option Value) (hh : th_H) : Array Value → State → Outcome → State → Prop := fun _ st oc t => (oc = .returned (r.map (th_cv ad)) ∧ va_P D vwCl (th_W cI cZ ad L hh) t.heap) ∧ va_F (th_A ad L sz) st t
def th_MI (l : Launch) (L : th_L) (y : MethodName) (bytes : ByteArray) (maxL : Nat) (ret : Option FieldType) (F N : Nat) (av : List Value) (h : th_H) (r : Option Value) (hh : th_H) : Prop :=
  ∀ (D : va_G) (cI cZ : ClassId) (ad : Nat → Nat) (sz : Nat), Met l y (Cond.code y bytes maxL ret :: lw_tbl) { frames := F, cells := 0, slots := 0, locals := N } (th_PC D cI cZ ad L sz h av) (th_QP D cI cZ ad L sz r hh) 0 0 (th_A ad L sz)
def th_X (p : Program) (s : State) (m : MethodId) (args : Array Value) (meth : Method) (c : Code) (D : va_G) (cI cZ : ClassId) (ad : Nat → Nat) (L : th_L) (nL : Nat) (own : String) (cc : ByteArray) (rt : Option FieldType) : Prop :=
  p.tables.exec = Jvm.exec ∧ c.code = cc ∧ c.maxLocals = nL ∧ s.vm.findClass own = some m.cls ∧ (∀ w ∈ lw_tbl, w.before args s = true) ∧ va_K D vwCl [(cI, .int), (cZ, .boolean)] s ∧ th_DD ad L ∧ meth.locks = false ∧ meth.sig.returnType = rt
def th_V (p : Program) (l : Launch) (e : Env) (R : Room) (s : State) (m : MethodId) (args : Array Value) (below : List Frame) (meth : Method) (c : Code) (D : va_G) (cI cZ : ClassId) (ad : Nat → Nat) (L : th_L) (nL : Nat) (r : Option Value) (hh : th_H) (pc : Nat) (ls st : List Value) (h : th_H) : Prop :=
  ∀ (H : Heap) (locs : List Loc) (a : Array Slot), va_P D vwCl (th_W cI cZ ad L h) H → va_S (th_A ad L s.heap.size) s.heap H locs → th_LH ad nL a ls → W p l e R s m args below meth c H locs 0 0 (MQ below (th_QP D cI cZ ad L s.heap.size r hh) args s 0 0 (th_A ad L s.heap.size)) (F0 m pc a (st.map (th_cv ad)))
theorem th_MI_of {l : Launch} {L : th_L} {y : MethodName} {bytes : ByteArray} {maxL : Nat} {ret : Option FieldType} {F N : Nat} {av : List Value} {h : th_H} {r : Option Value} {hh : th_H} {ls : List Value} (own : String) (hy : plainName y.cls = true) (ho : y.cls = own) (hls : th_ls maxL av = ls) (hfit : (lg_sl av).length ≤ maxL)
    (body : ∀ (p : Program) (e : Env) (s : State) (m : MethodId) (args : Array Value) (below : List Frame) (meth : Method) (c : Code) (D : va_G) (cI cZ : ClassId) (ad : Nat → Nat), th_X p s m args meth c D cI cZ ad L maxL own bytes ret → th_V p l e { frames := F, cells := 0, slots := 0, locals := N } s m args below meth c D cI cZ ad L maxL r hh 0 ls [] h) :
    th_MI l L y bytes maxL ret F N av h r hh := by
  intro D cI cZ ad sz
  refine Met.ofW (cc := bytes) (maxL := maxL) (ret := ret) hy rfl ?_
  intro p e s m args below meth c s₁ B hml hv
  obtain ⟨rfl, hsz, hP, hK, hD⟩ := hv
  subst hsz
  have hts := atoms_spec (ws := Cond.code y bytes maxL ret :: lw_tbl) B.pre
  have hX : th_X p s m (av.map (th_cv ad)).toArray meth c D cI cZ ad L maxL own bytes ret := ⟨B.exec, B.bytes, hml, ho ▸ findClass_of_methodNamed B.named, fun w hw => hts w (List.mem_cons_of_mem _ hw), hK, hD, B.notSynchronized, B.returns⟩
  rw [lg_entry_eq]
  have hl := lv_entry (av.map (th_cv ad)) (n := maxL) (by rw [th_lg]; exact hfit)
  refine body p e s m _ below meth c D cI cZ ad hX s.heap [] _ hP va_S.rf ⟨hl.1, hl.2.1, fun i v hi hv => ?_⟩
  rw [← hls] at hi
  exact hl.2.2 _ (th_ls_in ad hi hv)
/-- decode rows of a method, all at once -/
def th_dec (cc : ByteArray) (t : List (Nat × Instr × Nat)) : Bool := t.all (fun q => decide (decode cc q.1 = .ok (q.2.1, q.2.2)))
theorem th_da {cc : ByteArray} {t : List (Nat × Instr × Nat)} (h : th_dec cc t = true) (k : Nat) {pc : Nat} {i : Instr} {n : Nat} (hk : t[k]? = some (pc, i, n)) : decode cc pc = .ok (i, n) := by
  have h1 := List.all_eq_true.mp h _ (List.mem_of_getElem? hk)
  simpa using h1
/-! the words of the functions that are laid out by program -/
def th_rd {α : Type} (h : th_H) (a n : Nat) (i : Int32) (k : Int32 → Option α) : Option α := if i < 0 ∨ n ≤ i.toNatClampNeg then none else k (h.1 a i.toNatClampNeg)
def th_wr {α : Type} (h : th_H) (a n : Nat) (i v : Int32) (k : th_H → Option α) : Option α := if i < 0 ∨ n ≤ i.toNatClampNeg then none else k (th_up h a i.toNatClampNeg v)
def th_dv {α : Type} (y : Int32) (x : Option α) : Option α := if y = 0 then none else x
def th_dw {α : Type} (y : Int64) (x : Option α) : Option α := if y = 0 then none else x
def th_rem (x y : Int32) : Int32 := x - x / y * y
def th_rml (x y : Int64) : Int64 := x - x / y * y
def th_gb {α : Type} (y : Int32) (x : Option α) : Option α := if y = 0 ∨ y = 1 then x else none
def th_bd {α β : Type} (x : Option (α × th_H)) (k : α → th_H → Option β) : Option β := match x with
  | none => none
  | some (a, h) => k a h
def th_st {α : Type} (h : th_H) (k : th_H → Option α) : Option α := k h
theorem th_rd_some {α : Type} {h : th_H} {a n : Nat} {i : Int32} {k : Int32 → Option α} {z : α} (q : th_rd h a n i k = some z) : ∃ v, h.1 a i.toNatClampNeg = v ∧ vp_in i n ∧ k v = some z := by
  unfold th_rd at q
  by_cases hc : i < 0 ∨ n ≤ i.toNatClampNeg
  · rw [if_pos hc] at q; cases q
  · rw [if_neg hc] at q; exact ⟨_, rfl, hc, q⟩
theorem th_wr_some {α : Type} {h : th_H} {a n : Nat} {i v : Int32} {k : th_H → Option α} {z : α} (q : th_wr h a n i v k = some z) : ∃ h2, th_up h a i.toNatClampNeg v = h2 ∧ vp_in i n ∧ k h2 = some z := by
  unfold th_wr at q
  by_cases hc : i < 0 ∨ n ≤ i.toNatClampNeg
  · rw [if_pos hc] at q; cases q
  · rw [if_neg hc] at q; exact ⟨_, rfl, hc, q⟩
theorem th_dv_some {α : Type} {y : Int32} {x : Option α} {z : α} (q : th_dv y x = some z) : ¬ y = 0 ∧ x = some z := by
  unfold th_dv at q
  by_cases hc : y = 0
  · rw [if_pos hc] at q; cases q
  · rw [if_neg hc] at q; exact ⟨hc, q⟩
theorem th_dw_some {α : Type} {y : Int64} {x : Option α} {z : α} (q : th_dw y x = some z) : ¬ y = 0 ∧ x = some z := by
  unfold th_dw at q
  by_cases hc : y = 0
  · rw [if_pos hc] at q; cases q
  · rw [if_neg hc] at q; exact ⟨hc, q⟩
theorem th_gb_some {α : Type} {y : Int32} {x : Option α} {z : α} (q : th_gb y x = some z) : (y = 0 ∨ y = 1) ∧ x = some z := by
  unfold th_gb at q
  by_cases hc : y = 0 ∨ y = 1
  · rw [if_pos hc] at q; exact ⟨hc, q⟩
  · rw [if_neg hc] at q; cases q
theorem th_bd_some {α β : Type} {x : Option (α × th_H)} {k : α → th_H → Option β} {z : β} (q : th_bd x k = some z) : ∃ a h, x = some (a, h) ∧ k a h = some z := by
  cases x with
  | none => cases q
  | some y => exact ⟨y.1, y.2, rfl, q⟩
theorem th_st_some {α : Type} {h : th_H} {k : th_H → Option α} {z : α} (q : th_st h k = some z) : ∃ h2, h = h2 ∧ k h2 = some z := ⟨h, rfl, q⟩
section ThinRows
variable {p : Program} {l : Launch} {e : Env} {R : Room} {s : State} {m : MethodId} {args : Array Value} {below : List Frame} {meth : Method} {c : Code} {D : va_G} {cI cZ : ClassId} {ad : Nat → Nat} {L : th_L} {nL : Nat} {own : String} {cc : ByteArray} {rt : Option FieldType} {r : Option Value} {hh h : th_H} {ls st : List Value} {pc : Nat}
theorem V_iconst (X : th_X p s m args meth c D cI cZ ad L nL own cc rt) {n : Int} {v : Int32} (d : decode cc pc = .ok (.iconst n, 1)) (hv : Int32.ofInt n = v) (k : th_V p l e R s m args below meth c D cI cZ ad L nL r hh (pc + 1) ls (.int v :: st) h) : th_V p l e R s m args below meth c D cI cZ ad L nL r hh pc ls (st) h := fun H locs a hP hS hl => lv_iconst X.1 X.2.1 d hv (k H locs a hP hS hl)
theorem V_bipush (X : th_X p s m args meth c D cI cZ ad L nL own cc rt) {n : Int} {v : Int32} (d : decode cc pc = .ok (.bipush n, 2)) (hv : (Int8.ofInt n).toInt32 = v) (k : th_V p l e R s m args below meth c D cI cZ ad L nL r hh (pc + 2) ls (.int v :: st) h) : th_V p l e R s m args below meth c D cI cZ ad L nL r hh pc ls (st) h := fun H locs a hP hS hl => lv_bipush X.1 X.2.1 d hv (k H locs a hP hS hl)
theorem V_sipush (X : th_X p s m args meth c D cI cZ ad L nL own cc rt) {n : Int} {v : Int32} (d : decode cc pc = .ok (.sipush n, 3)) (hv : (Int16.ofInt n).toInt32 = v) (k : th_V p l e R s m args below meth c D cI cZ ad L nL r hh (pc + 3) ls (.int v :: st) h) : th_V p l e R s m args below meth c D cI cZ ad L nL r hh pc ls (st) h := fun H locs a hP hS hl => lv_sipush X.1 X.2.1 d hv (k H locs a hP hS hl)
theorem V_lconst (X : th_X p s m args meth c D cI cZ ad L nL own cc rt) {n : Fin 2} {v : Int64} (d : decode cc pc = .ok (.lconst n, 1)) (hv : Int64.ofNat (n : Nat) = v) (k : th_V p l e R s m args below meth c D cI cZ ad L nL r hh (pc + 1) ls (.long v :: st) h) : th_V p l e R s m args below meth c D cI cZ ad L nL r hh pc ls (st) h := fun H locs a hP hS hl => lv_lconst X.1 X.2.1 d hv (k H locs a hP hS hl)
theorem V_ldc (X : th_X p s m args meth c D cI cZ ad L nL own cc rt) {index : Nat} {v : Int32} (d : decode cc pc = .ok (.ldc index, 2)) (w : Cond.constant own index v ∈ lw_tbl) (k : th_V p l e R s m args below meth c D cI cZ ad L nL r hh (pc + 2) ls (.int v :: st) h) : th_V p l e R s m args below meth c D cI cZ ad L nL r hh pc ls (st) h := fun H locs a hP hS hl => lv_ldc X.1 X.2.1 X.2.2.2.1 (X.2.2.2.2.1 _ w) d (k H locs a hP hS hl)
theorem V_ldcw (X : th_X p s m args meth c D cI cZ ad L nL own cc rt) {index : Nat} {v : Int32} (d : decode cc pc = .ok (.ldc_w index, 3)) (w : Cond.constant own index v ∈ lw_tbl) (k : th_V p l e R s m args below meth c D cI cZ ad L nL r hh (pc + 3) ls (.int v :: st) h) : th_V p l e R s m args below meth c D cI cZ ad L nL r hh pc ls (st) h := fun H locs a hP hS hl => lv_ldcw X.1 X.2.1 X.2.2.2.1 (X.2.2.2.2.1 _ w) d (k H locs a hP hS hl)
theorem V_ldc2 (X : th_X p s m args meth c D cI cZ ad L nL own cc rt) {index : Nat} {v : Int64} (d : decode cc pc = .ok (.ldc2_w index, 3)) (w : Cond.constantLong own index v ∈ lw_tbl) (k : th_V p l e R s m args below meth c D cI cZ ad L nL r hh (pc + 3) ls (.long v :: st) h) : th_V p l e R s m args below meth c D cI cZ ad L nL r hh pc ls (st) h := fun H locs a hP hS hl => lv_ldc2 X.1 X.2.1 X.2.2.2.1 (X.2.2.2.2.1 _ w) d (k H locs a hP hS hl)
theorem V_iload_n (X : th_X p s m args meth c D cI cZ ad L nL own cc rt) {q : Fin 4} {x : Int32} (d : decode cc pc = .ok (.iload_n q, 1)) (g : ls[(q : Nat)]? = some (.int x)) (k : th_V p l e R s m args below meth c D cI cZ ad L nL r hh (pc + 1) ls (.int x :: st) h) : th_V p l e R s m args below meth c D cI cZ ad L nL r hh pc ls (st) h := fun H locs a hP hS hl => lv_iload_n X.1 X.2.1 d rfl (hl.2.2 _ _ g (fun z => by cases z)) (k H locs a hP hS hl)
theorem V_iload (X : th_X p s m args meth c D cI cZ ad L nL own cc rt) {i : Nat} {x : Int32} (d : decode cc pc = .ok (.iload i, 2)) (g : ls[i]? = some (.int x)) (k : th_V p l e R s m args below meth c D cI cZ ad L nL r hh (pc + 2) ls (.int x :: st) h) : th_V p l e R s m args below meth c D cI cZ ad L nL r hh pc ls (st) h := fun H locs a hP hS hl => lv_iload X.1 X.2.1 d (hl.2.2 _ _ g (fun z => by cases z)) (k H locs a hP hS hl)
theorem V_lload_n (X : th_X p s m args meth c D cI cZ ad L nL own cc rt) {q : Fin 4} {x : Int64} (d : decode cc pc = .ok (.lload_n q, 1)) (g : ls[(q : Nat)]? = some (.long x)) (k : th_V p l e R s m args below meth c D cI cZ ad L nL r hh (pc + 1) ls (.long x :: st) h) : th_V p l e R s m args below meth c D cI cZ ad L nL r hh pc ls (st) h := fun H locs a hP hS hl => lv_lload_n X.1 X.2.1 d rfl (hl.2.2 _ _ g (fun z => by cases z)) (k H locs a hP hS hl)
theorem V_lload (X : th_X p s m args meth c D cI cZ ad L nL own cc rt) {i : Nat} {x : Int64} (d : decode cc pc = .ok (.lload i, 2)) (g : ls[i]? = some (.long x)) (k : th_V p l e R s m args below meth c D cI cZ ad L nL r hh (pc + 2) ls (.long x :: st) h) : th_V p l e R s m args below meth c D cI cZ ad L nL r hh pc ls (st) h := fun H locs a hP hS hl => lv_lload X.1 X.2.1 d (hl.2.2 _ _ g (fun z => by cases z)) (k H locs a hP hS hl)
theorem V_aload_n (X : th_X p s m args meth c D cI cZ ad L nL own cc rt) {q : Fin 4} {x : Nat} (d : decode cc pc = .ok (.aload_n q, 1)) (g : ls[(q : Nat)]? = some (.ref x)) (k : th_V p l e R s m args below meth c D cI cZ ad L nL r hh (pc + 1) ls (.ref x :: st) h) : th_V p l e R s m args below meth c D cI cZ ad L nL r hh pc ls (st) h := fun H locs a hP hS hl => lv_aload_n X.1 X.2.1 d rfl (hl.2.2 _ _ g (fun z => by cases z)) (k H locs a hP hS hl)
theorem V_aload (X : th_X p s m args meth c D cI cZ ad L nL own cc rt) {i : Nat} {x : Nat} (d : decode cc pc = .ok (.aload i, 2)) (g : ls[i]? = some (.ref x)) (k : th_V p l e R s m args below meth c D cI cZ ad L nL r hh (pc + 2) ls (.ref x :: st) h) : th_V p l e R s m args below meth c D cI cZ ad L nL r hh pc ls (st) h := fun H locs a hP hS hl => lv_aload X.1 X.2.1 d (hl.2.2 _ _ g (fun z => by cases z)) (k H locs a hP hS hl)
theorem V_istore_n (X : th_X p s m args meth c D cI cZ ad L nL own cc rt) {q : Fin 4} {x : Int32} (d : decode cc pc = .ok (.istore_n q, 1)) (hn : (q : Nat) < nL) (hb : th_nlb ls (q : Nat) = true) {ls2 : List Value} (g : ls.set (q : Nat) (.int x) = ls2) (k : th_V p l e R s m args below meth c D cI cZ ad L nL r hh (pc + 1) ls2 st h) : th_V p l e R s m args below meth c D cI cZ ad L nL r hh pc ls (.int x :: st) h := fun H locs a hP hS hl => lv_istore_n X.1 X.2.1 d rfl hl.has hn rfl (fun a2 hl2 => k H locs a2 hP hS (g ▸ hl.set1 (v := .int x) hb hl2))
theorem V_istore (X : th_X p s m args meth c D cI cZ ad L nL own cc rt) {i : Nat} {x : Int32} (d : decode cc pc = .ok (.istore i, 2)) (hn : i < nL) (hb : th_nlb ls i = true) {ls2 : List Value} (g : ls.set i (.int x) = ls2) (k : th_V p l e R s m args below meth c D cI cZ ad L nL r hh (pc + 2) ls2 st h) : th_V p l e R s m args below meth c D cI cZ ad L nL r hh pc ls (.int x :: st) h := fun H locs a hP hS hl => lv_istore X.1 X.2.1 d hl.has hn rfl (fun a2 hl2 => k H locs a2 hP hS (g ▸ hl.set1 (v := .int x) hb hl2))
theorem V_astore_n (X : th_X p s m args meth c D cI cZ ad L nL own cc rt) {q : Fin 4} {x : Nat} (d : decode cc pc = .ok (.astore_n q, 1)) (hn : (q : Nat) < nL) (hb : th_nlb ls (q : Nat) = true) {ls2 : List Value} (g : ls.set (q : Nat) (.ref x) = ls2) (k : th_V p l e R s m args below meth c D cI cZ ad L nL r hh (pc + 1) ls2 st h) : th_V p l e R s m args below meth c D cI cZ ad L nL r hh pc ls (.ref x :: st) h := fun H locs a hP hS hl => lv_astore_n X.1 X.2.1 d rfl hl.has hn rfl (fun a2 hl2 => k H locs a2 hP hS (g ▸ hl.set1 (v := .ref x) hb hl2))
theorem V_astore (X : th_X p s m args meth c D cI cZ ad L nL own cc rt) {i : Nat} {x : Nat} (d : decode cc pc = .ok (.astore i, 2)) (hn : i < nL) (hb : th_nlb ls i = true) {ls2 : List Value} (g : ls.set i (.ref x) = ls2) (k : th_V p l e R s m args below meth c D cI cZ ad L nL r hh (pc + 2) ls2 st h) : th_V p l e R s m args below meth c D cI cZ ad L nL r hh pc ls (.ref x :: st) h := fun H locs a hP hS hl => lv_astore X.1 X.2.1 d hl.has hn rfl (fun a2 hl2 => k H locs a2 hP hS (g ▸ hl.set1 (v := .ref x) hb hl2))
theorem V_lstore_n (X : th_X p s m args meth c D cI cZ ad L nL own cc rt) {q : Fin 4} {x : Int64} (d : decode cc pc = .ok (.lstore_n q, 1)) (hn : (q : Nat) + 1 < nL) (hb : th_nlb ls (q : Nat) = true) {ls2 : List Value} (g : (ls.set (q : Nat) (.long x)).set ((q : Nat) + 1) .null = ls2) (k : th_V p l e R s m args below meth c D cI cZ ad L nL r hh (pc + 1) ls2 st h) : th_V p l e R s m args below meth c D cI cZ ad L nL r hh pc ls (.long x :: st) h := fun H locs a hP hS hl => lv_lstore_n X.1 X.2.1 d rfl hl.has hn rfl (fun a2 hl2 => k H locs a2 hP hS (g ▸ hl.set2 hb hl2))
theorem V_lstore (X : th_X p s m args meth c D cI cZ ad L nL own cc rt) {i : Nat} {x : Int64} (d : decode cc pc = .ok (.lstore i, 2)) (hn : i + 1 < nL) (hb : th_nlb ls i = true) {ls2 : List Value} (g : (ls.set i (.long x)).set (i + 1) .null = ls2) (k : th_V p l e R s m args below meth c D cI cZ ad L nL r hh (pc + 2) ls2 st h) : th_V p l e R s m args below meth c D cI cZ ad L nL r hh pc ls (.long x :: st) h := fun H locs a hP hS hl => lv_lstore X.1 X.2.1 d hl.has hn rfl (fun a2 hl2 => k H locs a2 hP hS (g ▸ hl.set2 hb hl2))
theorem V_iinc (X : th_X p s m args meth c D cI cZ ad L nL own cc rt) {i : Nat} {n : Int} {x v : Int32} (d : decode cc pc = .ok (.iinc i n, 3)) (g0 : ls[i]? = some (.int x)) (hv : x + Int32.ofInt n = v) (hn : i < nL) (hb : th_nlb ls i = true) {ls2 : List Value} (g : ls.set i (.int v) = ls2) (k : th_V p l e R s m args below meth c D cI cZ ad L nL r hh (pc + 3) ls2 st h) : th_V p l e R s m args below meth c D cI cZ ad L nL r hh pc ls st h := by
  intro H locs a hP hS hl
  obtain ⟨j, hj⟩ := List.getElem?_of_mem (th_prs_in (ad := ad) hn g0 (fun z => by cases z))
  exact lv_iinc X.1 X.2.1 d hl.has hj hv hn rfl (fun a2 hl2 => k H locs a2 hP hS (g ▸ hl.set1 (v := .int v) hb hl2))
theorem V_iadd (X : th_X p s m args meth c D cI cZ ad L nL own cc rt) {x y : Int32} (d : decode cc pc = .ok (.iadd, 1))  (k : th_V p l e R s m args below meth c D cI cZ ad L nL r hh (pc + 1) ls (.int (x + y) :: st) h) : th_V p l e R s m args below meth c D cI cZ ad L nL r hh pc ls (.int y :: .int x :: st) h := fun H locs a hP hS hl => lv_iadd X.1 X.2.1 d (k H locs a hP hS hl)
theorem V_isub (X : th_X p s m args meth c D cI cZ ad L nL own cc rt) {x y : Int32} (d : decode cc pc = .ok (.isub, 1))  (k : th_V p l e R s m args below meth c D cI cZ ad L nL r hh (pc + 1) ls (.int (x - y) :: st) h) : th_V p l e R s m args below meth c D cI cZ ad L nL r hh pc ls (.int y :: .int x :: st) h := fun H locs a hP hS hl => lv_isub X.1 X.2.1 d (k H locs a hP hS hl)
theorem V_imul (X : th_X p s m args meth c D cI cZ ad L nL own cc rt) {x y : Int32} (d : decode cc pc = .ok (.imul, 1))  (k : th_V p l e R s m args below meth c D cI cZ ad L nL r hh (pc + 1) ls (.int (x * y) :: st) h) : th_V p l e R s m args below meth c D cI cZ ad L nL r hh pc ls (.int y :: .int x :: st) h := fun H locs a hP hS hl => lv_imul X.1 X.2.1 d (k H locs a hP hS hl)
theorem V_iand (X : th_X p s m args meth c D cI cZ ad L nL own cc rt) {x y : Int32} (d : decode cc pc = .ok (.iand, 1))  (k : th_V p l e R s m args below meth c D cI cZ ad L nL r hh (pc + 1) ls (.int (x &&& y) :: st) h) : th_V p l e R s m args below meth c D cI cZ ad L nL r hh pc ls (.int y :: .int x :: st) h := fun H locs a hP hS hl => lv_iand X.1 X.2.1 d (k H locs a hP hS hl)
theorem V_ior (X : th_X p s m args meth c D cI cZ ad L nL own cc rt) {x y : Int32} (d : decode cc pc = .ok (.ior, 1))  (k : th_V p l e R s m args below meth c D cI cZ ad L nL r hh (pc + 1) ls (.int (x ||| y) :: st) h) : th_V p l e R s m args below meth c D cI cZ ad L nL r hh pc ls (.int y :: .int x :: st) h := fun H locs a hP hS hl => lv_ior X.1 X.2.1 d (k H locs a hP hS hl)
theorem V_ixor (X : th_X p s m args meth c D cI cZ ad L nL own cc rt) {x y : Int32} (d : decode cc pc = .ok (.ixor, 1))  (k : th_V p l e R s m args below meth c D cI cZ ad L nL r hh (pc + 1) ls (.int (x ^^^ y) :: st) h) : th_V p l e R s m args below meth c D cI cZ ad L nL r hh pc ls (.int y :: .int x :: st) h := fun H locs a hP hS hl => lv_ixor X.1 X.2.1 d (k H locs a hP hS hl)
theorem V_ishl (X : th_X p s m args meth c D cI cZ ad L nL own cc rt) {x y : Int32} (d : decode cc pc = .ok (.ishl, 1))  (k : th_V p l e R s m args below meth c D cI cZ ad L nL r hh (pc + 1) ls (.int (x <<< (y &&& 31)) :: st) h) : th_V p l e R s m args below meth c D cI cZ ad L nL r hh pc ls (.int y :: .int x :: st) h := fun H locs a hP hS hl => lv_ishl X.1 X.2.1 d (k H locs a hP hS hl)
theorem V_ishr (X : th_X p s m args meth c D cI cZ ad L nL own cc rt) {x y : Int32} (d : decode cc pc = .ok (.ishr, 1))  (k : th_V p l e R s m args below meth c D cI cZ ad L nL r hh (pc + 1) ls (.int (x >>> (y &&& 31)) :: st) h) : th_V p l e R s m args below meth c D cI cZ ad L nL r hh pc ls (.int y :: .int x :: st) h := fun H locs a hP hS hl => lv_ishr X.1 X.2.1 d (k H locs a hP hS hl)
theorem V_iushr (X : th_X p s m args meth c D cI cZ ad L nL own cc rt) {x y v : Int32} (d : decode cc pc = .ok (.iushr, 1)) (hv : (x.toUInt32 >>> (y.toUInt32 &&& Int32.toUInt32 31)).toInt32 = v) (k : th_V p l e R s m args below meth c D cI cZ ad L nL r hh (pc + 1) ls (.int v :: st) h) : th_V p l e R s m args below meth c D cI cZ ad L nL r hh pc ls (.int y :: .int x :: st) h := fun H locs a hP hS hl => lv_iushr X.1 X.2.1 d hv (k H locs a hP hS hl)
theorem V_idiv (X : th_X p s m args meth c D cI cZ ad L nL own cc rt) {x y : Int32} (d : decode cc pc = .ok (.idiv, 1)) (hne : ¬ y = 0) (k : th_V p l e R s m args below meth c D cI cZ ad L nL r hh (pc + 1) ls (.int (x / y) :: st) h) : th_V p l e R s m args below meth c D cI cZ ad L nL r hh pc ls (.int y :: .int x :: st) h := fun H locs a hP hS hl => lv_idiv X.1 X.2.1 d hne (k H locs a hP hS hl)
theorem V_irem (X : th_X p s m args meth c D cI cZ ad L nL own cc rt) {x y : Int32} (d : decode cc pc = .ok (.irem, 1)) (hne : ¬ y = 0) (k : th_V p l e R s m args below meth c D cI cZ ad L nL r hh (pc + 1) ls (.int (th_rem x y) :: st) h) : th_V p l e R s m args below meth c D cI cZ ad L nL r hh pc ls (.int y :: .int x :: st) h := fun H locs a hP hS hl => lv_irem X.1 X.2.1 d hne (k H locs a hP hS hl)
theorem V_ineg (X : th_X p s m args meth c D cI cZ ad L nL own cc rt) {x : Int32} (d : decode cc pc = .ok (.ineg, 1))  (k : th_V p l e R s m args below meth c D cI cZ ad L nL r hh (pc + 1) ls (.int (-x) :: st) h) : th_V p l e R s m args below meth c D cI cZ ad L nL r hh pc ls (.int x :: st) h := fun H locs a hP hS hl => lv_ineg X.1 X.2.1 d (k H locs a hP hS hl)
theorem V_ladd (X : th_X p s m args meth c D cI cZ ad L nL own cc rt) {x y : Int64} (d : decode cc pc = .ok (.ladd, 1))  (k : th_V p l e R s m args below meth c D cI cZ ad L nL r hh (pc + 1) ls (.long (x + y) :: st) h) : th_V p l e R s m args below meth c D cI cZ ad L nL r hh pc ls (.long y :: .long x :: st) h := fun H locs a hP hS hl => lv_ladd X.1 X.2.1 d (k H locs a hP hS hl)
theorem V_lsub (X : th_X p s m args meth c D cI cZ ad L nL own cc rt) {x y : Int64} (d : decode cc pc = .ok (.lsub, 1))  (k : th_V p l e R s m args below meth c D cI cZ ad L nL r hh (pc + 1) ls (.long (x - y) :: st) h) : th_V p l e R s m args below meth c D cI cZ ad L nL r hh pc ls (.long y :: .long x :: st) h := fun H locs a hP hS hl => lv_lsub X.1 X.2.1 d (k H locs a hP hS hl)
theorem V_lmul (X : th_X p s m args meth c D cI cZ ad L nL own cc rt) {x y : Int64} (d : decode cc pc = .ok (.lmul, 1))  (k : th_V p l e R s m args below meth c D cI cZ ad L nL r hh (pc + 1) ls (.long (x * y) :: st) h) : th_V p l e R s m args below meth c D cI cZ ad L nL r hh pc ls (.long y :: .long x :: st) h := fun H locs a hP hS hl => lv_lmul X.1 X.2.1 d (k H locs a hP hS hl)
theorem V_ldiv (X : th_X p s m args meth c D cI cZ ad L nL own cc rt) {x y : Int64} (d : decode cc pc = .ok (.ldiv, 1)) (hne : ¬ y = 0) (k : th_V p l e R s m args below meth c D cI cZ ad L nL r hh (pc + 1) ls (.long (x / y) :: st) h) : th_V p l e R s m args below meth c D cI cZ ad L nL r hh pc ls (.long y :: .long x :: st) h := fun H locs a hP hS hl => lv_ldiv X.1 X.2.1 d hne (k H locs a hP hS hl)
theorem V_lrem (X : th_X p s m args meth c D cI cZ ad L nL own cc rt) {x y : Int64} (d : decode cc pc = .ok (.lrem, 1)) (hne : ¬ y = 0) (k : th_V p l e R s m args below meth c D cI cZ ad L nL r hh (pc + 1) ls (.long (th_rml x y) :: st) h) : th_V p l e R s m args below meth c D cI cZ ad L nL r hh pc ls (.long y :: .long x :: st) h := fun H locs a hP hS hl => lv_lrem X.1 X.2.1 d hne (k H locs a hP hS hl)
theorem V_lcmp (X : th_X p s m args meth c D cI cZ ad L nL own cc rt) {x y : Int64} (d : decode cc pc = .ok (.lcmp, 1))  (k : th_V p l e R s m args below meth c D cI cZ ad L nL r hh (pc + 1) ls (.int (lg_cmp x y) :: st) h) : th_V p l e R s m args below meth c D cI cZ ad L nL r hh pc ls (.long y :: .long x :: st) h := fun H locs a hP hS hl => W.lcmp X.1 X.2.1 d (k H locs a hP hS hl)
theorem V_i2l (X : th_X p s m args meth c D cI cZ ad L nL own cc rt) {x : Int32} (d : decode cc pc = .ok (.i2l, 1))  (k : th_V p l e R s m args below meth c D cI cZ ad L nL r hh (pc + 1) ls (.long x.toInt64 :: st) h) : th_V p l e R s m args below meth c D cI cZ ad L nL r hh pc ls (.int x :: st) h := fun H locs a hP hS hl => lv_i2l X.1 X.2.1 d rfl (k H locs a hP hS hl)
theorem V_l2i (X : th_X p s m args meth c D cI cZ ad L nL own cc rt) {x : Int64} (d : decode cc pc = .ok (.l2i, 1))  (k : th_V p l e R s m args below meth c D cI cZ ad L nL r hh (pc + 1) ls (.int x.toInt32 :: st) h) : th_V p l e R s m args below meth c D cI cZ ad L nL r hh pc ls (.long x :: st) h := fun H locs a hP hS hl => lv_l2i X.1 X.2.1 d rfl (k H locs a hP hS hl)
theorem V_dup (X : th_X p s m args meth c D cI cZ ad L nL own cc rt) {v : Value} (d : decode cc pc = .ok (.dup, 1)) (hv : v.category = 1) (k : th_V p l e R s m args below meth c D cI cZ ad L nL r hh (pc + 1) ls (v :: v :: st) h) : th_V p l e R s m args below meth c D cI cZ ad L nL r hh pc ls (v :: st) h := fun H locs a hP hS hl => lv_dup X.1 X.2.1 d ((th_cat ad v).trans hv) (k H locs a hP hS hl)
theorem V_pop (X : th_X p s m args meth c D cI cZ ad L nL own cc rt) {v : Value} (d : decode cc pc = .ok (.pop, 1)) (hv : v.category = 1) (k : th_V p l e R s m args below meth c D cI cZ ad L nL r hh (pc + 1) ls (st) h) : th_V p l e R s m args below meth c D cI cZ ad L nL r hh pc ls (v :: st) h := fun H locs a hP hS hl => lv_pop X.1 X.2.1 d ((th_cat ad v).trans hv) (k H locs a hP hS hl)
theorem V_dup2 (X : th_X p s m args meth c D cI cZ ad L nL own cc rt) {v w : Value} (d : decode cc pc = .ok (.dup2, 1)) (hv : v.category = 1) (hw : w.category = 1) (k : th_V p l e R s m args below meth c D cI cZ ad L nL r hh (pc + 1) ls (v :: w :: v :: w :: st) h) : th_V p l e R s m args below meth c D cI cZ ad L nL r hh pc ls (v :: w :: st) h := fun H locs a hP hS hl => lv_dup2_11 X.1 X.2.1 d ((th_cat ad v).trans hv) ((th_cat ad w).trans hw) (k H locs a hP hS hl)
theorem V_goto (X : th_X p s m args meth c D cI cZ ad L nL own cc rt) {off : Int} (d : decode cc pc = .ok (.goto off, 3)) {tgt : Nat} (ht : (pc : Int) + off = (tgt : Int)) (k : th_V p l e R s m args below meth c D cI cZ ad L nL r hh tgt ls st h) : th_V p l e R s m args below meth c D cI cZ ad L nL r hh pc ls st h := fun H locs a hP hS hl => lv_goto X.1 X.2.1 d ht (k H locs a hP hS hl)
theorem V_icmp_eq (X : th_X p s m args meth c D cI cZ ad L nL own cc rt) {x y : Int32} {off : Int} {tgt : Nat} (d : decode cc pc = .ok (.if_icmp .eq off, 3)) (ht : (pc : Int) + off = (tgt : Int)) (kt : x = y → th_V p l e R s m args below meth c D cI cZ ad L nL r hh tgt ls st h) (kf : ¬ x = y → th_V p l e R s m args below meth c D cI cZ ad L nL r hh (pc + 3) ls st h) : th_V p l e R s m args below meth c D cI cZ ad L nL r hh pc ls (.int y :: .int x :: st) h := fun H locs a hP hS hl => lv_icmp_eq X.1 X.2.1 d ht (fun z => kt (z) H locs a hP hS hl) (fun z => kf (z) H locs a hP hS hl)
theorem V_icmp_ne (X : th_X p s m args meth c D cI cZ ad L nL own cc rt) {x y : Int32} {off : Int} {tgt : Nat} (d : decode cc pc = .ok (.if_icmp .ne off, 3)) (ht : (pc : Int) + off = (tgt : Int)) (kt : x = y → th_V p l e R s m args below meth c D cI cZ ad L nL r hh (pc + 3) ls st h) (kf : ¬ x = y → th_V p l e R s m args below meth c D cI cZ ad L nL r hh tgt ls st h) : th_V p l e R s m args below meth c D cI cZ ad L nL r hh pc ls (.int y :: .int x :: st) h := fun H locs a hP hS hl => lv_icmp_ne X.1 X.2.1 d ht (fun z => kf (z) H locs a hP hS hl) (fun z => kt (z) H locs a hP hS hl)
theorem V_icmp_lt (X : th_X p s m args meth c D cI cZ ad L nL own cc rt) {x y : Int32} {off : Int} {tgt : Nat} (d : decode cc pc = .ok (.if_icmp .lt off, 3)) (ht : (pc : Int) + off = (tgt : Int)) (kt : x < y → th_V p l e R s m args below meth c D cI cZ ad L nL r hh tgt ls st h) (kf : ¬ x < y → th_V p l e R s m args below meth c D cI cZ ad L nL r hh (pc + 3) ls st h) : th_V p l e R s m args below meth c D cI cZ ad L nL r hh pc ls (.int y :: .int x :: st) h := fun H locs a hP hS hl => lv_icmp_lt X.1 X.2.1 d ht (fun z => kt (z) H locs a hP hS hl) (fun z => kf (z) H locs a hP hS hl)
theorem V_icmp_ge (X : th_X p s m args meth c D cI cZ ad L nL own cc rt) {x y : Int32} {off : Int} {tgt : Nat} (d : decode cc pc = .ok (.if_icmp .ge off, 3)) (ht : (pc : Int) + off = (tgt : Int)) (kt : x < y → th_V p l e R s m args below meth c D cI cZ ad L nL r hh (pc + 3) ls st h) (kf : ¬ x < y → th_V p l e R s m args below meth c D cI cZ ad L nL r hh tgt ls st h) : th_V p l e R s m args below meth c D cI cZ ad L nL r hh pc ls (.int y :: .int x :: st) h := fun H locs a hP hS hl => lv_icmp_ge X.1 X.2.1 d ht (fun z => kf (Int32.not_lt.mpr z) H locs a hP hS hl) (fun z => kt (Int32.not_le.mp z) H locs a hP hS hl)
theorem V_icmp_gt (X : th_X p s m args meth c D cI cZ ad L nL own cc rt) {x y : Int32} {off : Int} {tgt : Nat} (d : decode cc pc = .ok (.if_icmp .gt off, 3)) (ht : (pc : Int) + off = (tgt : Int)) (kt : y < x → th_V p l e R s m args below meth c D cI cZ ad L nL r hh tgt ls st h) (kf : ¬ y < x → th_V p l e R s m args below meth c D cI cZ ad L nL r hh (pc + 3) ls st h) : th_V p l e R s m args below meth c D cI cZ ad L nL r hh pc ls (.int y :: .int x :: st) h := fun H locs a hP hS hl => lv_icmp_gt X.1 X.2.1 d ht (fun z => kt (z) H locs a hP hS hl) (fun z => kf (z) H locs a hP hS hl)
theorem V_icmp_le (X : th_X p s m args meth c D cI cZ ad L nL own cc rt) {x y : Int32} {off : Int} {tgt : Nat} (d : decode cc pc = .ok (.if_icmp .le off, 3)) (ht : (pc : Int) + off = (tgt : Int)) (kt : y < x → th_V p l e R s m args below meth c D cI cZ ad L nL r hh (pc + 3) ls st h) (kf : ¬ y < x → th_V p l e R s m args below meth c D cI cZ ad L nL r hh tgt ls st h) : th_V p l e R s m args below meth c D cI cZ ad L nL r hh pc ls (.int y :: .int x :: st) h := fun H locs a hP hS hl => lv_icmp_le X.1 X.2.1 d ht (fun z => kf (Int32.not_lt.mpr z) H locs a hP hS hl) (fun z => kt (Int32.not_le.mp z) H locs a hP hS hl)
theorem V_if_eq (X : th_X p s m args meth c D cI cZ ad L nL own cc rt) {x : Int32} {off : Int} {tgt : Nat} (d : decode cc pc = .ok (.ifCond .eq off, 3)) (ht : (pc : Int) + off = (tgt : Int)) (kt : x = 0 → th_V p l e R s m args below meth c D cI cZ ad L nL r hh tgt ls st h) (kf : ¬ x = 0 → th_V p l e R s m args below meth c D cI cZ ad L nL r hh (pc + 3) ls st h) : th_V p l e R s m args below meth c D cI cZ ad L nL r hh pc ls (.int x :: st) h := fun H locs a hP hS hl => lv_if_eq X.1 X.2.1 d ht (fun z => kt (z) H locs a hP hS hl) (fun z => kf (z) H locs a hP hS hl)
theorem V_if_ne (X : th_X p s m args meth c D cI cZ ad L nL own cc rt) {x : Int32} {off : Int} {tgt : Nat} (d : decode cc pc = .ok (.ifCond .ne off, 3)) (ht : (pc : Int) + off = (tgt : Int)) (kt : x = 0 → th_V p l e R s m args below meth c D cI cZ ad L nL r hh (pc + 3) ls st h) (kf : ¬ x = 0 → th_V p l e R s m args below meth c D cI cZ ad L nL r hh tgt ls st h) : th_V p l e R s m args below meth c D cI cZ ad L nL r hh pc ls (.int x :: st) h := fun H locs a hP hS hl => lv_if_ne X.1 X.2.1 d ht (fun z => kf (z) H locs a hP hS hl) (fun z => kt (z) H locs a hP hS hl)
theorem V_if_lt (X : th_X p s m args meth c D cI cZ ad L nL own cc rt) {x : Int32} {off : Int} {tgt : Nat} (d : decode cc pc = .ok (.ifCond .lt off, 3)) (ht : (pc : Int) + off = (tgt : Int)) (kt : x < 0 → th_V p l e R s m args below meth c D cI cZ ad L nL r hh tgt ls st h) (kf : ¬ x < 0 → th_V p l e R s m args below meth c D cI cZ ad L nL r hh (pc + 3) ls st h) : th_V p l e R s m args below meth c D cI cZ ad L nL r hh pc ls (.int x :: st) h := fun H locs a hP hS hl => lv_if_lt X.1 X.2.1 d ht (fun z => kt (z) H locs a hP hS hl) (fun z => kf (z) H locs a hP hS hl)
theorem V_if_ge (X : th_X p s m args meth c D cI cZ ad L nL own cc rt) {x : Int32} {off : Int} {tgt : Nat} (d : decode cc pc = .ok (.ifCond .ge off, 3)) (ht : (pc : Int) + off = (tgt : Int)) (kt : x < 0 → th_V p l e R s m args below meth c D cI cZ ad L nL r hh (pc + 3) ls st h) (kf : ¬ x < 0 → th_V p l e R s m args below meth c D cI cZ ad L nL r hh tgt ls st h) : th_V p l e R s m args below meth c D cI cZ ad L nL r hh pc ls (.int x :: st) h := fun H locs a hP hS hl => lv_if_ge X.1 X.2.1 d ht (fun z => kf (Int32.not_lt.mpr z) H locs a hP hS hl) (fun z => kt (Int32.not_le.mp z) H locs a hP hS hl)
theorem V_if_gt (X : th_X p s m args meth c D cI cZ ad L nL own cc rt) {x : Int32} {off : Int} {tgt : Nat} (d : decode cc pc = .ok (.ifCond .gt off, 3)) (ht : (pc : Int) + off = (tgt : Int)) (kt : 0 < x → th_V p l e R s m args below meth c D cI cZ ad L nL r hh tgt ls st h) (kf : ¬ 0 < x → th_V p l e R s m args below meth c D cI cZ ad L nL r hh (pc + 3) ls st h) : th_V p l e R s m args below meth c D cI cZ ad L nL r hh pc ls (.int x :: st) h := fun H locs a hP hS hl => lv_if_gt X.1 X.2.1 d ht (fun z => kt (z) H locs a hP hS hl) (fun z => kf (z) H locs a hP hS hl)
theorem V_if_le (X : th_X p s m args meth c D cI cZ ad L nL own cc rt) {x : Int32} {off : Int} {tgt : Nat} (d : decode cc pc = .ok (.ifCond .le off, 3)) (ht : (pc : Int) + off = (tgt : Int)) (kt : 0 < x → th_V p l e R s m args below meth c D cI cZ ad L nL r hh (pc + 3) ls st h) (kf : ¬ 0 < x → th_V p l e R s m args below meth c D cI cZ ad L nL r hh tgt ls st h) : th_V p l e R s m args below meth c D cI cZ ad L nL r hh pc ls (.int x :: st) h := fun H locs a hP hS hl => lv_if_le X.1 X.2.1 d ht (fun z => kf (Int32.not_lt.mpr z) H locs a hP hS hl) (fun z => kt (Int32.not_le.mp z) H locs a hP hS hl)
theorem V_tabIn (X : th_X p s m args meth c D cI cZ ad L nL own cc rt) {dflt lo hi off : Int} {offs : Array Int} {len tgt : Nat} {x q : Int32} (d : decode cc pc = .ok (.tableswitch dflt lo hi offs, len)) (hx : x = q) (h1 : ¬ q.toInt < lo) (h2 : ¬ hi < q.toInt) (ho : offs[(q.toInt - lo).toNat]? = some off) (ht : (pc : Int) + off = (tgt : Int)) (k : th_V p l e R s m args below meth c D cI cZ ad L nL r hh tgt ls st h) : th_V p l e R s m args below meth c D cI cZ ad L nL r hh pc ls (.int x :: st) h := fun H locs a hP hS hl => lv_tableIn X.1 X.2.1 d (hx ▸ h1) (hx ▸ h2) (hx ▸ ho) ht (k H locs a hP hS hl)
theorem V_tabOut (X : th_X p s m args meth c D cI cZ ad L nL own cc rt) {dflt lo hi : Int} {offs : Array Int} {len tgt : Nat} {x : Int32} (d : decode cc pc = .ok (.tableswitch dflt lo hi offs, len)) (h1 : x.toInt < lo ∨ hi < x.toInt) (ht : (pc : Int) + dflt = (tgt : Int)) (k : th_V p l e R s m args below meth c D cI cZ ad L nL r hh tgt ls st h) : th_V p l e R s m args below meth c D cI cZ ad L nL r hh pc ls (.int x :: st) h := fun H locs a hP hS hl => lv_tableOut X.1 X.2.1 d h1 ht (k H locs a hP hS hl)
theorem V_getI (X : th_X p s m args meth c D cI cZ ad L nL own cc rt) {ci N index q j : Nat} {C : String} {T : u_T} {fs : List Nat}  (d : decode cc pc = .ok (.getfield index, 3)) (w : Cond.fieldLink own index (T j).1 (T j).2.1 (T j).2.2.1 ∈ lw_tbl) (hin : ∀ w ∈ u_ws C T N, w ∈ lw_tbl) (hc : vwCl[ci]? = some (C, T, N)) (hL : L[q]? = some (.inr (ci, fs))) (hj : j < N) (hf : fs[j]? = some 0) (k : th_V p l e R s m args below meth c D cI cZ ad L nL r hh (pc + 3) ls (.int (h.1 q j) :: st) h) : th_V p l e R s m args below meth c D cI cZ ad L nL r hh pc ls (.ref q :: st) h := by
  intro H locs a hP hS hl
  refine va_get (D := D) (ci := ci) (C := C) (T := T) (N := N) X.1 X.2.1 X.2.2.2.2.1 hin X.2.2.2.1 X.2.2.2.2.2.1 hP q (th_W_at hL) hc j hj (X.2.2.2.2.1 _ w) (fun _ z => z) (v := th_fv ad h q j 0) ?_ d (k H locs a hP hS hl)
  simp [th_fL, List.getElem?_mapIdx, hf]
theorem V_getL (X : th_X p s m args meth c D cI cZ ad L nL own cc rt) {ci N index q j : Nat} {C : String} {T : u_T} {fs : List Nat}  (d : decode cc pc = .ok (.getfield index, 3)) (w : Cond.fieldLink own index (T j).1 (T j).2.1 (T j).2.2.1 ∈ lw_tbl) (hin : ∀ w ∈ u_ws C T N, w ∈ lw_tbl) (hc : vwCl[ci]? = some (C, T, N)) (hL : L[q]? = some (.inr (ci, fs))) (hj : j < N) (hf : fs[j]? = some 1) (k : th_V p l e R s m args below meth c D cI cZ ad L nL r hh (pc + 3) ls (.long h.2 :: st) h) : th_V p l e R s m args below meth c D cI cZ ad L nL r hh pc ls (.ref q :: st) h := by
  intro H locs a hP hS hl
  refine va_get (D := D) (ci := ci) (C := C) (T := T) (N := N) X.1 X.2.1 X.2.2.2.2.1 hin X.2.2.2.1 X.2.2.2.2.2.1 hP q (th_W_at hL) hc j hj (X.2.2.2.2.1 _ w) (fun _ z => z) (v := th_fv ad h q j 1) ?_ d (k H locs a hP hS hl)
  simp [th_fL, List.getElem?_mapIdx, hf]
theorem V_getR (X : th_X p s m args meth c D cI cZ ad L nL own cc rt) {ci N index q j : Nat} {C : String} {T : u_T} {fs : List Nat} {t : Nat} (d : decode cc pc = .ok (.getfield index, 3)) (w : Cond.fieldLink own index (T j).1 (T j).2.1 (T j).2.2.1 ∈ lw_tbl) (hin : ∀ w ∈ u_ws C T N, w ∈ lw_tbl) (hc : vwCl[ci]? = some (C, T, N)) (hL : L[q]? = some (.inr (ci, fs))) (hj : j < N) (hf : fs[j]? = some (t + 2)) (k : th_V p l e R s m args below meth c D cI cZ ad L nL r hh (pc + 3) ls (.ref t :: st) h) : th_V p l e R s m args below meth c D cI cZ ad L nL r hh pc ls (.ref q :: st) h := by
  intro H locs a hP hS hl
  refine va_get (D := D) (ci := ci) (C := C) (T := T) (N := N) X.1 X.2.1 X.2.2.2.2.1 hin X.2.2.2.1 X.2.2.2.2.2.1 hP q (th_W_at hL) hc j hj (X.2.2.2.2.1 _ w) (fun _ z => z) (v := th_fv ad h q j (t + 2)) ?_ d (k H locs a hP hS hl)
  simp [th_fL, List.getElem?_mapIdx, hf]
theorem V_putI (X : th_X p s m args meth c D cI cZ ad L nL own cc rt) {ci N index q j : Nat} {C : String} {T : u_T} {fs : List Nat} {x : Int32} {h2 : th_H} {ty : FieldType} (d : decode cc pc = .ok (.putfield index, 3)) (w : Cond.fieldLink own index (T j).1 (T j).2.1 (T j).2.2.1 ∈ lw_tbl) (hin : ∀ w ∈ u_ws C T N, w ∈ lw_tbl) (hc : vwCl[ci]? = some (C, T, N)) (hL : L[q]? = some (.inr (ci, fs))) (hj : j < N) (hf : fs[j]? = some 0) (ty0 : Nat → FieldType) (hty : ∀ k, k < N → parseFieldDescriptor (T k).2.2.1 = some (ty0 k)) (hnm : ∀ a, a < N → ∀ b, b < N → a ≠ b → (T a).2.1 ≠ (T b).2.1) (hfin : (T j).2.2.2 = false) (hd : parseFieldDescriptor (T j).2.2.1 = some ty) (hn : narrow ty (.int x) = .int x) (hfit : fits ty (.int x) = true) (hu : th_up h q j x = h2)
    (k : th_V p l e R s m args below meth c D cI cZ ad L nL r hh (pc + 3) ls st h2) : th_V p l e R s m args below meth c D cI cZ ad L nL r hh pc ls (.int x :: .ref q :: st) h := by
  intro H locs a hP hS hl
  have hlen : j < fs.length := (List.getElem?_eq_some_iff.mp hf).1
  refine va_put (D := D) (ci := ci) (C := C) (T := T) (N := N) (v := .int x) X.1 X.2.1 X.2.2.2.2.1 hin ty0 hty hnm X.2.2.2.1 X.2.2.2.2.2.1 hP (th_D X.2.2.2.2.2.2.1) hS q (th_W_at hL) hc j hj (X.2.2.2.2.1 _ w) (fun _ z => z) hfin hd hn hfit (by simpa [th_fL] using hlen) d (fun H1 locs1 hP1 hD1 hS1 => ?_)
  have he : (th_W cI cZ ad L h).set q (ad q, .inr (ci, (th_fL ad h q fs).set j (.int x))) = th_W cI cZ ad L h2 := by
    subst hu
    refine th_W_set hL ?_ (fun i d' hi _ => th_E_ne (th_up_ne hi) rfl d')
    show _ = Sum.inr (ci, th_fL ad (th_up h q j x) q fs)
    congr 2
    apply List.ext_getElem?
    intro i
    by_cases hi : i = j
    · subst hi
      rw [List.getElem?_set_self (by simpa [th_fL] using hlen)]
      simp only [th_fL, List.getElem?_mapIdx, hf]
      simp [th_fv, th_up]
    · rw [List.getElem?_set_ne (fun z => hi z.symm)]
      simp only [th_fL, List.getElem?_mapIdx]
      congr 1
      funext z
      match z with
      | 0 => simp [th_fv, th_up, hi]
      | 1 => rfl
      | t + 2 => rfl
  rw [he] at hP1
  exact k H1 locs1 a hP1 hS1 hl
theorem V_putL (X : th_X p s m args meth c D cI cZ ad L nL own cc rt) {ci N index q j : Nat} {C : String} {T : u_T} {fs : List Nat} {x : Int64} {h2 : th_H} (d : decode cc pc = .ok (.putfield index, 3)) (w : Cond.fieldLink own index (T j).1 (T j).2.1 (T j).2.2.1 ∈ lw_tbl) (hin : ∀ w ∈ u_ws C T N, w ∈ lw_tbl) (hc : vwCl[ci]? = some (C, T, N)) (hL : L[q]? = some (.inr (ci, fs))) (hj : j < N) (hf : fs[j]? = some 1) (ty0 : Nat → FieldType) (hty : ∀ k, k < N → parseFieldDescriptor (T k).2.2.1 = some (ty0 k)) (hnm : ∀ a, a < N → ∀ b, b < N → a ≠ b → (T a).2.1 ≠ (T b).2.1) (hfin : (T j).2.2.2 = false) (hd : parseFieldDescriptor (T j).2.2.1 = some .long) (hone : ∀ i ci' fs', L[i]? = some (.inr (ci', fs')) → ∀ j', fs'[j']? = some 1 → i = q ∧ j' = j) (hu : th_ul h x = h2)
    (k : th_V p l e R s m args below meth c D cI cZ ad L nL r hh (pc + 3) ls st h2) : th_V p l e R s m args below meth c D cI cZ ad L nL r hh pc ls (.long x :: .ref q :: st) h := by
  intro H locs a hP hS hl
  have hlen : j < fs.length := (List.getElem?_eq_some_iff.mp hf).1
  refine va_put (D := D) (ci := ci) (C := C) (T := T) (N := N) (v := .long x) X.1 X.2.1 X.2.2.2.2.1 hin ty0 hty hnm X.2.2.2.1 X.2.2.2.2.2.1 hP (th_D X.2.2.2.2.2.2.1) hS q (th_W_at hL) hc j hj (X.2.2.2.2.1 _ w) (fun _ z => z) hfin hd rfl rfl (by simpa [th_fL] using hlen) d (fun H1 locs1 hP1 hD1 hS1 => ?_)
  have hfld : ∀ i ci' fs', L[i]? = some (.inr (ci', fs')) → ∀ j', ¬ (i = q ∧ j' = j) → ∀ z, fs'[j']? = some z → th_fv ad (th_ul h x) i j' z = th_fv ad h i j' z := by
    intro i ci' fs' h1 j' h2 z hz
    match z, hz with
    | 0, _ => rfl
    | 1, hz => exact absurd (hone i ci' fs' h1 j' hz) h2
    | t + 2, _ => rfl
  have he : (th_W cI cZ ad L h).set q (ad q, .inr (ci, (th_fL ad h q fs).set j (.long x))) = th_W cI cZ ad L h2 := by
    subst hu
    refine th_W_set hL ?_ (fun i d' hi hd' => ?_)
    · show _ = Sum.inr (ci, th_fL ad (th_ul h x) q fs)
      congr 2
      apply List.ext_getElem?
      intro i
      by_cases hi : i = j
      · subst hi
        rw [List.getElem?_set_self (by simpa [th_fL] using hlen)]
        simp only [th_fL, List.getElem?_mapIdx, hf]
        simp [th_fv, th_ul]
      · rw [List.getElem?_set_ne (fun z => hi z.symm)]
        simp only [th_fL, List.getElem?_mapIdx]
        cases hz : fs[i]? with
        | none => rfl
        | some z => simp only [Option.map_some]; rw [hfld q ci fs hL i (fun y => hi y.2) z hz]
    · rcases d' with ⟨n, b⟩ | ⟨ci', fs'⟩
      · rfl
      · show Sum.inr (ci', th_fL ad (th_ul h x) i fs') = Sum.inr (ci', th_fL ad h i fs')
        congr 2
        apply List.ext_getElem?
        intro j'
        simp only [th_fL, List.getElem?_mapIdx]
        cases hz : fs'[j']? with
        | none => rfl
        | some z => simp only [Option.map_some]; rw [hfld i ci' fs' hd' j' (fun y => hi y.1) z hz]
  rw [he] at hP1
  exact k H1 locs1 a hP1 hS1 hl
theorem V_iald (X : th_X p s m args meth c D cI cZ ad L nL own cc rt) {q n : Nat} {i v : Int32} (d : decode cc pc = .ok (.iaload, 1)) (hL : L[q]? = some (.inl (n, false))) (hin : vp_in i n) (hv : h.1 q i.toNatClampNeg = v) (k : th_V p l e R s m args below meth c D cI cZ ad L nL r hh (pc + 1) ls (.int v :: st) h) : th_V p l e R s m args below meth c D cI cZ ad L nL r hh pc ls (.int i :: .ref q :: st) h := by
  subst hv
  exact fun H locs a hP hS hl => va_iald X.1 X.2.1 X.2.2.2.2.2.1 hP q 0 (th_W_at hL) rfl hin d (k H locs a hP hS hl)
theorem V_zald (X : th_X p s m args meth c D cI cZ ad L nL own cc rt) {q n : Nat} {i v : Int32} (d : decode cc pc = .ok (.baload, 1)) (hL : L[q]? = some (.inl (n, true))) (hin : vp_in i n) (hv : h.1 q i.toNatClampNeg = v) (k : th_V p l e R s m args below meth c D cI cZ ad L nL r hh (pc + 1) ls (.int v :: st) h) : th_V p l e R s m args below meth c D cI cZ ad L nL r hh pc ls (.int i :: .ref q :: st) h := by
  subst hv
  exact fun H locs a hP hS hl => va_zald X.1 X.2.1 X.2.2.2.2.2.1 hP q 1 (th_W_at hL) rfl hin d (k H locs a hP hS hl)
theorem V_iast (X : th_X p s m args meth c D cI cZ ad L nL own cc rt) {q n : Nat} {i v : Int32} {h2 : th_H} (d : decode cc pc = .ok (.iastore, 1)) (hL : L[q]? = some (.inl (n, false))) (hin : vp_in i n) (hu : th_up h q i.toNatClampNeg v = h2) (k : th_V p l e R s m args below meth c D cI cZ ad L nL r hh (pc + 1) ls st h2) : th_V p l e R s m args below meth c D cI cZ ad L nL r hh pc ls (.int v :: .int i :: .ref q :: st) h := by
  intro H locs a hP hS hl
  refine va_iast X.1 X.2.1 X.2.2.2.2.2.1 hP (th_D X.2.2.2.2.2.2.1) hS q 0 (th_W_at hL) rfl hin d (fun H1 locs1 hP1 hD1 hS1 => ?_)
  rw [th_W_set (h2 := h2) hL (by subst hu; show _ = Sum.inl (cI, n, Sum.inl ((th_up h q i.toNatClampNeg v).1 q)); rw [th_up_arr]; rfl) (fun i' d' hi _ => by subst hu; exact th_E_ne (th_up_ne hi) rfl d')] at hP1
  exact k H1 locs1 a hP1 hS1 hl
theorem V_zast (X : th_X p s m args meth c D cI cZ ad L nL own cc rt) {q n : Nat} {i v : Int32} {h2 : th_H} (d : decode cc pc = .ok (.bastore, 1)) (hL : L[q]? = some (.inl (n, true))) (hin : vp_in i n) (hn : vp_nar .boolean v = v) (hu : th_up h q i.toNatClampNeg v = h2) (k : th_V p l e R s m args below meth c D cI cZ ad L nL r hh (pc + 1) ls st h2) : th_V p l e R s m args below meth c D cI cZ ad L nL r hh pc ls (.int v :: .int i :: .ref q :: st) h := by
  intro H locs a hP hS hl
  refine va_zast X.1 X.2.1 X.2.2.2.2.2.1 hP (th_D X.2.2.2.2.2.2.1) hS q 1 (th_W_at hL) rfl hin d (fun H1 locs1 hP1 hD1 hS1 => ?_)
  rw [hn, th_W_set (h2 := h2) hL (by subst hu; show _ = Sum.inl (cZ, n, Sum.inl ((th_up h q i.toNatClampNeg v).1 q)); rw [th_up_arr]; rfl) (fun i' d' hi _ => by subst hu; exact th_E_ne (th_up_ne hi) rfl d')] at hP1
  exact k H1 locs1 a hP1 hS1 hl
theorem V_alen (X : th_X p s m args meth c D cI cZ ad L nL own cc rt) {q n : Nat} {v : Int32} (d : decode cc pc = .ok (.arraylength, 1)) (hL : L[q]? = some (.inl (n, false))) (hv : Int32.ofNat n = v) (k : th_V p l e R s m args below meth c D cI cZ ad L nL r hh (pc + 1) ls (.int v :: st) h) : th_V p l e R s m args below meth c D cI cZ ad L nL r hh pc ls (.ref q :: st) h :=
  fun H locs a hP hS hl => va_alen X.1 X.2.1 X.2.2.2.2.2.1 hP q 0 (th_W_at hL) rfl hv d (k H locs a hP hS hl)
theorem th_rest {ad : Nat → Nat} {st : List Value} : ((st.map (th_cv ad)).map fun v => v.category) = st.map fun v => v.category := by
  rw [List.map_map]
  exact List.map_congr_left (fun v _ => th_cat ad v)
theorem V_mmax (X : th_X p s m args meth c D cI cZ ad L nL own cc rt) {index : Nat} {x y : Int32} (d : decode cc pc = .ok (.invokestatic index, 3)) (w0 : Cond.methodLink own index Lib.Math.max.name ∈ lw_tbl) (w1 : Cond.static Lib.Math.max.name ∈ lw_tbl) (w2 : Cond.initialized "java/lang/Math" ∈ lw_tbl) (w3 : Cond.code Lib.Math.max.name Lib.Math.max.code 2 (some .int) ∈ lw_tbl) (hfr : 1 ≤ R.frames) (hlo : (st.map fun v => v.category).sum + 13 ≤ R.locals) (k : th_V p l e R s m args below meth c D cI cZ ad L nL r hh (pc + 3) ls (.int (if x < y then y else x) :: st) h) : th_V p l e R s m args below meth c D cI cZ ad L nL r hh pc ls (.int y :: .int x :: st) h :=
  fun H locs a hP hS hl => va_mmax X.1 X.2.1 (by rw [X.2.2.1]; exact hl.1.symm) X.2.2.2.1 (X.2.2.2.2.1 _ w0) (X.2.2.2.2.1 _ w1) (X.2.2.2.2.1 _ w2) (X.2.2.2.2.1 _ w3) hfr (by rw [th_rest]; exact hlo) (Nat.zero_le _) (Nat.zero_le _) d (k H locs a hP hS hl)
theorem V_mmin (X : th_X p s m args meth c D cI cZ ad L nL own cc rt) {index : Nat} {x y : Int32} (d : decode cc pc = .ok (.invokestatic index, 3)) (w0 : Cond.methodLink own index Lib.Math.min.name ∈ lw_tbl) (w1 : Cond.static Lib.Math.min.name ∈ lw_tbl) (w2 : Cond.initialized "java/lang/Math" ∈ lw_tbl) (w3 : Cond.code Lib.Math.min.name Lib.Math.min.code 2 (some .int) ∈ lw_tbl) (hfr : 1 ≤ R.frames) (hlo : (st.map fun v => v.category).sum + 13 ≤ R.locals) (k : th_V p l e R s m args below meth c D cI cZ ad L nL r hh (pc + 3) ls (.int (if y < x then y else x) :: st) h) : th_V p l e R s m args below meth c D cI cZ ad L nL r hh pc ls (.int y :: .int x :: st) h :=
  fun H locs a hP hS hl => va_mmin X.1 X.2.1 (by rw [X.2.2.1]; exact hl.1.symm) X.2.2.2.1 (X.2.2.2.2.1 _ w0) (X.2.2.2.2.1 _ w1) (X.2.2.2.2.1 _ w2) (X.2.2.2.2.1 _ w3) hfr (by rw [th_rest]; exact hlo) (Nat.zero_le _) (Nat.zero_le _) d (k H locs a hP hS hl)
theorem V_mabs (X : th_X p s m args meth c D cI cZ ad L nL own cc rt) {index : Nat} {x : Int32} (d : decode cc pc = .ok (.invokestatic index, 3)) (w0 : Cond.methodLink own index Lib.Math.abs.name ∈ lw_tbl) (w1 : Cond.static Lib.Math.abs.name ∈ lw_tbl) (w2 : Cond.initialized "java/lang/Math" ∈ lw_tbl) (w3 : Cond.code Lib.Math.abs.name Lib.Math.abs.code 1 (some .int) ∈ lw_tbl) (hfr : 1 ≤ R.frames) (hlo : (st.map fun v => v.category).sum + 13 ≤ R.locals) (k : th_V p l e R s m args below meth c D cI cZ ad L nL r hh (pc + 3) ls (.int (if 0 ≤ x then x else 0 - x) :: st) h) : th_V p l e R s m args below meth c D cI cZ ad L nL r hh pc ls (.int x :: st) h :=
  fun H locs a hP hS hl => va_mabs X.1 X.2.1 (by rw [X.2.2.1]; exact hl.1.symm) X.2.2.2.1 (X.2.2.2.2.1 _ w0) (X.2.2.2.2.1 _ w1) (X.2.2.2.2.1 _ w2) (X.2.2.2.2.1 _ w3) hfr (by rw [th_rest]; exact hlo) (Nat.zero_le _) (Nat.zero_le _) d (k H locs a hP hS hl)
theorem V_copy (X : th_X p s m args meth c D cI cZ ad L nL own cc rt) {q0 q1 n0 n1 N index : Nat} {h2 : th_H} {n : Int32} (d : decode cc pc = .ok (.invokestatic index, 3)) (w0 : Cond.methodLink own index arraycopyName ∈ lw_tbl) (w1 : Cond.native arraycopyName ∈ lw_tbl) (w2 : Cond.static arraycopyName ∈ lw_tbl) (w3 : Cond.initialized "java/lang/System" ∈ lw_tbl)
    (hL0 : L[q0]? = some (.inl (n0, false))) (hL1 : L[q1]? = some (.inl (n1, false))) (hn : ¬ n < 0) (hN : n.toNatClampNeg = N) (h4 : N ≤ n0) (h5 : N ≤ n1) (hfr : 1 ≤ R.frames) (hlo : (st.map fun v => v.category).sum + (nativeFrameWords "java/lang/System" "arraycopy" 5 + 11) ≤ R.locals) (hu : th_cp h q0 q1 N = h2)
    (k : th_V p l e R s m args below meth c D cI cZ ad L nL r hh (pc + 3) ls st h2) : th_V p l e R s m args below meth c D cI cZ ad L nL r hh pc ls (.int n :: .int 0 :: .ref q1 :: .int 0 :: .ref q0 :: st) h := by
  subst hN
  intro H locs a hP hS hl
  have z0 : (0 : Int32).toNatClampNeg = 0 := rfl
  refine va_copyi (ty := .int) X.1 X.2.1 (by rw [X.2.2.1]; exact hl.1.symm) X.2.2.2.1 (X.2.2.2.2.1 _ w0) (X.2.2.2.2.1 _ w1) (X.2.2.2.2.1 _ w2) (X.2.2.2.2.1 _ w3) X.2.2.2.2.2.1 hP (th_D X.2.2.2.2.2.2.1) hS q0 q1 0 0 (th_W_at hL0) (th_W_at hL1) rfl rfl rfl (by decide) (by decide) hn (by rw [z0]; omega) (by rw [z0]; omega) (fun _ _ => rfl) hfr (by rw [th_rest]; exact hlo) d (fun H1 locs1 hP1 hD1 hS1 => ?_)
  rw [th_W_set (h2 := h2) hL1 ?_ (fun i' d' hi _ => by subst hu; exact th_E_ne (h := h) (h2 := th_cp h q0 q1 n.toNatClampNeg) (by funext j; simp [th_cp, hi]) rfl d')] at hP1
  · exact k H1 locs1 a hP1 hS1 hl
  · subst hu
    show _ = Sum.inl (cI, n1, Sum.inl ((th_cp h q0 q1 n.toNatClampNeg).1 q1))
    congr 4
    funext j
    simp [va_cpy, th_cp]
theorem V_iret (X : th_X p s m args meth c D cI cZ ad L nL own cc (some .int)) {x : Int32} (d : decode cc pc = .ok (.ireturn, 1)) (hr : r = some (.int x)) (hq : hh = h) : th_V p l e R s m args below meth c D cI cZ ad L nL r hh pc ls (.int x :: []) h := by
  subst hr; subst hq
  intro H locs a hP hS hl
  exact W.iret X.1 X.2.1 X.2.2.2.2.2.2.2.2 (fun t ht hW => ⟨⟨rfl, by rw [ht]; exact hP⟩, hS.F ht⟩) hS.2.2 d X.2.2.2.2.2.2.2.1
theorem V_lret (X : th_X p s m args meth c D cI cZ ad L nL own cc (some .long)) {x : Int64} (d : decode cc pc = .ok (.lreturn, 1)) (hr : r = some (.long x)) (hq : hh = h) : th_V p l e R s m args below meth c D cI cZ ad L nL r hh pc ls (.long x :: []) h := by
  subst hr; subst hq
  intro H locs a hP hS hl
  exact W.lret X.1 X.2.1 X.2.2.2.2.2.2.2.2 (fun t ht hW => ⟨⟨rfl, by rw [ht]; exact hP⟩, hS.F ht⟩) hS.2.2 d X.2.2.2.2.2.2.2.1
theorem V_zret (X : th_X p s m args meth c D cI cZ ad L nL own cc (some .boolean)) {x : Int32} (d : decode cc pc = .ok (.ireturn, 1)) (hx : x = 0 ∨ x = 1) (hr : r = some (.int x)) (hq : hh = h) : th_V p l e R s m args below meth c D cI cZ ad L nL r hh pc ls (.int x :: []) h := by
  subst hr; subst hq
  intro H locs a hP hS hl
  exact W.zret (ty := .boolean) X.1 X.2.1 X.2.2.2.2.2.2.2.2 (by rcases hx with rfl | rfl <;> rfl) (fun t ht hW => ⟨⟨rfl, by rw [ht]; exact hP⟩, hS.F ht⟩) hS.2.2 d X.2.2.2.2.2.2.2.1
theorem V_vret (X : th_X p s m args meth c D cI cZ ad L nL own cc none) (d : decode cc pc = .ok (.return_, 1)) (hr : r = none) (hq : hh = h) : th_V p l e R s m args below meth c D cI cZ ad L nL r hh pc ls [] h := by
  subst hr; subst hq
  intro H locs a hP hS hl
  exact W.vret X.1 X.2.1 X.2.2.2.2.2.2.2.2 (fun t ht hW => ⟨⟨rfl, by rw [ht]; exact hP⟩, hS.F ht⟩) hS.2.2 d X.2.2.2.2.2.2.2.1
theorem V_aret (X : th_X p s m args meth c D cI cZ ad L nL own cc rt) {x : Nat} {o : String} (ho : rt = some (.object o)) (d : decode cc pc = .ok (.areturn, 1)) (hr : r = some (.ref x)) (hq : hh = h) : th_V p l e R s m args below meth c D cI cZ ad L nL r hh pc ls (.ref x :: []) h := by
  subst hr; subst hq
  intro H locs a hP hS hl
  exact W.aret (rt := .object o) X.1 X.2.1 (X.2.2.2.2.2.2.2.2.trans ho) (Or.inl ⟨o, rfl⟩) (Or.inr ⟨_, rfl⟩) (fun t ht hW => ⟨⟨rfl, by rw [ht]; exact hP⟩, hS.F ht⟩) hS.2.2 d X.2.2.2.2.2.2.2.1
theorem th_call (X : th_X p s m args meth c D cI cZ ad L nL own cc rt) {H : Heap} {locs : List Loc} {a : Array Slot} {st0 rest : List Value} {a1 : Array Value} {r1 : Option Value} {h1 : th_H} {Q : State → Prop} (hr : va_Run p l e R s m args below meth c H locs 0 0 0 0 (F0 m pc a st0) (rest.map (th_cv ad)) (th_QP D cI cZ ad L H.size r1 h1 a1) (th_A ad L H.size)) (hS : va_S (th_A ad L s.heap.size) s.heap H locs)
    (kk : ∀ (H1 : Heap) (locs1 : List Loc), va_P D vwCl (th_W cI cZ ad L h1) H1 → va_S (th_A ad L s.heap.size) s.heap H1 locs1 → W p l e R s m args below meth c H1 locs1 0 0 Q (F0 m (pc + 3) a ((r1.toList ++ rest).map (th_cv ad)))) : W p l e R s m args below meth c H locs 0 0 Q (F0 m pc a st0) := by
  intro T hT Y
  obtain ⟨v, st₀, t, T', L', h0, Y', hL, e1, e2, ⟨⟨hv, hp⟩, hz, hk⟩, sx⟩ := hr T hT Y
  have hA : ∀ q, th_A ad L H.size q → th_A ad L s.heap.size q := fun q h => h.elim Or.inl (fun z => Or.inr (Nat.le_trans hS.1 z))
  have hv : v = r1.map (th_cv ad) := by injection hv
  rw [h0] at hz hk
  obtain ⟨t2, q1, q2⟩ := kk T'.heap (locs ++ L') (by rw [e1]; exact hp)
    ⟨Nat.le_trans hS.1 (by rw [e1]; exact hz), fun q g1 g2 => by rw [e1, hk q (Nat.lt_of_lt_of_le g1 hS.1) (fun z => g2 (hA q z))]; exact hS.2.1 q g1 g2, fun q hq => by
      rcases List.mem_append.mp hq with z | z
      · exact hS.2.2 q z
      · exact hA _ (hL q z)⟩ T' rfl Y'
  refine ⟨t2, sx t2 ?_, q2⟩
  have : (r1.toList ++ rest).map (th_cv ad) = v.toList ++ rest.map (th_cv ad) := by
    rw [hv, List.map_append]
    cases r1 <;> rfl
  rw [this] at q1
  exact q1
theorem th_blind {D : va_G} {cI cZ : ClassId} {ad : Nat → Nat} {L : th_L} {sz : Nat} {h : th_H} {av : List Value} : FrameBlind (th_PC D cI cZ ad L sz h av) := by
  intro a U g mk q
  obtain ⟨q0, q1, qP, qK, qD⟩ := q
  exact ⟨q0, q1, qP, va_K.moved (u := U) (U := U.calling g mk a) (Vm.Alike.refl U.vm) qK, qD⟩
theorem th_pre (X : th_X p s m args meth c D cI cZ ad L nL own cc rt) {H : Heap} {av : List Value} (hP : va_P D vwCl (th_W cI cZ ad L h) H) : ∀ U : State, U.heap = H → s.WarmedH U.vm → th_PC D cI cZ ad L H.size h av (av.map (th_cv ad)).toArray U :=
  fun U hU hW => ⟨rfl, by rw [hU], by rw [hU]; exact hP, va_K.moved hW.alike X.2.2.2.2.2.1, X.2.2.2.2.2.2.1⟩
theorem th_good {y : MethodName} {bytes : ByteArray} {maxL : Nat} {ret : Option FieldType} (hg : ∀ w ∈ lw_tbl, (w.onTables && w.keeps) = true ∨ ∃ ty, w = .arrayClass ty) (hc : Cond.code y bytes maxL ret ∈ lw_tbl) : GoodIn lw_tbl (Cond.code y bytes maxL ret :: lw_tbl) := by
  intro w hw
  rcases List.mem_cons.mp hw with rfl | hw
  · exact ⟨hc, hg _ hc⟩
  · exact ⟨hw, hg _ hw⟩
theorem th_rev {ad : Nat → Nat} (As rest : List Value) : ((As.reverse ++ rest).map (th_cv ad)) = (As.map (th_cv ad)).reverse ++ rest.map (th_cv ad) := by simp
theorem V_callV (X : th_X p s m args meth c D cI cZ ad L nL own cc rt) {y : MethodName} {bytes : ByteArray} {maxL : Nat} {ret : Option FieldType} {F N index : Nat} {r1 : Option Value} {h1 : th_H} {As : List Value} {stk : List Value} {q ci : Nat} {C : String} {T : u_T} {NN : Nat} {fs : List Nat} (d : decode cc pc = .ok (.invokevirtual index, 3)) (hM : th_MI l L y bytes maxL ret F N (.ref q :: As) h r1 h1) (hg : ∀ w ∈ lw_tbl, (w.onTables && w.keeps) = true ∨ ∃ ty, w = .arrayClass ty) (hc : Cond.code y bytes maxL ret ∈ lw_tbl) (w0 : Cond.methodLink own index y ∈ lw_tbl) (w1 : Cond.instanceMethod y ∈ lw_tbl) (w2 : Cond.selects C y y ∈ lw_tbl) (w3 : Cond.initialized y.cls ∈ lw_tbl) (hd : y.cls ≠ "java/lang/invoke/MethodHandle" ∧ y.cls ≠ "java/lang/invoke/VarHandle" ∧ (parseMethodDescriptor y.desc).map (fun d => d.parameters.length) = some As.length) (hR : F + 1 ≤ R.frames ∧ 8 + (maxL + 11) + N ≤ R.locals) (hW : (st.map fun v => v.category).sum ≤ 8) (hcl : vwCl[ci]? = some (C, T, NN)) (hL : L[q]? = some (.inr (ci, fs))) (hs : stk = As.reverse ++ .ref q :: st)
    (k : th_V p l e R s m args below meth c D cI cZ ad L nL r hh (pc + 3) ls (r1.toList ++ st) h1) : th_V p l e R s m args below meth c D cI cZ ad L nL r hh pc ls stk h := by
  subst hs
  intro H locs a hP hS hl
  refine th_call X (rest := st) (va_runV (As := As.map (th_cv ad)) (b := ad q) (nL := nL) (Ts := lw_tbl) ⟨X.1, X.2.1, X.2.2.1, X.2.2.2.1, X.2.2.2.2.1⟩ (hM D cI cZ ad H.size) (n := As.length) ⟨callB_of As.length X.2.2.2.2.1 (th_good hg hc) rfl rfl rfl (X.2.2.2.2.1 _ w3) (X.2.2.2.2.1 _ w0) hd hR, X.2.2.2.2.1 _ w1, X.2.2.2.2.1 _ w2⟩ ⟨th_blind, va_recv X.2.2.2.2.2.1 hP hcl (th_W_at hL), th_pre X hP⟩ rfl (by simp) hl.1 (by rw [th_rev]; rfl) (lv_room (by rw [th_rest]; exact hW)) d ⟨Nat.zero_le _, Nat.zero_le _⟩) hS (fun H1 locs1 hP1 hS1 => k H1 locs1 a hP1 hS1 hl)
theorem V_callS (X : th_X p s m args meth c D cI cZ ad L nL own cc rt) {y : MethodName} {bytes : ByteArray} {maxL : Nat} {ret : Option FieldType} {F N index : Nat} {r1 : Option Value} {h1 : th_H} {As : List Value} {stk : List Value} (d : decode cc pc = .ok (.invokestatic index, 3)) (hM : th_MI l L y bytes maxL ret F N As h r1 h1) (hg : ∀ w ∈ lw_tbl, (w.onTables && w.keeps) = true ∨ ∃ ty, w = .arrayClass ty) (hc : Cond.code y bytes maxL ret ∈ lw_tbl) (w0 : Cond.methodLink own index y ∈ lw_tbl) (w1 : Cond.static y ∈ lw_tbl) (w3 : Cond.initialized y.cls ∈ lw_tbl) (hd : y.cls ≠ "java/lang/invoke/MethodHandle" ∧ y.cls ≠ "java/lang/invoke/VarHandle" ∧ (parseMethodDescriptor y.desc).map (fun d => d.parameters.length) = some As.length) (hR : F + 1 ≤ R.frames ∧ 8 + (maxL + 11) + N ≤ R.locals) (hW : (st.map fun v => v.category).sum ≤ 8) (hs : stk = As.reverse ++ st)
    (k : th_V p l e R s m args below meth c D cI cZ ad L nL r hh (pc + 3) ls (r1.toList ++ st) h1) : th_V p l e R s m args below meth c D cI cZ ad L nL r hh pc ls stk h := by
  subst hs
  intro H locs a hP hS hl
  refine th_call X (rest := st) (va_runS (As := As.map (th_cv ad)) (nL := nL) (Ts := lw_tbl) ⟨X.1, X.2.1, X.2.2.1, X.2.2.2.1, X.2.2.2.2.1⟩ (hM D cI cZ ad H.size) (n := As.length) ⟨callB_of As.length X.2.2.2.2.1 (th_good hg hc) rfl rfl rfl (X.2.2.2.2.1 _ w3) (X.2.2.2.2.1 _ w0) hd hR, X.2.2.2.2.1 _ w1⟩ ⟨th_blind, th_pre X hP⟩ rfl (by simp) hl.1 (by rw [th_rev]) (lv_room (by rw [th_rest]; exact hW)) d ⟨Nat.zero_le _, Nat.zero_le _⟩) hS (fun H1 locs1 hP1 hS1 => k H1 locs1 a hP1 hS1 hl)
theorem V_callSN (X : th_X p s m args meth c D cI cZ ad L nL own cc rt) {y : MethodName} {bytes : ByteArray} {maxL : Nat} {ret : Option FieldType} {F N index : Nat} {r1 : Option Value} {h1 : th_H} {As : List Value} {stk : List Value} {host : String} (d : decode cc pc = .ok (.invokestatic index, 3)) (hM : th_MI l L y bytes maxL ret F N As h r1 h1) (hg : ∀ w ∈ lw_tbl, (w.onTables && w.keeps) = true ∨ ∃ ty, w = .arrayClass ty) (hc : Cond.code y bytes maxL ret ∈ lw_tbl) (w0 : Cond.methodLinkNest own index y host ∈ lw_tbl) (w1 : Cond.static y ∈ lw_tbl) (w3 : Cond.initialized y.cls ∈ lw_tbl) (hd : y.cls ≠ "java/lang/invoke/MethodHandle" ∧ y.cls ≠ "java/lang/invoke/VarHandle" ∧ (parseMethodDescriptor y.desc).map (fun d => d.parameters.length) = some As.length) (hR : F + 1 ≤ R.frames ∧ 8 + (maxL + 11) + N ≤ R.locals) (hW : (st.map fun v => v.category).sum ≤ 8) (hs : stk = As.reverse ++ st)
    (k : th_V p l e R s m args below meth c D cI cZ ad L nL r hh (pc + 3) ls (r1.toList ++ st) h1) : th_V p l e R s m args below meth c D cI cZ ad L nL r hh pc ls stk h := by
  subst hs
  intro H locs a hP hS hl
  refine th_call X (rest := st) (va_runSN (As := As.map (th_cv ad)) (nL := nL) (Ts := lw_tbl) ⟨X.1, X.2.1, X.2.2.1, X.2.2.2.1, X.2.2.2.2.1⟩ (hM D cI cZ ad H.size) (n := As.length) ⟨va_cnB As.length X.2.2.2.2.1 (th_good hg hc) rfl rfl rfl (va_tabs rfl rfl (X.2.2.2.2.1 _ w0)) (X.2.2.2.2.1 _ w3) hd hR, X.2.2.2.2.1 _ w1, trivial⟩ ⟨th_blind, th_pre X hP⟩ rfl (by simp) hl.1 (by rw [th_rev]) (lv_room (by rw [th_rest]; exact hW)) d ⟨Nat.zero_le _, Nat.zero_le _⟩) hS (fun H1 locs1 hP1 hS1 => k H1 locs1 a hP1 hS1 hl)
end ThinRows
end
