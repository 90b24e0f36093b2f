-- ===== PART A: goes FIRST, ahead of the names: the tables' words, and 'selects' of the private methods out of them =====
/-- a private method of a class that the tables say can be made, by its rows of tables_1 -/
def lw_okq (q : MethodName × Nat) : Prop := (q.1.cls ≠ "java/lang/invoke/MethodHandle" ∧ q.1.cls ≠ "java/lang/invoke/VarHandle") ∧ Cond.instantiable q.1.cls q.2 ∈ tables_1 ∧ Cond.privateMethod q.1 ∈ tables_1 ∧ Cond.instanceMethod q.1 ∈ tables_1
theorem lw_p0 : lw_okq (⟨"FairRates", "refuse", "(I)I"⟩, 11) := ⟨⟨by decide +kernel, by decide +kernel⟩, List.mem_of_getElem? (i := 15) (by decide +kernel), List.mem_of_getElem? (i := 231) (by decide +kernel), List.mem_of_getElem? (i := 232) (by decide +kernel)⟩
theorem lw_p1 : lw_okq (⟨"FairRates$Post", "forgetFlow", "(I)V"⟩, 16) := ⟨⟨by decide +kernel, by decide +kernel⟩, List.mem_of_getElem? (i := 23) (by decide +kernel), List.mem_of_getElem? (i := 306) (by decide +kernel), List.mem_of_getElem? (i := 307) (by decide +kernel)⟩
theorem lw_p2 : lw_okq (⟨"FairRates$Post", "forgetAt", "(II)V"⟩, 16) := ⟨⟨by decide +kernel, by decide +kernel⟩, List.mem_of_getElem? (i := 23) (by decide +kernel), List.mem_of_getElem? (i := 310) (by decide +kernel), List.mem_of_getElem? (i := 311) (by decide +kernel)⟩
theorem lw_p3 : lw_okq (⟨"FairRates", "whyNotRoute", "(II)I"⟩, 11) := ⟨⟨by decide +kernel, by decide +kernel⟩, List.mem_of_getElem? (i := 15) (by decide +kernel), List.mem_of_getElem? (i := 347) (by decide +kernel), List.mem_of_getElem? (i := 348) (by decide +kernel)⟩
theorem lw_p4 : lw_okq (⟨"FairRates$Post", "lowestFrom", "(II)I"⟩, 16) := ⟨⟨by decide +kernel, by decide +kernel⟩, List.mem_of_getElem? (i := 23) (by decide +kernel), List.mem_of_getElem? (i := 369) (by decide +kernel), List.mem_of_getElem? (i := 370) (by decide +kernel)⟩
theorem lw_p5 : lw_okq (⟨"FairRates$Plan", "byWeight", "(II)I"⟩, 9) := ⟨⟨by decide +kernel, by decide +kernel⟩, List.mem_of_getElem? (i := 29) (by decide +kernel), List.mem_of_getElem? (i := 377) (by decide +kernel), List.mem_of_getElem? (i := 378) (by decide +kernel)⟩
theorem lw_p6 : lw_okq (⟨"FairRates$Post", "arriveForth", "(II)I"⟩, 16) := ⟨⟨by decide +kernel, by decide +kernel⟩, List.mem_of_getElem? (i := 23) (by decide +kernel), List.mem_of_getElem? (i := 382) (by decide +kernel), List.mem_of_getElem? (i := 383) (by decide +kernel)⟩
theorem lw_p7 : lw_okq (⟨"FairRates$Post", "tellAhead", "(III)V"⟩, 16) := ⟨⟨by decide +kernel, by decide +kernel⟩, List.mem_of_getElem? (i := 23) (by decide +kernel), List.mem_of_getElem? (i := 386) (by decide +kernel), List.mem_of_getElem? (i := 387) (by decide +kernel)⟩
theorem lw_p8 : lw_okq (⟨"FairRates$Post", "isLostAt", "(I)Z"⟩, 16) := ⟨⟨by decide +kernel, by decide +kernel⟩, List.mem_of_getElem? (i := 23) (by decide +kernel), List.mem_of_getElem? (i := 390) (by decide +kernel), List.mem_of_getElem? (i := 391) (by decide +kernel)⟩
theorem lw_p9 : lw_okq (⟨"FairRates$Post", "tell", "(II)V"⟩, 16) := ⟨⟨by decide +kernel, by decide +kernel⟩, List.mem_of_getElem? (i := 23) (by decide +kernel), List.mem_of_getElem? (i := 418) (by decide +kernel), List.mem_of_getElem? (i := 419) (by decide +kernel)⟩
theorem lw_p10 : lw_okq (⟨"FairRates$Post", "arriveBack", "(II)I"⟩, 16) := ⟨⟨by decide +kernel, by decide +kernel⟩, List.mem_of_getElem? (i := 23) (by decide +kernel), List.mem_of_getElem? (i := 422) (by decide +kernel), List.mem_of_getElem? (i := 423) (by decide +kernel)⟩
theorem lw_p11 : lw_okq (⟨"FairRates$Post", "tellBehind", "(III)V"⟩, 16) := ⟨⟨by decide +kernel, by decide +kernel⟩, List.mem_of_getElem? (i := 23) (by decide +kernel), List.mem_of_getElem? (i := 426) (by decide +kernel), List.mem_of_getElem? (i := 427) (by decide +kernel)⟩
theorem lw_p12 : lw_okq (⟨"FairRates$Post", "highestBelow", "(II)I"⟩, 16) := ⟨⟨by decide +kernel, by decide +kernel⟩, List.mem_of_getElem? (i := 23) (by decide +kernel), List.mem_of_getElem? (i := 430) (by decide +kernel), List.mem_of_getElem? (i := 431) (by decide +kernel)⟩
theorem lw_p13 : lw_okq (⟨"FairRates$Water", "nextSurface", "(I)I"⟩, 10) := ⟨⟨by decide +kernel, by decide +kernel⟩, List.mem_of_getElem? (i := 142) (by decide +kernel), List.mem_of_getElem? (i := 499) (by decide +kernel), List.mem_of_getElem? (i := 500) (by decide +kernel)⟩
theorem lw_p14 : lw_okq (⟨"FairRates$Water", "linksAt", "(I)I"⟩, 10) := ⟨⟨by decide +kernel, by decide +kernel⟩, List.mem_of_getElem? (i := 142) (by decide +kernel), List.mem_of_getElem? (i := 506) (by decide +kernel), List.mem_of_getElem? (i := 507) (by decide +kernel)⟩
theorem lw_p15 : lw_okq (⟨"FairRates$Water", "fixedBy", "(III)I"⟩, 10) := ⟨⟨by decide +kernel, by decide +kernel⟩, List.mem_of_getElem? (i := 142) (by decide +kernel), List.mem_of_getElem? (i := 510) (by decide +kernel), List.mem_of_getElem? (i := 511) (by decide +kernel)⟩
def lw_privs_1 : List (MethodName × Nat) := [(⟨"FairRates", "refuse", "(I)I"⟩, 11), (⟨"FairRates$Post", "forgetFlow", "(I)V"⟩, 16), (⟨"FairRates$Post", "forgetAt", "(II)V"⟩, 16), (⟨"FairRates", "whyNotRoute", "(II)I"⟩, 11), (⟨"FairRates$Post", "lowestFrom", "(II)I"⟩, 16), (⟨"FairRates$Plan", "byWeight", "(II)I"⟩, 9), (⟨"FairRates$Post", "arriveForth", "(II)I"⟩, 16), (⟨"FairRates$Post", "tellAhead", "(III)V"⟩, 16), (⟨"FairRates$Post", "isLostAt", "(I)Z"⟩, 16), (⟨"FairRates$Post", "tell", "(II)V"⟩, 16), (⟨"FairRates$Post", "arriveBack", "(II)I"⟩, 16), (⟨"FairRates$Post", "tellBehind", "(III)V"⟩, 16), (⟨"FairRates$Post", "highestBelow", "(II)I"⟩, 16), (⟨"FairRates$Water", "nextSurface", "(I)I"⟩, 10), (⟨"FairRates$Water", "linksAt", "(I)I"⟩, 10), (⟨"FairRates$Water", "fixedBy", "(III)I"⟩, 10)]
theorem lw_r1 : ∀ q ∈ lw_privs_1, lw_okq q := List.forall_mem_cons.mpr ⟨lw_p0, List.forall_mem_cons.mpr ⟨lw_p1, List.forall_mem_cons.mpr ⟨lw_p2, List.forall_mem_cons.mpr ⟨lw_p3, List.forall_mem_cons.mpr ⟨lw_p4, List.forall_mem_cons.mpr ⟨lw_p5, List.forall_mem_cons.mpr ⟨lw_p6, List.forall_mem_cons.mpr ⟨lw_p7, List.forall_mem_cons.mpr ⟨lw_p8, List.forall_mem_cons.mpr ⟨lw_p9, List.forall_mem_cons.mpr ⟨lw_p10, List.forall_mem_cons.mpr ⟨lw_p11, List.forall_mem_cons.mpr ⟨lw_p12, List.forall_mem_cons.mpr ⟨lw_p13, List.forall_mem_cons.mpr ⟨lw_p14, List.forall_mem_cons.mpr ⟨lw_p15, fun _ h => absurd h List.not_mem_nil⟩⟩⟩⟩⟩⟩⟩⟩⟩⟩⟩⟩⟩⟩⟩⟩
theorem lw_p16 : lw_okq (⟨"FairRates$Water", "fix", "(II)V"⟩, 10) := ⟨⟨by decide +kernel, by decide +kernel⟩, List.mem_of_getElem? (i := 142) (by decide +kernel), List.mem_of_getElem? (i := 514) (by decide +kernel), List.mem_of_getElem? (i := 515) (by decide +kernel)⟩
theorem lw_p17 : lw_okq (⟨"FairRates$Post", "markBelow", "(II)Z"⟩, 16) := ⟨⟨by decide +kernel, by decide +kernel⟩, List.mem_of_getElem? (i := 23) (by decide +kernel), List.mem_of_getElem? (i := 601) (by decide +kernel), List.mem_of_getElem? (i := 602) (by decide +kernel)⟩
theorem lw_p18 : lw_okq (⟨"FairRates", "farFromFair", "(LFairRates$Post;)J"⟩, 11) := ⟨⟨by decide +kernel, by decide +kernel⟩, List.mem_of_getElem? (i := 15) (by decide +kernel), List.mem_of_getElem? (i := 636) (by decide +kernel), List.mem_of_getElem? (i := 637) (by decide +kernel)⟩
theorem lw_p19 : lw_okq (⟨"FairRates", "newSheet", "()LFairRates$Plan;"⟩, 11) := ⟨⟨by decide +kernel, by decide +kernel⟩, List.mem_of_getElem? (i := 15) (by decide +kernel), List.mem_of_getElem? (i := 664) (by decide +kernel), List.mem_of_getElem? (i := 665) (by decide +kernel)⟩
theorem lw_p20 : lw_okq (⟨"FairRates", "otherLevels", "()I"⟩, 11) := ⟨⟨by decide +kernel, by decide +kernel⟩, List.mem_of_getElem? (i := 15) (by decide +kernel), List.mem_of_getElem? (i := 692) (by decide +kernel), List.mem_of_getElem? (i := 693) (by decide +kernel)⟩
theorem lw_p21 : lw_okq (⟨"FairRates", "widen", "(II)V"⟩, 11) := ⟨⟨by decide +kernel, by decide +kernel⟩, List.mem_of_getElem? (i := 15) (by decide +kernel), List.mem_of_getElem? (i := 705) (by decide +kernel), List.mem_of_getElem? (i := 706) (by decide +kernel)⟩
theorem lw_p22 : lw_okq (⟨"FairRates", "blow", "(I)I"⟩, 11) := ⟨⟨by decide +kernel, by decide +kernel⟩, List.mem_of_getElem? (i := 15) (by decide +kernel), List.mem_of_getElem? (i := 721) (by decide +kernel), List.mem_of_getElem? (i := 722) (by decide +kernel)⟩
theorem lw_p23 : lw_okq (⟨"FairRates", "someoneComes", "(I)I"⟩, 11) := ⟨⟨by decide +kernel, by decide +kernel⟩, List.mem_of_getElem? (i := 15) (by decide +kernel), List.mem_of_getElem? (i := 729) (by decide +kernel), List.mem_of_getElem? (i := 730) (by decide +kernel)⟩
theorem lw_p24 : lw_okq (⟨"FairRates", "someoneGoes", "(I)I"⟩, 11) := ⟨⟨by decide +kernel, by decide +kernel⟩, List.mem_of_getElem? (i := 15) (by decide +kernel), List.mem_of_getElem? (i := 733) (by decide +kernel), List.mem_of_getElem? (i := 734) (by decide +kernel)⟩
theorem lw_p25 : lw_okq (⟨"java/lang/Throwable", "fillInStackTrace", "(I)Ljava/lang/Throwable;"⟩, 6) := ⟨⟨by decide +kernel, by decide +kernel⟩, List.mem_of_getElem? (i := 802) (by decide +kernel), List.mem_of_getElem? (i := 800) (by decide +kernel), List.mem_of_getElem? (i := 801) (by decide +kernel)⟩
theorem lw_p26 : lw_okq (⟨"FairRatesModel", "refuse", "(I)I"⟩, 18) := ⟨⟨by decide +kernel, by decide +kernel⟩, List.mem_of_getElem? (i := 849) (by decide +kernel), List.mem_of_getElem? (i := 938) (by decide +kernel), List.mem_of_getElem? (i := 939) (by decide +kernel)⟩
theorem lw_p27 : lw_okq (⟨"FairRatesModel", "bound", "(I)I"⟩, 18) := ⟨⟨by decide +kernel, by decide +kernel⟩, List.mem_of_getElem? (i := 849) (by decide +kernel), List.mem_of_getElem? (i := 942) (by decide +kernel), List.mem_of_getElem? (i := 943) (by decide +kernel)⟩
theorem lw_p28 : lw_okq (⟨"FairRatesModel", "goesOver", "(II)Z"⟩, 18) := ⟨⟨by decide +kernel, by decide +kernel⟩, List.mem_of_getElem? (i := 849) (by decide +kernel), List.mem_of_getElem? (i := 946) (by decide +kernel), List.mem_of_getElem? (i := 947) (by decide +kernel)⟩
theorem lw_p29 : lw_okq (⟨"FairRatesModel", "whyNot", "(IIII)I"⟩, 18) := ⟨⟨by decide +kernel, by decide +kernel⟩, List.mem_of_getElem? (i := 849) (by decide +kernel), List.mem_of_getElem? (i := 957) (by decide +kernel), List.mem_of_getElem? (i := 958) (by decide +kernel)⟩
theorem lw_p30 : lw_okq (⟨"FairRatesModel", "freeNumber", "()I"⟩, 18) := ⟨⟨by decide +kernel, by decide +kernel⟩, List.mem_of_getElem? (i := 849) (by decide +kernel), List.mem_of_getElem? (i := 965) (by decide +kernel), List.mem_of_getElem? (i := 966) (by decide +kernel)⟩
theorem lw_p31 : lw_okq (⟨"FairRatesModel", "roomOf", "(I)I"⟩, 18) := ⟨⟨by decide +kernel, by decide +kernel⟩, List.mem_of_getElem? (i := 849) (by decide +kernel), List.mem_of_getElem? (i := 969) (by decide +kernel), List.mem_of_getElem? (i := 970) (by decide +kernel)⟩
def lw_privs_2 : List (MethodName × Nat) := [(⟨"FairRates$Water", "fix", "(II)V"⟩, 10), (⟨"FairRates$Post", "markBelow", "(II)Z"⟩, 16), (⟨"FairRates", "farFromFair", "(LFairRates$Post;)J"⟩, 11), (⟨"FairRates", "newSheet", "()LFairRates$Plan;"⟩, 11), (⟨"FairRates", "otherLevels", "()I"⟩, 11), (⟨"FairRates", "widen", "(II)V"⟩, 11), (⟨"FairRates", "blow", "(I)I"⟩, 11), (⟨"FairRates", "someoneComes", "(I)I"⟩, 11), (⟨"FairRates", "someoneGoes", "(I)I"⟩, 11), (⟨"java/lang/Throwable", "fillInStackTrace", "(I)Ljava/lang/Throwable;"⟩, 6), (⟨"FairRatesModel", "refuse", "(I)I"⟩, 18), (⟨"FairRatesModel", "bound", "(I)I"⟩, 18), (⟨"FairRatesModel", "goesOver", "(II)Z"⟩, 18), (⟨"FairRatesModel", "whyNot", "(IIII)I"⟩, 18), (⟨"FairRatesModel", "freeNumber", "()I"⟩, 18), (⟨"FairRatesModel", "roomOf", "(I)I"⟩, 18)]
theorem lw_r2 : ∀ q ∈ lw_privs_2, lw_okq q := List.forall_mem_cons.mpr ⟨lw_p16, List.forall_mem_cons.mpr ⟨lw_p17, List.forall_mem_cons.mpr ⟨lw_p18, List.forall_mem_cons.mpr ⟨lw_p19, List.forall_mem_cons.mpr ⟨lw_p20, List.forall_mem_cons.mpr ⟨lw_p21, List.forall_mem_cons.mpr ⟨lw_p22, List.forall_mem_cons.mpr ⟨lw_p23, List.forall_mem_cons.mpr ⟨lw_p24, List.forall_mem_cons.mpr ⟨lw_p25, List.forall_mem_cons.mpr ⟨lw_p26, List.forall_mem_cons.mpr ⟨lw_p27, List.forall_mem_cons.mpr ⟨lw_p28, List.forall_mem_cons.mpr ⟨lw_p29, List.forall_mem_cons.mpr ⟨lw_p30, List.forall_mem_cons.mpr ⟨lw_p31, fun _ h => absurd h List.not_mem_nil⟩⟩⟩⟩⟩⟩⟩⟩⟩⟩⟩⟩⟩⟩⟩⟩
theorem lw_p32 : lw_okq (⟨"FairRatesModel", "namedBy", "(I)I"⟩, 18) := ⟨⟨by decide +kernel, by decide +kernel⟩, List.mem_of_getElem? (i := 849) (by decide +kernel), List.mem_of_getElem? (i := 978) (by decide +kernel), List.mem_of_getElem? (i := 979) (by decide +kernel)⟩
theorem lw_p33 : lw_okq (⟨"FairRatesModel", "lay", "(IIIIII)V"⟩, 18) := ⟨⟨by decide +kernel, by decide +kernel⟩, List.mem_of_getElem? (i := 849) (by decide +kernel), List.mem_of_getElem? (i := 982) (by decide +kernel), List.mem_of_getElem? (i := 983) (by decide +kernel)⟩
theorem lw_p34 : lw_okq (⟨"FairRatesModel", "knowsNothing", "(II)V"⟩, 18) := ⟨⟨by decide +kernel, by decide +kernel⟩, List.mem_of_getElem? (i := 849) (by decide +kernel), List.mem_of_getElem? (i := 986) (by decide +kernel), List.mem_of_getElem? (i := 987) (by decide +kernel)⟩
theorem lw_p35 : lw_okq (⟨"FairRatesModel", "isFlow", "(I)Z"⟩, 18) := ⟨⟨by decide +kernel, by decide +kernel⟩, List.mem_of_getElem? (i := 849) (by decide +kernel), List.mem_of_getElem? (i := 994) (by decide +kernel), List.mem_of_getElem? (i := 995) (by decide +kernel)⟩
theorem lw_p36 : lw_okq (⟨"FairRatesModel", "flowMany", "()I"⟩, 18) := ⟨⟨by decide +kernel, by decide +kernel⟩, List.mem_of_getElem? (i := 849) (by decide +kernel), List.mem_of_getElem? (i := 999) (by decide +kernel), List.mem_of_getElem? (i := 1000) (by decide +kernel)⟩
theorem lw_p37 : lw_okq (⟨"FairRatesModel", "isBound", "()Z"⟩, 18) := ⟨⟨by decide +kernel, by decide +kernel⟩, List.mem_of_getElem? (i := 849) (by decide +kernel), List.mem_of_getElem? (i := 1008) (by decide +kernel), List.mem_of_getElem? (i := 1009) (by decide +kernel)⟩
theorem lw_p38 : lw_okq (⟨"FairRatesModel", "heldMany", "()I"⟩, 18) := ⟨⟨by decide +kernel, by decide +kernel⟩, List.mem_of_getElem? (i := 849) (by decide +kernel), List.mem_of_getElem? (i := 1016) (by decide +kernel), List.mem_of_getElem? (i := 1017) (by decide +kernel)⟩
theorem lw_p39 : lw_okq (⟨"FairRatesModel", "reroute", "(II)I"⟩, 18) := ⟨⟨by decide +kernel, by decide +kernel⟩, List.mem_of_getElem? (i := 849) (by decide +kernel), List.mem_of_getElem? (i := 1024) (by decide +kernel), List.mem_of_getElem? (i := 1025) (by decide +kernel)⟩
theorem lw_p40 : lw_okq (⟨"FairRatesModel", "sends", "(I)V"⟩, 18) := ⟨⟨by decide +kernel, by decide +kernel⟩, List.mem_of_getElem? (i := 849) (by decide +kernel), List.mem_of_getElem? (i := 1040) (by decide +kernel), List.mem_of_getElem? (i := 1041) (by decide +kernel)⟩
theorem lw_p41 : lw_okq (⟨"FairRatesModel", "own", "(I)I"⟩, 18) := ⟨⟨by decide +kernel, by decide +kernel⟩, List.mem_of_getElem? (i := 849) (by decide +kernel), List.mem_of_getElem? (i := 1044) (by decide +kernel), List.mem_of_getElem? (i := 1045) (by decide +kernel)⟩
theorem lw_p42 : lw_okq (⟨"FairRatesModel", "forth", "(III)I"⟩, 18) := ⟨⟨by decide +kernel, by decide +kernel⟩, List.mem_of_getElem? (i := 849) (by decide +kernel), List.mem_of_getElem? (i := 1048) (by decide +kernel), List.mem_of_getElem? (i := 1049) (by decide +kernel)⟩
theorem lw_p43 : lw_okq (⟨"FairRatesModel", "advertises", "(I)I"⟩, 18) := ⟨⟨by decide +kernel, by decide +kernel⟩, List.mem_of_getElem? (i := 849) (by decide +kernel), List.mem_of_getElem? (i := 1052) (by decide +kernel), List.mem_of_getElem? (i := 1053) (by decide +kernel)⟩
theorem lw_p44 : lw_okq (⟨"FairRatesModel", "ratesBy", "(II)J"⟩, 18) := ⟨⟨by decide +kernel, by decide +kernel⟩, List.mem_of_getElem? (i := 849) (by decide +kernel), List.mem_of_getElem? (i := 1057) (by decide +kernel), List.mem_of_getElem? (i := 1058) (by decide +kernel)⟩
theorem lw_p45 : lw_okq (⟨"FairRatesModel", "elsewhere", "(II)I"⟩, 18) := ⟨⟨by decide +kernel, by decide +kernel⟩, List.mem_of_getElem? (i := 849) (by decide +kernel), List.mem_of_getElem? (i := 1061) (by decide +kernel), List.mem_of_getElem? (i := 1062) (by decide +kernel)⟩
theorem lw_p46 : lw_okq (⟨"FairRatesModel", "rate", "(II)I"⟩, 18) := ⟨⟨by decide +kernel, by decide +kernel⟩, List.mem_of_getElem? (i := 849) (by decide +kernel), List.mem_of_getElem? (i := 1065) (by decide +kernel), List.mem_of_getElem? (i := 1066) (by decide +kernel)⟩
theorem lw_p47 : lw_okq (⟨"FairRatesModel", "backTo", "(III)I"⟩, 18) := ⟨⟨by decide +kernel, by decide +kernel⟩, List.mem_of_getElem? (i := 849) (by decide +kernel), List.mem_of_getElem? (i := 1069) (by decide +kernel), List.mem_of_getElem? (i := 1070) (by decide +kernel)⟩
def lw_privs_3 : List (MethodName × Nat) := [(⟨"FairRatesModel", "namedBy", "(I)I"⟩, 18), (⟨"FairRatesModel", "lay", "(IIIIII)V"⟩, 18), (⟨"FairRatesModel", "knowsNothing", "(II)V"⟩, 18), (⟨"FairRatesModel", "isFlow", "(I)Z"⟩, 18), (⟨"FairRatesModel", "flowMany", "()I"⟩, 18), (⟨"FairRatesModel", "isBound", "()Z"⟩, 18), (⟨"FairRatesModel", "heldMany", "()I"⟩, 18), (⟨"FairRatesModel", "reroute", "(II)I"⟩, 18), (⟨"FairRatesModel", "sends", "(I)V"⟩, 18), (⟨"FairRatesModel", "own", "(I)I"⟩, 18), (⟨"FairRatesModel", "forth", "(III)I"⟩, 18), (⟨"FairRatesModel", "advertises", "(I)I"⟩, 18), (⟨"FairRatesModel", "ratesBy", "(II)J"⟩, 18), (⟨"FairRatesModel", "elsewhere", "(II)I"⟩, 18), (⟨"FairRatesModel", "rate", "(II)I"⟩, 18), (⟨"FairRatesModel", "backTo", "(III)I"⟩, 18)]
theorem lw_r3 : ∀ q ∈ lw_privs_3, lw_okq q := List.forall_mem_cons.mpr ⟨lw_p32, List.forall_mem_cons.mpr ⟨lw_p33, List.forall_mem_cons.mpr ⟨lw_p34, List.forall_mem_cons.mpr ⟨lw_p35, List.forall_mem_cons.mpr ⟨lw_p36, List.forall_mem_cons.mpr ⟨lw_p37, List.forall_mem_cons.mpr ⟨lw_p38, List.forall_mem_cons.mpr ⟨lw_p39, List.forall_mem_cons.mpr ⟨lw_p40, List.forall_mem_cons.mpr ⟨lw_p41, List.forall_mem_cons.mpr ⟨lw_p42, List.forall_mem_cons.mpr ⟨lw_p43, List.forall_mem_cons.mpr ⟨lw_p44, List.forall_mem_cons.mpr ⟨lw_p45, List.forall_mem_cons.mpr ⟨lw_p46, List.forall_mem_cons.mpr ⟨lw_p47, fun _ h => absurd h List.not_mem_nil⟩⟩⟩⟩⟩⟩⟩⟩⟩⟩⟩⟩⟩⟩⟩⟩
theorem lw_p48 : lw_okq (⟨"FairRatesModel", "nextLink", "(III)I"⟩, 18) := ⟨⟨by decide +kernel, by decide +kernel⟩, List.mem_of_getElem? (i := 849) (by decide +kernel), List.mem_of_getElem? (i := 1077) (by decide +kernel), List.mem_of_getElem? (i := 1078) (by decide +kernel)⟩
theorem lw_p49 : lw_okq (⟨"FairRatesModel", "round", "()Z"⟩, 18) := ⟨⟨by decide +kernel, by decide +kernel⟩, List.mem_of_getElem? (i := 849) (by decide +kernel), List.mem_of_getElem? (i := 1086) (by decide +kernel), List.mem_of_getElem? (i := 1087) (by decide +kernel)⟩
theorem lw_p50 : lw_okq (⟨"FairRatesModel", "isThere", "(I)Z"⟩, 18) := ⟨⟨by decide +kernel, by decide +kernel⟩, List.mem_of_getElem? (i := 849) (by decide +kernel), List.mem_of_getElem? (i := 1102) (by decide +kernel), List.mem_of_getElem? (i := 1103) (by decide +kernel)⟩
theorem lw_p51 : lw_okq (⟨"FairRatesModel", "layFair", "()V"⟩, 18) := ⟨⟨by decide +kernel, by decide +kernel⟩, List.mem_of_getElem? (i := 849) (by decide +kernel), List.mem_of_getElem? (i := 1115) (by decide +kernel), List.mem_of_getElem? (i := 1116) (by decide +kernel)⟩
theorem lw_p52 : lw_okq (⟨"FairRatesModel", "isOpen", "(I)Z"⟩, 18) := ⟨⟨by decide +kernel, by decide +kernel⟩, List.mem_of_getElem? (i := 849) (by decide +kernel), List.mem_of_getElem? (i := 1119) (by decide +kernel), List.mem_of_getElem? (i := 1120) (by decide +kernel)⟩
theorem lw_p53 : lw_okq (⟨"FairRatesModel", "tideOf", "(I)I"⟩, 18) := ⟨⟨by decide +kernel, by decide +kernel⟩, List.mem_of_getElem? (i := 849) (by decide +kernel), List.mem_of_getElem? (i := 1123) (by decide +kernel), List.mem_of_getElem? (i := 1124) (by decide +kernel)⟩
theorem lw_p54 : lw_okq (⟨"FairRatesModel", "waterBy", "(II)J"⟩, 18) := ⟨⟨by decide +kernel, by decide +kernel⟩, List.mem_of_getElem? (i := 849) (by decide +kernel), List.mem_of_getElem? (i := 1127) (by decide +kernel), List.mem_of_getElem? (i := 1128) (by decide +kernel)⟩
theorem lw_p55 : lw_okq (⟨"FairRatesModel", "fix", "(I)I"⟩, 18) := ⟨⟨by decide +kernel, by decide +kernel⟩, List.mem_of_getElem? (i := 849) (by decide +kernel), List.mem_of_getElem? (i := 1131) (by decide +kernel), List.mem_of_getElem? (i := 1132) (by decide +kernel)⟩
theorem lw_p56 : lw_okq (⟨"FairRatesModel", "fairRate", "(I)I"⟩, 18) := ⟨⟨by decide +kernel, by decide +kernel⟩, List.mem_of_getElem? (i := 849) (by decide +kernel), List.mem_of_getElem? (i := 1135) (by decide +kernel), List.mem_of_getElem? (i := 1136) (by decide +kernel)⟩
theorem lw_p57 : lw_okq (⟨"FairRatesModel", "usedOf", "(I)I"⟩, 18) := ⟨⟨by decide +kernel, by decide +kernel⟩, List.mem_of_getElem? (i := 849) (by decide +kernel), List.mem_of_getElem? (i := 1143) (by decide +kernel), List.mem_of_getElem? (i := 1144) (by decide +kernel)⟩
theorem lw_p58 : lw_okq (⟨"FairRatesModel", "leastLevel", "()I"⟩, 18) := ⟨⟨by decide +kernel, by decide +kernel⟩, List.mem_of_getElem? (i := 849) (by decide +kernel), List.mem_of_getElem? (i := 1151) (by decide +kernel), List.mem_of_getElem? (i := 1152) (by decide +kernel)⟩
theorem lw_p59 : lw_okq (⟨"FairRatesModel", "allRates", "()I"⟩, 18) := ⟨⟨by decide +kernel, by decide +kernel⟩, List.mem_of_getElem? (i := 849) (by decide +kernel), List.mem_of_getElem? (i := 1155) (by decide +kernel), List.mem_of_getElem? (i := 1156) (by decide +kernel)⟩
theorem lw_p60 : lw_okq (⟨"FairRatesModel", "hasFlows", "(I)Z"⟩, 18) := ⟨⟨by decide +kernel, by decide +kernel⟩, List.mem_of_getElem? (i := 849) (by decide +kernel), List.mem_of_getElem? (i := 1176) (by decide +kernel), List.mem_of_getElem? (i := 1177) (by decide +kernel)⟩
theorem lw_p61 : lw_okq (⟨"FairRatesModel", "leftOf", "(I)I"⟩, 18) := ⟨⟨by decide +kernel, by decide +kernel⟩, List.mem_of_getElem? (i := 849) (by decide +kernel), List.mem_of_getElem? (i := 1180) (by decide +kernel), List.mem_of_getElem? (i := 1181) (by decide +kernel)⟩
theorem lw_p62 : lw_okq (⟨"FairRatesModel", "passLevel", "(I)I"⟩, 18) := ⟨⟨by decide +kernel, by decide +kernel⟩, List.mem_of_getElem? (i := 849) (by decide +kernel), List.mem_of_getElem? (i := 1200) (by decide +kernel), List.mem_of_getElem? (i := 1201) (by decide +kernel)⟩
theorem lw_p63 : lw_okq (⟨"FairRatesModel", "bookedOf", "(I)I"⟩, 18) := ⟨⟨by decide +kernel, by decide +kernel⟩, List.mem_of_getElem? (i := 849) (by decide +kernel), List.mem_of_getElem? (i := 1212) (by decide +kernel), List.mem_of_getElem? (i := 1213) (by decide +kernel)⟩
def lw_privs_4 : List (MethodName × Nat) := [(⟨"FairRatesModel", "nextLink", "(III)I"⟩, 18), (⟨"FairRatesModel", "round", "()Z"⟩, 18), (⟨"FairRatesModel", "isThere", "(I)Z"⟩, 18), (⟨"FairRatesModel", "layFair", "()V"⟩, 18), (⟨"FairRatesModel", "isOpen", "(I)Z"⟩, 18), (⟨"FairRatesModel", "tideOf", "(I)I"⟩, 18), (⟨"FairRatesModel", "waterBy", "(II)J"⟩, 18), (⟨"FairRatesModel", "fix", "(I)I"⟩, 18), (⟨"FairRatesModel", "fairRate", "(I)I"⟩, 18), (⟨"FairRatesModel", "usedOf", "(I)I"⟩, 18), (⟨"FairRatesModel", "leastLevel", "()I"⟩, 18), (⟨"FairRatesModel", "allRates", "()I"⟩, 18), (⟨"FairRatesModel", "hasFlows", "(I)Z"⟩, 18), (⟨"FairRatesModel", "leftOf", "(I)I"⟩, 18), (⟨"FairRatesModel", "passLevel", "(I)I"⟩, 18), (⟨"FairRatesModel", "bookedOf", "(I)I"⟩, 18)]
theorem lw_r4 : ∀ q ∈ lw_privs_4, lw_okq q := List.forall_mem_cons.mpr ⟨lw_p48, List.forall_mem_cons.mpr ⟨lw_p49, List.forall_mem_cons.mpr ⟨lw_p50, List.forall_mem_cons.mpr ⟨lw_p51, List.forall_mem_cons.mpr ⟨lw_p52, List.forall_mem_cons.mpr ⟨lw_p53, List.forall_mem_cons.mpr ⟨lw_p54, List.forall_mem_cons.mpr ⟨lw_p55, List.forall_mem_cons.mpr ⟨lw_p56, List.forall_mem_cons.mpr ⟨lw_p57, List.forall_mem_cons.mpr ⟨lw_p58, List.forall_mem_cons.mpr ⟨lw_p59, List.forall_mem_cons.mpr ⟨lw_p60, List.forall_mem_cons.mpr ⟨lw_p61, List.forall_mem_cons.mpr ⟨lw_p62, List.forall_mem_cons.mpr ⟨lw_p63, fun _ h => absurd h List.not_mem_nil⟩⟩⟩⟩⟩⟩⟩⟩⟩⟩⟩⟩⟩⟩⟩⟩
theorem lw_p64 : lw_okq (⟨"FairRatesModel", "overbooked", "()I"⟩, 18) := ⟨⟨by decide +kernel, by decide +kernel⟩, List.mem_of_getElem? (i := 849) (by decide +kernel), List.mem_of_getElem? (i := 1220) (by decide +kernel), List.mem_of_getElem? (i := 1221) (by decide +kernel)⟩
theorem lw_p65 : lw_okq (⟨"FairRatesModel", "think", "()V"⟩, 18) := ⟨⟨by decide +kernel, by decide +kernel⟩, List.mem_of_getElem? (i := 849) (by decide +kernel), List.mem_of_getElem? (i := 1228) (by decide +kernel), List.mem_of_getElem? (i := 1229) (by decide +kernel)⟩
theorem lw_p66 : lw_okq (⟨"FairRatesModel", "endThought", "()V"⟩, 18) := ⟨⟨by decide +kernel, by decide +kernel⟩, List.mem_of_getElem? (i := 849) (by decide +kernel), List.mem_of_getElem? (i := 1232) (by decide +kernel), List.mem_of_getElem? (i := 1233) (by decide +kernel)⟩
theorem lw_p67 : lw_okq (⟨"FairRatesModel", "takeLevels", "()V"⟩, 18) := ⟨⟨by decide +kernel, by decide +kernel⟩, List.mem_of_getElem? (i := 849) (by decide +kernel), List.mem_of_getElem? (i := 1274) (by decide +kernel), List.mem_of_getElem? (i := 1275) (by decide +kernel)⟩
theorem lw_p68 : lw_okq (⟨"FairRatesModel", "othersBy", "(II)I"⟩, 18) := ⟨⟨by decide +kernel, by decide +kernel⟩, List.mem_of_getElem? (i := 849) (by decide +kernel), List.mem_of_getElem? (i := 1278) (by decide +kernel), List.mem_of_getElem? (i := 1279) (by decide +kernel)⟩
theorem lw_p69 : lw_okq (⟨"FairRatesModel", "draw", "()I"⟩, 18) := ⟨⟨by decide +kernel, by decide +kernel⟩, List.mem_of_getElem? (i := 849) (by decide +kernel), List.mem_of_getElem? (i := 1303) (by decide +kernel), List.mem_of_getElem? (i := 1304) (by decide +kernel)⟩
theorem lw_p70 : lw_okq (⟨"FairRatesModel", "comesByChance", "()V"⟩, 18) := ⟨⟨by decide +kernel, by decide +kernel⟩, List.mem_of_getElem? (i := 849) (by decide +kernel), List.mem_of_getElem? (i := 1310) (by decide +kernel), List.mem_of_getElem? (i := 1311) (by decide +kernel)⟩
theorem lw_p71 : lw_okq (⟨"FairRatesModel", "goesByChance", "()V"⟩, 18) := ⟨⟨by decide +kernel, by decide +kernel⟩, List.mem_of_getElem? (i := 849) (by decide +kernel), List.mem_of_getElem? (i := 1314) (by decide +kernel), List.mem_of_getElem? (i := 1315) (by decide +kernel)⟩
theorem lw_p72 : lw_okq (⟨"FairRatesModel", "linksWithFlows", "()I"⟩, 18) := ⟨⟨by decide +kernel, by decide +kernel⟩, List.mem_of_getElem? (i := 849) (by decide +kernel), List.mem_of_getElem? (i := 1322) (by decide +kernel), List.mem_of_getElem? (i := 1323) (by decide +kernel)⟩
theorem lw_p73 : lw_okq (⟨"FairRatesModel", "marksAll", "()I"⟩, 18) := ⟨⟨by decide +kernel, by decide +kernel⟩, List.mem_of_getElem? (i := 849) (by decide +kernel), List.mem_of_getElem? (i := 1326) (by decide +kernel), List.mem_of_getElem? (i := 1327) (by decide +kernel)⟩
theorem lw_p74 : lw_okq (⟨"FairRatesModel", "underWay", "()I"⟩, 18) := ⟨⟨by decide +kernel, by decide +kernel⟩, List.mem_of_getElem? (i := 849) (by decide +kernel), List.mem_of_getElem? (i := 1330) (by decide +kernel), List.mem_of_getElem? (i := 1331) (by decide +kernel)⟩
theorem lw_p75 : lw_okq (⟨"FairRatesModel", "toBeLost", "()I"⟩, 18) := ⟨⟨by decide +kernel, by decide +kernel⟩, List.mem_of_getElem? (i := 849) (by decide +kernel), List.mem_of_getElem? (i := 1334) (by decide +kernel), List.mem_of_getElem? (i := 1335) (by decide +kernel)⟩
def lw_privs_5 : List (MethodName × Nat) := [(⟨"FairRatesModel", "overbooked", "()I"⟩, 18), (⟨"FairRatesModel", "think", "()V"⟩, 18), (⟨"FairRatesModel", "endThought", "()V"⟩, 18), (⟨"FairRatesModel", "takeLevels", "()V"⟩, 18), (⟨"FairRatesModel", "othersBy", "(II)I"⟩, 18), (⟨"FairRatesModel", "draw", "()I"⟩, 18), (⟨"FairRatesModel", "comesByChance", "()V"⟩, 18), (⟨"FairRatesModel", "goesByChance", "()V"⟩, 18), (⟨"FairRatesModel", "linksWithFlows", "()I"⟩, 18), (⟨"FairRatesModel", "marksAll", "()I"⟩, 18), (⟨"FairRatesModel", "underWay", "()I"⟩, 18), (⟨"FairRatesModel", "toBeLost", "()I"⟩, 18)]
theorem lw_r5 : ∀ q ∈ lw_privs_5, lw_okq q := List.forall_mem_cons.mpr ⟨lw_p64, List.forall_mem_cons.mpr ⟨lw_p65, List.forall_mem_cons.mpr ⟨lw_p66, List.forall_mem_cons.mpr ⟨lw_p67, List.forall_mem_cons.mpr ⟨lw_p68, List.forall_mem_cons.mpr ⟨lw_p69, List.forall_mem_cons.mpr ⟨lw_p70, List.forall_mem_cons.mpr ⟨lw_p71, List.forall_mem_cons.mpr ⟨lw_p72, List.forall_mem_cons.mpr ⟨lw_p73, List.forall_mem_cons.mpr ⟨lw_p74, List.forall_mem_cons.mpr ⟨lw_p75, fun _ h => absurd h List.not_mem_nil⟩⟩⟩⟩⟩⟩⟩⟩⟩⟩⟩⟩
def lw_privs : List (MethodName × Nat) := lw_privs_1 ++ (lw_privs_2 ++ (lw_privs_3 ++ (lw_privs_4 ++ (lw_privs_5))))
def lw_tbl : List Cond := k2_sels lw_privs ++ tables_1
theorem lw_privs_ok : ∀ q ∈ lw_privs, lw_okq q := by
  show ∀ q ∈ lw_privs_1 ++ (lw_privs_2 ++ (lw_privs_3 ++ (lw_privs_4 ++ (lw_privs_5)))), lw_okq q
  exact List.forall_mem_append.mpr ⟨lw_r1, List.forall_mem_append.mpr ⟨lw_r2, List.forall_mem_append.mpr ⟨lw_r3, List.forall_mem_append.mpr ⟨lw_r4, lw_r5⟩⟩⟩⟩
def RX0 : String := "FairRates$Plan"
def TX0 : u_T := fun k => match k with
  | 0 => ("FairRates$Plan", "capacity", "[I", true)
  | 1 => ("FairRates$Plan", "crowd", "[I", true)
  | 2 => ("FairRates$Plan", "name", "[I", true)
  | 3 => ("FairRates$Plan", "path", "[I", true)
  | 4 => ("FairRates$Plan", "weight", "[I", true)
  | 5 => ("FairRates$Plan", "least", "[I", true)
  | 6 => ("FairRates$Plan", "want", "[I", true)
  | 7 => ("FairRates$Plan", "flows", "I", false)
  | _ => ("FairRates$Plan", "edits", "I", false)
def tyX0 : Nat → FieldType := fun k => match k with
  | 0 => .array .int
  | 1 => .array .int
  | 2 => .array .int
  | 3 => .array .int
  | 4 => .array .int
  | 5 => .array .int
  | 6 => .array .int
  | 7 => .int
  | _ => .int
abbrev wsX00 : List Cond := u_ws RX0 TX0 9
theorem nmX0 : ∀ a, a < 9 → ∀ b, b < 9 → a ≠ b → (TX0 a).2.1 ≠ (TX0 b).2.1 := by decide +kernel
theorem tyX0_ok : ∀ k, k < 9 → parseFieldDescriptor (TX0 k).2.2.1 = some (tyX0 k) := by decide +kernel
abbrev cX0_init : ByteArray := prog_2_method_1_code
def yX0_init : MethodName := ⟨RX0, "<init>", "()V"⟩
abbrev cX0_copy : ByteArray := prog_2_method_2_code
def yX0_copy : MethodName := ⟨RX0, "copy", "(LFairRates$Plan;)V"⟩
abbrev cX0_has : ByteArray := prog_2_method_3_code
def yX0_has : MethodName := ⟨RX0, "has", "(I)Z"⟩
abbrev cX0_goesOver : ByteArray := prog_2_method_4_code
def yX0_goesOver : MethodName := ⟨RX0, "goesOver", "(II)Z"⟩
abbrev cX0_freeNumber : ByteArray := prog_2_method_5_code
def yX0_freeNumber : MethodName := ⟨RX0, "freeNumber", "()I"⟩
abbrev cX0_flowNamed : ByteArray := prog_2_method_6_code
def yX0_flowNamed : MethodName := ⟨RX0, "flowNamed", "(I)I"⟩
abbrev cX0_setCapacity : ByteArray := prog_2_method_7_code
def yX0_setCapacity : MethodName := ⟨RX0, "setCapacity", "(II)V"⟩
abbrev cX0_partOf : ByteArray := prog_2_method_8_code
def yX0_partOf : MethodName := ⟨RX0, "partOf", "(II)I"⟩
abbrev cX0_setPart : ByteArray := prog_2_method_9_code
def yX0_setPart : MethodName := ⟨RX0, "setPart", "(III)V"⟩
abbrev cX0_add : ByteArray := prog_2_method_10_code
def yX0_add : MethodName := ⟨RX0, "add", "(IIIII)I"⟩
abbrev cX0_remove : ByteArray := prog_2_method_11_code
def yX0_remove : MethodName := ⟨RX0, "remove", "(I)V"⟩
abbrev cX0_setPath : ByteArray := prog_2_method_12_code
def yX0_setPath : MethodName := ⟨RX0, "setPath", "(II)V"⟩
abbrev cX0_linksInUse : ByteArray := prog_2_method_13_code
def yX0_linksInUse : MethodName := ⟨RX0, "linksInUse", "()I"⟩
abbrev cX0_boundOf : ByteArray := prog_2_method_14_code
def yX0_boundOf : MethodName := ⟨RX0, "boundOf", "(I)I"⟩
abbrev cX0_hasRoom : ByteArray := prog_2_method_15_code
def yX0_hasRoom : MethodName := ⟨RX0, "hasRoom", "(II)Z"⟩
abbrev cX0_ownOf : ByteArray := prog_2_method_16_code
def yX0_ownOf : MethodName := ⟨RX0, "ownOf", "(I)I"⟩
abbrev cX0_rateBy : ByteArray := prog_2_method_17_code
def yX0_rateBy : MethodName := ⟨RX0, "rateBy", "(II)I"⟩
abbrev cX0_byWeight : ByteArray := prog_2_method_18_code
def yX0_byWeight : MethodName := ⟨RX0, "byWeight", "(II)I"⟩
abbrev cX0_greatestLevel : ByteArray := prog_2_method_19_code
def yX0_greatestLevel : MethodName := ⟨RX0, "greatestLevel", "(I[I)I"⟩
def RX1 : String := "FairRates$Post"
def TX1 : u_T := fun k => match k with
  | 0 => ("FairRates$Post", "plan", "LFairRates$Plan;", true)
  | 1 => ("FairRates$Post", "ahead", "[I", true)
  | 2 => ("FairRates$Post", "behind", "[I", true)
  | 3 => ("FairRates$Post", "told", "[I", true)
  | 4 => ("FairRates$Post", "toLose", "[I", true)
  | 5 => ("FairRates$Post", "way", "[I", true)
  | 6 => ("FairRates$Post", "nextLink", "[I", true)
  | 7 => ("FairRates$Post", "borne", "[I", true)
  | 8 => ("FairRates$Post", "held", "I", false)
  | 9 => ("FairRates$Post", "letterCount", "I", false)
  | 10 => ("FairRates$Post", "roundCount", "I", false)
  | 11 => ("FairRates$Post", "lostCount", "I", false)
  | 12 => ("FairRates$Post", "offer", "[I", true)
  | 13 => ("FairRates$Post", "seenEdits", "I", false)
  | 14 => ("FairRates$Post", "limit", "[I", true)
  | _ => ("FairRates$Post", "isStirred", "Z", false)
def tyX1 : Nat → FieldType := fun k => match k with
  | 0 => .object "FairRates$Plan"
  | 1 => .array .int
  | 2 => .array .int
  | 3 => .array .int
  | 4 => .array .int
  | 5 => .array .int
  | 6 => .array .int
  | 7 => .array .int
  | 8 => .int
  | 9 => .int
  | 10 => .int
  | 11 => .int
  | 12 => .array .int
  | 13 => .int
  | 14 => .array .int
  | _ => .boolean
abbrev wsX10 : List Cond := u_ws RX1 TX1 16
theorem nmX1 : ∀ a, a < 16 → ∀ b, b < 16 → a ≠ b → (TX1 a).2.1 ≠ (TX1 b).2.1 := by decide +kernel
theorem tyX1_ok : ∀ k, k < 16 → parseFieldDescriptor (TX1 k).2.2.1 = some (tyX1 k) := by decide +kernel
abbrev cX1_init : ByteArray := prog_3_method_1_code
def yX1_init : MethodName := ⟨RX1, "<init>", "()V"⟩
abbrev cX1_copy : ByteArray := prog_3_method_2_code
def yX1_copy : MethodName := ⟨RX1, "copy", "(LFairRates$Post;)V"⟩
abbrev cX1_takeIn : ByteArray := prog_3_method_3_code
def yX1_takeIn : MethodName := ⟨RX1, "takeIn", "(IIIII)I"⟩
abbrev cX1_letGo : ByteArray := prog_3_method_4_code
def yX1_letGo : MethodName := ⟨RX1, "letGo", "(I)V"⟩
abbrev cX1_reroute : ByteArray := prog_3_method_5_code
def yX1_reroute : MethodName := ⟨RX1, "reroute", "(II)V"⟩
abbrev cX1_forgetAll : ByteArray := prog_3_method_6_code
def yX1_forgetAll : MethodName := ⟨RX1, "forgetAll", "()V"⟩
abbrev cX1_forgetFlow : ByteArray := prog_3_method_7_code
def yX1_forgetFlow : MethodName := ⟨RX1, "forgetFlow", "(I)V"⟩
abbrev cX1_forgetAt : ByteArray := prog_3_method_8_code
def yX1_forgetAt : MethodName := ⟨RX1, "forgetAt", "(II)V"⟩
abbrev cX1_isHeld : ByteArray := prog_3_method_9_code
def yX1_isHeld : MethodName := ⟨RX1, "isHeld", "(I)Z"⟩
abbrev cX1_elsewhere : ByteArray := prog_3_method_10_code
def yX1_elsewhere : MethodName := ⟨RX1, "elsewhere", "(II)I"⟩
abbrev cX1_offerOf : ByteArray := prog_3_method_11_code
def yX1_offerOf : MethodName := ⟨RX1, "offerOf", "(I)I"⟩
abbrev cX1_isMarked : ByteArray := prog_3_method_12_code
def yX1_isMarked : MethodName := ⟨RX1, "isMarked", "(II)Z"⟩
abbrev cX1_markCount : ByteArray := prog_3_method_13_code
def yX1_markCount : MethodName := ⟨RX1, "markCount", "()I"⟩
abbrev cX1_findMarks : ByteArray := prog_3_method_14_code
def yX1_findMarks : MethodName := ⟨RX1, "findMarks", "(I[I)I"⟩
abbrev cX1_markBelow : ByteArray := prog_3_method_15_code
def yX1_markBelow : MethodName := ⟨RX1, "markBelow", "(II)Z"⟩
abbrev cX1_tellAhead : ByteArray := prog_3_method_16_code
def yX1_tellAhead : MethodName := ⟨RX1, "tellAhead", "(III)V"⟩
abbrev cX1_tellBehind : ByteArray := prog_3_method_17_code
def yX1_tellBehind : MethodName := ⟨RX1, "tellBehind", "(III)V"⟩
abbrev cX1_tell : ByteArray := prog_3_method_18_code
def yX1_tell : MethodName := ⟨RX1, "tell", "(II)V"⟩
abbrev cX1_isLostAt : ByteArray := prog_3_method_19_code
def yX1_isLostAt : MethodName := ⟨RX1, "isLostAt", "(I)Z"⟩
abbrev cX1_send : ByteArray := prog_3_method_20_code
def yX1_send : MethodName := ⟨RX1, "send", "(I)V"⟩
abbrev cX1_goRound : ByteArray := prog_3_method_21_code
def yX1_goRound : MethodName := ⟨RX1, "goRound", "()Z"⟩
abbrev cX1_goOn : ByteArray := prog_3_method_22_code
def yX1_goOn : MethodName := ⟨RX1, "goOn", "(I)I"⟩
abbrev cX1_arriveForth : ByteArray := prog_3_method_23_code
def yX1_arriveForth : MethodName := ⟨RX1, "arriveForth", "(II)I"⟩
abbrev cX1_arriveBack : ByteArray := prog_3_method_24_code
def yX1_arriveBack : MethodName := ⟨RX1, "arriveBack", "(II)I"⟩
abbrev cX1_lowestFrom : ByteArray := prog_3_method_25_code
def yX1_lowestFrom : MethodName := ⟨RX1, "lowestFrom", "(II)I"⟩
abbrev cX1_highestBelow : ByteArray := prog_3_method_26_code
def yX1_highestBelow : MethodName := ⟨RX1, "highestBelow", "(II)I"⟩
abbrev cX1_bookedAt : ByteArray := prog_3_method_27_code
def yX1_bookedAt : MethodName := ⟨RX1, "bookedAt", "(I)I"⟩
abbrev cX1_overbooked : ByteArray := prog_3_method_28_code
def yX1_overbooked : MethodName := ⟨RX1, "overbooked", "()I"⟩
abbrev cX1_underWay : ByteArray := prog_3_method_29_code
def yX1_underWay : MethodName := ⟨RX1, "underWay", "()I"⟩
abbrev cX1_allToLose : ByteArray := prog_3_method_30_code
def yX1_allToLose : MethodName := ⟨RX1, "allToLose", "()I"⟩
def RX2 : String := "FairRates$Water"
def TX2 : u_T := fun k => match k with
  | 0 => ("FairRates$Water", "plan", "LFairRates$Plan;", true)
  | 1 => ("FairRates$Water", "level", "[I", true)
  | 2 => ("FairRates$Water", "witness", "[I", true)
  | 3 => ("FairRates$Water", "stepOf", "[I", true)
  | 4 => ("FairRates$Water", "stepLevel", "[I", true)
  | 5 => ("FairRates$Water", "stepFlows", "[I", true)
  | 6 => ("FairRates$Water", "stepLinks", "[I", true)
  | 7 => ("FairRates$Water", "tide", "[I", true)
  | 8 => ("FairRates$Water", "steps", "I", false)
  | _ => ("FairRates$Water", "seenEdits", "I", false)
def tyX2 : Nat → FieldType := fun k => match k with
  | 0 => .object "FairRates$Plan"
  | 1 => .array .int
  | 2 => .array .int
  | 3 => .array .int
  | 4 => .array .int
  | 5 => .array .int
  | 6 => .array .int
  | 7 => .array .int
  | 8 => .int
  | _ => .int
abbrev wsX20 : List Cond := u_ws RX2 TX2 10
theorem nmX2 : ∀ a, a < 10 → ∀ b, b < 10 → a ≠ b → (TX2 a).2.1 ≠ (TX2 b).2.1 := by decide +kernel
theorem tyX2_ok : ∀ k, k < 10 → parseFieldDescriptor (TX2 k).2.2.1 = some (tyX2 k) := by decide +kernel
abbrev cX2_init : ByteArray := prog_4_method_1_code
def yX2_init : MethodName := ⟨RX2, "<init>", "(LFairRates$Plan;)V"⟩
abbrev cX2_rise : ByteArray := prog_4_method_2_code
def yX2_rise : MethodName := ⟨RX2, "rise", "()V"⟩
abbrev cX2_nextSurface : ByteArray := prog_4_method_3_code
def yX2_nextSurface : MethodName := ⟨RX2, "nextSurface", "(I)I"⟩
abbrev cX2_linksAt : ByteArray := prog_4_method_4_code
def yX2_linksAt : MethodName := ⟨RX2, "linksAt", "(I)I"⟩
abbrev cX2_fixedBy : ByteArray := prog_4_method_5_code
def yX2_fixedBy : MethodName := ⟨RX2, "fixedBy", "(III)I"⟩
abbrev cX2_fix : ByteArray := prog_4_method_6_code
def yX2_fix : MethodName := ⟨RX2, "fix", "(II)V"⟩
abbrev cX2_rateOf : ByteArray := prog_4_method_7_code
def yX2_rateOf : MethodName := ⟨RX2, "rateOf", "(I)I"⟩
abbrev cX2_ratesOf : ByteArray := prog_4_method_8_code
def yX2_ratesOf : MethodName := ⟨RX2, "ratesOf", "(I)I"⟩
abbrev cX2_leftOf : ByteArray := prog_4_method_9_code
def yX2_leftOf : MethodName := ⟨RX2, "leftOf", "(I)I"⟩
abbrev cX2_witnessedBy : ByteArray := prog_4_method_10_code
def yX2_witnessedBy : MethodName := ⟨RX2, "witnessedBy", "(I)I"⟩
abbrev cX2_leastLevel : ByteArray := prog_4_method_11_code
def yX2_leastLevel : MethodName := ⟨RX2, "leastLevel", "()I"⟩
abbrev cX2_greatestLevel : ByteArray := prog_4_method_12_code
def yX2_greatestLevel : MethodName := ⟨RX2, "greatestLevel", "()I"⟩
abbrev cX2_below : ByteArray := prog_4_method_13_code
def yX2_below : MethodName := ⟨RX2, "below", "(II)I"⟩
abbrev cX2_rankOf : ByteArray := prog_4_method_14_code
def yX2_rankOf : MethodName := ⟨RX2, "rankOf", "(I)I"⟩
abbrev cX2_fullnessOf : ByteArray := prog_4_method_15_code
def yX2_fullnessOf : MethodName := ⟨RX2, "fullnessOf", "(I)I"⟩
def RX3 : String := "FairRates"
def TX3 : u_T := fun k => match k with
  | 0 => ("FairRates", "post", "LFairRates$Post;", true)
  | 1 => ("FairRates", "plan", "LFairRates$Plan;", true)
  | 2 => ("FairRates", "now", "LFairRates$Water;", true)
  | 3 => ("FairRates", "paper", "LFairRates$Post;", true)
  | 4 => ("FairRates", "then", "LFairRates$Water;", true)
  | 5 => ("FairRates", "firstKept", "LFairRates$Post;", true)
  | 6 => ("FairRates", "secondKept", "LFairRates$Post;", true)
  | 7 => ("FairRates", "isFirstKept", "Z", false)
  | 8 => ("FairRates", "isSecondKept", "Z", false)
  | 9 => ("FairRates", "refused", "[I", true)
  | _ => ("FairRates", "passLevels", "[I", true)
def tyX3 : Nat → FieldType := fun k => match k with
  | 0 => .object "FairRates$Post"
  | 1 => .object "FairRates$Plan"
  | 2 => .object "FairRates$Water"
  | 3 => .object "FairRates$Post"
  | 4 => .object "FairRates$Water"
  | 5 => .object "FairRates$Post"
  | 6 => .object "FairRates$Post"
  | 7 => .boolean
  | 8 => .boolean
  | 9 => .array .int
  | _ => .array .int
abbrev wsX30 : List Cond := u_ws RX3 TX3 11
theorem nmX3 : ∀ a, a < 11 → ∀ b, b < 11 → a ≠ b → (TX3 a).2.1 ≠ (TX3 b).2.1 := by decide +kernel
theorem tyX3_ok : ∀ k, k < 11 → parseFieldDescriptor (TX3 k).2.2.1 = some (tyX3 k) := by decide +kernel
abbrev cX3_init : ByteArray := prog_1_method_1_code
def yX3_init : MethodName := ⟨RX3, "<init>", "()V"⟩
abbrev cX3_link : ByteArray := prog_1_method_2_code
def yX3_link : MethodName := ⟨RX3, "link", "(II)I"⟩
abbrev cX3_come : ByteArray := prog_1_method_3_code
def yX3_come : MethodName := ⟨RX3, "come", "(IIIII)I"⟩
abbrev cX3_go : ByteArray := prog_1_method_4_code
def yX3_go : MethodName := ⟨RX3, "go", "(I)I"⟩
abbrev cX3_change : ByteArray := prog_1_method_5_code
def yX3_change : MethodName := ⟨RX3, "change", "(III)I"⟩
abbrev cX3_hold : ByteArray := prog_1_method_6_code
def yX3_hold : MethodName := ⟨RX3, "hold", "(IZ)I"⟩
abbrev cX3_route : ByteArray := prog_1_method_7_code
def yX3_route : MethodName := ⟨RX3, "route", "(II)I"⟩
abbrev cX3_lose : ByteArray := prog_1_method_8_code
def yX3_lose : MethodName := ⟨RX3, "lose", "(II)I"⟩
abbrev cX3_hop : ByteArray := prog_1_method_9_code
def yX3_hop : MethodName := ⟨RX3, "hop", "(I)I"⟩
abbrev cX3_letter : ByteArray := prog_1_method_10_code
def yX3_letter : MethodName := ⟨RX3, "letter", "(I)I"⟩
abbrev cX3_rounds : ByteArray := prog_1_method_11_code
def yX3_rounds : MethodName := ⟨RX3, "rounds", "(I)I"⟩
abbrev cX3_forget : ByteArray := prog_1_method_12_code
def yX3_forget : MethodName := ⟨RX3, "forget", "()I"⟩
abbrev cX3_keep : ByteArray := prog_1_method_13_code
def yX3_keep : MethodName := ⟨RX3, "keep", "(I)Z"⟩
abbrev cX3_again : ByteArray := prog_1_method_14_code
def yX3_again : MethodName := ⟨RX3, "again", "(I)Z"⟩
abbrev cX3_links : ByteArray := prog_1_method_15_code
def yX3_links : MethodName := ⟨RX3, "links", "(II)I"⟩
abbrev cX3_flow : ByteArray := prog_1_method_16_code
def yX3_flow : MethodName := ⟨RX3, "flow", "(II)I"⟩
abbrev cX3_named : ByteArray := prog_1_method_17_code
def yX3_named : MethodName := ⟨RX3, "named", "(I)I"⟩
abbrev cX3_fair : ByteArray := prog_1_method_18_code
def yX3_fair : MethodName := ⟨RX3, "fair", "(II)I"⟩
abbrev cX3_used : ByteArray := prog_1_method_19_code
def yX3_used : MethodName := ⟨RX3, "used", "(II)I"⟩
abbrev cX3_water : ByteArray := prog_1_method_20_code
def yX3_water : MethodName := ⟨RX3, "water", "(I)I"⟩
abbrev cX3_step : ByteArray := prog_1_method_21_code
def yX3_step : MethodName := ⟨RX3, "step", "(II)I"⟩
abbrev cX3_ranked : ByteArray := prog_1_method_22_code
def yX3_ranked : MethodName := ⟨RX3, "ranked", "(I)I"⟩
abbrev cX3_proof : ByteArray := prog_1_method_23_code
def yX3_proof : MethodName := ⟨RX3, "proof", "(II)I"⟩
abbrev cX3_fullest : ByteArray := prog_1_method_24_code
def yX3_fullest : MethodName := ⟨RX3, "fullest", "(I)I"⟩
abbrev cX3_even : ByteArray := prog_1_method_25_code
def yX3_even : MethodName := ⟨RX3, "even", "(I)J"⟩
abbrev cX3_advertised : ByteArray := prog_1_method_26_code
def yX3_advertised : MethodName := ⟨RX3, "advertised", "(I)I"⟩
abbrev cX3_pass : ByteArray := prog_1_method_27_code
def yX3_pass : MethodName := ⟨RX3, "pass", "(II)I"⟩
abbrev cX3_known : ByteArray := prog_1_method_28_code
def yX3_known : MethodName := ⟨RX3, "known", "(III)I"⟩
abbrev cX3_booked : ByteArray := prog_1_method_29_code
def yX3_booked : MethodName := ⟨RX3, "booked", "(I)I"⟩
abbrev cX3_over : ByteArray := prog_1_method_30_code
def yX3_over : MethodName := ⟨RX3, "over", "()I"⟩
abbrev cX3_settling : ByteArray := prog_1_method_31_code
def yX3_settling : MethodName := ⟨RX3, "settling", "(I)I"⟩
abbrev cX3_swings : ByteArray := prog_1_method_32_code
def yX3_swings : MethodName := ⟨RX3, "swings", "(III)I"⟩
abbrev cX3_peak : ByteArray := prog_1_method_33_code
def yX3_peak : MethodName := ⟨RX3, "peak", "(II)I"⟩
abbrev cX3_off : ByteArray := prog_1_method_34_code
def yX3_off : MethodName := ⟨RX3, "off", "()J"⟩
abbrev cX3_would : ByteArray := prog_1_method_35_code
def yX3_would : MethodName := ⟨RX3, "would", "(IIII)I"⟩
abbrev cX3_better : ByteArray := prog_1_method_36_code
def yX3_better : MethodName := ⟨RX3, "better", "(II)I"⟩
abbrev cX3_spares : ByteArray := prog_1_method_37_code
def yX3_spares : MethodName := ⟨RX3, "spares", "(II)I"⟩
abbrev cX3_weightFor : ByteArray := prog_1_method_38_code
def yX3_weightFor : MethodName := ⟨RX3, "weightFor", "(II)I"⟩
abbrev cX3_roomFor : ByteArray := prog_1_method_39_code
def yX3_roomFor : MethodName := ⟨RX3, "roomFor", "(I)I"⟩
abbrev cX3_touched : ByteArray := prog_1_method_40_code
def yX3_touched : MethodName := ⟨RX3, "touched", "(I)I"⟩
abbrev cX3_without : ByteArray := prog_1_method_41_code
def yX3_without : MethodName := ⟨RX3, "without", "(II)I"⟩
abbrev cX3_wider : ByteArray := prog_1_method_42_code
def yX3_wider : MethodName := ⟨RX3, "wider", "(III)I"⟩
abbrev cX3_tight : ByteArray := prog_1_method_43_code
def yX3_tight : MethodName := ⟨RX3, "tight", "()I"⟩
abbrev cX3_enough : ByteArray := prog_1_method_44_code
def yX3_enough : MethodName := ⟨RX3, "enough", "(I)I"⟩
abbrev cX3_storm : ByteArray := prog_1_method_45_code
def yX3_storm : MethodName := ⟨RX3, "storm", "(III)I"⟩
abbrev cX3_count : ByteArray := prog_1_method_46_code
def yX3_count : MethodName := ⟨RX3, "count", "(I)I"⟩
abbrev cX3_isLink : ByteArray := prog_1_method_47_code
def yX3_isLink : MethodName := ⟨RX3, "isLink", "(I)Z"⟩
abbrev cX3_isAmount : ByteArray := prog_1_method_48_code
def yX3_isAmount : MethodName := ⟨RX3, "isAmount", "(I)Z"⟩
abbrev cX3_isPath : ByteArray := prog_1_method_49_code
def yX3_isPath : MethodName := ⟨RX3, "isPath", "(I)Z"⟩
abbrev cX3_isWeight : ByteArray := prog_1_method_50_code
def yX3_isWeight : MethodName := ⟨RX3, "isWeight", "(I)Z"⟩
abbrev cX3_isPaperRounds : ByteArray := prog_1_method_51_code
def yX3_isPaperRounds : MethodName := ⟨RX3, "isPaperRounds", "(I)Z"⟩
abbrev cX3_canBe : ByteArray := prog_1_method_52_code
def yX3_canBe : MethodName := ⟨RX3, "canBe", "(II)Z"⟩
abbrev cX3_refuse : ByteArray := prog_1_method_53_code
def yX3_refuse : MethodName := ⟨RX3, "refuse", "(I)I"⟩
abbrev cX3_whyNoSuchFlow : ByteArray := prog_1_method_54_code
def yX3_whyNoSuchFlow : MethodName := ⟨RX3, "whyNoSuchFlow", "(LFairRates$Plan;IIII)I"⟩
abbrev cX3_whyNotCome : ByteArray := prog_1_method_55_code
def yX3_whyNotCome : MethodName := ⟨RX3, "whyNotCome", "(LFairRates$Plan;IIIII)I"⟩
abbrev cX3_whyNotRoute : ByteArray := prog_1_method_56_code
def yX3_whyNotRoute : MethodName := ⟨RX3, "whyNotRoute", "(II)I"⟩
abbrev cX3_newSheet : ByteArray := prog_1_method_57_code
def yX3_newSheet : MethodName := ⟨RX3, "newSheet", "()LFairRates$Plan;"⟩
abbrev cX3_widen : ByteArray := prog_1_method_58_code
def yX3_widen : MethodName := ⟨RX3, "widen", "(II)V"⟩
abbrev cX3_otherLevels : ByteArray := prog_1_method_59_code
def yX3_otherLevels : MethodName := ⟨RX3, "otherLevels", "()I"⟩
abbrev cX3_farFromFair : ByteArray := prog_1_method_60_code
def yX3_farFromFair : MethodName := ⟨RX3, "farFromFair", "(LFairRates$Post;)J"⟩
abbrev cX3_draw : ByteArray := prog_1_method_61_code
def yX3_draw : MethodName := ⟨RX3, "draw", "(I)I"⟩
abbrev cX3_blow : ByteArray := prog_1_method_62_code
def yX3_blow : MethodName := ⟨RX3, "blow", "(I)I"⟩
abbrev cX3_someoneComes : ByteArray := prog_1_method_63_code
def yX3_someoneComes : MethodName := ⟨RX3, "someoneComes", "(I)I"⟩
abbrev cX3_someoneGoes : ByteArray := prog_1_method_64_code
def yX3_someoneGoes : MethodName := ⟨RX3, "someoneGoes", "(I)I"⟩
abbrev cX3_commonDivisor : ByteArray := prog_1_method_65_code
def yX3_commonDivisor : MethodName := ⟨RX3, "commonDivisor", "(JJ)J"⟩
def RX4 : String := "FairRatesModel"
def TX4 : u_T := fun k => match k with
  | 0 => ("FairRatesModel", "thrown", "I", false)
  | 1 => ("FairRatesModel", "refusals", "[I", true)
  | 2 => ("FairRatesModel", "row", "[I", true)
  | 3 => ("FairRatesModel", "kept", "[I", true)
  | 4 => ("FairRatesModel", "isKept", "[Z", true)
  | 5 => ("FairRatesModel", "aside", "[I", true)
  | 6 => ("FairRatesModel", "knew", "[I", true)
  | 7 => ("FairRatesModel", "level", "[I", true)
  | 8 => ("FairRatesModel", "witness", "[I", true)
  | 9 => ("FairRatesModel", "stepOf", "[I", true)
  | 10 => ("FairRatesModel", "stepLevel", "[I", true)
  | 11 => ("FairRatesModel", "stepFlows", "[I", true)
  | 12 => ("FairRatesModel", "stepLinks", "[I", true)
  | 13 => ("FairRatesModel", "steps", "I", false)
  | 14 => ("FairRatesModel", "tide", "[I", true)
  | 15 => ("FairRatesModel", "marks", "I", false)
  | 16 => ("FairRatesModel", "levels", "[I", true)
  | _ => ("FairRatesModel", "seeded", "J", false)
def tyX4 : Nat → FieldType := fun k => match k with
  | 0 => .int
  | 1 => .array .int
  | 2 => .array .int
  | 3 => .array .int
  | 4 => .array .boolean
  | 5 => .array .int
  | 6 => .array .int
  | 7 => .array .int
  | 8 => .array .int
  | 9 => .array .int
  | 10 => .array .int
  | 11 => .array .int
  | 12 => .array .int
  | 13 => .int
  | 14 => .array .int
  | 15 => .int
  | 16 => .array .int
  | _ => .long
abbrev wsX40 : List Cond := u_ws RX4 TX4 18
theorem nmX4 : ∀ a, a < 18 → ∀ b, b < 18 → a ≠ b → (TX4 a).2.1 ≠ (TX4 b).2.1 := by decide +kernel
theorem tyX4_ok : ∀ k, k < 18 → parseFieldDescriptor (TX4 k).2.2.1 = some (tyX4 k) := by decide +kernel
abbrev cX4_init : ByteArray := prog_6_method_1_code
def yX4_init : MethodName := ⟨RX4, "<init>", "()V"⟩
abbrev cX4_thrown : ByteArray := prog_6_method_2_code
def yX4_thrown : MethodName := ⟨RX4, "thrown", "()I"⟩
abbrev cX4_in : ByteArray := prog_6_method_3_code
def yX4_in : MethodName := ⟨RX4, "in", "(JJJ)Z"⟩
abbrev cX4_lesser : ByteArray := prog_6_method_4_code
def yX4_lesser : MethodName := ⟨RX4, "lesser", "(II)I"⟩
abbrev cX4_ones : ByteArray := prog_6_method_5_code
def yX4_ones : MethodName := ⟨RX4, "ones", "(I)I"⟩
abbrev cX4_refuse : ByteArray := prog_6_method_6_code
def yX4_refuse : MethodName := ⟨RX4, "refuse", "(I)I"⟩
abbrev cX4_copy : ByteArray := prog_6_method_7_code
def yX4_copy : MethodName := ⟨RX4, "copy", "([II[II)V"⟩
abbrev cX4_think : ByteArray := prog_6_method_8_code
def yX4_think : MethodName := ⟨RX4, "think", "()V"⟩
abbrev cX4_endThought : ByteArray := prog_6_method_9_code
def yX4_endThought : MethodName := ⟨RX4, "endThought", "()V"⟩
abbrev cX4_keep : ByteArray := prog_6_method_10_code
def yX4_keep : MethodName := ⟨RX4, "keep", "(I)Z"⟩
abbrev cX4_again : ByteArray := prog_6_method_11_code
def yX4_again : MethodName := ⟨RX4, "again", "(I)Z"⟩
abbrev cX4_at : ByteArray := prog_6_method_12_code
def yX4_at : MethodName := ⟨RX4, "at", "(I)I"⟩
abbrev cX4_isLink : ByteArray := prog_6_method_13_code
def yX4_isLink : MethodName := ⟨RX4, "isLink", "(I)Z"⟩
abbrev cX4_isFlow : ByteArray := prog_6_method_14_code
def yX4_isFlow : MethodName := ⟨RX4, "isFlow", "(I)Z"⟩
abbrev cX4_goesOver : ByteArray := prog_6_method_15_code
def yX4_goesOver : MethodName := ⟨RX4, "goesOver", "(II)Z"⟩
abbrev cX4_flowMany : ByteArray := prog_6_method_16_code
def yX4_flowMany : MethodName := ⟨RX4, "flowMany", "()I"⟩
abbrev cX4_rate : ByteArray := prog_6_method_17_code
def yX4_rate : MethodName := ⟨RX4, "rate", "(II)I"⟩
abbrev cX4_own : ByteArray := prog_6_method_18_code
def yX4_own : MethodName := ⟨RX4, "own", "(I)I"⟩
abbrev cX4_bound : ByteArray := prog_6_method_19_code
def yX4_bound : MethodName := ⟨RX4, "bound", "(I)I"⟩
abbrev cX4_isBound : ByteArray := prog_6_method_20_code
def yX4_isBound : MethodName := ⟨RX4, "isBound", "()Z"⟩
abbrev cX4_link : ByteArray := prog_6_method_21_code
def yX4_link : MethodName := ⟨RX4, "link", "(II)I"⟩
abbrev cX4_areLinks : ByteArray := prog_6_method_22_code
def yX4_areLinks : MethodName := ⟨RX4, "areLinks", "(I)Z"⟩
abbrev cX4_namedBy : ByteArray := prog_6_method_23_code
def yX4_namedBy : MethodName := ⟨RX4, "namedBy", "(I)I"⟩
abbrev cX4_freeNumber : ByteArray := prog_6_method_24_code
def yX4_freeNumber : MethodName := ⟨RX4, "freeNumber", "()I"⟩
abbrev cX4_knowsNothing : ByteArray := prog_6_method_25_code
def yX4_knowsNothing : MethodName := ⟨RX4, "knowsNothing", "(II)V"⟩
abbrev cX4_lay : ByteArray := prog_6_method_26_code
def yX4_lay : MethodName := ⟨RX4, "lay", "(IIIIII)V"⟩
abbrev cX4_whyNot : ByteArray := prog_6_method_27_code
def yX4_whyNot : MethodName := ⟨RX4, "whyNot", "(IIII)I"⟩
abbrev cX4_roomOf : ByteArray := prog_6_method_28_code
def yX4_roomOf : MethodName := ⟨RX4, "roomOf", "(I)I"⟩
abbrev cX4_come : ByteArray := prog_6_method_29_code
def yX4_come : MethodName := ⟨RX4, "come", "(IIIII)I"⟩
abbrev cX4_go : ByteArray := prog_6_method_30_code
def yX4_go : MethodName := ⟨RX4, "go", "(I)I"⟩
abbrev cX4_change : ByteArray := prog_6_method_31_code
def yX4_change : MethodName := ⟨RX4, "change", "(III)I"⟩
abbrev cX4_heldMany : ByteArray := prog_6_method_32_code
def yX4_heldMany : MethodName := ⟨RX4, "heldMany", "()I"⟩
abbrev cX4_hold : ByteArray := prog_6_method_33_code
def yX4_hold : MethodName := ⟨RX4, "hold", "(IZ)I"⟩
abbrev cX4_reroute : ByteArray := prog_6_method_34_code
def yX4_reroute : MethodName := ⟨RX4, "reroute", "(II)I"⟩
abbrev cX4_route : ByteArray := prog_6_method_35_code
def yX4_route : MethodName := ⟨RX4, "route", "(II)I"⟩
abbrev cX4_lose : ByteArray := prog_6_method_36_code
def yX4_lose : MethodName := ⟨RX4, "lose", "(II)I"⟩
abbrev cX4_elsewhere : ByteArray := prog_6_method_37_code
def yX4_elsewhere : MethodName := ⟨RX4, "elsewhere", "(II)I"⟩
abbrev cX4_ratesBy : ByteArray := prog_6_method_38_code
def yX4_ratesBy : MethodName := ⟨RX4, "ratesBy", "(II)J"⟩
abbrev cX4_advertises : ByteArray := prog_6_method_39_code
def yX4_advertises : MethodName := ⟨RX4, "advertises", "(I)I"⟩
abbrev cX4_forth : ByteArray := prog_6_method_40_code
def yX4_forth : MethodName := ⟨RX4, "forth", "(III)I"⟩
abbrev cX4_backTo : ByteArray := prog_6_method_41_code
def yX4_backTo : MethodName := ⟨RX4, "backTo", "(III)I"⟩
abbrev cX4_sends : ByteArray := prog_6_method_42_code
def yX4_sends : MethodName := ⟨RX4, "sends", "(I)V"⟩
abbrev cX4_letter : ByteArray := prog_6_method_43_code
def yX4_letter : MethodName := ⟨RX4, "letter", "(I)I"⟩
abbrev cX4_nextLink : ByteArray := prog_6_method_44_code
def yX4_nextLink : MethodName := ⟨RX4, "nextLink", "(III)I"⟩
abbrev cX4_hop : ByteArray := prog_6_method_45_code
def yX4_hop : MethodName := ⟨RX4, "hop", "(I)I"⟩
abbrev cX4_round : ByteArray := prog_6_method_46_code
def yX4_round : MethodName := ⟨RX4, "round", "()Z"⟩
abbrev cX4_rounds : ByteArray := prog_6_method_47_code
def yX4_rounds : MethodName := ⟨RX4, "rounds", "(I)I"⟩
abbrev cX4_forget : ByteArray := prog_6_method_48_code
def yX4_forget : MethodName := ⟨RX4, "forget", "()I"⟩
abbrev cX4_fairRate : ByteArray := prog_6_method_49_code
def yX4_fairRate : MethodName := ⟨RX4, "fairRate", "(I)I"⟩
abbrev cX4_waterBy : ByteArray := prog_6_method_50_code
def yX4_waterBy : MethodName := ⟨RX4, "waterBy", "(II)J"⟩
abbrev cX4_tideOf : ByteArray := prog_6_method_51_code
def yX4_tideOf : MethodName := ⟨RX4, "tideOf", "(I)I"⟩
abbrev cX4_isOpen : ByteArray := prog_6_method_52_code
def yX4_isOpen : MethodName := ⟨RX4, "isOpen", "(I)Z"⟩
abbrev cX4_layFair : ByteArray := prog_6_method_53_code
def yX4_layFair : MethodName := ⟨RX4, "layFair", "()V"⟩
abbrev cX4_fix : ByteArray := prog_6_method_54_code
def yX4_fix : MethodName := ⟨RX4, "fix", "(I)I"⟩
abbrev cX4_allRates : ByteArray := prog_6_method_55_code
def yX4_allRates : MethodName := ⟨RX4, "allRates", "()I"⟩
abbrev cX4_usedOf : ByteArray := prog_6_method_56_code
def yX4_usedOf : MethodName := ⟨RX4, "usedOf", "(I)I"⟩
abbrev cX4_leastLevel : ByteArray := prog_6_method_57_code
def yX4_leastLevel : MethodName := ⟨RX4, "leastLevel", "()I"⟩
abbrev cX4_links : ByteArray := prog_6_method_58_code
def yX4_links : MethodName := ⟨RX4, "links", "(II)I"⟩
abbrev cX4_isThere : ByteArray := prog_6_method_59_code
def yX4_isThere : MethodName := ⟨RX4, "isThere", "(I)Z"⟩
abbrev cX4_flow : ByteArray := prog_6_method_60_code
def yX4_flow : MethodName := ⟨RX4, "flow", "(II)I"⟩
abbrev cX4_named : ByteArray := prog_6_method_61_code
def yX4_named : MethodName := ⟨RX4, "named", "(I)I"⟩
abbrev cX4_fair : ByteArray := prog_6_method_62_code
def yX4_fair : MethodName := ⟨RX4, "fair", "(II)I"⟩
abbrev cX4_used : ByteArray := prog_6_method_63_code
def yX4_used : MethodName := ⟨RX4, "used", "(II)I"⟩
abbrev cX4_water : ByteArray := prog_6_method_64_code
def yX4_water : MethodName := ⟨RX4, "water", "(I)I"⟩
abbrev cX4_step : ByteArray := prog_6_method_65_code
def yX4_step : MethodName := ⟨RX4, "step", "(II)I"⟩
abbrev cX4_ranked : ByteArray := prog_6_method_66_code
def yX4_ranked : MethodName := ⟨RX4, "ranked", "(I)I"⟩
abbrev cX4_proof : ByteArray := prog_6_method_67_code
def yX4_proof : MethodName := ⟨RX4, "proof", "(II)I"⟩
abbrev cX4_hasFlows : ByteArray := prog_6_method_68_code
def yX4_hasFlows : MethodName := ⟨RX4, "hasFlows", "(I)Z"⟩
abbrev cX4_leftOf : ByteArray := prog_6_method_69_code
def yX4_leftOf : MethodName := ⟨RX4, "leftOf", "(I)I"⟩
abbrev cX4_fullest : ByteArray := prog_6_method_70_code
def yX4_fullest : MethodName := ⟨RX4, "fullest", "(I)I"⟩
abbrev cX4_common : ByteArray := prog_6_method_71_code
def yX4_common : MethodName := ⟨RX4, "common", "(JJ)J"⟩
abbrev cX4_even : ByteArray := prog_6_method_72_code
def yX4_even : MethodName := ⟨RX4, "even", "(I)J"⟩
abbrev cX4_advertised : ByteArray := prog_6_method_73_code
def yX4_advertised : MethodName := ⟨RX4, "advertised", "(I)I"⟩
abbrev cX4_passLevel : ByteArray := prog_6_method_74_code
def yX4_passLevel : MethodName := ⟨RX4, "passLevel", "(I)I"⟩
abbrev cX4_pass : ByteArray := prog_6_method_75_code
def yX4_pass : MethodName := ⟨RX4, "pass", "(II)I"⟩
abbrev cX4_known : ByteArray := prog_6_method_76_code
def yX4_known : MethodName := ⟨RX4, "known", "(III)I"⟩
abbrev cX4_bookedOf : ByteArray := prog_6_method_77_code
def yX4_bookedOf : MethodName := ⟨RX4, "bookedOf", "(I)I"⟩
abbrev cX4_booked : ByteArray := prog_6_method_78_code
def yX4_booked : MethodName := ⟨RX4, "booked", "(I)I"⟩
abbrev cX4_overbooked : ByteArray := prog_6_method_79_code
def yX4_overbooked : MethodName := ⟨RX4, "overbooked", "()I"⟩
abbrev cX4_over : ByteArray := prog_6_method_80_code
def yX4_over : MethodName := ⟨RX4, "over", "()I"⟩
abbrev cX4_settling : ByteArray := prog_6_method_81_code
def yX4_settling : MethodName := ⟨RX4, "settling", "(I)I"⟩
abbrev cX4_swings : ByteArray := prog_6_method_82_code
def yX4_swings : MethodName := ⟨RX4, "swings", "(III)I"⟩
abbrev cX4_peak : ByteArray := prog_6_method_83_code
def yX4_peak : MethodName := ⟨RX4, "peak", "(II)I"⟩
abbrev cX4_off : ByteArray := prog_6_method_84_code
def yX4_off : MethodName := ⟨RX4, "off", "()J"⟩
abbrev cX4_would : ByteArray := prog_6_method_85_code
def yX4_would : MethodName := ⟨RX4, "would", "(IIII)I"⟩
abbrev cX4_better : ByteArray := prog_6_method_86_code
def yX4_better : MethodName := ⟨RX4, "better", "(II)I"⟩
abbrev cX4_spares : ByteArray := prog_6_method_87_code
def yX4_spares : MethodName := ⟨RX4, "spares", "(II)I"⟩
abbrev cX4_weightFor : ByteArray := prog_6_method_88_code
def yX4_weightFor : MethodName := ⟨RX4, "weightFor", "(II)I"⟩
abbrev cX4_roomFor : ByteArray := prog_6_method_89_code
def yX4_roomFor : MethodName := ⟨RX4, "roomFor", "(I)I"⟩
abbrev cX4_takeLevels : ByteArray := prog_6_method_90_code
def yX4_takeLevels : MethodName := ⟨RX4, "takeLevels", "()V"⟩
abbrev cX4_othersBy : ByteArray := prog_6_method_91_code
def yX4_othersBy : MethodName := ⟨RX4, "othersBy", "(II)I"⟩
abbrev cX4_touched : ByteArray := prog_6_method_92_code
def yX4_touched : MethodName := ⟨RX4, "touched", "(I)I"⟩
abbrev cX4_without : ByteArray := prog_6_method_93_code
def yX4_without : MethodName := ⟨RX4, "without", "(II)I"⟩
abbrev cX4_wider : ByteArray := prog_6_method_94_code
def yX4_wider : MethodName := ⟨RX4, "wider", "(III)I"⟩
abbrev cX4_tight : ByteArray := prog_6_method_95_code
def yX4_tight : MethodName := ⟨RX4, "tight", "()I"⟩
abbrev cX4_enough : ByteArray := prog_6_method_96_code
def yX4_enough : MethodName := ⟨RX4, "enough", "(I)I"⟩
abbrev cX4_draw : ByteArray := prog_6_method_97_code
def yX4_draw : MethodName := ⟨RX4, "draw", "()I"⟩
abbrev cX4_comesByChance : ByteArray := prog_6_method_98_code
def yX4_comesByChance : MethodName := ⟨RX4, "comesByChance", "()V"⟩
abbrev cX4_goesByChance : ByteArray := prog_6_method_99_code
def yX4_goesByChance : MethodName := ⟨RX4, "goesByChance", "()V"⟩
abbrev cX4_storm : ByteArray := prog_6_method_100_code
def yX4_storm : MethodName := ⟨RX4, "storm", "(III)I"⟩
abbrev cX4_linksWithFlows : ByteArray := prog_6_method_101_code
def yX4_linksWithFlows : MethodName := ⟨RX4, "linksWithFlows", "()I"⟩
abbrev cX4_marksAll : ByteArray := prog_6_method_102_code
def yX4_marksAll : MethodName := ⟨RX4, "marksAll", "()I"⟩
abbrev cX4_underWay : ByteArray := prog_6_method_103_code
def yX4_underWay : MethodName := ⟨RX4, "underWay", "()I"⟩
abbrev cX4_toBeLost : ByteArray := prog_6_method_104_code
def yX4_toBeLost : MethodName := ⟨RX4, "toBeLost", "()I"⟩
abbrev cX4_count : ByteArray := prog_6_method_105_code
def yX4_count : MethodName := ⟨RX4, "count", "(I)I"⟩
def RJx145de : String := "java/io/Serializable"
def TJx145de : u_T := fun k => match k with
  | _ => ("", "", "", false)
def tyJx145de : Nat → FieldType := fun k => match k with
  | _ => .int
def RJ6 : String := "java/lang/Integer"
def TJ6 : u_T := fun k => match k with
  | _ => ("", "", "", false)
def tyJ6 : Nat → FieldType := fun k => match k with
  | _ => .int
abbrev cJ6_numberOfTrailingZeros_0f7a4 : ByteArray := prog_9_method_48_code
def yJ6_numberOfTrailingZeros_0f7a4 : MethodName := ⟨RJ6, "numberOfTrailingZeros", "(I)I"⟩
abbrev cJ6_bitCount_0f7a4 : ByteArray := prog_9_method_49_code
def yJ6_bitCount_0f7a4 : MethodName := ⟨RJ6, "bitCount", "(I)I"⟩
def RJ9 : String := "java/lang/Math"
def TJ9 : u_T := fun k => match k with
  | _ => ("", "", "", false)
def tyJ9 : Nat → FieldType := fun k => match k with
  | _ => .int
abbrev cJ9_abs_0f7a4 : ByteArray := prog_10_method_59_code
def yJ9_abs_0f7a4 : MethodName := ⟨RJ9, "abs", "(I)I"⟩
abbrev cJ9_max_7cf53 : ByteArray := prog_10_method_65_code
def yJ9_max_7cf53 : MethodName := ⟨RJ9, "max", "(II)I"⟩
abbrev cJ9_min_7cf53 : ByteArray := prog_10_method_69_code
def yJ9_min_7cf53 : MethodName := ⟨RJ9, "min", "(II)I"⟩
def RJ0 : String := "java/lang/String"
def TJ0 : u_T := fun k => match k with
  | _ => ("", "", "", false)
def tyJ0 : Nat → FieldType := fun k => match k with
  | _ => .int
def RJ10 : String := "java/lang/System"
def TJ10 : u_T := fun k => match k with
  | _ => ("", "", "", false)
def tyJ10 : Nat → FieldType := fun k => match k with
  | _ => .int
def RJ7 : String := "java/util/Arrays"
def TJ7 : u_T := fun k => match k with
  | _ => ("", "", "", false)
def tyJ7 : Nat → FieldType := fun k => match k with
  | _ => .int
abbrev cJ7_fill_53178 : ByteArray := prog_15_method_103_code
def yJ7_fill_53178 : MethodName := ⟨RJ7, "fill", "([II)V"⟩
def RL : String := "FairRatesLaw"
abbrev cL_flow : ByteArray := method_3_code
def yL_flow : MethodName := ⟨RL, "flow", "(LFairRates;II[J)I"⟩
abbrev cL_fair : ByteArray := method_4_code
def yL_fair : MethodName := ⟨RL, "fair", "(LFairRates;II[J)I"⟩
abbrev cL_proof : ByteArray := method_5_code
def yL_proof : MethodName := ⟨RL, "proof", "(LFairRates;II[J)I"⟩
abbrev cL_law : ByteArray := code
def yL_law : MethodName := ⟨RL, "law", "([I)Z"⟩
abbrev vwCl : List vw_C := [(RX0, TX0, 9), (RX1, TX1, 16), (RX2, TX2, 10), (RX3, TX3, 11), (RX4, TX4, 18)]
