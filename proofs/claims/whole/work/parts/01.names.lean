-- ===== PART A: goes FIRST, ahead of the names: the tables' words, and 'selects' of the private methods out of them =====
/-- a private method of a class that the tables say can be made, by its rows of tables_1 -/
def lw_okq (q : MethodName × Nat) : Prop := (q.1.cls ≠ "java/lang/invoke/MethodHandle" ∧ q.1.cls ≠ "java/lang/invoke/VarHandle") ∧ Cond.instantiable q.1.cls q.2 ∈ tables_1 ∧ Cond.privateMethod q.1 ∈ tables_1 ∧ Cond.instanceMethod q.1 ∈ tables_1
theorem lw_p0 : lw_okq (⟨"StarchedCollars$Reader", "readsClause", "()Z"⟩, 5) := ⟨⟨by decide +kernel, by decide +kernel⟩, List.mem_of_getElem? (i := 187) (by decide +kernel), List.mem_of_getElem? (i := 286) (by decide +kernel), List.mem_of_getElem? (i := 287) (by decide +kernel)⟩
theorem lw_p1 : lw_okq (⟨"StarchedCollars$Reader", "takes", "(C)Z"⟩, 5) := ⟨⟨by decide +kernel, by decide +kernel⟩, List.mem_of_getElem? (i := 187) (by decide +kernel), List.mem_of_getElem? (i := 290) (by decide +kernel), List.mem_of_getElem? (i := 291) (by decide +kernel)⟩
theorem lw_p2 : lw_okq (⟨"StarchedCollars$Reader", "takesAll", "(Ljava/lang/String;)Z"⟩, 5) := ⟨⟨by decide +kernel, by decide +kernel⟩, List.mem_of_getElem? (i := 187) (by decide +kernel), List.mem_of_getElem? (i := 295) (by decide +kernel), List.mem_of_getElem? (i := 296) (by decide +kernel)⟩
theorem lw_p3 : lw_okq (⟨"StarchedCollars$Reader", "readsNumber", "()Z"⟩, 5) := ⟨⟨by decide +kernel, by decide +kernel⟩, List.mem_of_getElem? (i := 187) (by decide +kernel), List.mem_of_getElem? (i := 347) (by decide +kernel), List.mem_of_getElem? (i := 348) (by decide +kernel)⟩
theorem lw_p4 : lw_okq (⟨"StarchedCollars$Reader", "readsEither", "(I)Z"⟩, 5) := ⟨⟨by decide +kernel, by decide +kernel⟩, List.mem_of_getElem? (i := 187) (by decide +kernel), List.mem_of_getElem? (i := 353) (by decide +kernel), List.mem_of_getElem? (i := 354) (by decide +kernel)⟩
theorem lw_p5 : lw_okq (⟨"StarchedCollars$Reader", "readsBoth", "(I)Z"⟩, 5) := ⟨⟨by decide +kernel, by decide +kernel⟩, List.mem_of_getElem? (i := 187) (by decide +kernel), List.mem_of_getElem? (i := 357) (by decide +kernel), List.mem_of_getElem? (i := 358) (by decide +kernel)⟩
theorem lw_p6 : lw_okq (⟨"StarchedCollars$Reader", "readsOne", "(I)Z"⟩, 5) := ⟨⟨by decide +kernel, by decide +kernel⟩, List.mem_of_getElem? (i := 187) (by decide +kernel), List.mem_of_getElem? (i := 361) (by decide +kernel), List.mem_of_getElem? (i := 362) (by decide +kernel)⟩
theorem lw_p7 : lw_okq (⟨"StarchedCollars$Reader", "readsTest", "()Z"⟩, 5) := ⟨⟨by decide +kernel, by decide +kernel⟩, List.mem_of_getElem? (i := 187) (by decide +kernel), List.mem_of_getElem? (i := 369) (by decide +kernel), List.mem_of_getElem? (i := 370) (by decide +kernel)⟩
theorem lw_p8 : lw_okq (⟨"StarchedCollars$Town", "holds", "(II)Z"⟩, 7) := ⟨⟨by decide +kernel, by decide +kernel⟩, List.mem_of_getElem? (i := 35) (by decide +kernel), List.mem_of_getElem? (i := 471) (by decide +kernel), List.mem_of_getElem? (i := 472) (by decide +kernel)⟩
theorem lw_p9 : lw_okq (⟨"StarchedCollars$Town", "isSo", "(I)Z"⟩, 7) := ⟨⟨by decide +kernel, by decide +kernel⟩, List.mem_of_getElem? (i := 35) (by decide +kernel), List.mem_of_getElem? (i := 476) (by decide +kernel), List.mem_of_getElem? (i := 477) (by decide +kernel)⟩
theorem lw_p10 : lw_okq (⟨"StarchedCollars", "seenFrom", "(LStarchedCollars$Man;I)I"⟩, 7) := ⟨⟨by decide +kernel, by decide +kernel⟩, List.mem_of_getElem? (i := 19) (by decide +kernel), List.mem_of_getElem? (i := 485) (by decide +kernel), List.mem_of_getElem? (i := 486) (by decide +kernel)⟩
theorem lw_p11 : lw_okq (⟨"StarchedCollars", "bench", "(LStarchedCollars$Man;)I"⟩, 7) := ⟨⟨by decide +kernel, by decide +kernel⟩, List.mem_of_getElem? (i := 19) (by decide +kernel), List.mem_of_getElem? (i := 496) (by decide +kernel), List.mem_of_getElem? (i := 497) (by decide +kernel)⟩
theorem lw_p12 : lw_okq (⟨"StarchedCollars", "goneBehind", "(I)I"⟩, 7) := ⟨⟨by decide +kernel, by decide +kernel⟩, List.mem_of_getElem? (i := 19) (by decide +kernel), List.mem_of_getElem? (i := 529) (by decide +kernel), List.mem_of_getElem? (i := 530) (by decide +kernel)⟩
theorem lw_p13 : lw_okq (⟨"StarchedCollars", "goOn", "(LStarchedCollars$Man;I)V"⟩, 7) := ⟨⟨by decide +kernel, by decide +kernel⟩, List.mem_of_getElem? (i := 19) (by decide +kernel), List.mem_of_getElem? (i := 538) (by decide +kernel), List.mem_of_getElem? (i := 539) (by decide +kernel)⟩
theorem lw_p14 : lw_okq (⟨"StarchedCollars", "sharedCreed", "()I"⟩, 7) := ⟨⟨by decide +kernel, by decide +kernel⟩, List.mem_of_getElem? (i := 19) (by decide +kernel), List.mem_of_getElem? (i := 558) (by decide +kernel), List.mem_of_getElem? (i := 559) (by decide +kernel)⟩
theorem lw_p15 : lw_okq (⟨"StarchedCollars$Pairing", "together", "(LStarchedCollars$World;III)I"⟩, 1) := ⟨⟨by decide +kernel, by decide +kernel⟩, List.mem_of_getElem? (i := 228) (by decide +kernel), List.mem_of_getElem? (i := 587) (by decide +kernel), List.mem_of_getElem? (i := 588) (by decide +kernel)⟩
def lw_privs_1 : List (MethodName × Nat) := [(⟨"StarchedCollars$Reader", "readsClause", "()Z"⟩, 5), (⟨"StarchedCollars$Reader", "takes", "(C)Z"⟩, 5), (⟨"StarchedCollars$Reader", "takesAll", "(Ljava/lang/String;)Z"⟩, 5), (⟨"StarchedCollars$Reader", "readsNumber", "()Z"⟩, 5), (⟨"StarchedCollars$Reader", "readsEither", "(I)Z"⟩, 5), (⟨"StarchedCollars$Reader", "readsBoth", "(I)Z"⟩, 5), (⟨"StarchedCollars$Reader", "readsOne", "(I)Z"⟩, 5), (⟨"StarchedCollars$Reader", "readsTest", "()Z"⟩, 5), (⟨"StarchedCollars$Town", "holds", "(II)Z"⟩, 7), (⟨"StarchedCollars$Town", "isSo", "(I)Z"⟩, 7), (⟨"StarchedCollars", "seenFrom", "(LStarchedCollars$Man;I)I"⟩, 7), (⟨"StarchedCollars", "bench", "(LStarchedCollars$Man;)I"⟩, 7), (⟨"StarchedCollars", "goneBehind", "(I)I"⟩, 7), (⟨"StarchedCollars", "goOn", "(LStarchedCollars$Man;I)V"⟩, 7), (⟨"StarchedCollars", "sharedCreed", "()I"⟩, 7), (⟨"StarchedCollars$Pairing", "together", "(LStarchedCollars$World;III)I"⟩, 1)]
theorem lw_r1 : ∀ q ∈ lw_privs_1, lw_okq q := List.forall_mem_cons.mpr ⟨lw_p0, List.forall_mem_cons.mpr ⟨lw_p1, List.forall_mem_cons.mpr ⟨lw_p2, List.forall_mem_cons.mpr ⟨lw_p3, List.forall_mem_cons.mpr ⟨lw_p4, List.forall_mem_cons.mpr ⟨lw_p5, List.forall_mem_cons.mpr ⟨lw_p6, List.forall_mem_cons.mpr ⟨lw_p7, List.forall_mem_cons.mpr ⟨lw_p8, List.forall_mem_cons.mpr ⟨lw_p9, List.forall_mem_cons.mpr ⟨lw_p10, List.forall_mem_cons.mpr ⟨lw_p11, List.forall_mem_cons.mpr ⟨lw_p12, List.forall_mem_cons.mpr ⟨lw_p13, List.forall_mem_cons.mpr ⟨lw_p14, List.forall_mem_cons.mpr ⟨lw_p15, fun _ h => absurd h List.not_mem_nil⟩⟩⟩⟩⟩⟩⟩⟩⟩⟩⟩⟩⟩⟩⟩⟩
theorem lw_p16 : lw_okq (⟨"StarchedCollars$Pairing", "firstPartner", "(LStarchedCollars$World;II)I"⟩, 1) := ⟨⟨by decide +kernel, by decide +kernel⟩, List.mem_of_getElem? (i := 228) (by decide +kernel), List.mem_of_getElem? (i := 597) (by decide +kernel), List.mem_of_getElem? (i := 598) (by decide +kernel)⟩
theorem lw_p17 : lw_okq (⟨"StarchedCollars", "isNear", "(II)Z"⟩, 7) := ⟨⟨by decide +kernel, by decide +kernel⟩, List.mem_of_getElem? (i := 19) (by decide +kernel), List.mem_of_getElem? (i := 605) (by decide +kernel), List.mem_of_getElem? (i := 606) (by decide +kernel)⟩
theorem lw_p18 : lw_okq (⟨"StarchedCollars", "isGoneBehindWash", "(LStarchedCollars$Man;Z)Z"⟩, 7) := ⟨⟨by decide +kernel, by decide +kernel⟩, List.mem_of_getElem? (i := 19) (by decide +kernel), List.mem_of_getElem? (i := 613) (by decide +kernel), List.mem_of_getElem? (i := 614) (by decide +kernel)⟩
theorem lw_p19 : lw_okq (⟨"StarchedCollars", "fitting", "(LStarchedCollars$Man;IZ)I"⟩, 7) := ⟨⟨by decide +kernel, by decide +kernel⟩, List.mem_of_getElem? (i := 19) (by decide +kernel), List.mem_of_getElem? (i := 633) (by decide +kernel), List.mem_of_getElem? (i := 634) (by decide +kernel)⟩
theorem lw_p20 : lw_okq (⟨"StarchedCollars", "latestSeen", "(I)I"⟩, 7) := ⟨⟨by decide +kernel, by decide +kernel⟩, List.mem_of_getElem? (i := 19) (by decide +kernel), List.mem_of_getElem? (i := 637) (by decide +kernel), List.mem_of_getElem? (i := 638) (by decide +kernel)⟩
theorem lw_p21 : lw_okq (⟨"StarchedCollars", "isGhostAsSeen", "(I)Z"⟩, 7) := ⟨⟨by decide +kernel, by decide +kernel⟩, List.mem_of_getElem? (i := 19) (by decide +kernel), List.mem_of_getElem? (i := 642) (by decide +kernel), List.mem_of_getElem? (i := 643) (by decide +kernel)⟩
theorem lw_p22 : lw_okq (⟨"StarchedCollars", "isGhostAsSeenAt", "(I)Z"⟩, 7) := ⟨⟨by decide +kernel, by decide +kernel⟩, List.mem_of_getElem? (i := 19) (by decide +kernel), List.mem_of_getElem? (i := 646) (by decide +kernel), List.mem_of_getElem? (i := 647) (by decide +kernel)⟩
theorem lw_p23 : lw_okq (⟨"StarchedCollars", "followPlan", "()V"⟩, 7) := ⟨⟨by decide +kernel, by decide +kernel⟩, List.mem_of_getElem? (i := 19) (by decide +kernel), List.mem_of_getElem? (i := 674) (by decide +kernel), List.mem_of_getElem? (i := 675) (by decide +kernel)⟩
theorem lw_p24 : lw_okq (⟨"StarchedCollars$Actor", "run", "(ILStarchedCollars$Man;II)I"⟩, 2) := ⟨⟨by decide +kernel, by decide +kernel⟩, List.mem_of_getElem? (i := 213) (by decide +kernel), List.mem_of_getElem? (i := 696) (by decide +kernel), List.mem_of_getElem? (i := 697) (by decide +kernel)⟩
theorem lw_p25 : lw_okq (⟨"StarchedCollars$Actor", "keep", "(I)V"⟩, 2) := ⟨⟨by decide +kernel, by decide +kernel⟩, List.mem_of_getElem? (i := 213) (by decide +kernel), List.mem_of_getElem? (i := 700) (by decide +kernel), List.mem_of_getElem? (i := 701) (by decide +kernel)⟩
theorem lw_p26 : lw_okq (⟨"StarchedCollarsModel", "clauseHere", "()V"⟩, 20) := ⟨⟨by decide +kernel, by decide +kernel⟩, List.mem_of_getElem? (i := 742) (by decide +kernel), List.mem_of_getElem? (i := 820) (by decide +kernel), List.mem_of_getElem? (i := 821) (by decide +kernel)⟩
theorem lw_p27 : lw_okq (⟨"StarchedCollarsModel", "here", "()I"⟩, 20) := ⟨⟨by decide +kernel, by decide +kernel⟩, List.mem_of_getElem? (i := 742) (by decide +kernel), List.mem_of_getElem? (i := 824) (by decide +kernel), List.mem_of_getElem? (i := 825) (by decide +kernel)⟩
theorem lw_p28 : lw_okq (⟨"StarchedCollarsModel", "tellsHere", "(ILjava/lang/String;)V"⟩, 20) := ⟨⟨by decide +kernel, by decide +kernel⟩, List.mem_of_getElem? (i := 742) (by decide +kernel), List.mem_of_getElem? (i := 829) (by decide +kernel), List.mem_of_getElem? (i := 830) (by decide +kernel)⟩
theorem lw_p29 : lw_okq (⟨"StarchedCollarsModel", "spells", "(Ljava/lang/String;)V"⟩, 20) := ⟨⟨by decide +kernel, by decide +kernel⟩, List.mem_of_getElem? (i := 742) (by decide +kernel), List.mem_of_getElem? (i := 833) (by decide +kernel), List.mem_of_getElem? (i := 834) (by decide +kernel)⟩
theorem lw_p30 : lw_okq (⟨"StarchedCollarsModel", "must", "(I)V"⟩, 20) := ⟨⟨by decide +kernel, by decide +kernel⟩, List.mem_of_getElem? (i := 742) (by decide +kernel), List.mem_of_getElem? (i := 839) (by decide +kernel), List.mem_of_getElem? (i := 840) (by decide +kernel)⟩
theorem lw_p31 : lw_okq (⟨"StarchedCollarsModel", "figures", "()I"⟩, 20) := ⟨⟨by decide +kernel, by decide +kernel⟩, List.mem_of_getElem? (i := 742) (by decide +kernel), List.mem_of_getElem? (i := 843) (by decide +kernel), List.mem_of_getElem? (i := 844) (by decide +kernel)⟩
def lw_privs_2 : List (MethodName × Nat) := [(⟨"StarchedCollars$Pairing", "firstPartner", "(LStarchedCollars$World;II)I"⟩, 1), (⟨"StarchedCollars", "isNear", "(II)Z"⟩, 7), (⟨"StarchedCollars", "isGoneBehindWash", "(LStarchedCollars$Man;Z)Z"⟩, 7), (⟨"StarchedCollars", "fitting", "(LStarchedCollars$Man;IZ)I"⟩, 7), (⟨"StarchedCollars", "latestSeen", "(I)I"⟩, 7), (⟨"StarchedCollars", "isGhostAsSeen", "(I)Z"⟩, 7), (⟨"StarchedCollars", "isGhostAsSeenAt", "(I)Z"⟩, 7), (⟨"StarchedCollars", "followPlan", "()V"⟩, 7), (⟨"StarchedCollars$Actor", "run", "(ILStarchedCollars$Man;II)I"⟩, 2), (⟨"StarchedCollars$Actor", "keep", "(I)V"⟩, 2), (⟨"StarchedCollarsModel", "clauseHere", "()V"⟩, 20), (⟨"StarchedCollarsModel", "here", "()I"⟩, 20), (⟨"StarchedCollarsModel", "tellsHere", "(ILjava/lang/String;)V"⟩, 20), (⟨"StarchedCollarsModel", "spells", "(Ljava/lang/String;)V"⟩, 20), (⟨"StarchedCollarsModel", "must", "(I)V"⟩, 20), (⟨"StarchedCollarsModel", "figures", "()I"⟩, 20)]
theorem lw_r2 : ∀ q ∈ lw_privs_2, lw_okq q := List.forall_mem_cons.mpr ⟨lw_p16, List.forall_mem_cons.mpr ⟨lw_p17, List.forall_mem_cons.mpr ⟨lw_p18, List.forall_mem_cons.mpr ⟨lw_p19, List.forall_mem_cons.mpr ⟨lw_p20, List.forall_mem_cons.mpr ⟨lw_p21, List.forall_mem_cons.mpr ⟨lw_p22, List.forall_mem_cons.mpr ⟨lw_p23, List.forall_mem_cons.mpr ⟨lw_p24, List.forall_mem_cons.mpr ⟨lw_p25, List.forall_mem_cons.mpr ⟨lw_p26, List.forall_mem_cons.mpr ⟨lw_p27, List.forall_mem_cons.mpr ⟨lw_p28, List.forall_mem_cons.mpr ⟨lw_p29, List.forall_mem_cons.mpr ⟨lw_p30, List.forall_mem_cons.mpr ⟨lw_p31, fun _ h => absurd h List.not_mem_nil⟩⟩⟩⟩⟩⟩⟩⟩⟩⟩⟩⟩⟩⟩⟩⟩
theorem lw_p32 : lw_okq (⟨"StarchedCollarsModel", "second", "()I"⟩, 20) := ⟨⟨by decide +kernel, by decide +kernel⟩, List.mem_of_getElem? (i := 742) (by decide +kernel), List.mem_of_getElem? (i := 847) (by decide +kernel), List.mem_of_getElem? (i := 848) (by decide +kernel)⟩
theorem lw_p33 : lw_okq (⟨"StarchedCollarsModel", "much", "(ILjava/lang/String;)V"⟩, 20) := ⟨⟨by decide +kernel, by decide +kernel⟩, List.mem_of_getElem? (i := 742) (by decide +kernel), List.mem_of_getElem? (i := 852) (by decide +kernel), List.mem_of_getElem? (i := 853) (by decide +kernel)⟩
theorem lw_p34 : lw_okq (⟨"StarchedCollarsModel", "some", "()V"⟩, 20) := ⟨⟨by decide +kernel, by decide +kernel⟩, List.mem_of_getElem? (i := 742) (by decide +kernel), List.mem_of_getElem? (i := 856) (by decide +kernel), List.mem_of_getElem? (i := 857) (by decide +kernel)⟩
theorem lw_p35 : lw_okq (⟨"StarchedCollarsModel", "every", "()V"⟩, 20) := ⟨⟨by decide +kernel, by decide +kernel⟩, List.mem_of_getElem? (i := 742) (by decide +kernel), List.mem_of_getElem? (i := 860) (by decide +kernel), List.mem_of_getElem? (i := 861) (by decide +kernel)⟩
theorem lw_p36 : lw_okq (⟨"StarchedCollarsModel", "factor", "()V"⟩, 20) := ⟨⟨by decide +kernel, by decide +kernel⟩, List.mem_of_getElem? (i := 742) (by decide +kernel), List.mem_of_getElem? (i := 864) (by decide +kernel), List.mem_of_getElem? (i := 865) (by decide +kernel)⟩
theorem lw_p37 : lw_okq (⟨"StarchedCollarsModel", "emits", "(I)V"⟩, 20) := ⟨⟨by decide +kernel, by decide +kernel⟩, List.mem_of_getElem? (i := 742) (by decide +kernel), List.mem_of_getElem? (i := 868) (by decide +kernel), List.mem_of_getElem? (i := 869) (by decide +kernel)⟩
theorem lw_p38 : lw_okq (⟨"StarchedCollarsModel", "among", "(Ljava/lang/String;)I"⟩, 20) := ⟨⟨by decide +kernel, by decide +kernel⟩, List.mem_of_getElem? (i := 742) (by decide +kernel), List.mem_of_getElem? (i := 873) (by decide +kernel), List.mem_of_getElem? (i := 874) (by decide +kernel)⟩
theorem lw_p39 : lw_okq (⟨"StarchedCollarsModel", "isMan", "(I)Z"⟩, 20) := ⟨⟨by decide +kernel, by decide +kernel⟩, List.mem_of_getElem? (i := 742) (by decide +kernel), List.mem_of_getElem? (i := 887) (by decide +kernel), List.mem_of_getElem? (i := 888) (by decide +kernel)⟩
theorem lw_p40 : lw_okq (⟨"StarchedCollarsModel", "riseOf", "(I)I"⟩, 20) := ⟨⟨by decide +kernel, by decide +kernel⟩, List.mem_of_getElem? (i := 742) (by decide +kernel), List.mem_of_getElem? (i := 892) (by decide +kernel), List.mem_of_getElem? (i := 893) (by decide +kernel)⟩
theorem lw_p41 : lw_okq (⟨"StarchedCollarsModel", "sumOf", "(I)I"⟩, 20) := ⟨⟨by decide +kernel, by decide +kernel⟩, List.mem_of_getElem? (i := 742) (by decide +kernel), List.mem_of_getElem? (i := 896) (by decide +kernel), List.mem_of_getElem? (i := 897) (by decide +kernel)⟩
theorem lw_p42 : lw_okq (⟨"StarchedCollarsModel", "tellsOf", "(II)I"⟩, 20) := ⟨⟨by decide +kernel, by decide +kernel⟩, List.mem_of_getElem? (i := 742) (by decide +kernel), List.mem_of_getElem? (i := 903) (by decide +kernel), List.mem_of_getElem? (i := 904) (by decide +kernel)⟩
theorem lw_p43 : lw_okq (⟨"StarchedCollarsModel", "seenBy", "(I)I"⟩, 20) := ⟨⟨by decide +kernel, by decide +kernel⟩, List.mem_of_getElem? (i := 742) (by decide +kernel), List.mem_of_getElem? (i := 907) (by decide +kernel), List.mem_of_getElem? (i := 908) (by decide +kernel)⟩
theorem lw_p44 : lw_okq (⟨"StarchedCollarsModel", "doesSee", "(II)Z"⟩, 20) := ⟨⟨by decide +kernel, by decide +kernel⟩, List.mem_of_getElem? (i := 742) (by decide +kernel), List.mem_of_getElem? (i := 911) (by decide +kernel), List.mem_of_getElem? (i := 912) (by decide +kernel)⟩
theorem lw_p45 : lw_okq (⟨"StarchedCollarsModel", "benchOf", "(I)I"⟩, 20) := ⟨⟨by decide +kernel, by decide +kernel⟩, List.mem_of_getElem? (i := 742) (by decide +kernel), List.mem_of_getElem? (i := 915) (by decide +kernel), List.mem_of_getElem? (i := 916) (by decide +kernel)⟩
theorem lw_p46 : lw_okq (⟨"StarchedCollarsModel", "keeps", "()V"⟩, 20) := ⟨⟨by decide +kernel, by decide +kernel⟩, List.mem_of_getElem? (i := 742) (by decide +kernel), List.mem_of_getElem? (i := 919) (by decide +kernel), List.mem_of_getElem? (i := 920) (by decide +kernel)⟩
theorem lw_p47 : lw_okq (⟨"StarchedCollarsModel", "goesBack", "()V"⟩, 20) := ⟨⟨by decide +kernel, by decide +kernel⟩, List.mem_of_getElem? (i := 742) (by decide +kernel), List.mem_of_getElem? (i := 923) (by decide +kernel), List.mem_of_getElem? (i := 924) (by decide +kernel)⟩
def lw_privs_3 : List (MethodName × Nat) := [(⟨"StarchedCollarsModel", "second", "()I"⟩, 20), (⟨"StarchedCollarsModel", "much", "(ILjava/lang/String;)V"⟩, 20), (⟨"StarchedCollarsModel", "some", "()V"⟩, 20), (⟨"StarchedCollarsModel", "every", "()V"⟩, 20), (⟨"StarchedCollarsModel", "factor", "()V"⟩, 20), (⟨"StarchedCollarsModel", "emits", "(I)V"⟩, 20), (⟨"StarchedCollarsModel", "among", "(Ljava/lang/String;)I"⟩, 20), (⟨"StarchedCollarsModel", "isMan", "(I)Z"⟩, 20), (⟨"StarchedCollarsModel", "riseOf", "(I)I"⟩, 20), (⟨"StarchedCollarsModel", "sumOf", "(I)I"⟩, 20), (⟨"StarchedCollarsModel", "tellsOf", "(II)I"⟩, 20), (⟨"StarchedCollarsModel", "seenBy", "(I)I"⟩, 20), (⟨"StarchedCollarsModel", "doesSee", "(II)Z"⟩, 20), (⟨"StarchedCollarsModel", "benchOf", "(I)I"⟩, 20), (⟨"StarchedCollarsModel", "keeps", "()V"⟩, 20), (⟨"StarchedCollarsModel", "goesBack", "()V"⟩, 20)]
theorem lw_r3 : ∀ q ∈ lw_privs_3, lw_okq q := List.forall_mem_cons.mpr ⟨lw_p32, List.forall_mem_cons.mpr ⟨lw_p33, List.forall_mem_cons.mpr ⟨lw_p34, List.forall_mem_cons.mpr ⟨lw_p35, List.forall_mem_cons.mpr ⟨lw_p36, List.forall_mem_cons.mpr ⟨lw_p37, List.forall_mem_cons.mpr ⟨lw_p38, List.forall_mem_cons.mpr ⟨lw_p39, List.forall_mem_cons.mpr ⟨lw_p40, List.forall_mem_cons.mpr ⟨lw_p41, List.forall_mem_cons.mpr ⟨lw_p42, List.forall_mem_cons.mpr ⟨lw_p43, List.forall_mem_cons.mpr ⟨lw_p44, List.forall_mem_cons.mpr ⟨lw_p45, List.forall_mem_cons.mpr ⟨lw_p46, List.forall_mem_cons.mpr ⟨lw_p47, fun _ h => absurd h List.not_mem_nil⟩⟩⟩⟩⟩⟩⟩⟩⟩⟩⟩⟩⟩⟩⟩⟩
theorem lw_p48 : lw_okq (⟨"StarchedCollarsModel", "becomes", "(II)I"⟩, 20) := ⟨⟨by decide +kernel, by decide +kernel⟩, List.mem_of_getElem? (i := 742) (by decide +kernel), List.mem_of_getElem? (i := 931) (by decide +kernel), List.mem_of_getElem? (i := 932) (by decide +kernel)⟩
theorem lw_p49 : lw_okq (⟨"StarchedCollarsModel", "apartOf", "(II)I"⟩, 20) := ⟨⟨by decide +kernel, by decide +kernel⟩, List.mem_of_getElem? (i := 742) (by decide +kernel), List.mem_of_getElem? (i := 951) (by decide +kernel), List.mem_of_getElem? (i := 952) (by decide +kernel)⟩
theorem lw_p50 : lw_okq (⟨"StarchedCollarsModel", "ones", "(I)I"⟩, 20) := ⟨⟨by decide +kernel, by decide +kernel⟩, List.mem_of_getElem? (i := 742) (by decide +kernel), List.mem_of_getElem? (i := 959) (by decide +kernel), List.mem_of_getElem? (i := 960) (by decide +kernel)⟩
theorem lw_p51 : lw_okq (⟨"StarchedCollarsModel", "sharedCreed", "()I"⟩, 20) := ⟨⟨by decide +kernel, by decide +kernel⟩, List.mem_of_getElem? (i := 742) (by decide +kernel), List.mem_of_getElem? (i := 963) (by decide +kernel), List.mem_of_getElem? (i := 964) (by decide +kernel)⟩
theorem lw_p52 : lw_okq (⟨"StarchedCollarsModel", "goesOn", "(I)V"⟩, 20) := ⟨⟨by decide +kernel, by decide +kernel⟩, List.mem_of_getElem? (i := 742) (by decide +kernel), List.mem_of_getElem? (i := 971) (by decide +kernel), List.mem_of_getElem? (i := 972) (by decide +kernel)⟩
theorem lw_p53 : lw_okq (⟨"StarchedCollarsModel", "goes", "()V"⟩, 20) := ⟨⟨by decide +kernel, by decide +kernel⟩, List.mem_of_getElem? (i := 742) (by decide +kernel), List.mem_of_getElem? (i := 975) (by decide +kernel), List.mem_of_getElem? (i := 976) (by decide +kernel)⟩
theorem lw_p54 : lw_okq (⟨"StarchedCollarsModel", "rises", "(I)V"⟩, 20) := ⟨⟨by decide +kernel, by decide +kernel⟩, List.mem_of_getElem? (i := 742) (by decide +kernel), List.mem_of_getElem? (i := 979) (by decide +kernel), List.mem_of_getElem? (i := 980) (by decide +kernel)⟩
theorem lw_p55 : lw_okq (⟨"StarchedCollarsModel", "goesAlone", "(I)V"⟩, 20) := ⟨⟨by decide +kernel, by decide +kernel⟩, List.mem_of_getElem? (i := 742) (by decide +kernel), List.mem_of_getElem? (i := 994) (by decide +kernel), List.mem_of_getElem? (i := 995) (by decide +kernel)⟩
theorem lw_p56 : lw_okq (⟨"StarchedCollarsModel", "looksForWalk", "()V"⟩, 20) := ⟨⟨by decide +kernel, by decide +kernel⟩, List.mem_of_getElem? (i := 742) (by decide +kernel), List.mem_of_getElem? (i := 1002) (by decide +kernel), List.mem_of_getElem? (i := 1003) (by decide +kernel)⟩
theorem lw_p57 : lw_okq (⟨"StarchedCollarsModel", "walksFrom", "(II)V"⟩, 20) := ⟨⟨by decide +kernel, by decide +kernel⟩, List.mem_of_getElem? (i := 742) (by decide +kernel), List.mem_of_getElem? (i := 1007) (by decide +kernel), List.mem_of_getElem? (i := 1008) (by decide +kernel)⟩
theorem lw_p58 : lw_okq (⟨"StarchedCollarsModel", "firstWithout", "()I"⟩, 20) := ⟨⟨by decide +kernel, by decide +kernel⟩, List.mem_of_getElem? (i := 742) (by decide +kernel), List.mem_of_getElem? (i := 1011) (by decide +kernel), List.mem_of_getElem? (i := 1012) (by decide +kernel)⟩
theorem lw_p59 : lw_okq (⟨"StarchedCollarsModel", "isTable", "(II)Z"⟩, 20) := ⟨⟨by decide +kernel, by decide +kernel⟩, List.mem_of_getElem? (i := 742) (by decide +kernel), List.mem_of_getElem? (i := 1019) (by decide +kernel), List.mem_of_getElem? (i := 1020) (by decide +kernel)⟩
theorem lw_p60 : lw_okq (⟨"StarchedCollarsModel", "goneBy", "(I)I"⟩, 20) := ⟨⟨by decide +kernel, by decide +kernel⟩, List.mem_of_getElem? (i := 742) (by decide +kernel), List.mem_of_getElem? (i := 1027) (by decide +kernel), List.mem_of_getElem? (i := 1028) (by decide +kernel)⟩
theorem lw_p61 : lw_okq (⟨"StarchedCollarsModel", "fitting", "(IIII)I"⟩, 20) := ⟨⟨by decide +kernel, by decide +kernel⟩, List.mem_of_getElem? (i := 742) (by decide +kernel), List.mem_of_getElem? (i := 1039) (by decide +kernel), List.mem_of_getElem? (i := 1040) (by decide +kernel)⟩
theorem lw_p62 : lw_okq (⟨"StarchedCollarsModel", "areAsSeen", "(I)Z"⟩, 20) := ⟨⟨by decide +kernel, by decide +kernel⟩, List.mem_of_getElem? (i := 742) (by decide +kernel), List.mem_of_getElem? (i := 1043) (by decide +kernel), List.mem_of_getElem? (i := 1044) (by decide +kernel)⟩
theorem lw_p63 : lw_okq (⟨"StarchedCollarsModel", "isAsSeen", "(II)Z"⟩, 20) := ⟨⟨by decide +kernel, by decide +kernel⟩, List.mem_of_getElem? (i := 742) (by decide +kernel), List.mem_of_getElem? (i := 1047) (by decide +kernel), List.mem_of_getElem? (i := 1048) (by decide +kernel)⟩
def lw_privs_4 : List (MethodName × Nat) := [(⟨"StarchedCollarsModel", "becomes", "(II)I"⟩, 20), (⟨"StarchedCollarsModel", "apartOf", "(II)I"⟩, 20), (⟨"StarchedCollarsModel", "ones", "(I)I"⟩, 20), (⟨"StarchedCollarsModel", "sharedCreed", "()I"⟩, 20), (⟨"StarchedCollarsModel", "goesOn", "(I)V"⟩, 20), (⟨"StarchedCollarsModel", "goes", "()V"⟩, 20), (⟨"StarchedCollarsModel", "rises", "(I)V"⟩, 20), (⟨"StarchedCollarsModel", "goesAlone", "(I)V"⟩, 20), (⟨"StarchedCollarsModel", "looksForWalk", "()V"⟩, 20), (⟨"StarchedCollarsModel", "walksFrom", "(II)V"⟩, 20), (⟨"StarchedCollarsModel", "firstWithout", "()I"⟩, 20), (⟨"StarchedCollarsModel", "isTable", "(II)Z"⟩, 20), (⟨"StarchedCollarsModel", "goneBy", "(I)I"⟩, 20), (⟨"StarchedCollarsModel", "fitting", "(IIII)I"⟩, 20), (⟨"StarchedCollarsModel", "areAsSeen", "(I)Z"⟩, 20), (⟨"StarchedCollarsModel", "isAsSeen", "(II)Z"⟩, 20)]
theorem lw_r4 : ∀ q ∈ lw_privs_4, lw_okq q := List.forall_mem_cons.mpr ⟨lw_p48, List.forall_mem_cons.mpr ⟨lw_p49, List.forall_mem_cons.mpr ⟨lw_p50, List.forall_mem_cons.mpr ⟨lw_p51, List.forall_mem_cons.mpr ⟨lw_p52, List.forall_mem_cons.mpr ⟨lw_p53, List.forall_mem_cons.mpr ⟨lw_p54, List.forall_mem_cons.mpr ⟨lw_p55, List.forall_mem_cons.mpr ⟨lw_p56, List.forall_mem_cons.mpr ⟨lw_p57, List.forall_mem_cons.mpr ⟨lw_p58, List.forall_mem_cons.mpr ⟨lw_p59, List.forall_mem_cons.mpr ⟨lw_p60, List.forall_mem_cons.mpr ⟨lw_p61, List.forall_mem_cons.mpr ⟨lw_p62, List.forall_mem_cons.mpr ⟨lw_p63, fun _ h => absurd h List.not_mem_nil⟩⟩⟩⟩⟩⟩⟩⟩⟩⟩⟩⟩⟩⟩⟩⟩
theorem lw_p64 : lw_okq (⟨"StarchedCollarsModel", "goesBy", "(II)V"⟩, 20) := ⟨⟨by decide +kernel, by decide +kernel⟩, List.mem_of_getElem? (i := 742) (by decide +kernel), List.mem_of_getElem? (i := 1076) (by decide +kernel), List.mem_of_getElem? (i := 1077) (by decide +kernel)⟩
theorem lw_p65 : lw_okq (⟨"StarchedCollarsModel", "heights", "()I"⟩, 20) := ⟨⟨by decide +kernel, by decide +kernel⟩, List.mem_of_getElem? (i := 742) (by decide +kernel), List.mem_of_getElem? (i := 1080) (by decide +kernel), List.mem_of_getElem? (i := 1081) (by decide +kernel)⟩
theorem lw_p66 : lw_okq (⟨"StarchedCollarsModel", "nodsActs", "(I)I"⟩, 20) := ⟨⟨by decide +kernel, by decide +kernel⟩, List.mem_of_getElem? (i := 742) (by decide +kernel), List.mem_of_getElem? (i := 1096) (by decide +kernel), List.mem_of_getElem? (i := 1097) (by decide +kernel)⟩
theorem lw_p67 : lw_okq (⟨"StarchedCollarsModel", "ranBody", "(I)V"⟩, 20) := ⟨⟨by decide +kernel, by decide +kernel⟩, List.mem_of_getElem? (i := 742) (by decide +kernel), List.mem_of_getElem? (i := 1103) (by decide +kernel), List.mem_of_getElem? (i := 1104) (by decide +kernel)⟩
theorem lw_p68 : lw_okq (⟨"StarchedCollarsModel", "plainNods", "(I)I"⟩, 20) := ⟨⟨by decide +kernel, by decide +kernel⟩, List.mem_of_getElem? (i := 742) (by decide +kernel), List.mem_of_getElem? (i := 1107) (by decide +kernel), List.mem_of_getElem? (i := 1108) (by decide +kernel)⟩
theorem lw_p69 : lw_okq (⟨"StarchedCollarsModel", "preachesActs", "(I)I"⟩, 20) := ⟨⟨by decide +kernel, by decide +kernel⟩, List.mem_of_getElem? (i := 742) (by decide +kernel), List.mem_of_getElem? (i := 1111) (by decide +kernel), List.mem_of_getElem? (i := 1112) (by decide +kernel)⟩
theorem lw_p70 : lw_okq (⟨"StarchedCollarsModel", "plainPreaches", "(I)I"⟩, 20) := ⟨⟨by decide +kernel, by decide +kernel⟩, List.mem_of_getElem? (i := 742) (by decide +kernel), List.mem_of_getElem? (i := 1115) (by decide +kernel), List.mem_of_getElem? (i := 1116) (by decide +kernel)⟩
theorem lw_p71 : lw_okq (⟨"StarchedCollarsModel", "turningActs", "(I)I"⟩, 20) := ⟨⟨by decide +kernel, by decide +kernel⟩, List.mem_of_getElem? (i := 742) (by decide +kernel), List.mem_of_getElem? (i := 1119) (by decide +kernel), List.mem_of_getElem? (i := 1120) (by decide +kernel)⟩
theorem lw_p72 : lw_okq (⟨"StarchedCollarsModel", "plainTelling", "(I)I"⟩, 20) := ⟨⟨by decide +kernel, by decide +kernel⟩, List.mem_of_getElem? (i := 742) (by decide +kernel), List.mem_of_getElem? (i := 1123) (by decide +kernel), List.mem_of_getElem? (i := 1124) (by decide +kernel)⟩
def lw_privs_5 : List (MethodName × Nat) := [(⟨"StarchedCollarsModel", "goesBy", "(II)V"⟩, 20), (⟨"StarchedCollarsModel", "heights", "()I"⟩, 20), (⟨"StarchedCollarsModel", "nodsActs", "(I)I"⟩, 20), (⟨"StarchedCollarsModel", "ranBody", "(I)V"⟩, 20), (⟨"StarchedCollarsModel", "plainNods", "(I)I"⟩, 20), (⟨"StarchedCollarsModel", "preachesActs", "(I)I"⟩, 20), (⟨"StarchedCollarsModel", "plainPreaches", "(I)I"⟩, 20), (⟨"StarchedCollarsModel", "turningActs", "(I)I"⟩, 20), (⟨"StarchedCollarsModel", "plainTelling", "(I)I"⟩, 20)]
theorem lw_r5 : ∀ q ∈ lw_privs_5, lw_okq q := List.forall_mem_cons.mpr ⟨lw_p64, List.forall_mem_cons.mpr ⟨lw_p65, List.forall_mem_cons.mpr ⟨lw_p66, List.forall_mem_cons.mpr ⟨lw_p67, List.forall_mem_cons.mpr ⟨lw_p68, List.forall_mem_cons.mpr ⟨lw_p69, List.forall_mem_cons.mpr ⟨lw_p70, List.forall_mem_cons.mpr ⟨lw_p71, List.forall_mem_cons.mpr ⟨lw_p72, fun _ h => absurd h List.not_mem_nil⟩⟩⟩⟩⟩⟩⟩⟩⟩
def lw_privs : List (MethodName × Nat) := lw_privs_1 ++ (lw_privs_2 ++ (lw_privs_3 ++ (lw_privs_4 ++ (lw_privs_5))))
def lw_tbl : List Cond := k2_sels lw_privs ++ tables_1
theorem lw_privs_ok : ∀ q ∈ lw_privs, lw_okq q := by
  show ∀ q ∈ lw_privs_1 ++ (lw_privs_2 ++ (lw_privs_3 ++ (lw_privs_4 ++ (lw_privs_5)))), lw_okq q
  exact List.forall_mem_append.mpr ⟨lw_r1, List.forall_mem_append.mpr ⟨lw_r2, List.forall_mem_append.mpr ⟨lw_r3, List.forall_mem_append.mpr ⟨lw_r4, lw_r5⟩⟩⟩⟩
def RX0 : String := "StarchedCollars$Actor"
def TX0 : u_T := fun k => match k with
  | 0 => ("StarchedCollars$Actor", "bodies", "[I", true)
  | _ => ("StarchedCollars$Actor", "ran", "I", false)
def tyX0 : Nat → FieldType := fun k => match k with
  | 0 => .array .int
  | _ => .int
abbrev wsX00 : List Cond := u_ws RX0 TX0 2
theorem nmX0 : ∀ a, a < 2 → ∀ b, b < 2 → a ≠ b → (TX0 a).2.1 ≠ (TX0 b).2.1 := by decide +kernel
theorem tyX0_ok : ∀ k, k < 2 → parseFieldDescriptor (TX0 k).2.2.1 = some (tyX0 k) := by decide +kernel
def RX1 : String := "StarchedCollars$Man"
def TX1 : u_T := fun k => match k with
  | 0 => ("StarchedCollars$Man", "number", "I", false)
  | 1 => ("StarchedCollars$Man", "kind", "I", false)
  | 2 => ("StarchedCollars$Man", "v", "I", false)
  | 3 => ("StarchedCollars$Man", "place", "I", false)
  | 4 => ("StarchedCollars$Man", "creed", "I", false)
  | 5 => ("StarchedCollars$Man", "height", "I", false)
  | 6 => ("StarchedCollars$Man", "isGone", "Z", false)
  | 7 => ("StarchedCollars$Man", "isAway", "Z", false)
  | _ => ("StarchedCollars$Man", "row", "[I", true)
def tyX1 : Nat → FieldType := fun k => match k with
  | 0 => .int
  | 1 => .int
  | 2 => .int
  | 3 => .int
  | 4 => .int
  | 5 => .int
  | 6 => .boolean
  | 7 => .boolean
  | _ => .array .int
abbrev wsX10 : List Cond := u_ws RX1 TX1 9
theorem nmX1 : ∀ a, a < 9 → ∀ b, b < 9 → a ≠ b → (TX1 a).2.1 ≠ (TX1 b).2.1 := by decide +kernel
theorem tyX1_ok : ∀ k, k < 9 → parseFieldDescriptor (TX1 k).2.2.1 = some (tyX1 k) := by decide +kernel
def RX2 : String := "StarchedCollars$Pairing"
def TX2 : u_T := fun k => match k with
  | _ => ("StarchedCollars$Pairing", "least", "[I", true)
def tyX2 : Nat → FieldType := fun k => match k with
  | _ => .array .int
abbrev wsX20 : List Cond := u_ws RX2 TX2 1
theorem nmX2 : ∀ a, a < 1 → ∀ b, b < 1 → a ≠ b → (TX2 a).2.1 ≠ (TX2 b).2.1 := by decide +kernel
theorem tyX2_ok : ∀ k, k < 1 → parseFieldDescriptor (TX2 k).2.2.1 = some (tyX2 k) := by decide +kernel
def RX3 : String := "StarchedCollars$Reader"
def TX3 : u_T := fun k => match k with
  | 0 => ("StarchedCollars$Reader", "draft", "LStarchedCollars$Town;", true)
  | 1 => ("StarchedCollars$Reader", "text", "[B", true)
  | 2 => ("StarchedCollars$Reader", "size", "I", false)
  | 3 => ("StarchedCollars$Reader", "at", "I", false)
  | _ => ("StarchedCollars$Reader", "number", "I", false)
def tyX3 : Nat → FieldType := fun k => match k with
  | 0 => .object "StarchedCollars$Town"
  | 1 => .array .byte
  | 2 => .int
  | 3 => .int
  | _ => .int
abbrev wsX30 : List Cond := u_ws RX3 TX3 5
theorem nmX3 : ∀ a, a < 5 → ∀ b, b < 5 → a ≠ b → (TX3 a).2.1 ≠ (TX3 b).2.1 := by decide +kernel
theorem tyX3_ok : ∀ k, k < 5 → parseFieldDescriptor (TX3 k).2.2.1 = some (tyX3 k) := by decide +kernel
def RX4 : String := "StarchedCollars$Rows"
def TX4 : u_T := fun k => match k with
  | 0 => ("StarchedCollars$Rows", "first", "[I", true)
  | 1 => ("StarchedCollars$Rows", "second", "[I", true)
  | 2 => ("StarchedCollars$Rows", "third", "[I", true)
  | _ => ("StarchedCollars$Rows", "size", "I", false)
def tyX4 : Nat → FieldType := fun k => match k with
  | 0 => .array .int
  | 1 => .array .int
  | 2 => .array .int
  | _ => .int
abbrev wsX40 : List Cond := u_ws RX4 TX4 4
theorem nmX4 : ∀ a, a < 4 → ∀ b, b < 4 → a ≠ b → (TX4 a).2.1 ≠ (TX4 b).2.1 := by decide +kernel
theorem tyX4_ok : ∀ k, k < 4 → parseFieldDescriptor (TX4 k).2.2.1 = some (tyX4 k) := by decide +kernel
def RX5 : String := "StarchedCollars$Town"
def TX5 : u_T := fun k => match k with
  | 0 => ("StarchedCollars$Town", "burst", "I", false)
  | 1 => ("StarchedCollars$Town", "clauses", "I", false)
  | 2 => ("StarchedCollars$Town", "amounts", "[I", true)
  | 3 => ("StarchedCollars$Town", "ends", "[I", true)
  | 4 => ("StarchedCollars$Town", "codes", "[I", true)
  | 5 => ("StarchedCollars$Town", "codeCount", "I", false)
  | _ => ("StarchedCollars$Town", "facts", "[I", true)
def tyX5 : Nat → FieldType := fun k => match k with
  | 0 => .int
  | 1 => .int
  | 2 => .array .int
  | 3 => .array .int
  | 4 => .array .int
  | 5 => .int
  | _ => .array .int
abbrev wsX50 : List Cond := u_ws RX5 TX5 7
theorem nmX5 : ∀ a, a < 7 → ∀ b, b < 7 → a ≠ b → (TX5 a).2.1 ≠ (TX5 b).2.1 := by decide +kernel
theorem tyX5_ok : ∀ k, k < 7 → parseFieldDescriptor (TX5 k).2.2.1 = some (tyX5 k) := by decide +kernel
def RX6 : String := "StarchedCollars$World"
def TX6 : u_T := fun k => match k with
  | 0 => ("StarchedCollars$World", "men", "[LStarchedCollars$Man;", true)
  | 1 => ("StarchedCollars$World", "menCount", "I", false)
  | 2 => ("StarchedCollars$World", "week", "I", false)
  | 3 => ("StarchedCollars$World", "tape", "[B", true)
  | 4 => ("StarchedCollars$World", "tapeSize", "I", false)
  | 5 => ("StarchedCollars$World", "town", "LStarchedCollars$Town;", true)
  | 6 => ("StarchedCollars$World", "townCount", "I", false)
  | 7 => ("StarchedCollars$World", "seen", "LStarchedCollars$Rows;", true)
  | 8 => ("StarchedCollars$World", "plan", "LStarchedCollars$Rows;", true)
  | _ => ("StarchedCollars$World", "book", "LStarchedCollars$Rows;", true)
def tyX6 : Nat → FieldType := fun k => match k with
  | 0 => .array (.object "StarchedCollars$Man")
  | 1 => .int
  | 2 => .int
  | 3 => .array .byte
  | 4 => .int
  | 5 => .object "StarchedCollars$Town"
  | 6 => .int
  | 7 => .object "StarchedCollars$Rows"
  | 8 => .object "StarchedCollars$Rows"
  | _ => .object "StarchedCollars$Rows"
abbrev wsX60 : List Cond := u_ws RX6 TX6 10
theorem nmX6 : ∀ a, a < 10 → ∀ b, b < 10 → a ≠ b → (TX6 a).2.1 ≠ (TX6 b).2.1 := by decide +kernel
theorem tyX6_ok : ∀ k, k < 10 → parseFieldDescriptor (TX6 k).2.2.1 = some (tyX6 k) := by decide +kernel
def RX7 : String := "StarchedCollars"
def TX7 : u_T := fun k => match k with
  | 0 => ("StarchedCollars", "now", "LStarchedCollars$World;", true)
  | 1 => ("StarchedCollars", "image", "LStarchedCollars$World;", true)
  | 2 => ("StarchedCollars", "isImageTaken", "Z", false)
  | 3 => ("StarchedCollars", "ghost", "LStarchedCollars$Man;", true)
  | 4 => ("StarchedCollars", "reader", "LStarchedCollars$Reader;", true)
  | 5 => ("StarchedCollars", "actor", "LStarchedCollars$Actor;", true)
  | _ => ("StarchedCollars", "pairing", "LStarchedCollars$Pairing;", true)
def tyX7 : Nat → FieldType := fun k => match k with
  | 0 => .object "StarchedCollars$World"
  | 1 => .object "StarchedCollars$World"
  | 2 => .boolean
  | 3 => .object "StarchedCollars$Man"
  | 4 => .object "StarchedCollars$Reader"
  | 5 => .object "StarchedCollars$Actor"
  | _ => .object "StarchedCollars$Pairing"
abbrev wsX70 : List Cond := u_ws RX7 TX7 7
theorem nmX7 : ∀ a, a < 7 → ∀ b, b < 7 → a ≠ b → (TX7 a).2.1 ≠ (TX7 b).2.1 := by decide +kernel
theorem tyX7_ok : ∀ k, k < 7 → parseFieldDescriptor (TX7 k).2.2.1 = some (tyX7 k) := by decide +kernel
def RX8 : String := "StarchedCollarsModel"
def TX8 : u_T := fun k => match k with
  | 0 => ("StarchedCollarsModel", "thrown", "I", false)
  | 1 => ("StarchedCollarsModel", "s", "[I", true)
  | 2 => ("StarchedCollarsModel", "image", "[I", true)
  | 3 => ("StarchedCollarsModel", "frame", "[I", true)
  | 4 => ("StarchedCollarsModel", "hasImage", "Z", false)
  | 5 => ("StarchedCollarsModel", "act", "I", false)
  | 6 => ("StarchedCollarsModel", "spot", "I", false)
  | 7 => ("StarchedCollarsModel", "end", "I", false)
  | 8 => ("StarchedCollarsModel", "isWrong", "Z", false)
  | 9 => ("StarchedCollarsModel", "open", "I", false)
  | 10 => ("StarchedCollarsModel", "by", "[I", true)
  | 11 => ("StarchedCollarsModel", "truths", "[Z", true)
  | 12 => ("StarchedCollarsModel", "line", "[I", true)
  | 13 => ("StarchedCollarsModel", "bestLine", "[I", true)
  | 14 => ("StarchedCollarsModel", "nearest", "I", false)
  | 15 => ("StarchedCollarsModel", "bodies", "[I", true)
  | 16 => ("StarchedCollarsModel", "ran", "I", false)
  | 17 => ("StarchedCollarsModel", "kind", "I", false)
  | 18 => ("StarchedCollarsModel", "number", "I", false)
  | _ => ("StarchedCollarsModel", "tellsV", "I", false)
def tyX8 : Nat → FieldType := fun k => match k with
  | 0 => .int
  | 1 => .array .int
  | 2 => .array .int
  | 3 => .array .int
  | 4 => .boolean
  | 5 => .int
  | 6 => .int
  | 7 => .int
  | 8 => .boolean
  | 9 => .int
  | 10 => .array .int
  | 11 => .array .boolean
  | 12 => .array .int
  | 13 => .array .int
  | 14 => .int
  | 15 => .array .int
  | 16 => .int
  | 17 => .int
  | 18 => .int
  | _ => .int
abbrev wsX80 : List Cond := u_ws RX8 TX8 20
theorem nmX8 : ∀ a, a < 20 → ∀ b, b < 20 → a ≠ b → (TX8 a).2.1 ≠ (TX8 b).2.1 := by decide +kernel
theorem tyX8_ok : ∀ k, k < 20 → parseFieldDescriptor (TX8 k).2.2.1 = some (tyX8 k) := by decide +kernel
abbrev vwCl : List vw_C := [(RX0, TX0, 2), (RX1, TX1, 9), (RX2, TX2, 1), (RX3, TX3, 5), (RX4, TX4, 4), (RX5, TX5, 7), (RX6, TX6, 10), (RX7, TX7, 7), (RX8, TX8, 20)]
theorem x_in0 : ∀ w ∈ wsX00, w ∈ lw_tbl := by decide +kernel
theorem x_in1 : ∀ w ∈ wsX10, w ∈ lw_tbl := by decide +kernel
theorem x_in2 : ∀ w ∈ wsX20, w ∈ lw_tbl := by decide +kernel
theorem x_in3 : ∀ w ∈ wsX30, w ∈ lw_tbl := by decide +kernel
theorem x_in4 : ∀ w ∈ wsX40, w ∈ lw_tbl := by decide +kernel
theorem x_in5 : ∀ w ∈ wsX50, w ∈ lw_tbl := by decide +kernel
theorem x_in6 : ∀ w ∈ wsX60, w ∈ lw_tbl := by decide +kernel
theorem x_in7 : ∀ w ∈ wsX70, w ∈ lw_tbl := by decide +kernel
theorem x_in8 : ∀ w ∈ wsX80, w ∈ lw_tbl := by decide +kernel
