section
-- ===== PART A: goes FIRST, ahead of the names: the tables' words, and 'selects' of the private methods out of them =====
/-- a private method of a class that the tables say can be made, by its rows of tables_1 -/
def lw_okq (q : MethodName × Nat) : Prop := (q.1.cls ≠ "java/lang/invoke/MethodHandle" ∧ q.1.cls ≠ "java/lang/invoke/VarHandle") ∧ Cond.instantiable q.1.cls q.2 ∈ tables_1 ∧ Cond.privateMethod q.1 ∈ tables_1 ∧ Cond.instanceMethod q.1 ∈ tables_1
theorem lw_p0 : lw_okq (⟨"StarchedCollars$Reader", "readsClause", "()Z"⟩, 5) := ⟨⟨by decide +kernel, by decide +kernel⟩, List.mem_of_getElem? (i := 187) (by decide +kernel), List.mem_of_getElem? (i := 286) (by decide +kernel), List.mem_of_getElem? (i := 287) (by decide +kernel)⟩
theorem lw_p1 : lw_okq (⟨"StarchedCollars$Reader", "takes", "(C)Z"⟩, 5) := ⟨⟨by decide +kernel, by decide +kernel⟩, List.mem_of_getElem? (i := 187) (by decide +kernel), List.mem_of_getElem? (i := 290) (by decide +kernel), List.mem_of_getElem? (i := 291) (by decide +kernel)⟩
theorem lw_p2 : lw_okq (⟨"StarchedCollars$Reader", "takesAll", "(Ljava/lang/String;)Z"⟩, 5) := ⟨⟨by decide +kernel, by decide +kernel⟩, List.mem_of_getElem? (i := 187) (by decide +kernel), List.mem_of_getElem? (i := 295) (by decide +kernel), List.mem_of_getElem? (i := 296) (by decide +kernel)⟩
theorem lw_p3 : lw_okq (⟨"StarchedCollars$Reader", "readsNumber", "()Z"⟩, 5) := ⟨⟨by decide +kernel, by decide +kernel⟩, List.mem_of_getElem? (i := 187) (by decide +kernel), List.mem_of_getElem? (i := 347) (by decide +kernel), List.mem_of_getElem? (i := 348) (by decide +kernel)⟩
theorem lw_p4 : lw_okq (⟨"StarchedCollars$Reader", "readsEither", "(I)Z"⟩, 5) := ⟨⟨by decide +kernel, by decide +kernel⟩, List.mem_of_getElem? (i := 187) (by decide +kernel), List.mem_of_getElem? (i := 353) (by decide +kernel), List.mem_of_getElem? (i := 354) (by decide +kernel)⟩
theorem lw_p5 : lw_okq (⟨"StarchedCollars$Reader", "readsBoth", "(I)Z"⟩, 5) := ⟨⟨by decide +kernel, by decide +kernel⟩, List.mem_of_getElem? (i := 187) (by decide +kernel), List.mem_of_getElem? (i := 357) (by decide +kernel), List.mem_of_getElem? (i := 358) (by decide +kernel)⟩
theorem lw_p6 : lw_okq (⟨"StarchedCollars$Reader", "readsOne", "(I)Z"⟩, 5) := ⟨⟨by decide +kernel, by decide +kernel⟩, List.mem_of_getElem? (i := 187) (by decide +kernel), List.mem_of_getElem? (i := 361) (by decide +kernel), List.mem_of_getElem? (i := 362) (by decide +kernel)⟩
theorem lw_p7 : lw_okq (⟨"StarchedCollars$Reader", "readsTest", "()Z"⟩, 5) := ⟨⟨by decide +kernel, by decide +kernel⟩, List.mem_of_getElem? (i := 187) (by decide +kernel), List.mem_of_getElem? (i := 369) (by decide +kernel), List.mem_of_getElem? (i := 370) (by decide +kernel)⟩
theorem lw_p8 : lw_okq (⟨"StarchedCollars$Town", "holds", "(II)Z"⟩, 7) := ⟨⟨by decide +kernel, by decide +kernel⟩, List.mem_of_getElem? (i := 35) (by decide +kernel), List.mem_of_getElem? (i := 471) (by decide +kernel), List.mem_of_getElem? (i := 472) (by decide +kernel)⟩
theorem lw_p9 : lw_okq (⟨"StarchedCollars$Town", "isSo", "(I)Z"⟩, 7) := ⟨⟨by decide +kernel, by decide +kernel⟩, List.mem_of_getElem? (i := 35) (by decide +kernel), List.mem_of_getElem? (i := 476) (by decide +kernel), List.mem_of_getElem? (i := 477) (by decide +kernel)⟩
theorem lw_p10 : lw_okq (⟨"StarchedCollars", "seenFrom", "(LStarchedCollars$Man;I)I"⟩, 7) := ⟨⟨by decide +kernel, by decide +kernel⟩, List.mem_of_getElem? (i := 19) (by decide +kernel), List.mem_of_getElem? (i := 485) (by decide +kernel), List.mem_of_getElem? (i := 486) (by decide +kernel)⟩
theorem lw_p11 : lw_okq (⟨"StarchedCollars", "bench", "(LStarchedCollars$Man;)I"⟩, 7) := ⟨⟨by decide +kernel, by decide +kernel⟩, List.mem_of_getElem? (i := 19) (by decide +kernel), List.mem_of_getElem? (i := 496) (by decide +kernel), List.mem_of_getElem? (i := 497) (by decide +kernel)⟩
theorem lw_p12 : lw_okq (⟨"StarchedCollars", "goneBehind", "(I)I"⟩, 7) := ⟨⟨by decide +kernel, by decide +kernel⟩, List.mem_of_getElem? (i := 19) (by decide +kernel), List.mem_of_getElem? (i := 529) (by decide +kernel), List.mem_of_getElem? (i := 530) (by decide +kernel)⟩
theorem lw_p13 : lw_okq (⟨"StarchedCollars", "goOn", "(LStarchedCollars$Man;I)V"⟩, 7) := ⟨⟨by decide +kernel, by decide +kernel⟩, List.mem_of_getElem? (i := 19) (by decide +kernel), List.mem_of_getElem? (i := 538) (by decide +kernel), List.mem_of_getElem? (i := 539) (by decide +kernel)⟩
theorem lw_p14 : lw_okq (⟨"StarchedCollars", "sharedCreed", "()I"⟩, 7) := ⟨⟨by decide +kernel, by decide +kernel⟩, List.mem_of_getElem? (i := 19) (by decide +kernel), List.mem_of_getElem? (i := 558) (by decide +kernel), List.mem_of_getElem? (i := 559) (by decide +kernel)⟩
theorem lw_p15 : lw_okq (⟨"StarchedCollars$Pairing", "together", "(LStarchedCollars$World;III)I"⟩, 1) := ⟨⟨by decide +kernel, by decide +kernel⟩, List.mem_of_getElem? (i := 228) (by decide +kernel), List.mem_of_getElem? (i := 587) (by decide +kernel), List.mem_of_getElem? (i := 588) (by decide +kernel)⟩
def lw_privs_1 : List (MethodName × Nat) := [(⟨"StarchedCollars$Reader", "readsClause", "()Z"⟩, 5), (⟨"StarchedCollars$Reader", "takes", "(C)Z"⟩, 5), (⟨"StarchedCollars$Reader", "takesAll", "(Ljava/lang/String;)Z"⟩, 5), (⟨"StarchedCollars$Reader", "readsNumber", "()Z"⟩, 5), (⟨"StarchedCollars$Reader", "readsEither", "(I)Z"⟩, 5), (⟨"StarchedCollars$Reader", "readsBoth", "(I)Z"⟩, 5), (⟨"StarchedCollars$Reader", "readsOne", "(I)Z"⟩, 5), (⟨"StarchedCollars$Reader", "readsTest", "()Z"⟩, 5), (⟨"StarchedCollars$Town", "holds", "(II)Z"⟩, 7), (⟨"StarchedCollars$Town", "isSo", "(I)Z"⟩, 7), (⟨"StarchedCollars", "seenFrom", "(LStarchedCollars$Man;I)I"⟩, 7), (⟨"StarchedCollars", "bench", "(LStarchedCollars$Man;)I"⟩, 7), (⟨"StarchedCollars", "goneBehind", "(I)I"⟩, 7), (⟨"StarchedCollars", "goOn", "(LStarchedCollars$Man;I)V"⟩, 7), (⟨"StarchedCollars", "sharedCreed", "()I"⟩, 7), (⟨"StarchedCollars$Pairing", "together", "(LStarchedCollars$World;III)I"⟩, 1)]
theorem lw_r1 : ∀ q ∈ lw_privs_1, lw_okq q := List.forall_mem_cons.mpr ⟨lw_p0, List.forall_mem_cons.mpr ⟨lw_p1, List.forall_mem_cons.mpr ⟨lw_p2, List.forall_mem_cons.mpr ⟨lw_p3, List.forall_mem_cons.mpr ⟨lw_p4, List.forall_mem_cons.mpr ⟨lw_p5, List.forall_mem_cons.mpr ⟨lw_p6, List.forall_mem_cons.mpr ⟨lw_p7, List.forall_mem_cons.mpr ⟨lw_p8, List.forall_mem_cons.mpr ⟨lw_p9, List.forall_mem_cons.mpr ⟨lw_p10, List.forall_mem_cons.mpr ⟨lw_p11, List.forall_mem_cons.mpr ⟨lw_p12, List.forall_mem_cons.mpr ⟨lw_p13, List.forall_mem_cons.mpr ⟨lw_p14, List.forall_mem_cons.mpr ⟨lw_p15, fun _ h => absurd h List.not_mem_nil⟩⟩⟩⟩⟩⟩⟩⟩⟩⟩⟩⟩⟩⟩⟩⟩
theorem lw_p16 : lw_okq (⟨"StarchedCollars$Pairing", "firstPartner", "(LStarchedCollars$World;II)I"⟩, 1) := ⟨⟨by decide +kernel, by decide +kernel⟩, List.mem_of_getElem? (i := 228) (by decide +kernel), List.mem_of_getElem? (i := 597) (by decide +kernel), List.mem_of_getElem? (i := 598) (by decide +kernel)⟩
theorem lw_p17 : lw_okq (⟨"StarchedCollars", "isNear", "(II)Z"⟩, 7) := ⟨⟨by decide +kernel, by decide +kernel⟩, List.mem_of_getElem? (i := 19) (by decide +kernel), List.mem_of_getElem? (i := 605) (by decide +kernel), List.mem_of_getElem? (i := 606) (by decide +kernel)⟩
theorem lw_p18 : lw_okq (⟨"StarchedCollars", "isGoneBehindWash", "(LStarchedCollars$Man;Z)Z"⟩, 7) := ⟨⟨by decide +kernel, by decide +kernel⟩, List.mem_of_getElem? (i := 19) (by decide +kernel), List.mem_of_getElem? (i := 613) (by decide +kernel), List.mem_of_getElem? (i := 614) (by decide +kernel)⟩
theorem lw_p19 : lw_okq (⟨"StarchedCollars", "fitting", "(LStarchedCollars$Man;IZ)I"⟩, 7) := ⟨⟨by decide +kernel, by decide +kernel⟩, List.mem_of_getElem? (i := 19) (by decide +kernel), List.mem_of_getElem? (i := 633) (by decide +kernel), List.mem_of_getElem? (i := 634) (by decide +kernel)⟩
theorem lw_p20 : lw_okq (⟨"StarchedCollars", "latestSeen", "(I)I"⟩, 7) := ⟨⟨by decide +kernel, by decide +kernel⟩, List.mem_of_getElem? (i := 19) (by decide +kernel), List.mem_of_getElem? (i := 637) (by decide +kernel), List.mem_of_getElem? (i := 638) (by decide +kernel)⟩
theorem lw_p21 : lw_okq (⟨"StarchedCollars", "isGhostAsSeen", "(I)Z"⟩, 7) := ⟨⟨by decide +kernel, by decide +kernel⟩, List.mem_of_getElem? (i := 19) (by decide +kernel), List.mem_of_getElem? (i := 642) (by decide +kernel), List.mem_of_getElem? (i := 643) (by decide +kernel)⟩
theorem lw_p22 : lw_okq (⟨"StarchedCollars", "isGhostAsSeenAt", "(I)Z"⟩, 7) := ⟨⟨by decide +kernel, by decide +kernel⟩, List.mem_of_getElem? (i := 19) (by decide +kernel), List.mem_of_getElem? (i := 646) (by decide +kernel), List.mem_of_getElem? (i := 647) (by decide +kernel)⟩
theorem lw_p23 : lw_okq (⟨"StarchedCollars", "followPlan", "()V"⟩, 7) := ⟨⟨by decide +kernel, by decide +kernel⟩, List.mem_of_getElem? (i := 19) (by decide +kernel), List.mem_of_getElem? (i := 674) (by decide +kernel), List.mem_of_getElem? (i := 675) (by decide +kernel)⟩
theorem lw_p24 : lw_okq (⟨"StarchedCollars$Actor", "run", "(ILStarchedCollars$Man;II)I"⟩, 2) := ⟨⟨by decide +kernel, by decide +kernel⟩, List.mem_of_getElem? (i := 213) (by decide +kernel), List.mem_of_getElem? (i := 696) (by decide +kernel), List.mem_of_getElem? (i := 697) (by decide +kernel)⟩
theorem lw_p25 : lw_okq (⟨"StarchedCollars$Actor", "keep", "(I)V"⟩, 2) := ⟨⟨by decide +kernel, by decide +kernel⟩, List.mem_of_getElem? (i := 213) (by decide +kernel), List.mem_of_getElem? (i := 700) (by decide +kernel), List.mem_of_getElem? (i := 701) (by decide +kernel)⟩
theorem lw_p26 : lw_okq (⟨"StarchedCollarsModel", "clauseHere", "()V"⟩, 20) := ⟨⟨by decide +kernel, by decide +kernel⟩, List.mem_of_getElem? (i := 742) (by decide +kernel), List.mem_of_getElem? (i := 820) (by decide +kernel), List.mem_of_getElem? (i := 821) (by decide +kernel)⟩
theorem lw_p27 : lw_okq (⟨"StarchedCollarsModel", "here", "()I"⟩, 20) := ⟨⟨by decide +kernel, by decide +kernel⟩, List.mem_of_getElem? (i := 742) (by decide +kernel), List.mem_of_getElem? (i := 824) (by decide +kernel), List.mem_of_getElem? (i := 825) (by decide +kernel)⟩
theorem lw_p28 : lw_okq (⟨"StarchedCollarsModel", "tellsHere", "(ILjava/lang/String;)V"⟩, 20) := ⟨⟨by decide +kernel, by decide +kernel⟩, List.mem_of_getElem? (i := 742) (by decide +kernel), List.mem_of_getElem? (i := 829) (by decide +kernel), List.mem_of_getElem? (i := 830) (by decide +kernel)⟩
theorem lw_p29 : lw_okq (⟨"StarchedCollarsModel", "spells", "(Ljava/lang/String;)V"⟩, 20) := ⟨⟨by decide +kernel, by decide +kernel⟩, List.mem_of_getElem? (i := 742) (by decide +kernel), List.mem_of_getElem? (i := 833) (by decide +kernel), List.mem_of_getElem? (i := 834) (by decide +kernel)⟩
theorem lw_p30 : lw_okq (⟨"StarchedCollarsModel", "must", "(I)V"⟩, 20) := ⟨⟨by decide +kernel, by decide +kernel⟩, List.mem_of_getElem? (i := 742) (by decide +kernel), List.mem_of_getElem? (i := 839) (by decide +kernel), List.mem_of_getElem? (i := 840) (by decide +kernel)⟩
theorem lw_p31 : lw_okq (⟨"StarchedCollarsModel", "figures", "()I"⟩, 20) := ⟨⟨by decide +kernel, by decide +kernel⟩, List.mem_of_getElem? (i := 742) (by decide +kernel), List.mem_of_getElem? (i := 843) (by decide +kernel), List.mem_of_getElem? (i := 844) (by decide +kernel)⟩
def lw_privs_2 : List (MethodName × Nat) := [(⟨"StarchedCollars$Pairing", "firstPartner", "(LStarchedCollars$World;II)I"⟩, 1), (⟨"StarchedCollars", "isNear", "(II)Z"⟩, 7), (⟨"StarchedCollars", "isGoneBehindWash", "(LStarchedCollars$Man;Z)Z"⟩, 7), (⟨"StarchedCollars", "fitting", "(LStarchedCollars$Man;IZ)I"⟩, 7), (⟨"StarchedCollars", "latestSeen", "(I)I"⟩, 7), (⟨"StarchedCollars", "isGhostAsSeen", "(I)Z"⟩, 7), (⟨"StarchedCollars", "isGhostAsSeenAt", "(I)Z"⟩, 7), (⟨"StarchedCollars", "followPlan", "()V"⟩, 7), (⟨"StarchedCollars$Actor", "run", "(ILStarchedCollars$Man;II)I"⟩, 2), (⟨"StarchedCollars$Actor", "keep", "(I)V"⟩, 2), (⟨"StarchedCollarsModel", "clauseHere", "()V"⟩, 20), (⟨"StarchedCollarsModel", "here", "()I"⟩, 20), (⟨"StarchedCollarsModel", "tellsHere", "(ILjava/lang/String;)V"⟩, 20), (⟨"StarchedCollarsModel", "spells", "(Ljava/lang/String;)V"⟩, 20), (⟨"StarchedCollarsModel", "must", "(I)V"⟩, 20), (⟨"StarchedCollarsModel", "figures", "()I"⟩, 20)]
theorem lw_r2 : ∀ q ∈ lw_privs_2, lw_okq q := List.forall_mem_cons.mpr ⟨lw_p16, List.forall_mem_cons.mpr ⟨lw_p17, List.forall_mem_cons.mpr ⟨lw_p18, List.forall_mem_cons.mpr ⟨lw_p19, List.forall_mem_cons.mpr ⟨lw_p20, List.forall_mem_cons.mpr ⟨lw_p21, List.forall_mem_cons.mpr ⟨lw_p22, List.forall_mem_cons.mpr ⟨lw_p23, List.forall_mem_cons.mpr ⟨lw_p24, List.forall_mem_cons.mpr ⟨lw_p25, List.forall_mem_cons.mpr ⟨lw_p26, List.forall_mem_cons.mpr ⟨lw_p27, List.forall_mem_cons.mpr ⟨lw_p28, List.forall_mem_cons.mpr ⟨lw_p29, List.forall_mem_cons.mpr ⟨lw_p30, List.forall_mem_cons.mpr ⟨lw_p31, fun _ h => absurd h List.not_mem_nil⟩⟩⟩⟩⟩⟩⟩⟩⟩⟩⟩⟩⟩⟩⟩⟩
theorem lw_p32 : lw_okq (⟨"StarchedCollarsModel", "second", "()I"⟩, 20) := ⟨⟨by decide +kernel, by decide +kernel⟩, List.mem_of_getElem? (i := 742) (by decide +kernel), List.mem_of_getElem? (i := 847) (by decide +kernel), List.mem_of_getElem? (i := 848) (by decide +kernel)⟩
theorem lw_p33 : lw_okq (⟨"StarchedCollarsModel", "much", "(ILjava/lang/String;)V"⟩, 20) := ⟨⟨by decide +kernel, by decide +kernel⟩, List.mem_of_getElem? (i := 742) (by decide +kernel), List.mem_of_getElem? (i := 852) (by decide +kernel), List.mem_of_getElem? (i := 853) (by decide +kernel)⟩
theorem lw_p34 : lw_okq (⟨"StarchedCollarsModel", "some", "()V"⟩, 20) := ⟨⟨by decide +kernel, by decide +kernel⟩, List.mem_of_getElem? (i := 742) (by decide +kernel), List.mem_of_getElem? (i := 856) (by decide +kernel), List.mem_of_getElem? (i := 857) (by decide +kernel)⟩
theorem lw_p35 : lw_okq (⟨"StarchedCollarsModel", "every", "()V"⟩, 20) := ⟨⟨by decide +kernel, by decide +kernel⟩, List.mem_of_getElem? (i := 742) (by decide +kernel), List.mem_of_getElem? (i := 860) (by decide +kernel), List.mem_of_getElem? (i := 861) (by decide +kernel)⟩
theorem lw_p36 : lw_okq (⟨"StarchedCollarsModel", "factor", "()V"⟩, 20) := ⟨⟨by decide +kernel, by decide +kernel⟩, List.mem_of_getElem? (i := 742) (by decide +kernel), List.mem_of_getElem? (i := 864) (by decide +kernel), List.mem_of_getElem? (i := 865) (by decide +kernel)⟩
theorem lw_p37 : lw_okq (⟨"StarchedCollarsModel", "emits", "(I)V"⟩, 20) := ⟨⟨by decide +kernel, by decide +kernel⟩, List.mem_of_getElem? (i := 742) (by decide +kernel), List.mem_of_getElem? (i := 868) (by decide +kernel), List.mem_of_getElem? (i := 869) (by decide +kernel)⟩
theorem lw_p38 : lw_okq (⟨"StarchedCollarsModel", "among", "(Ljava/lang/String;)I"⟩, 20) := ⟨⟨by decide +kernel, by decide +kernel⟩, List.mem_of_getElem? (i := 742) (by decide +kernel), List.mem_of_getElem? (i := 873) (by decide +kernel), List.mem_of_getElem? (i := 874) (by decide +kernel)⟩
theorem lw_p39 : lw_okq (⟨"StarchedCollarsModel", "isMan", "(I)Z"⟩, 20) := ⟨⟨by decide +kernel, by decide +kernel⟩, List.mem_of_getElem? (i := 742) (by decide +kernel), List.mem_of_getElem? (i := 887) (by decide +kernel), List.mem_of_getElem? (i := 888) (by decide +kernel)⟩
theorem lw_p40 : lw_okq (⟨"StarchedCollarsModel", "riseOf", "(I)I"⟩, 20) := ⟨⟨by decide +kernel, by decide +kernel⟩, List.mem_of_getElem? (i := 742) (by decide +kernel), List.mem_of_getElem? (i := 892) (by decide +kernel), List.mem_of_getElem? (i := 893) (by decide +kernel)⟩
theorem lw_p41 : lw_okq (⟨"StarchedCollarsModel", "sumOf", "(I)I"⟩, 20) := ⟨⟨by decide +kernel, by decide +kernel⟩, List.mem_of_getElem? (i := 742) (by decide +kernel), List.mem_of_getElem? (i := 896) (by decide +kernel), List.mem_of_getElem? (i := 897) (by decide +kernel)⟩
theorem lw_p42 : lw_okq (⟨"StarchedCollarsModel", "tellsOf", "(II)I"⟩, 20) := ⟨⟨by decide +kernel, by decide +kernel⟩, List.mem_of_getElem? (i := 742) (by decide +kernel), List.mem_of_getElem? (i := 903) (by decide +kernel), List.mem_of_getElem? (i := 904) (by decide +kernel)⟩
theorem lw_p43 : lw_okq (⟨"StarchedCollarsModel", "seenBy", "(I)I"⟩, 20) := ⟨⟨by decide +kernel, by decide +kernel⟩, List.mem_of_getElem? (i := 742) (by decide +kernel), List.mem_of_getElem? (i := 907) (by decide +kernel), List.mem_of_getElem? (i := 908) (by decide +kernel)⟩
theorem lw_p44 : lw_okq (⟨"StarchedCollarsModel", "doesSee", "(II)Z"⟩, 20) := ⟨⟨by decide +kernel, by decide +kernel⟩, List.mem_of_getElem? (i := 742) (by decide +kernel), List.mem_of_getElem? (i := 911) (by decide +kernel), List.mem_of_getElem? (i := 912) (by decide +kernel)⟩
theorem lw_p45 : lw_okq (⟨"StarchedCollarsModel", "benchOf", "(I)I"⟩, 20) := ⟨⟨by decide +kernel, by decide +kernel⟩, List.mem_of_getElem? (i := 742) (by decide +kernel), List.mem_of_getElem? (i := 915) (by decide +kernel), List.mem_of_getElem? (i := 916) (by decide +kernel)⟩
theorem lw_p46 : lw_okq (⟨"StarchedCollarsModel", "keeps", "()V"⟩, 20) := ⟨⟨by decide +kernel, by decide +kernel⟩, List.mem_of_getElem? (i := 742) (by decide +kernel), List.mem_of_getElem? (i := 919) (by decide +kernel), List.mem_of_getElem? (i := 920) (by decide +kernel)⟩
theorem lw_p47 : lw_okq (⟨"StarchedCollarsModel", "goesBack", "()V"⟩, 20) := ⟨⟨by decide +kernel, by decide +kernel⟩, List.mem_of_getElem? (i := 742) (by decide +kernel), List.mem_of_getElem? (i := 923) (by decide +kernel), List.mem_of_getElem? (i := 924) (by decide +kernel)⟩
def lw_privs_3 : List (MethodName × Nat) := [(⟨"StarchedCollarsModel", "second", "()I"⟩, 20), (⟨"StarchedCollarsModel", "much", "(ILjava/lang/String;)V"⟩, 20), (⟨"StarchedCollarsModel", "some", "()V"⟩, 20), (⟨"StarchedCollarsModel", "every", "()V"⟩, 20), (⟨"StarchedCollarsModel", "factor", "()V"⟩, 20), (⟨"StarchedCollarsModel", "emits", "(I)V"⟩, 20), (⟨"StarchedCollarsModel", "among", "(Ljava/lang/String;)I"⟩, 20), (⟨"StarchedCollarsModel", "isMan", "(I)Z"⟩, 20), (⟨"StarchedCollarsModel", "riseOf", "(I)I"⟩, 20), (⟨"StarchedCollarsModel", "sumOf", "(I)I"⟩, 20), (⟨"StarchedCollarsModel", "tellsOf", "(II)I"⟩, 20), (⟨"StarchedCollarsModel", "seenBy", "(I)I"⟩, 20), (⟨"StarchedCollarsModel", "doesSee", "(II)Z"⟩, 20), (⟨"StarchedCollarsModel", "benchOf", "(I)I"⟩, 20), (⟨"StarchedCollarsModel", "keeps", "()V"⟩, 20), (⟨"StarchedCollarsModel", "goesBack", "()V"⟩, 20)]
theorem lw_r3 : ∀ q ∈ lw_privs_3, lw_okq q := List.forall_mem_cons.mpr ⟨lw_p32, List.forall_mem_cons.mpr ⟨lw_p33, List.forall_mem_cons.mpr ⟨lw_p34, List.forall_mem_cons.mpr ⟨lw_p35, List.forall_mem_cons.mpr ⟨lw_p36, List.forall_mem_cons.mpr ⟨lw_p37, List.forall_mem_cons.mpr ⟨lw_p38, List.forall_mem_cons.mpr ⟨lw_p39, List.forall_mem_cons.mpr ⟨lw_p40, List.forall_mem_cons.mpr ⟨lw_p41, List.forall_mem_cons.mpr ⟨lw_p42, List.forall_mem_cons.mpr ⟨lw_p43, List.forall_mem_cons.mpr ⟨lw_p44, List.forall_mem_cons.mpr ⟨lw_p45, List.forall_mem_cons.mpr ⟨lw_p46, List.forall_mem_cons.mpr ⟨lw_p47, fun _ h => absurd h List.not_mem_nil⟩⟩⟩⟩⟩⟩⟩⟩⟩⟩⟩⟩⟩⟩⟩⟩
theorem lw_p48 : lw_okq (⟨"StarchedCollarsModel", "becomes", "(II)I"⟩, 20) := ⟨⟨by decide +kernel, by decide +kernel⟩, List.mem_of_getElem? (i := 742) (by decide +kernel), List.mem_of_getElem? (i := 931) (by decide +kernel), List.mem_of_getElem? (i := 932) (by decide +kernel)⟩
theorem lw_p49 : lw_okq (⟨"StarchedCollarsModel", "apartOf", "(II)I"⟩, 20) := ⟨⟨by decide +kernel, by decide +kernel⟩, List.mem_of_getElem? (i := 742) (by decide +kernel), List.mem_of_getElem? (i := 951) (by decide +kernel), List.mem_of_getElem? (i := 952) (by decide +kernel)⟩
theorem lw_p50 : lw_okq (⟨"StarchedCollarsModel", "ones", "(I)I"⟩, 20) := ⟨⟨by decide +kernel, by decide +kernel⟩, List.mem_of_getElem? (i := 742) (by decide +kernel), List.mem_of_getElem? (i := 959) (by decide +kernel), List.mem_of_getElem? (i := 960) (by decide +kernel)⟩
theorem lw_p51 : lw_okq (⟨"StarchedCollarsModel", "sharedCreed", "()I"⟩, 20) := ⟨⟨by decide +kernel, by decide +kernel⟩, List.mem_of_getElem? (i := 742) (by decide +kernel), List.mem_of_getElem? (i := 963) (by decide +kernel), List.mem_of_getElem? (i := 964) (by decide +kernel)⟩
theorem lw_p52 : lw_okq (⟨"StarchedCollarsModel", "goesOn", "(I)V"⟩, 20) := ⟨⟨by decide +kernel, by decide +kernel⟩, List.mem_of_getElem? (i := 742) (by decide +kernel), List.mem_of_getElem? (i := 971) (by decide +kernel), List.mem_of_getElem? (i := 972) (by decide +kernel)⟩
theorem lw_p53 : lw_okq (⟨"StarchedCollarsModel", "goes", "()V"⟩, 20) := ⟨⟨by decide +kernel, by decide +kernel⟩, List.mem_of_getElem? (i := 742) (by decide +kernel), List.mem_of_getElem? (i := 975) (by decide +kernel), List.mem_of_getElem? (i := 976) (by decide +kernel)⟩
theorem lw_p54 : lw_okq (⟨"StarchedCollarsModel", "rises", "(I)V"⟩, 20) := ⟨⟨by decide +kernel, by decide +kernel⟩, List.mem_of_getElem? (i := 742) (by decide +kernel), List.mem_of_getElem? (i := 979) (by decide +kernel), List.mem_of_getElem? (i := 980) (by decide +kernel)⟩
theorem lw_p55 : lw_okq (⟨"StarchedCollarsModel", "goesAlone", "(I)V"⟩, 20) := ⟨⟨by decide +kernel, by decide +kernel⟩, List.mem_of_getElem? (i := 742) (by decide +kernel), List.mem_of_getElem? (i := 994) (by decide +kernel), List.mem_of_getElem? (i := 995) (by decide +kernel)⟩
theorem lw_p56 : lw_okq (⟨"StarchedCollarsModel", "looksForWalk", "()V"⟩, 20) := ⟨⟨by decide +kernel, by decide +kernel⟩, List.mem_of_getElem? (i := 742) (by decide +kernel), List.mem_of_getElem? (i := 1002) (by decide +kernel), List.mem_of_getElem? (i := 1003) (by decide +kernel)⟩
theorem lw_p57 : lw_okq (⟨"StarchedCollarsModel", "walksFrom", "(II)V"⟩, 20) := ⟨⟨by decide +kernel, by decide +kernel⟩, List.mem_of_getElem? (i := 742) (by decide +kernel), List.mem_of_getElem? (i := 1007) (by decide +kernel), List.mem_of_getElem? (i := 1008) (by decide +kernel)⟩
theorem lw_p58 : lw_okq (⟨"StarchedCollarsModel", "firstWithout", "()I"⟩, 20) := ⟨⟨by decide +kernel, by decide +kernel⟩, List.mem_of_getElem? (i := 742) (by decide +kernel), List.mem_of_getElem? (i := 1011) (by decide +kernel), List.mem_of_getElem? (i := 1012) (by decide +kernel)⟩
theorem lw_p59 : lw_okq (⟨"StarchedCollarsModel", "isTable", "(II)Z"⟩, 20) := ⟨⟨by decide +kernel, by decide +kernel⟩, List.mem_of_getElem? (i := 742) (by decide +kernel), List.mem_of_getElem? (i := 1019) (by decide +kernel), List.mem_of_getElem? (i := 1020) (by decide +kernel)⟩
theorem lw_p60 : lw_okq (⟨"StarchedCollarsModel", "goneBy", "(I)I"⟩, 20) := ⟨⟨by decide +kernel, by decide +kernel⟩, List.mem_of_getElem? (i := 742) (by decide +kernel), List.mem_of_getElem? (i := 1027) (by decide +kernel), List.mem_of_getElem? (i := 1028) (by decide +kernel)⟩
theorem lw_p61 : lw_okq (⟨"StarchedCollarsModel", "fitting", "(IIII)I"⟩, 20) := ⟨⟨by decide +kernel, by decide +kernel⟩, List.mem_of_getElem? (i := 742) (by decide +kernel), List.mem_of_getElem? (i := 1039) (by decide +kernel), List.mem_of_getElem? (i := 1040) (by decide +kernel)⟩
theorem lw_p62 : lw_okq (⟨"StarchedCollarsModel", "areAsSeen", "(I)Z"⟩, 20) := ⟨⟨by decide +kernel, by decide +kernel⟩, List.mem_of_getElem? (i := 742) (by decide +kernel), List.mem_of_getElem? (i := 1043) (by decide +kernel), List.mem_of_getElem? (i := 1044) (by decide +kernel)⟩
theorem lw_p63 : lw_okq (⟨"StarchedCollarsModel", "isAsSeen", "(II)Z"⟩, 20) := ⟨⟨by decide +kernel, by decide +kernel⟩, List.mem_of_getElem? (i := 742) (by decide +kernel), List.mem_of_getElem? (i := 1047) (by decide +kernel), List.mem_of_getElem? (i := 1048) (by decide +kernel)⟩
def lw_privs_4 : List (MethodName × Nat) := [(⟨"StarchedCollarsModel", "becomes", "(II)I"⟩, 20), (⟨"StarchedCollarsModel", "apartOf", "(II)I"⟩, 20), (⟨"StarchedCollarsModel", "ones", "(I)I"⟩, 20), (⟨"StarchedCollarsModel", "sharedCreed", "()I"⟩, 20), (⟨"StarchedCollarsModel", "goesOn", "(I)V"⟩, 20), (⟨"StarchedCollarsModel", "goes", "()V"⟩, 20), (⟨"StarchedCollarsModel", "rises", "(I)V"⟩, 20), (⟨"StarchedCollarsModel", "goesAlone", "(I)V"⟩, 20), (⟨"StarchedCollarsModel", "looksForWalk", "()V"⟩, 20), (⟨"StarchedCollarsModel", "walksFrom", "(II)V"⟩, 20), (⟨"StarchedCollarsModel", "firstWithout", "()I"⟩, 20), (⟨"StarchedCollarsModel", "isTable", "(II)Z"⟩, 20), (⟨"StarchedCollarsModel", "goneBy", "(I)I"⟩, 20), (⟨"StarchedCollarsModel", "fitting", "(IIII)I"⟩, 20), (⟨"StarchedCollarsModel", "areAsSeen", "(I)Z"⟩, 20), (⟨"StarchedCollarsModel", "isAsSeen", "(II)Z"⟩, 20)]
theorem lw_r4 : ∀ q ∈ lw_privs_4, lw_okq q := List.forall_mem_cons.mpr ⟨lw_p48, List.forall_mem_cons.mpr ⟨lw_p49, List.forall_mem_cons.mpr ⟨lw_p50, List.forall_mem_cons.mpr ⟨lw_p51, List.forall_mem_cons.mpr ⟨lw_p52, List.forall_mem_cons.mpr ⟨lw_p53, List.forall_mem_cons.mpr ⟨lw_p54, List.forall_mem_cons.mpr ⟨lw_p55, List.forall_mem_cons.mpr ⟨lw_p56, List.forall_mem_cons.mpr ⟨lw_p57, List.forall_mem_cons.mpr ⟨lw_p58, List.forall_mem_cons.mpr ⟨lw_p59, List.forall_mem_cons.mpr ⟨lw_p60, List.forall_mem_cons.mpr ⟨lw_p61, List.forall_mem_cons.mpr ⟨lw_p62, List.forall_mem_cons.mpr ⟨lw_p63, fun _ h => absurd h List.not_mem_nil⟩⟩⟩⟩⟩⟩⟩⟩⟩⟩⟩⟩⟩⟩⟩⟩
theorem lw_p64 : lw_okq (⟨"StarchedCollarsModel", "goesBy", "(II)V"⟩, 20) := ⟨⟨by decide +kernel, by decide +kernel⟩, List.mem_of_getElem? (i := 742) (by decide +kernel), List.mem_of_getElem? (i := 1076) (by decide +kernel), List.mem_of_getElem? (i := 1077) (by decide +kernel)⟩
theorem lw_p65 : lw_okq (⟨"StarchedCollarsModel", "heights", "()I"⟩, 20) := ⟨⟨by decide +kernel, by decide +kernel⟩, List.mem_of_getElem? (i := 742) (by decide +kernel), List.mem_of_getElem? (i := 1080) (by decide +kernel), List.mem_of_getElem? (i := 1081) (by decide +kernel)⟩
theorem lw_p66 : lw_okq (⟨"StarchedCollarsModel", "nodsActs", "(I)I"⟩, 20) := ⟨⟨by decide +kernel, by decide +kernel⟩, List.mem_of_getElem? (i := 742) (by decide +kernel), List.mem_of_getElem? (i := 1096) (by decide +kernel), List.mem_of_getElem? (i := 1097) (by decide +kernel)⟩
theorem lw_p67 : lw_okq (⟨"StarchedCollarsModel", "ranBody", "(I)V"⟩, 20) := ⟨⟨by decide +kernel, by decide +kernel⟩, List.mem_of_getElem? (i := 742) (by decide +kernel), List.mem_of_getElem? (i := 1103) (by decide +kernel), List.mem_of_getElem? (i := 1104) (by decide +kernel)⟩
theorem lw_p68 : lw_okq (⟨"StarchedCollarsModel", "plainNods", "(I)I"⟩, 20) := ⟨⟨by decide +kernel, by decide +kernel⟩, List.mem_of_getElem? (i := 742) (by decide +kernel), List.mem_of_getElem? (i := 1107) (by decide +kernel), List.mem_of_getElem? (i := 1108) (by decide +kernel)⟩
theorem lw_p69 : lw_okq (⟨"StarchedCollarsModel", "preachesActs", "(I)I"⟩, 20) := ⟨⟨by decide +kernel, by decide +kernel⟩, List.mem_of_getElem? (i := 742) (by decide +kernel), List.mem_of_getElem? (i := 1111) (by decide +kernel), List.mem_of_getElem? (i := 1112) (by decide +kernel)⟩
theorem lw_p70 : lw_okq (⟨"StarchedCollarsModel", "plainPreaches", "(I)I"⟩, 20) := ⟨⟨by decide +kernel, by decide +kernel⟩, List.mem_of_getElem? (i := 742) (by decide +kernel), List.mem_of_getElem? (i := 1115) (by decide +kernel), List.mem_of_getElem? (i := 1116) (by decide +kernel)⟩
theorem lw_p71 : lw_okq (⟨"StarchedCollarsModel", "turningActs", "(I)I"⟩, 20) := ⟨⟨by decide +kernel, by decide +kernel⟩, List.mem_of_getElem? (i := 742) (by decide +kernel), List.mem_of_getElem? (i := 1119) (by decide +kernel), List.mem_of_getElem? (i := 1120) (by decide +kernel)⟩
theorem lw_p72 : lw_okq (⟨"StarchedCollarsModel", "plainTelling", "(I)I"⟩, 20) := ⟨⟨by decide +kernel, by decide +kernel⟩, List.mem_of_getElem? (i := 742) (by decide +kernel), List.mem_of_getElem? (i := 1123) (by decide +kernel), List.mem_of_getElem? (i := 1124) (by decide +kernel)⟩
def lw_privs_5 : List (MethodName × Nat) := [(⟨"StarchedCollarsModel", "goesBy", "(II)V"⟩, 20), (⟨"StarchedCollarsModel", "heights", "()I"⟩, 20), (⟨"StarchedCollarsModel", "nodsActs", "(I)I"⟩, 20), (⟨"StarchedCollarsModel", "ranBody", "(I)V"⟩, 20), (⟨"StarchedCollarsModel", "plainNods", "(I)I"⟩, 20), (⟨"StarchedCollarsModel", "preachesActs", "(I)I"⟩, 20), (⟨"StarchedCollarsModel", "plainPreaches", "(I)I"⟩, 20), (⟨"StarchedCollarsModel", "turningActs", "(I)I"⟩, 20), (⟨"StarchedCollarsModel", "plainTelling", "(I)I"⟩, 20)]
theorem lw_r5 : ∀ q ∈ lw_privs_5, lw_okq q := List.forall_mem_cons.mpr ⟨lw_p64, List.forall_mem_cons.mpr ⟨lw_p65, List.forall_mem_cons.mpr ⟨lw_p66, List.forall_mem_cons.mpr ⟨lw_p67, List.forall_mem_cons.mpr ⟨lw_p68, List.forall_mem_cons.mpr ⟨lw_p69, List.forall_mem_cons.mpr ⟨lw_p70, List.forall_mem_cons.mpr ⟨lw_p71, List.forall_mem_cons.mpr ⟨lw_p72, fun _ h => absurd h List.not_mem_nil⟩⟩⟩⟩⟩⟩⟩⟩⟩
def lw_privs : List (MethodName × Nat) := lw_privs_1 ++ (lw_privs_2 ++ (lw_privs_3 ++ (lw_privs_4 ++ (lw_privs_5))))
def lw_tbl : List Cond := k2_sels lw_privs ++ tables_1
theorem lw_privs_ok : ∀ q ∈ lw_privs, lw_okq q := by
  show ∀ q ∈ lw_privs_1 ++ (lw_privs_2 ++ (lw_privs_3 ++ (lw_privs_4 ++ (lw_privs_5)))), lw_okq q
  exact List.forall_mem_append.mpr ⟨lw_r1, List.forall_mem_append.mpr ⟨lw_r2, List.forall_mem_append.mpr ⟨lw_r3, List.forall_mem_append.mpr ⟨lw_r4, lw_r5⟩⟩⟩⟩
def RX0 : String := "StarchedCollars$Actor"
def TX0 : u_T := fun k => match k with
  | 0 => ("StarchedCollars$Actor", "bodies", "[I", true)
  | _ => ("StarchedCollars$Actor", "ran", "I", false)
def tyX0 : Nat → FieldType := fun k => match k with
  | 0 => .array .int
  | _ => .int
abbrev wsX00 : List Cond := u_ws RX0 TX0 2
theorem nmX0 : ∀ a, a < 2 → ∀ b, b < 2 → a ≠ b → (TX0 a).2.1 ≠ (TX0 b).2.1 := by decide +kernel
theorem tyX0_ok : ∀ k, k < 2 → parseFieldDescriptor (TX0 k).2.2.1 = some (tyX0 k) := by decide +kernel
def RX1 : String := "StarchedCollars$Man"
def TX1 : u_T := fun k => match k with
  | 0 => ("StarchedCollars$Man", "number", "I", false)
  | 1 => ("StarchedCollars$Man", "kind", "I", false)
  | 2 => ("StarchedCollars$Man", "v", "I", false)
  | 3 => ("StarchedCollars$Man", "place", "I", false)
  | 4 => ("StarchedCollars$Man", "creed", "I", false)
  | 5 => ("StarchedCollars$Man", "height", "I", false)
  | 6 => ("StarchedCollars$Man", "isGone", "Z", false)
  | 7 => ("StarchedCollars$Man", "isAway", "Z", false)
  | _ => ("StarchedCollars$Man", "row", "[I", true)
def tyX1 : Nat → FieldType := fun k => match k with
  | 0 => .int
  | 1 => .int
  | 2 => .int
  | 3 => .int
  | 4 => .int
  | 5 => .int
  | 6 => .boolean
  | 7 => .boolean
  | _ => .array .int
abbrev wsX10 : List Cond := u_ws RX1 TX1 9
theorem nmX1 : ∀ a, a < 9 → ∀ b, b < 9 → a ≠ b → (TX1 a).2.1 ≠ (TX1 b).2.1 := by decide +kernel
theorem tyX1_ok : ∀ k, k < 9 → parseFieldDescriptor (TX1 k).2.2.1 = some (tyX1 k) := by decide +kernel
def RX2 : String := "StarchedCollars$Pairing"
def TX2 : u_T := fun k => match k with
  | _ => ("StarchedCollars$Pairing", "least", "[I", true)
def tyX2 : Nat → FieldType := fun k => match k with
  | _ => .array .int
abbrev wsX20 : List Cond := u_ws RX2 TX2 1
theorem nmX2 : ∀ a, a < 1 → ∀ b, b < 1 → a ≠ b → (TX2 a).2.1 ≠ (TX2 b).2.1 := by decide +kernel
theorem tyX2_ok : ∀ k, k < 1 → parseFieldDescriptor (TX2 k).2.2.1 = some (tyX2 k) := by decide +kernel
def RX3 : String := "StarchedCollars$Reader"
def TX3 : u_T := fun k => match k with
  | 0 => ("StarchedCollars$Reader", "draft", "LStarchedCollars$Town;", true)
  | 1 => ("StarchedCollars$Reader", "text", "[B", true)
  | 2 => ("StarchedCollars$Reader", "size", "I", false)
  | 3 => ("StarchedCollars$Reader", "at", "I", false)
  | _ => ("StarchedCollars$Reader", "number", "I", false)
def tyX3 : Nat → FieldType := fun k => match k with
  | 0 => .object "StarchedCollars$Town"
  | 1 => .array .byte
  | 2 => .int
  | 3 => .int
  | _ => .int
abbrev wsX30 : List Cond := u_ws RX3 TX3 5
theorem nmX3 : ∀ a, a < 5 → ∀ b, b < 5 → a ≠ b → (TX3 a).2.1 ≠ (TX3 b).2.1 := by decide +kernel
theorem tyX3_ok : ∀ k, k < 5 → parseFieldDescriptor (TX3 k).2.2.1 = some (tyX3 k) := by decide +kernel
def RX4 : String := "StarchedCollars$Rows"
def TX4 : u_T := fun k => match k with
  | 0 => ("StarchedCollars$Rows", "first", "[I", true)
  | 1 => ("StarchedCollars$Rows", "second", "[I", true)
  | 2 => ("StarchedCollars$Rows", "third", "[I", true)
  | _ => ("StarchedCollars$Rows", "size", "I", false)
def tyX4 : Nat → FieldType := fun k => match k with
  | 0 => .array .int
  | 1 => .array .int
  | 2 => .array .int
  | _ => .int
abbrev wsX40 : List Cond := u_ws RX4 TX4 4
theorem nmX4 : ∀ a, a < 4 → ∀ b, b < 4 → a ≠ b → (TX4 a).2.1 ≠ (TX4 b).2.1 := by decide +kernel
theorem tyX4_ok : ∀ k, k < 4 → parseFieldDescriptor (TX4 k).2.2.1 = some (tyX4 k) := by decide +kernel
def RX5 : String := "StarchedCollars$Town"
def TX5 : u_T := fun k => match k with
  | 0 => ("StarchedCollars$Town", "burst", "I", false)
  | 1 => ("StarchedCollars$Town", "clauses", "I", false)
  | 2 => ("StarchedCollars$Town", "amounts", "[I", true)
  | 3 => ("StarchedCollars$Town", "ends", "[I", true)
  | 4 => ("StarchedCollars$Town", "codes", "[I", true)
  | 5 => ("StarchedCollars$Town", "codeCount", "I", false)
  | _ => ("StarchedCollars$Town", "facts", "[I", true)
def tyX5 : Nat → FieldType := fun k => match k with
  | 0 => .int
  | 1 => .int
  | 2 => .array .int
  | 3 => .array .int
  | 4 => .array .int
  | 5 => .int
  | _ => .array .int
abbrev wsX50 : List Cond := u_ws RX5 TX5 7
theorem nmX5 : ∀ a, a < 7 → ∀ b, b < 7 → a ≠ b → (TX5 a).2.1 ≠ (TX5 b).2.1 := by decide +kernel
theorem tyX5_ok : ∀ k, k < 7 → parseFieldDescriptor (TX5 k).2.2.1 = some (tyX5 k) := by decide +kernel
def RX6 : String := "StarchedCollars$World"
def TX6 : u_T := fun k => match k with
  | 0 => ("StarchedCollars$World", "men", "[LStarchedCollars$Man;", true)
  | 1 => ("StarchedCollars$World", "menCount", "I", false)
  | 2 => ("StarchedCollars$World", "week", "I", false)
  | 3 => ("StarchedCollars$World", "tape", "[B", true)
  | 4 => ("StarchedCollars$World", "tapeSize", "I", false)
  | 5 => ("StarchedCollars$World", "town", "LStarchedCollars$Town;", true)
  | 6 => ("StarchedCollars$World", "townCount", "I", false)
  | 7 => ("StarchedCollars$World", "seen", "LStarchedCollars$Rows;", true)
  | 8 => ("StarchedCollars$World", "plan", "LStarchedCollars$Rows;", true)
  | _ => ("StarchedCollars$World", "book", "LStarchedCollars$Rows;", true)
def tyX6 : Nat → FieldType := fun k => match k with
  | 0 => .array (.object "StarchedCollars$Man")
  | 1 => .int
  | 2 => .int
  | 3 => .array .byte
  | 4 => .int
  | 5 => .object "StarchedCollars$Town"
  | 6 => .int
  | 7 => .object "StarchedCollars$Rows"
  | 8 => .object "StarchedCollars$Rows"
  | _ => .object "StarchedCollars$Rows"
abbrev wsX60 : List Cond := u_ws RX6 TX6 10
theorem nmX6 : ∀ a, a < 10 → ∀ b, b < 10 → a ≠ b → (TX6 a).2.1 ≠ (TX6 b).2.1 := by decide +kernel
theorem tyX6_ok : ∀ k, k < 10 → parseFieldDescriptor (TX6 k).2.2.1 = some (tyX6 k) := by decide +kernel
def RX7 : String := "StarchedCollars"
def TX7 : u_T := fun k => match k with
  | 0 => ("StarchedCollars", "now", "LStarchedCollars$World;", true)
  | 1 => ("StarchedCollars", "image", "LStarchedCollars$World;", true)
  | 2 => ("StarchedCollars", "isImageTaken", "Z", false)
  | 3 => ("StarchedCollars", "ghost", "LStarchedCollars$Man;", true)
  | 4 => ("StarchedCollars", "reader", "LStarchedCollars$Reader;", true)
  | 5 => ("StarchedCollars", "actor", "LStarchedCollars$Actor;", true)
  | _ => ("StarchedCollars", "pairing", "LStarchedCollars$Pairing;", true)
def tyX7 : Nat → FieldType := fun k => match k with
  | 0 => .object "StarchedCollars$World"
  | 1 => .object "StarchedCollars$World"
  | 2 => .boolean
  | 3 => .object "StarchedCollars$Man"
  | 4 => .object "StarchedCollars$Reader"
  | 5 => .object "StarchedCollars$Actor"
  | _ => .object "StarchedCollars$Pairing"
abbrev wsX70 : List Cond := u_ws RX7 TX7 7
theorem nmX7 : ∀ a, a < 7 → ∀ b, b < 7 → a ≠ b → (TX7 a).2.1 ≠ (TX7 b).2.1 := by decide +kernel
theorem tyX7_ok : ∀ k, k < 7 → parseFieldDescriptor (TX7 k).2.2.1 = some (tyX7 k) := by decide +kernel
def RX8 : String := "StarchedCollarsModel"
def TX8 : u_T := fun k => match k with
  | 0 => ("StarchedCollarsModel", "thrown", "I", false)
  | 1 => ("StarchedCollarsModel", "s", "[I", true)
  | 2 => ("StarchedCollarsModel", "image", "[I", true)
  | 3 => ("StarchedCollarsModel", "frame", "[I", true)
  | 4 => ("StarchedCollarsModel", "hasImage", "Z", false)
  | 5 => ("StarchedCollarsModel", "act", "I", false)
  | 6 => ("StarchedCollarsModel", "spot", "I", false)
  | 7 => ("StarchedCollarsModel", "end", "I", false)
  | 8 => ("StarchedCollarsModel", "isWrong", "Z", false)
  | 9 => ("StarchedCollarsModel", "open", "I", false)
  | 10 => ("StarchedCollarsModel", "by", "[I", true)
  | 11 => ("StarchedCollarsModel", "truths", "[Z", true)
  | 12 => ("StarchedCollarsModel", "line", "[I", true)
  | 13 => ("StarchedCollarsModel", "bestLine", "[I", true)
  | 14 => ("StarchedCollarsModel", "nearest", "I", false)
  | 15 => ("StarchedCollarsModel", "bodies", "[I", true)
  | 16 => ("StarchedCollarsModel", "ran", "I", false)
  | 17 => ("StarchedCollarsModel", "kind", "I", false)
  | 18 => ("StarchedCollarsModel", "number", "I", false)
  | _ => ("StarchedCollarsModel", "tellsV", "I", false)
def tyX8 : Nat → FieldType := fun k => match k with
  | 0 => .int
  | 1 => .array .int
  | 2 => .array .int
  | 3 => .array .int
  | 4 => .boolean
  | 5 => .int
  | 6 => .int
  | 7 => .int
  | 8 => .boolean
  | 9 => .int
  | 10 => .array .int
  | 11 => .array .boolean
  | 12 => .array .int
  | 13 => .array .int
  | 14 => .int
  | 15 => .array .int
  | 16 => .int
  | 17 => .int
  | 18 => .int
  | _ => .int
abbrev wsX80 : List Cond := u_ws RX8 TX8 20
theorem nmX8 : ∀ a, a < 20 → ∀ b, b < 20 → a ≠ b → (TX8 a).2.1 ≠ (TX8 b).2.1 := by decide +kernel
theorem tyX8_ok : ∀ k, k < 20 → parseFieldDescriptor (TX8 k).2.2.1 = some (tyX8 k) := by decide +kernel
abbrev vwCl : List vw_C := [(RX0, TX0, 2), (RX1, TX1, 9), (RX2, TX2, 1), (RX3, TX3, 5), (RX4, TX4, 4), (RX5, TX5, 7), (RX6, TX6, 10), (RX7, TX7, 7), (RX8, TX8, 20)]
theorem x_in0 : ∀ w ∈ wsX00, w ∈ lw_tbl := by decide +kernel
theorem x_in1 : ∀ w ∈ wsX10, w ∈ lw_tbl := by decide +kernel
theorem x_in2 : ∀ w ∈ wsX20, w ∈ lw_tbl := by decide +kernel
theorem x_in3 : ∀ w ∈ wsX30, w ∈ lw_tbl := by decide +kernel
theorem x_in4 : ∀ w ∈ wsX40, w ∈ lw_tbl := by decide +kernel
theorem x_in5 : ∀ w ∈ wsX50, w ∈ lw_tbl := by decide +kernel
theorem x_in6 : ∀ w ∈ wsX60, w ∈ lw_tbl := by decide +kernel
theorem x_in7 : ∀ w ∈ wsX70, w ∈ lw_tbl := by decide +kernel
theorem x_in8 : ∀ w ∈ wsX80, w ∈ lw_tbl := by decide +kernel
end
section
abbrev XO := Nat × Nat × Jvm.ClassFile.Instr × Nat × Nat × Nat × List Nat
abbrev XI := MethodName × ByteArray × Nat × Option FieldType × List XO
-- 0 StarchedCollarsLaw.law([I)Z maxLocals 4
def xo_0_0 : List XO := [(0, 3, .new 7, 1, 7, 0, [1018, 1019, 1001]), (3, 1, .dup, 2, 0, 0, []), (4, 3, .invokespecial 9, 3, 62, 0, [1020, 1021, 1001, 1022]), (7, 1, .astore_n 1, 4, 0, 0, []), (8, 3, .new 10, 5, 8, 0, [4021, 4022, 1009]), (11, 1, .dup, 6, 0, 0, []), (12, 3, .invokespecial 12, 7, 108, 0, [4023, 4024, 1009, 4025]), (15, 1, .astore_n 2, 8, 0, 0, []), (16, 1, .iconst 0, 9, 0, 0, []), (17, 1, .istore_n 3, 10, 0, 0, []), (18, 1, .iload_n 3, 11, 0, 0, []), (19, 1, .aload_n 0, 12, 0, 0, []), (20, 1, .arraylength, 13, 0, 0, []), (21, 1, .iconst 5, 14, 0, 0, []), (22, 1, .isub, 15, 0, 0, []), (23, 3, .if_icmp .gt 1092, 16, 759, 0, []), (26, 1, .aload_n 0, 17, 0, 0, []), (27, 1, .iload_n 3, 18, 0, 0, []), (28, 1, .iaload, 19, 0, 0, []), (29, 2, .bipush 31, 20, 0, 0, []), (31, 1, .iand, 21, 0, 0, []), (32, 140, .tableswitch 1077 0 30 #[140, 163, 176, 229, 262, 305, 348, 397, 446, 479, 502, 525, 558, 581, 604, 627, 650, 693, 726, 759, 803, 827, 860, 883, 916, 929, 972, 995, 1028, 1041, 1054], 22, 0, 0, [757, 22, 39, 46, 93, 120, 157, 194, 229, 264, 291, 308, 325, 352, 369, 386, 403, 420, 457, 484, 511, 549, 567, 594, 611, 638, 645, 682, 699, 726, 733, 740]), (172, 1, .aload_n 1, 23, 0, 0, []), (173, 1, .aload_n 0, 24, 0, 0, []), (174, 1, .iload_n 3, 25, 0, 0, []), (175, 1, .iconst 1, 26, 0, 0, []), (176, 1, .iadd, 27, 0, 0, []), (177, 1, .iaload, 28, 0, 0, []), (178, 3, .invokevirtual 13, 29, 63, 1, [2020, 2021, 2022, 1001, 2023]), (181, 1, .aload_n 2, 30, 0, 0, []), (182, 1, .aload_n 0, 31, 0, 0, []), (183, 1, .iload_n 3, 32, 0, 0, []), (184, 1, .iconst 1, 33, 0, 0, []), (185, 1, .iadd, 34, 0, 0, []), (186, 1, .iaload, 35, 0, 0, []), (187, 3, .invokevirtual 17, 36, 114, 1, [4088, 4089, 4090, 1009, 4091]), (190, 3, .if_icmp .eq 919, 37, 757, 0, []), (193, 1, .iconst 0, 38, 0, 0, []), (194, 1, .ireturn, 39, 0, 0, []), (195, 1, .aload_n 1, 40, 0, 0, []), (196, 3, .invokevirtual 18, 41, 64, 0, [2027, 2028, 2029, 1001, 2030]), (199, 1, .aload_n 2, 42, 0, 0, []), (200, 3, .invokevirtual 22, 43, 128, 0, [4095, 4096, 4097, 1009, 4098]), (203, 3, .if_icmp .eq 906, 44, 757, 0, []), (206, 1, .iconst 0, 45, 0, 0, []), (207, 1, .ireturn, 46, 0, 0, []), (208, 1, .aload_n 1, 47, 0, 0, []), (209, 1, .aload_n 0, 48, 0, 0, []), (210, 1, .iload_n 3, 49, 0, 0, []), (211, 1, .iconst 1, 50, 0, 0, [])]
def xo_0_1 : List XO := [(212, 1, .iadd, 51, 0, 0, []), (213, 1, .iaload, 52, 0, 0, []), (214, 1, .aload_n 0, 53, 0, 0, []), (215, 1, .iload_n 3, 54, 0, 0, []), (216, 1, .iconst 2, 55, 0, 0, []), (217, 1, .iadd, 56, 0, 0, []), (218, 1, .iaload, 57, 0, 0, []), (219, 1, .aload_n 0, 58, 0, 0, []), (220, 1, .iload_n 3, 59, 0, 0, []), (221, 1, .iconst 3, 60, 0, 0, []), (222, 1, .iadd, 61, 0, 0, []), (223, 1, .iaload, 62, 0, 0, []), (224, 1, .aload_n 0, 63, 0, 0, []), (225, 1, .iload_n 3, 64, 0, 0, []), (226, 1, .iconst 4, 65, 0, 0, []), (227, 1, .iadd, 66, 0, 0, []), (228, 1, .iaload, 67, 0, 0, []), (229, 3, .invokevirtual 23, 68, 65, 4, [2203, 2204, 2205, 1001, 2206]), (232, 1, .aload_n 2, 69, 0, 0, []), (233, 1, .aload_n 0, 70, 0, 0, []), (234, 1, .iload_n 3, 71, 0, 0, []), (235, 1, .iconst 1, 72, 0, 0, []), (236, 1, .iadd, 73, 0, 0, []), (237, 1, .iaload, 74, 0, 0, []), (238, 1, .aload_n 0, 75, 0, 0, []), (239, 1, .iload_n 3, 76, 0, 0, []), (240, 1, .iconst 2, 77, 0, 0, []), (241, 1, .iadd, 78, 0, 0, []), (242, 1, .iaload, 79, 0, 0, []), (243, 1, .aload_n 0, 80, 0, 0, []), (244, 1, .iload_n 3, 81, 0, 0, []), (245, 1, .iconst 3, 82, 0, 0, []), (246, 1, .iadd, 83, 0, 0, []), (247, 1, .iaload, 84, 0, 0, []), (248, 1, .aload_n 0, 85, 0, 0, []), (249, 1, .iload_n 3, 86, 0, 0, []), (250, 1, .iconst 4, 87, 0, 0, []), (251, 1, .iadd, 88, 0, 0, []), (252, 1, .iaload, 89, 0, 0, []), (253, 3, .invokevirtual 27, 90, 138, 4, [4158, 4159, 4160, 1009, 4161]), (256, 3, .if_icmp .eq 853, 91, 757, 0, []), (259, 1, .iconst 0, 92, 0, 0, []), (260, 1, .ireturn, 93, 0, 0, []), (261, 1, .aload_n 1, 94, 0, 0, []), (262, 1, .aload_n 0, 95, 0, 0, []), (263, 1, .iload_n 3, 96, 0, 0, []), (264, 1, .iconst 1, 97, 0, 0, []), (265, 1, .iadd, 98, 0, 0, []), (266, 1, .iaload, 99, 0, 0, []), (267, 1, .aload_n 0, 100, 0, 0, [])]
def xo_0_2 : List XO := [(268, 1, .iload_n 3, 101, 0, 0, []), (269, 1, .iconst 2, 102, 0, 0, []), (270, 1, .iadd, 103, 0, 0, []), (271, 1, .iaload, 104, 0, 0, []), (272, 3, .invokevirtual 28, 105, 66, 2, [2211, 2212, 2213, 1001, 2214]), (275, 1, .aload_n 2, 106, 0, 0, []), (276, 1, .aload_n 0, 107, 0, 0, []), (277, 1, .iload_n 3, 108, 0, 0, []), (278, 1, .iconst 1, 109, 0, 0, []), (279, 1, .iadd, 110, 0, 0, []), (280, 1, .iaload, 111, 0, 0, []), (281, 1, .aload_n 0, 112, 0, 0, []), (282, 1, .iload_n 3, 113, 0, 0, []), (283, 1, .iconst 2, 114, 0, 0, []), (284, 1, .iadd, 115, 0, 0, []), (285, 1, .iaload, 116, 0, 0, []), (286, 3, .invokevirtual 32, 117, 139, 2, [4162, 4163, 4164, 1009, 4165]), (289, 3, .if_icmp .eq 820, 118, 757, 0, []), (292, 1, .iconst 0, 119, 0, 0, []), (293, 1, .ireturn, 120, 0, 0, []), (294, 1, .aload_n 1, 121, 0, 0, []), (295, 1, .aload_n 0, 122, 0, 0, []), (296, 1, .iload_n 3, 123, 0, 0, []), (297, 1, .iconst 1, 124, 0, 0, []), (298, 1, .iadd, 125, 0, 0, []), (299, 1, .iaload, 126, 0, 0, []), (300, 1, .aload_n 0, 127, 0, 0, []), (301, 1, .iload_n 3, 128, 0, 0, []), (302, 1, .iconst 2, 129, 0, 0, []), (303, 1, .iadd, 130, 0, 0, []), (304, 1, .iaload, 131, 0, 0, []), (305, 1, .aload_n 0, 132, 0, 0, []), (306, 1, .iload_n 3, 133, 0, 0, []), (307, 1, .iconst 3, 134, 0, 0, []), (308, 1, .iadd, 135, 0, 0, []), (309, 1, .iaload, 136, 0, 0, []), (310, 3, .invokevirtual 33, 137, 67, 3, [3020, 3021, 3022, 1001, 3023]), (313, 1, .aload_n 2, 138, 0, 0, []), (314, 1, .aload_n 0, 139, 0, 0, []), (315, 1, .iload_n 3, 140, 0, 0, []), (316, 1, .iconst 1, 141, 0, 0, []), (317, 1, .iadd, 142, 0, 0, []), (318, 1, .iaload, 143, 0, 0, []), (319, 1, .aload_n 0, 144, 0, 0, []), (320, 1, .iload_n 3, 145, 0, 0, []), (321, 1, .iconst 2, 146, 0, 0, []), (322, 1, .iadd, 147, 0, 0, []), (323, 1, .iaload, 148, 0, 0, []), (324, 1, .aload_n 0, 149, 0, 0, []), (325, 1, .iload_n 3, 150, 0, 0, [])]
def xo_0_3 : List XO := [(326, 1, .iconst 3, 151, 0, 0, []), (327, 1, .iadd, 152, 0, 0, []), (328, 1, .iaload, 153, 0, 0, []), (329, 3, .invokevirtual 37, 154, 140, 3, [4206, 4207, 4208, 1009, 4209]), (332, 3, .if_icmp .eq 777, 155, 757, 0, []), (335, 1, .iconst 0, 156, 0, 0, []), (336, 1, .ireturn, 157, 0, 0, []), (337, 1, .aload_n 1, 158, 0, 0, []), (338, 1, .aload_n 0, 159, 0, 0, []), (339, 1, .iload_n 3, 160, 0, 0, []), (340, 1, .iconst 1, 161, 0, 0, []), (341, 1, .iadd, 162, 0, 0, []), (342, 1, .iaload, 163, 0, 0, []), (343, 1, .aload_n 0, 164, 0, 0, []), (344, 1, .iload_n 3, 165, 0, 0, []), (345, 1, .iconst 2, 166, 0, 0, []), (346, 1, .iadd, 167, 0, 0, []), (347, 1, .iaload, 168, 0, 0, []), (348, 1, .aload_n 0, 169, 0, 0, []), (349, 1, .iload_n 3, 170, 0, 0, []), (350, 1, .iconst 3, 171, 0, 0, []), (351, 1, .iadd, 172, 0, 0, []), (352, 1, .iaload, 173, 0, 0, []), (353, 3, .invokevirtual 38, 174, 68, 3, [3024, 3025, 3026, 1001, 3027]), (356, 1, .aload_n 2, 175, 0, 0, []), (357, 1, .aload_n 0, 176, 0, 0, []), (358, 1, .iload_n 3, 177, 0, 0, []), (359, 1, .iconst 1, 178, 0, 0, []), (360, 1, .iadd, 179, 0, 0, []), (361, 1, .iaload, 180, 0, 0, []), (362, 1, .aload_n 0, 181, 0, 0, []), (363, 1, .iload_n 3, 182, 0, 0, []), (364, 1, .iconst 2, 183, 0, 0, []), (365, 1, .iadd, 184, 0, 0, []), (366, 1, .iaload, 185, 0, 0, []), (367, 1, .aload_n 0, 186, 0, 0, []), (368, 1, .iload_n 3, 187, 0, 0, []), (369, 1, .iconst 3, 188, 0, 0, []), (370, 1, .iadd, 189, 0, 0, []), (371, 1, .iaload, 190, 0, 0, []), (372, 3, .invokevirtual 41, 191, 141, 3, [4214, 4215, 4216, 1009, 4217]), (375, 3, .if_icmp .eq 734, 192, 757, 0, []), (378, 1, .iconst 0, 193, 0, 0, []), (379, 1, .ireturn, 194, 0, 0, []), (380, 1, .aload_n 1, 195, 0, 0, []), (381, 1, .aload_n 0, 196, 0, 0, []), (382, 1, .iload_n 3, 197, 0, 0, []), (383, 1, .iconst 1, 198, 0, 0, []), (384, 1, .iadd, 199, 0, 0, []), (385, 1, .iaload, 200, 0, 0, [])]
def xo_0_4 : List XO := [(386, 1, .aload_n 0, 201, 0, 0, []), (387, 1, .iload_n 3, 202, 0, 0, []), (388, 1, .iconst 2, 203, 0, 0, []), (389, 1, .iadd, 204, 0, 0, []), (390, 1, .iaload, 205, 0, 0, []), (391, 3, .ifCond .eq 7, 206, 208, 0, []), (394, 1, .iconst 1, 207, 0, 0, []), (395, 3, .goto 4, 208, 209, 0, []), (398, 1, .iconst 0, 209, 0, 0, []), (399, 3, .invokevirtual 42, 210, 69, 2, [3028, 3029, 3030, 1001, 3031]), (402, 1, .aload_n 2, 211, 0, 0, []), (403, 1, .aload_n 0, 212, 0, 0, []), (404, 1, .iload_n 3, 213, 0, 0, []), (405, 1, .iconst 1, 214, 0, 0, []), (406, 1, .iadd, 215, 0, 0, []), (407, 1, .iaload, 216, 0, 0, []), (408, 1, .aload_n 0, 217, 0, 0, []), (409, 1, .iload_n 3, 218, 0, 0, []), (410, 1, .iconst 2, 219, 0, 0, []), (411, 1, .iadd, 220, 0, 0, []), (412, 1, .iaload, 221, 0, 0, []), (413, 3, .ifCond .eq 7, 222, 224, 0, []), (416, 1, .iconst 1, 223, 0, 0, []), (417, 3, .goto 4, 224, 225, 0, []), (420, 1, .iconst 0, 225, 0, 0, []), (421, 3, .invokevirtual 46, 226, 142, 2, [4218, 4219, 4220, 1009, 4221]), (424, 3, .if_icmp .eq 685, 227, 757, 0, []), (427, 1, .iconst 0, 228, 0, 0, []), (428, 1, .ireturn, 229, 0, 0, []), (429, 1, .aload_n 1, 230, 0, 0, []), (430, 1, .aload_n 0, 231, 0, 0, []), (431, 1, .iload_n 3, 232, 0, 0, []), (432, 1, .iconst 1, 233, 0, 0, []), (433, 1, .iadd, 234, 0, 0, []), (434, 1, .iaload, 235, 0, 0, []), (435, 1, .aload_n 0, 236, 0, 0, []), (436, 1, .iload_n 3, 237, 0, 0, []), (437, 1, .iconst 2, 238, 0, 0, []), (438, 1, .iadd, 239, 0, 0, []), (439, 1, .iaload, 240, 0, 0, []), (440, 3, .ifCond .eq 7, 241, 243, 0, []), (443, 1, .iconst 1, 242, 0, 0, []), (444, 3, .goto 4, 243, 244, 0, []), (447, 1, .iconst 0, 244, 0, 0, []), (448, 3, .invokevirtual 47, 245, 70, 2, [3032, 3033, 3034, 1001, 3035]), (451, 1, .aload_n 2, 246, 0, 0, []), (452, 1, .aload_n 0, 247, 0, 0, []), (453, 1, .iload_n 3, 248, 0, 0, []), (454, 1, .iconst 1, 249, 0, 0, []), (455, 1, .iadd, 250, 0, 0, [])]
def xo_0_5 : List XO := [(456, 1, .iaload, 251, 0, 0, []), (457, 1, .aload_n 0, 252, 0, 0, []), (458, 1, .iload_n 3, 253, 0, 0, []), (459, 1, .iconst 2, 254, 0, 0, []), (460, 1, .iadd, 255, 0, 0, []), (461, 1, .iaload, 256, 0, 0, []), (462, 3, .ifCond .eq 7, 257, 259, 0, []), (465, 1, .iconst 1, 258, 0, 0, []), (466, 3, .goto 4, 259, 260, 0, []), (469, 1, .iconst 0, 260, 0, 0, []), (470, 3, .invokevirtual 50, 261, 143, 2, [4222, 4223, 4224, 1009, 4225]), (473, 3, .if_icmp .eq 636, 262, 757, 0, []), (476, 1, .iconst 0, 263, 0, 0, []), (477, 1, .ireturn, 264, 0, 0, []), (478, 1, .aload_n 1, 265, 0, 0, []), (479, 1, .aload_n 0, 266, 0, 0, []), (480, 1, .iload_n 3, 267, 0, 0, []), (481, 1, .iconst 1, 268, 0, 0, []), (482, 1, .iadd, 269, 0, 0, []), (483, 1, .iaload, 270, 0, 0, []), (484, 1, .aload_n 0, 271, 0, 0, []), (485, 1, .iload_n 3, 272, 0, 0, []), (486, 1, .iconst 2, 273, 0, 0, []), (487, 1, .iadd, 274, 0, 0, []), (488, 1, .iaload, 275, 0, 0, []), (489, 3, .invokevirtual 51, 276, 71, 2, [3036, 3037, 3038, 1001, 3039]), (492, 1, .aload_n 2, 277, 0, 0, []), (493, 1, .aload_n 0, 278, 0, 0, []), (494, 1, .iload_n 3, 279, 0, 0, []), (495, 1, .iconst 1, 280, 0, 0, []), (496, 1, .iadd, 281, 0, 0, []), (497, 1, .iaload, 282, 0, 0, []), (498, 1, .aload_n 0, 283, 0, 0, []), (499, 1, .iload_n 3, 284, 0, 0, []), (500, 1, .iconst 2, 285, 0, 0, []), (501, 1, .iadd, 286, 0, 0, []), (502, 1, .iaload, 287, 0, 0, []), (503, 3, .invokevirtual 54, 288, 144, 2, [4226, 4227, 4228, 1009, 4229]), (506, 3, .if_icmp .eq 603, 289, 757, 0, []), (509, 1, .iconst 0, 290, 0, 0, []), (510, 1, .ireturn, 291, 0, 0, []), (511, 1, .aload_n 1, 292, 0, 0, []), (512, 1, .aload_n 0, 293, 0, 0, []), (513, 1, .iload_n 3, 294, 0, 0, []), (514, 1, .iconst 1, 295, 0, 0, []), (515, 1, .iadd, 296, 0, 0, []), (516, 1, .iaload, 297, 0, 0, []), (517, 3, .invokevirtual 55, 298, 72, 1, [3044, 3045, 3046, 1001, 3047]), (520, 1, .aload_n 2, 299, 0, 0, []), (521, 1, .aload_n 0, 300, 0, 0, [])]
def xo_0_6 : List XO := [(522, 1, .iload_n 3, 301, 0, 0, []), (523, 1, .iconst 1, 302, 0, 0, []), (524, 1, .iadd, 303, 0, 0, []), (525, 1, .iaload, 304, 0, 0, []), (526, 3, .invokevirtual 58, 305, 147, 1, [4234, 4235, 4236, 1009, 4237]), (529, 3, .if_icmp .eq 580, 306, 757, 0, []), (532, 1, .iconst 0, 307, 0, 0, []), (533, 1, .ireturn, 308, 0, 0, []), (534, 1, .aload_n 1, 309, 0, 0, []), (535, 1, .aload_n 0, 310, 0, 0, []), (536, 1, .iload_n 3, 311, 0, 0, []), (537, 1, .iconst 1, 312, 0, 0, []), (538, 1, .iadd, 313, 0, 0, []), (539, 1, .iaload, 314, 0, 0, []), (540, 3, .invokevirtual 59, 315, 73, 1, [3081, 3082, 3083, 1001, 3084]), (543, 1, .aload_n 2, 316, 0, 0, []), (544, 1, .aload_n 0, 317, 0, 0, []), (545, 1, .iload_n 3, 318, 0, 0, []), (546, 1, .iconst 1, 319, 0, 0, []), (547, 1, .iadd, 320, 0, 0, []), (548, 1, .iaload, 321, 0, 0, []), (549, 3, .invokevirtual 62, 322, 152, 1, [5006, 5007, 5008, 1009, 5009]), (552, 3, .if_icmp .eq 557, 323, 757, 0, []), (555, 1, .iconst 0, 324, 0, 0, []), (556, 1, .ireturn, 325, 0, 0, []), (557, 1, .aload_n 1, 326, 0, 0, []), (558, 1, .aload_n 0, 327, 0, 0, []), (559, 1, .iload_n 3, 328, 0, 0, []), (560, 1, .iconst 1, 329, 0, 0, []), (561, 1, .iadd, 330, 0, 0, []), (562, 1, .iaload, 331, 0, 0, []), (563, 1, .aload_n 0, 332, 0, 0, []), (564, 1, .iload_n 3, 333, 0, 0, []), (565, 1, .iconst 2, 334, 0, 0, []), (566, 1, .iadd, 335, 0, 0, []), (567, 1, .iaload, 336, 0, 0, []), (568, 3, .invokevirtual 63, 337, 74, 2, [3085, 3086, 3087, 1001, 3088]), (571, 1, .aload_n 2, 338, 0, 0, []), (572, 1, .aload_n 0, 339, 0, 0, []), (573, 1, .iload_n 3, 340, 0, 0, []), (574, 1, .iconst 1, 341, 0, 0, []), (575, 1, .iadd, 342, 0, 0, []), (576, 1, .iaload, 343, 0, 0, []), (577, 1, .aload_n 0, 344, 0, 0, []), (578, 1, .iload_n 3, 345, 0, 0, []), (579, 1, .iconst 2, 346, 0, 0, []), (580, 1, .iadd, 347, 0, 0, []), (581, 1, .iaload, 348, 0, 0, []), (582, 3, .invokevirtual 66, 349, 153, 2, [5025, 5026, 5027, 1009, 5028]), (585, 3, .if_icmp .eq 524, 350, 757, 0, [])]
def xo_0_7 : List XO := [(588, 1, .iconst 0, 351, 0, 0, []), (589, 1, .ireturn, 352, 0, 0, []), (590, 1, .aload_n 1, 353, 0, 0, []), (591, 1, .aload_n 0, 354, 0, 0, []), (592, 1, .iload_n 3, 355, 0, 0, []), (593, 1, .iconst 1, 356, 0, 0, []), (594, 1, .iadd, 357, 0, 0, []), (595, 1, .iaload, 358, 0, 0, []), (596, 3, .invokevirtual 67, 359, 75, 1, [3089, 3090, 3091, 1001, 3092]), (599, 1, .aload_n 2, 360, 0, 0, []), (600, 1, .aload_n 0, 361, 0, 0, []), (601, 1, .iload_n 3, 362, 0, 0, []), (602, 1, .iconst 1, 363, 0, 0, []), (603, 1, .iadd, 364, 0, 0, []), (604, 1, .iaload, 365, 0, 0, []), (605, 3, .invokevirtual 70, 366, 154, 1, [5029, 5030, 5031, 1009, 5032]), (608, 3, .if_icmp .eq 501, 367, 757, 0, []), (611, 1, .iconst 0, 368, 0, 0, []), (612, 1, .ireturn, 369, 0, 0, []), (613, 1, .aload_n 1, 370, 0, 0, []), (614, 1, .aload_n 0, 371, 0, 0, []), (615, 1, .iload_n 3, 372, 0, 0, []), (616, 1, .iconst 1, 373, 0, 0, []), (617, 1, .iadd, 374, 0, 0, []), (618, 1, .iaload, 375, 0, 0, []), (619, 3, .invokevirtual 71, 376, 76, 1, [3093, 3094, 3095, 1001, 3096]), (622, 1, .aload_n 2, 377, 0, 0, []), (623, 1, .aload_n 0, 378, 0, 0, []), (624, 1, .iload_n 3, 379, 0, 0, []), (625, 1, .iconst 1, 380, 0, 0, []), (626, 1, .iadd, 381, 0, 0, []), (627, 1, .iaload, 382, 0, 0, []), (628, 3, .invokevirtual 74, 383, 158, 1, [5037, 5038, 5039, 1009, 5040]), (631, 3, .if_icmp .eq 478, 384, 757, 0, []), (634, 1, .iconst 0, 385, 0, 0, []), (635, 1, .ireturn, 386, 0, 0, []), (636, 1, .aload_n 1, 387, 0, 0, []), (637, 1, .aload_n 0, 388, 0, 0, []), (638, 1, .iload_n 3, 389, 0, 0, []), (639, 1, .iconst 1, 390, 0, 0, []), (640, 1, .iadd, 391, 0, 0, []), (641, 1, .iaload, 392, 0, 0, []), (642, 3, .invokevirtual 75, 393, 77, 1, [3120, 3121, 3122, 1001, 3123]), (645, 1, .aload_n 2, 394, 0, 0, []), (646, 1, .aload_n 0, 395, 0, 0, []), (647, 1, .iload_n 3, 396, 0, 0, []), (648, 1, .iconst 1, 397, 0, 0, []), (649, 1, .iadd, 398, 0, 0, []), (650, 1, .iaload, 399, 0, 0, []), (651, 3, .invokevirtual 78, 400, 160, 1, [5054, 5055, 5056, 1009, 5057])]
def xo_0_8 : List XO := [(654, 3, .if_icmp .eq 455, 401, 757, 0, []), (657, 1, .iconst 0, 402, 0, 0, []), (658, 1, .ireturn, 403, 0, 0, []), (659, 1, .aload_n 1, 404, 0, 0, []), (660, 1, .aload_n 0, 405, 0, 0, []), (661, 1, .iload_n 3, 406, 0, 0, []), (662, 1, .iconst 1, 407, 0, 0, []), (663, 1, .iadd, 408, 0, 0, []), (664, 1, .iaload, 409, 0, 0, []), (665, 3, .invokevirtual 79, 410, 78, 1, [3128, 3129, 3130, 1001, 3131]), (668, 1, .aload_n 2, 411, 0, 0, []), (669, 1, .aload_n 0, 412, 0, 0, []), (670, 1, .iload_n 3, 413, 0, 0, []), (671, 1, .iconst 1, 414, 0, 0, []), (672, 1, .iadd, 415, 0, 0, []), (673, 1, .iaload, 416, 0, 0, []), (674, 3, .invokevirtual 82, 417, 162, 1, [5062, 5063, 5064, 1009, 5065]), (677, 3, .if_icmp .eq 432, 418, 757, 0, []), (680, 1, .iconst 0, 419, 0, 0, []), (681, 1, .ireturn, 420, 0, 0, []), (682, 1, .aload_n 1, 421, 0, 0, []), (683, 1, .aload_n 0, 422, 0, 0, []), (684, 1, .iload_n 3, 423, 0, 0, []), (685, 1, .iconst 1, 424, 0, 0, []), (686, 1, .iadd, 425, 0, 0, []), (687, 1, .iaload, 426, 0, 0, []), (688, 1, .aload_n 0, 427, 0, 0, []), (689, 1, .iload_n 3, 428, 0, 0, []), (690, 1, .iconst 2, 429, 0, 0, []), (691, 1, .iadd, 430, 0, 0, []), (692, 1, .iaload, 431, 0, 0, []), (693, 1, .aload_n 0, 432, 0, 0, []), (694, 1, .iload_n 3, 433, 0, 0, []), (695, 1, .iconst 3, 434, 0, 0, []), (696, 1, .iadd, 435, 0, 0, []), (697, 1, .iaload, 436, 0, 0, []), (698, 3, .invokevirtual 83, 437, 79, 3, [3136, 3137, 3138, 1001, 3139]), (701, 1, .aload_n 2, 438, 0, 0, []), (702, 1, .aload_n 0, 439, 0, 0, []), (703, 1, .iload_n 3, 440, 0, 0, []), (704, 1, .iconst 1, 441, 0, 0, []), (705, 1, .iadd, 442, 0, 0, []), (706, 1, .iaload, 443, 0, 0, []), (707, 1, .aload_n 0, 444, 0, 0, []), (708, 1, .iload_n 3, 445, 0, 0, []), (709, 1, .iconst 2, 446, 0, 0, []), (710, 1, .iadd, 447, 0, 0, []), (711, 1, .iaload, 448, 0, 0, []), (712, 1, .aload_n 0, 449, 0, 0, []), (713, 1, .iload_n 3, 450, 0, 0, [])]
def xo_0_9 : List XO := [(714, 1, .iconst 3, 451, 0, 0, []), (715, 1, .iadd, 452, 0, 0, []), (716, 1, .iaload, 453, 0, 0, []), (717, 3, .invokevirtual 86, 454, 163, 3, [5070, 5071, 5072, 1009, 5073]), (720, 3, .if_icmp .eq 389, 455, 757, 0, []), (723, 1, .iconst 0, 456, 0, 0, []), (724, 1, .ireturn, 457, 0, 0, []), (725, 1, .aload_n 1, 458, 0, 0, []), (726, 1, .aload_n 0, 459, 0, 0, []), (727, 1, .iload_n 3, 460, 0, 0, []), (728, 1, .iconst 1, 461, 0, 0, []), (729, 1, .iadd, 462, 0, 0, []), (730, 1, .iaload, 463, 0, 0, []), (731, 1, .aload_n 0, 464, 0, 0, []), (732, 1, .iload_n 3, 465, 0, 0, []), (733, 1, .iconst 2, 466, 0, 0, []), (734, 1, .iadd, 467, 0, 0, []), (735, 1, .iaload, 468, 0, 0, []), (736, 3, .invokevirtual 87, 469, 80, 2, [3148, 3149, 3150, 1001, 3151]), (739, 1, .aload_n 2, 470, 0, 0, []), (740, 1, .aload_n 0, 471, 0, 0, []), (741, 1, .iload_n 3, 472, 0, 0, []), (742, 1, .iconst 1, 473, 0, 0, []), (743, 1, .iadd, 474, 0, 0, []), (744, 1, .iaload, 475, 0, 0, []), (745, 1, .aload_n 0, 476, 0, 0, []), (746, 1, .iload_n 3, 477, 0, 0, []), (747, 1, .iconst 2, 478, 0, 0, []), (748, 1, .iadd, 479, 0, 0, []), (749, 1, .iaload, 480, 0, 0, []), (750, 3, .invokevirtual 90, 481, 167, 2, [5074, 5075, 5076, 1009, 5077]), (753, 3, .if_icmp .eq 356, 482, 757, 0, []), (756, 1, .iconst 0, 483, 0, 0, []), (757, 1, .ireturn, 484, 0, 0, []), (758, 1, .aload_n 1, 485, 0, 0, []), (759, 1, .aload_n 0, 486, 0, 0, []), (760, 1, .iload_n 3, 487, 0, 0, []), (761, 1, .iconst 1, 488, 0, 0, []), (762, 1, .iadd, 489, 0, 0, []), (763, 1, .iaload, 490, 0, 0, []), (764, 1, .aload_n 0, 491, 0, 0, []), (765, 1, .iload_n 3, 492, 0, 0, []), (766, 1, .iconst 2, 493, 0, 0, []), (767, 1, .iadd, 494, 0, 0, []), (768, 1, .iaload, 495, 0, 0, []), (769, 3, .invokevirtual 91, 496, 81, 2, [3169, 3170, 3171, 1001, 3172]), (772, 1, .aload_n 2, 497, 0, 0, []), (773, 1, .aload_n 0, 498, 0, 0, []), (774, 1, .iload_n 3, 499, 0, 0, []), (775, 1, .iconst 1, 500, 0, 0, [])]
def xo_0_10 : List XO := [(776, 1, .iadd, 501, 0, 0, []), (777, 1, .iaload, 502, 0, 0, []), (778, 1, .aload_n 0, 503, 0, 0, []), (779, 1, .iload_n 3, 504, 0, 0, []), (780, 1, .iconst 2, 505, 0, 0, []), (781, 1, .iadd, 506, 0, 0, []), (782, 1, .iaload, 507, 0, 0, []), (783, 3, .invokevirtual 94, 508, 168, 2, [5090, 5091, 5092, 1009, 5093]), (786, 3, .if_icmp .eq 323, 509, 757, 0, []), (789, 1, .iconst 0, 510, 0, 0, []), (790, 1, .ireturn, 511, 0, 0, []), (791, 1, .aload_n 1, 512, 0, 0, []), (792, 1, .aload_n 0, 513, 0, 0, []), (793, 1, .iload_n 3, 514, 0, 0, []), (794, 1, .iconst 1, 515, 0, 0, []), (795, 1, .iadd, 516, 0, 0, []), (796, 1, .iaload, 517, 0, 0, []), (797, 1, .aload_n 0, 518, 0, 0, []), (798, 1, .iload_n 3, 519, 0, 0, []), (799, 1, .iconst 2, 520, 0, 0, []), (800, 1, .iadd, 521, 0, 0, []), (801, 1, .iaload, 522, 0, 0, []), (802, 1, .aload_n 0, 523, 0, 0, []), (803, 1, .iload_n 3, 524, 0, 0, []), (804, 1, .iconst 3, 525, 0, 0, []), (805, 1, .iadd, 526, 0, 0, []), (806, 1, .iaload, 527, 0, 0, []), (807, 3, .invokevirtual 95, 528, 82, 3, [3173, 3174, 3175, 1001, 3176]), (810, 1, .aload_n 2, 529, 0, 0, []), (811, 1, .aload_n 0, 530, 0, 0, []), (812, 1, .iload_n 3, 531, 0, 0, []), (813, 1, .iconst 1, 532, 0, 0, []), (814, 1, .iadd, 533, 0, 0, []), (815, 1, .iaload, 534, 0, 0, []), (816, 1, .aload_n 0, 535, 0, 0, []), (817, 1, .iload_n 3, 536, 0, 0, []), (818, 1, .iconst 2, 537, 0, 0, []), (819, 1, .iadd, 538, 0, 0, []), (820, 1, .iaload, 539, 0, 0, []), (821, 1, .aload_n 0, 540, 0, 0, []), (822, 1, .iload_n 3, 541, 0, 0, []), (823, 1, .iconst 3, 542, 0, 0, []), (824, 1, .iadd, 543, 0, 0, []), (825, 1, .iaload, 544, 0, 0, []), (826, 3, .invokevirtual 99, 545, 170, 3, [5094, 5095, 5096, 1009, 5097]), (829, 1, .lcmp, 546, 0, 0, []), (830, 3, .ifCond .eq 279, 547, 757, 0, []), (833, 1, .iconst 0, 548, 0, 0, []), (834, 1, .ireturn, 549, 0, 0, []), (835, 1, .aload_n 1, 550, 0, 0, [])]
def xo_0_11 : List XO := [(836, 1, .aload_n 0, 551, 0, 0, []), (837, 1, .iload_n 3, 552, 0, 0, []), (838, 1, .iconst 1, 553, 0, 0, []), (839, 1, .iadd, 554, 0, 0, []), (840, 1, .iaload, 555, 0, 0, []), (841, 3, .invokevirtual 100, 556, 83, 1, [3181, 3182, 3183, 1001, 3184]), (844, 1, .aload_n 2, 557, 0, 0, []), (845, 1, .aload_n 0, 558, 0, 0, []), (846, 1, .iload_n 3, 559, 0, 0, []), (847, 1, .iconst 1, 560, 0, 0, []), (848, 1, .iadd, 561, 0, 0, []), (849, 1, .iaload, 562, 0, 0, []), (850, 3, .invokevirtual 104, 563, 171, 1, [5103, 5104, 5105, 1009, 5106]), (853, 1, .lcmp, 564, 0, 0, []), (854, 3, .ifCond .eq 255, 565, 757, 0, []), (857, 1, .iconst 0, 566, 0, 0, []), (858, 1, .ireturn, 567, 0, 0, []), (859, 1, .aload_n 1, 568, 0, 0, []), (860, 1, .aload_n 0, 569, 0, 0, []), (861, 1, .iload_n 3, 570, 0, 0, []), (862, 1, .iconst 1, 571, 0, 0, []), (863, 1, .iadd, 572, 0, 0, []), (864, 1, .iaload, 573, 0, 0, []), (865, 1, .aload_n 0, 574, 0, 0, []), (866, 1, .iload_n 3, 575, 0, 0, []), (867, 1, .iconst 2, 576, 0, 0, []), (868, 1, .iadd, 577, 0, 0, []), (869, 1, .iaload, 578, 0, 0, []), (870, 3, .invokevirtual 105, 579, 84, 2, [3185, 3186, 3187, 1001, 3188]), (873, 1, .aload_n 2, 580, 0, 0, []), (874, 1, .aload_n 0, 581, 0, 0, []), (875, 1, .iload_n 3, 582, 0, 0, []), (876, 1, .iconst 1, 583, 0, 0, []), (877, 1, .iadd, 584, 0, 0, []), (878, 1, .iaload, 585, 0, 0, []), (879, 1, .aload_n 0, 586, 0, 0, []), (880, 1, .iload_n 3, 587, 0, 0, []), (881, 1, .iconst 2, 588, 0, 0, []), (882, 1, .iadd, 589, 0, 0, []), (883, 1, .iaload, 590, 0, 0, []), (884, 3, .invokevirtual 108, 591, 172, 2, [5107, 5108, 5109, 1009, 5110]), (887, 3, .if_icmp .eq 222, 592, 757, 0, []), (890, 1, .iconst 0, 593, 0, 0, []), (891, 1, .ireturn, 594, 0, 0, []), (892, 1, .aload_n 1, 595, 0, 0, []), (893, 1, .aload_n 0, 596, 0, 0, []), (894, 1, .iload_n 3, 597, 0, 0, []), (895, 1, .iconst 1, 598, 0, 0, []), (896, 1, .iadd, 599, 0, 0, []), (897, 1, .iaload, 600, 0, 0, [])]
def xo_0_12 : List XO := [(898, 3, .invokevirtual 109, 601, 85, 1, [3189, 3190, 3191, 1001, 3192]), (901, 1, .aload_n 2, 602, 0, 0, []), (902, 1, .aload_n 0, 603, 0, 0, []), (903, 1, .iload_n 3, 604, 0, 0, []), (904, 1, .iconst 1, 605, 0, 0, []), (905, 1, .iadd, 606, 0, 0, []), (906, 1, .iaload, 607, 0, 0, []), (907, 3, .invokevirtual 112, 608, 175, 1, [5111, 5112, 5113, 1009, 5114]), (910, 3, .if_icmp .eq 199, 609, 757, 0, []), (913, 1, .iconst 0, 610, 0, 0, []), (914, 1, .ireturn, 611, 0, 0, []), (915, 1, .aload_n 1, 612, 0, 0, []), (916, 1, .aload_n 0, 613, 0, 0, []), (917, 1, .iload_n 3, 614, 0, 0, []), (918, 1, .iconst 1, 615, 0, 0, []), (919, 1, .iadd, 616, 0, 0, []), (920, 1, .iaload, 617, 0, 0, []), (921, 1, .aload_n 0, 618, 0, 0, []), (922, 1, .iload_n 3, 619, 0, 0, []), (923, 1, .iconst 2, 620, 0, 0, []), (924, 1, .iadd, 621, 0, 0, []), (925, 1, .iaload, 622, 0, 0, []), (926, 3, .invokevirtual 113, 623, 86, 2, [3197, 3198, 3199, 1001, 3200]), (929, 1, .aload_n 2, 624, 0, 0, []), (930, 1, .aload_n 0, 625, 0, 0, []), (931, 1, .iload_n 3, 626, 0, 0, []), (932, 1, .iconst 1, 627, 0, 0, []), (933, 1, .iadd, 628, 0, 0, []), (934, 1, .iaload, 629, 0, 0, []), (935, 1, .aload_n 0, 630, 0, 0, []), (936, 1, .iload_n 3, 631, 0, 0, []), (937, 1, .iconst 2, 632, 0, 0, []), (938, 1, .iadd, 633, 0, 0, []), (939, 1, .iaload, 634, 0, 0, []), (940, 3, .invokevirtual 116, 635, 176, 2, [5123, 5124, 5125, 1009, 5126]), (943, 3, .if_icmp .eq 166, 636, 757, 0, []), (946, 1, .iconst 0, 637, 0, 0, []), (947, 1, .ireturn, 638, 0, 0, []), (948, 1, .aload_n 1, 639, 0, 0, []), (949, 3, .invokevirtual 117, 640, 87, 0, [3201, 3202, 3203, 1001, 3204]), (952, 1, .aload_n 2, 641, 0, 0, []), (953, 3, .invokevirtual 120, 642, 177, 0, [5127, 5128, 5129, 1009, 5130]), (956, 3, .if_icmp .eq 153, 643, 757, 0, []), (959, 1, .iconst 0, 644, 0, 0, []), (960, 1, .ireturn, 645, 0, 0, []), (961, 1, .aload_n 1, 646, 0, 0, []), (962, 1, .aload_n 0, 647, 0, 0, []), (963, 1, .iload_n 3, 648, 0, 0, []), (964, 1, .iconst 1, 649, 0, 0, []), (965, 1, .iadd, 650, 0, 0, [])]
def xo_0_13 : List XO := [(966, 1, .iaload, 651, 0, 0, []), (967, 1, .aload_n 0, 652, 0, 0, []), (968, 1, .iload_n 3, 653, 0, 0, []), (969, 1, .iconst 2, 654, 0, 0, []), (970, 1, .iadd, 655, 0, 0, []), (971, 1, .iaload, 656, 0, 0, []), (972, 1, .aload_n 0, 657, 0, 0, []), (973, 1, .iload_n 3, 658, 0, 0, []), (974, 1, .iconst 3, 659, 0, 0, []), (975, 1, .iadd, 660, 0, 0, []), (976, 1, .iaload, 661, 0, 0, []), (977, 3, .invokevirtual 121, 662, 88, 3, [3205, 3206, 3207, 1001, 3208]), (980, 1, .aload_n 2, 663, 0, 0, []), (981, 1, .aload_n 0, 664, 0, 0, []), (982, 1, .iload_n 3, 665, 0, 0, []), (983, 1, .iconst 1, 666, 0, 0, []), (984, 1, .iadd, 667, 0, 0, []), (985, 1, .iaload, 668, 0, 0, []), (986, 1, .aload_n 0, 669, 0, 0, []), (987, 1, .iload_n 3, 670, 0, 0, []), (988, 1, .iconst 2, 671, 0, 0, []), (989, 1, .iadd, 672, 0, 0, []), (990, 1, .iaload, 673, 0, 0, []), (991, 1, .aload_n 0, 674, 0, 0, []), (992, 1, .iload_n 3, 675, 0, 0, []), (993, 1, .iconst 3, 676, 0, 0, []), (994, 1, .iadd, 677, 0, 0, []), (995, 1, .iaload, 678, 0, 0, []), (996, 3, .invokevirtual 124, 679, 186, 3, [5131, 5132, 5133, 1009, 5134]), (999, 3, .if_icmp .eq 110, 680, 757, 0, []), (1002, 1, .iconst 0, 681, 0, 0, []), (1003, 1, .ireturn, 682, 0, 0, []), (1004, 1, .aload_n 1, 683, 0, 0, []), (1005, 1, .aload_n 0, 684, 0, 0, []), (1006, 1, .iload_n 3, 685, 0, 0, []), (1007, 1, .iconst 1, 686, 0, 0, []), (1008, 1, .iadd, 687, 0, 0, []), (1009, 1, .iaload, 688, 0, 0, []), (1010, 3, .invokevirtual 125, 689, 89, 1, [3227, 3228, 3229, 1001, 3230]), (1013, 1, .aload_n 2, 690, 0, 0, []), (1014, 1, .aload_n 0, 691, 0, 0, []), (1015, 1, .iload_n 3, 692, 0, 0, []), (1016, 1, .iconst 1, 693, 0, 0, []), (1017, 1, .iadd, 694, 0, 0, []), (1018, 1, .iaload, 695, 0, 0, []), (1019, 3, .invokevirtual 128, 696, 187, 1, [5166, 5167, 5168, 1009, 5169]), (1022, 3, .if_icmp .eq 87, 697, 757, 0, []), (1025, 1, .iconst 0, 698, 0, 0, []), (1026, 1, .ireturn, 699, 0, 0, []), (1027, 1, .aload_n 1, 700, 0, 0, [])]
def xo_0_14 : List XO := [(1028, 1, .aload_n 0, 701, 0, 0, []), (1029, 1, .iload_n 3, 702, 0, 0, []), (1030, 1, .iconst 1, 703, 0, 0, []), (1031, 1, .iadd, 704, 0, 0, []), (1032, 1, .iaload, 705, 0, 0, []), (1033, 1, .aload_n 0, 706, 0, 0, []), (1034, 1, .iload_n 3, 707, 0, 0, []), (1035, 1, .iconst 2, 708, 0, 0, []), (1036, 1, .iadd, 709, 0, 0, []), (1037, 1, .iaload, 710, 0, 0, []), (1038, 3, .invokevirtual 129, 711, 90, 2, [3231, 3232, 3233, 1001, 3234]), (1041, 1, .aload_n 2, 712, 0, 0, []), (1042, 1, .aload_n 0, 713, 0, 0, []), (1043, 1, .iload_n 3, 714, 0, 0, []), (1044, 1, .iconst 1, 715, 0, 0, []), (1045, 1, .iadd, 716, 0, 0, []), (1046, 1, .iaload, 717, 0, 0, []), (1047, 1, .aload_n 0, 718, 0, 0, []), (1048, 1, .iload_n 3, 719, 0, 0, []), (1049, 1, .iconst 2, 720, 0, 0, []), (1050, 1, .iadd, 721, 0, 0, []), (1051, 1, .iaload, 722, 0, 0, []), (1052, 3, .invokevirtual 132, 723, 188, 2, [5170, 5171, 5172, 1009, 5173]), (1055, 3, .if_icmp .eq 54, 724, 757, 0, []), (1058, 1, .iconst 0, 725, 0, 0, []), (1059, 1, .ireturn, 726, 0, 0, []), (1060, 1, .aload_n 1, 727, 0, 0, []), (1061, 3, .invokevirtual 133, 728, 91, 0, [3237, 3238, 3239, 1001, 4000]), (1064, 1, .aload_n 2, 729, 0, 0, []), (1065, 3, .invokevirtual 136, 730, 189, 0, [5174, 5175, 5176, 1009, 5177]), (1068, 3, .if_icmp .eq 41, 731, 757, 0, []), (1071, 1, .iconst 0, 732, 0, 0, []), (1072, 1, .ireturn, 733, 0, 0, []), (1073, 1, .aload_n 1, 734, 0, 0, []), (1074, 3, .invokevirtual 137, 735, 92, 0, [4013, 4014, 4015, 1001, 4016]), (1077, 1, .aload_n 2, 736, 0, 0, []), (1078, 3, .invokevirtual 140, 737, 190, 0, [5178, 5179, 5180, 1009, 5181]), (1081, 3, .if_icmp .eq 28, 738, 757, 0, []), (1084, 1, .iconst 0, 739, 0, 0, []), (1085, 1, .ireturn, 740, 0, 0, []), (1086, 1, .aload_n 1, 741, 0, 0, []), (1087, 1, .aload_n 0, 742, 0, 0, []), (1088, 1, .iload_n 3, 743, 0, 0, []), (1089, 1, .iconst 1, 744, 0, 0, []), (1090, 1, .iadd, 745, 0, 0, []), (1091, 1, .iaload, 746, 0, 0, []), (1092, 3, .invokevirtual 141, 747, 93, 1, [4017, 4018, 4019, 1001, 4020]), (1095, 1, .aload_n 2, 748, 0, 0, []), (1096, 1, .aload_n 0, 749, 0, 0, []), (1097, 1, .iload_n 3, 750, 0, 0, [])]
def xo_0_15 : List XO := [(1098, 1, .iconst 1, 751, 0, 0, []), (1099, 1, .iadd, 752, 0, 0, []), (1100, 1, .iaload, 753, 0, 0, []), (1101, 3, .invokevirtual 144, 754, 191, 1, [5182, 5183, 5184, 1009, 5185]), (1104, 3, .if_icmp .eq 5, 755, 757, 0, []), (1107, 1, .iconst 0, 756, 0, 0, []), (1108, 1, .ireturn, 757, 0, 0, []), (1109, 3, .iinc 3 5, 758, 0, 0, []), (1112, 3, .goto (-1094), 759, 10, 0, []), (1115, 1, .iconst 1, 760, 0, 0, []), (1116, 1, .ireturn, 761, 0, 0, [])]
def xo_0 : List XO := xo_0_0 ++ xo_0_1 ++ xo_0_2 ++ xo_0_3 ++ xo_0_4 ++ xo_0_5 ++ xo_0_6 ++ xo_0_7 ++ xo_0_8 ++ xo_0_9 ++ xo_0_10 ++ xo_0_11 ++ xo_0_12 ++ xo_0_13 ++ xo_0_14 ++ xo_0_15
def xi_0 : XI := (⟨"StarchedCollarsLaw", "law", "([I)Z"⟩, code, 4, some .boolean, xo_0)
-- 1 java/lang/Integer.bitCount(I)I maxLocals 1
def xo_1 : List XO := [(0, 1, .iload_n 0, 1, 0, 0, []), (1, 1, .iload_n 0, 2, 0, 0, []), (2, 1, .iconst 1, 3, 0, 0, []), (3, 1, .iushr, 4, 0, 0, []), (4, 3, .ldc_w 265, 5, 0, 2, [2227]), (7, 1, .iand, 6, 0, 0, []), (8, 1, .isub, 7, 0, 0, []), (9, 1, .istore_n 0, 8, 0, 0, []), (10, 1, .iload_n 0, 9, 0, 0, []), (11, 3, .ldc_w 266, 10, 1, 2, [2228]), (14, 1, .iand, 11, 0, 0, []), (15, 1, .iload_n 0, 12, 0, 0, []), (16, 1, .iconst 2, 13, 0, 0, []), (17, 1, .iushr, 14, 0, 0, []), (18, 3, .ldc_w 266, 15, 1, 2, [2228]), (21, 1, .iand, 16, 0, 0, []), (22, 1, .iadd, 17, 0, 0, []), (23, 1, .istore_n 0, 18, 0, 0, []), (24, 1, .iload_n 0, 19, 0, 0, []), (25, 1, .iload_n 0, 20, 0, 0, []), (26, 1, .iconst 4, 21, 0, 0, []), (27, 1, .iushr, 22, 0, 0, []), (28, 1, .iadd, 23, 0, 0, []), (29, 3, .ldc_w 267, 24, 2, 2, [2229]), (32, 1, .iand, 25, 0, 0, []), (33, 1, .istore_n 0, 26, 0, 0, []), (34, 1, .iload_n 0, 27, 0, 0, []), (35, 1, .iload_n 0, 28, 0, 0, []), (36, 2, .bipush 8, 29, 0, 0, []), (38, 1, .iushr, 30, 0, 0, []), (39, 1, .iadd, 31, 0, 0, []), (40, 1, .istore_n 0, 32, 0, 0, []), (41, 1, .iload_n 0, 33, 0, 0, []), (42, 1, .iload_n 0, 34, 0, 0, []), (43, 2, .bipush 16, 35, 0, 0, []), (45, 1, .iushr, 36, 0, 0, []), (46, 1, .iadd, 37, 0, 0, []), (47, 1, .istore_n 0, 38, 0, 0, []), (48, 1, .iload_n 0, 39, 0, 0, []), (49, 2, .bipush 63, 40, 0, 0, []), (51, 1, .iand, 41, 0, 0, []), (52, 1, .ireturn, 42, 0, 0, [])]
def xi_1 : XI := (⟨"java/lang/Integer", "bitCount", "(I)I"⟩, prog_12_method_49_code, 1, some (FieldType.int), xo_1)
-- 2 java/lang/Integer.numberOfTrailingZeros(I)I maxLocals 2
def xo_2 : List XO := [(0, 1, .iload_n 0, 1, 0, 0, []), (1, 1, .iconst (-1), 2, 0, 0, []), (2, 1, .ixor, 3, 0, 0, []), (3, 1, .iload_n 0, 4, 0, 0, []), (4, 1, .iconst 1, 5, 0, 0, []), (5, 1, .isub, 6, 0, 0, []), (6, 1, .iand, 7, 0, 0, []), (7, 1, .istore_n 0, 8, 0, 0, []), (8, 1, .iload_n 0, 9, 0, 0, []), (9, 3, .ifCond .gt 8, 10, 14, 0, []), (12, 1, .iload_n 0, 11, 0, 0, []), (13, 2, .bipush 32, 12, 0, 0, []), (15, 1, .iand, 13, 0, 0, []), (16, 1, .ireturn, 14, 0, 0, []), (17, 1, .iconst 1, 15, 0, 0, []), (18, 1, .istore_n 1, 16, 0, 0, []), (19, 1, .iload_n 0, 17, 0, 0, []), (20, 3, .ldc_w 264, 18, 3, 2, [3104]), (23, 3, .if_icmp .le 11, 19, 24, 0, []), (26, 3, .iinc 1 16, 20, 0, 0, []), (29, 1, .iload_n 0, 21, 0, 0, []), (30, 2, .bipush 16, 22, 0, 0, []), (32, 1, .iushr, 23, 0, 0, []), (33, 1, .istore_n 0, 24, 0, 0, []), (34, 1, .iload_n 0, 25, 0, 0, []), (35, 3, .sipush 256, 26, 0, 0, []), (38, 3, .if_icmp .le 11, 27, 32, 0, []), (41, 3, .iinc 1 8, 28, 0, 0, []), (44, 1, .iload_n 0, 29, 0, 0, []), (45, 2, .bipush 8, 30, 0, 0, []), (47, 1, .iushr, 31, 0, 0, []), (48, 1, .istore_n 0, 32, 0, 0, []), (49, 1, .iload_n 0, 33, 0, 0, []), (50, 2, .bipush 16, 34, 0, 0, []), (52, 3, .if_icmp .le 10, 35, 40, 0, []), (55, 3, .iinc 1 4, 36, 0, 0, []), (58, 1, .iload_n 0, 37, 0, 0, []), (59, 1, .iconst 4, 38, 0, 0, []), (60, 1, .iushr, 39, 0, 0, []), (61, 1, .istore_n 0, 40, 0, 0, []), (62, 1, .iload_n 0, 41, 0, 0, []), (63, 1, .iconst 4, 42, 0, 0, []), (64, 3, .if_icmp .le 10, 43, 48, 0, []), (67, 3, .iinc 1 2, 44, 0, 0, []), (70, 1, .iload_n 0, 45, 0, 0, []), (71, 1, .iconst 2, 46, 0, 0, []), (72, 1, .iushr, 47, 0, 0, []), (73, 1, .istore_n 0, 48, 0, 0, []), (74, 1, .iload_n 1, 49, 0, 0, []), (75, 1, .iload_n 0, 50, 0, 0, []), (76, 1, .iconst 1, 51, 0, 0, []), (77, 1, .iushr, 52, 0, 0, []), (78, 1, .iadd, 53, 0, 0, []), (79, 1, .ireturn, 54, 0, 0, [])]
def xi_2 : XI := (⟨"java/lang/Integer", "numberOfTrailingZeros", "(I)I"⟩, prog_12_method_48_code, 2, some (FieldType.int), xo_2)
-- 3 java/lang/Math.abs(I)I maxLocals 1
def xo_3 : List XO := [(0, 1, .iload_n 0, 1, 0, 0, []), (1, 3, .ifCond .ge 8, 2, 5, 0, []), (4, 1, .iload_n 0, 3, 0, 0, []), (5, 1, .ineg, 4, 0, 0, []), (6, 3, .goto 4, 5, 6, 0, []), (9, 1, .iload_n 0, 6, 0, 0, []), (10, 1, .ireturn, 7, 0, 0, [])]
def xi_3 : XI := (⟨"java/lang/Math", "abs", "(I)I"⟩, prog_13_method_59_code, 1, some (FieldType.int), xo_3)
-- 4 java/lang/Math.max(II)I maxLocals 2
def xo_4 : List XO := [(0, 1, .iload_n 0, 1, 0, 0, []), (1, 1, .iload_n 1, 2, 0, 0, []), (2, 3, .if_icmp .lt 7, 3, 5, 0, []), (5, 1, .iload_n 0, 4, 0, 0, []), (6, 3, .goto 4, 5, 6, 0, []), (9, 1, .iload_n 1, 6, 0, 0, []), (10, 1, .ireturn, 7, 0, 0, [])]
def xi_4 : XI := (⟨"java/lang/Math", "max", "(II)I"⟩, prog_13_method_65_code, 2, some (FieldType.int), xo_4)
-- 5 java/lang/Math.min(II)I maxLocals 2
def xo_5 : List XO := [(0, 1, .iload_n 0, 1, 0, 0, []), (1, 1, .iload_n 1, 2, 0, 0, []), (2, 3, .if_icmp .gt 7, 3, 5, 0, []), (5, 1, .iload_n 0, 4, 0, 0, []), (6, 3, .goto 4, 5, 6, 0, []), (9, 1, .iload_n 1, 6, 0, 0, []), (10, 1, .ireturn, 7, 0, 0, [])]
def xi_5 : XI := (⟨"java/lang/Math", "min", "(II)I"⟩, prog_13_method_69_code, 2, some (FieldType.int), xo_5)
-- 6 java/lang/String.length()I maxLocals 1
def xo_6 : List XO := [(0, 1, .aload_n 0, 1, 0, 0, []), (1, 3, .getfield 9, 2, 900, 0, [5186]), (4, 1, .arraylength, 3, 0, 0, []), (5, 1, .aload_n 0, 4, 0, 0, []), (6, 3, .invokevirtual 335, 5, 10, 0, [2062, 2063, 2064, 1012, 2065]), (9, 1, .ishr, 6, 0, 0, []), (10, 1, .ireturn, 7, 0, 0, [])]
def xi_6 : XI := (⟨"java/lang/String", "length", "()I"⟩, prog_14_method_54_code, 1, some (FieldType.int), xo_6)
-- 7 java/lang/String.charAt(I)C maxLocals 2
def xo_7 : List XO := [(0, 1, .aload_n 0, 1, 0, 0, []), (1, 3, .invokevirtual 492, 2, 11, 0, [2072, 2073, 2074, 1012, 2075]), (4, 3, .ifCond .eq 12, 3, 8, 0, []), (7, 1, .aload_n 0, 4, 0, 0, []), (8, 3, .getfield 9, 5, 900, 0, [5186]), (11, 1, .iload_n 1, 6, 0, 0, []), (12, 3, .invokestatic 495, 7, 13, 2, [2076, 2077, 1013, 2078]), (15, 1, .ireturn, 8, 0, 0, []), (16, 1, .aload_n 0, 9, 0, 0, []), (17, 3, .getfield 9, 10, 900, 0, [5186]), (20, 1, .iload_n 1, 11, 0, 0, []), (21, 3, .invokestatic 498, 12, 999, 0, []), (24, 1, .ireturn, 13, 0, 0, [])]
def xi_7 : XI := (⟨"java/lang/String", "charAt", "(I)C"⟩, prog_14_method_56_code, 2, some (FieldType.char), xo_7)
-- 8 java/lang/String.indexOf(I)I maxLocals 2
def xo_8 : List XO := [(0, 1, .aload_n 0, 1, 0, 0, []), (1, 1, .iload_n 1, 2, 0, 0, []), (2, 1, .iconst 0, 3, 0, 0, []), (3, 3, .invokevirtual 633, 4, 9, 2, [2137, 2138, 2139, 1012, 2140]), (6, 1, .ireturn, 5, 0, 0, [])]
def xi_8 : XI := (⟨"java/lang/String", "indexOf", "(I)I"⟩, prog_14_method_79_code, 2, some (FieldType.int), xo_8)
-- 9 java/lang/String.indexOf(II)I maxLocals 3
def xo_9 : List XO := [(0, 1, .aload_n 0, 1, 0, 0, []), (1, 3, .invokevirtual 492, 2, 11, 0, [2072, 2073, 2074, 1012, 2075]), (4, 3, .ifCond .eq 19, 3, 11, 0, []), (7, 1, .aload_n 0, 4, 0, 0, []), (8, 3, .getfield 9, 5, 900, 0, [5186]), (11, 1, .iload_n 1, 6, 0, 0, []), (12, 1, .iload_n 2, 7, 0, 0, []), (13, 1, .aload_n 0, 8, 0, 0, []), (14, 3, .invokevirtual 505, 9, 6, 0, [2141, 2059, 2060, 1012, 2061]), (17, 3, .invokestatic 637, 10, 15, 4, [2142, 2143, 1013, 2144]), (20, 3, .goto 16, 11, 18, 0, []), (23, 1, .aload_n 0, 12, 0, 0, []), (24, 3, .getfield 9, 13, 900, 0, [5186]), (27, 1, .iload_n 1, 14, 0, 0, []), (28, 1, .iload_n 2, 15, 0, 0, []), (29, 1, .aload_n 0, 16, 0, 0, []), (30, 3, .invokevirtual 505, 17, 6, 0, [2141, 2059, 2060, 1012, 2061]), (33, 3, .invokestatic 640, 18, 999, 0, []), (36, 1, .ireturn, 19, 0, 0, [])]
def xi_9 : XI := (⟨"java/lang/String", "indexOf", "(II)I"⟩, prog_14_method_80_code, 3, some (FieldType.int), xo_9)
-- 10 java/lang/String.coder()B maxLocals 1
def xo_10 : List XO := [(0, 3, .getstatic 38, 1, 902, 0, [2066]), (3, 3, .ifCond .eq 10, 2, 5, 0, []), (6, 1, .aload_n 0, 3, 0, 0, []), (7, 3, .getfield 15, 4, 901, 0, [5187]), (10, 3, .goto 4, 5, 6, 0, []), (13, 1, .iconst 1, 6, 0, 0, []), (14, 1, .ireturn, 7, 0, 0, [])]
def xi_10 : XI := (⟨"java/lang/String", "coder", "()B"⟩, prog_14_method_152_code, 1, some (FieldType.byte), xo_10)
-- 11 java/lang/String.isLatin1()Z maxLocals 1
def xo_11 : List XO := [(0, 3, .getstatic 38, 1, 902, 0, [2066]), (3, 3, .ifCond .eq 14, 2, 7, 0, []), (6, 1, .aload_n 0, 3, 0, 0, []), (7, 3, .getfield 15, 4, 901, 0, [5187]), (10, 3, .ifCond .ne 7, 5, 7, 0, []), (13, 1, .iconst 1, 6, 0, 0, []), (14, 3, .goto 4, 7, 8, 0, []), (17, 1, .iconst 0, 8, 0, 0, []), (18, 1, .ireturn, 9, 0, 0, [])]
def xi_11 : XI := (⟨"java/lang/String", "isLatin1", "()Z"⟩, prog_14_method_154_code, 1, some (FieldType.boolean), xo_11)
-- 12 java/lang/String.checkIndex(II)V maxLocals 2
def xo_12 : List XO := [(0, 1, .iload_n 0, 1, 0, 0, []), (1, 1, .iload_n 1, 2, 0, 0, []), (2, 3, .getstatic 1053, 3, 5, 0, [2082]), (5, 3, .invokestatic 1059, 4, 17, 3, [2084, 2085, 1014, 2086]), (8, 1, .pop, 5, 0, 0, []), (9, 1, .return_, 6, 0, 0, [])]
def xi_12 : XI := (⟨"java/lang/String", "checkIndex", "(II)V"⟩, prog_14_method_155_code, 2, none, xo_12)
-- 13 java/lang/StringLatin1.charAt([BI)C maxLocals 2
def xo_13 : List XO := [(0, 1, .iload_n 1, 1, 0, 0, []), (1, 1, .aload_n 0, 2, 0, 0, []), (2, 1, .arraylength, 3, 0, 0, []), (3, 3, .invokestatic 9, 4, 12, 2, [2079, 2080, 1012, 2081]), (6, 1, .aload_n 0, 5, 0, 0, []), (7, 1, .iload_n 1, 6, 0, 0, []), (8, 1, .baload, 7, 0, 0, []), (9, 3, .sipush 255, 8, 0, 0, []), (12, 1, .iand, 9, 0, 0, []), (13, 1, .i2c, 10, 0, 0, []), (14, 1, .ireturn, 11, 0, 0, [])]
def xi_13 : XI := (⟨"java/lang/StringLatin1", "charAt", "([BI)C"⟩, prog_15_method_2_code, 2, some (FieldType.char), xo_13)
-- 14 java/lang/StringLatin1.canEncode(I)Z maxLocals 1
def xo_14 : List XO := [(0, 1, .iload_n 0, 1, 0, 0, []), (1, 3, .ifCond .lt 14, 2, 7, 0, []), (4, 1, .iload_n 0, 3, 0, 0, []), (5, 3, .sipush 255, 4, 0, 0, []), (8, 3, .if_icmp .gt 7, 5, 7, 0, []), (11, 1, .iconst 1, 6, 0, 0, []), (12, 3, .goto 4, 7, 8, 0, []), (15, 1, .iconst 0, 8, 0, 0, []), (16, 1, .ireturn, 9, 0, 0, [])]
def xi_14 : XI := (⟨"java/lang/StringLatin1", "canEncode", "(I)Z"⟩, prog_15_method_4_code, 1, some (FieldType.boolean), xo_14)
-- 15 java/lang/StringLatin1.indexOf([BIII)I maxLocals 4
def xo_15 : List XO := [(0, 1, .iload_n 1, 1, 0, 0, []), (1, 3, .invokestatic 88, 2, 14, 1, [2145, 2146, 1013, 2147]), (4, 3, .ifCond .ne 5, 3, 5, 0, []), (7, 1, .iconst (-1), 4, 0, 0, []), (8, 1, .ireturn, 5, 0, 0, []), (9, 1, .iload_n 2, 6, 0, 0, []), (10, 1, .iconst 0, 7, 0, 0, []), (11, 3, .invokestatic 92, 8, 4, 2, [2148, 2149, 1011, 2150]), (14, 1, .istore_n 2, 9, 0, 0, []), (15, 1, .iload_n 3, 10, 0, 0, []), (16, 1, .aload_n 0, 11, 0, 0, []), (17, 1, .arraylength, 12, 0, 0, []), (18, 3, .invokestatic 38, 13, 5, 2, [2151, 2039, 1011, 2040]), (21, 1, .istore_n 3, 14, 0, 0, []), (22, 1, .iload_n 2, 15, 0, 0, []), (23, 1, .iload_n 3, 16, 0, 0, []), (24, 3, .if_icmp .lt 5, 17, 19, 0, []), (27, 1, .iconst (-1), 18, 0, 0, []), (28, 1, .ireturn, 19, 0, 0, []), (29, 1, .aload_n 0, 20, 0, 0, []), (30, 1, .iload_n 1, 21, 0, 0, []), (31, 1, .iload_n 2, 22, 0, 0, []), (32, 1, .iload_n 3, 23, 0, 0, []), (33, 3, .invokestatic 95, 24, 16, 4, [2152, 2153, 1013, 2154]), (36, 1, .ireturn, 25, 0, 0, [])]
def xi_15 : XI := (⟨"java/lang/StringLatin1", "indexOf", "([BIII)I"⟩, prog_15_method_22_code, 4, some (FieldType.int), xo_15)
-- 16 java/lang/StringLatin1.indexOfChar([BIII)I maxLocals 6
def xo_16 : List XO := [(0, 1, .iload_n 1, 1, 0, 0, []), (1, 1, .i2b, 2, 0, 0, []), (2, 2, .istore 4, 3, 0, 0, []), (4, 1, .iload_n 2, 4, 0, 0, []), (5, 2, .istore 5, 5, 0, 0, []), (7, 2, .iload 5, 6, 0, 0, []), (9, 1, .iload_n 3, 7, 0, 0, []), (10, 3, .if_icmp .ge 21, 8, 17, 0, []), (13, 1, .aload_n 0, 9, 0, 0, []), (14, 2, .iload 5, 10, 0, 0, []), (16, 1, .baload, 11, 0, 0, []), (17, 2, .iload 4, 12, 0, 0, []), (19, 3, .if_icmp .ne 6, 13, 15, 0, []), (22, 2, .iload 5, 14, 0, 0, []), (24, 1, .ireturn, 15, 0, 0, []), (25, 3, .iinc 5 1, 16, 0, 0, []), (28, 3, .goto (-21), 17, 5, 0, []), (31, 1, .iconst (-1), 18, 0, 0, []), (32, 1, .ireturn, 19, 0, 0, [])]
def xi_16 : XI := (⟨"java/lang/StringLatin1", "indexOfChar", "([BIII)I"⟩, prog_15_method_23_code, 6, some (FieldType.int), xo_16)
-- 17 jdk/internal/util/Preconditions.checkIndex(IILjava/util/function/BiFunction;)I maxLocals 3
def xo_17 : List XO := [(0, 1, .iload_n 0, 1, 0, 0, []), (1, 3, .ifCond .lt 8, 2, 5, 0, []), (4, 1, .iload_n 0, 3, 0, 0, []), (5, 1, .iload_n 1, 4, 0, 0, []), (6, 3, .if_icmp .lt 10, 5, 10, 0, []), (9, 1, .aload_n 2, 6, 0, 0, []), (10, 1, .iload_n 0, 7, 0, 0, []), (11, 1, .iload_n 1, 8, 0, 0, []), (12, 3, .invokestatic 95, 9, 999, 0, []), (15, 1, .athrow, 10, 999, 0, []), (16, 1, .iload_n 0, 11, 0, 0, []), (17, 1, .ireturn, 12, 0, 0, [])]
def xi_17 : XI := (⟨"jdk/internal/util/Preconditions", "checkIndex", "(IILjava/util/function/BiFunction;)I"⟩, prog_18_method_11_code, 3, some (FieldType.int), xo_17)
-- 18 StarchedCollars$Actor.<init>()V maxLocals 1
def xo_18 : List XO := [(0, 1, .aload_n 0, 1, 0, 0, []), (1, 3, .invokespecial 3, 2, 1000, 0, [1217, 1024, 1025]), (4, 1, .aload_n 0, 3, 0, 0, []), (5, 2, .bipush 20, 4, 0, 0, []), (7, 2, .newarray .int, 5, 100, 0, [1066]), (9, 3, .putfield 9, 6, 0, 0, [1218]), (12, 1, .return_, 7, 0, 0, [])]
def xi_18 : XI := (⟨"StarchedCollars$Actor", "<init>", "()V"⟩, prog_2_method_1_code, 1, none, xo_18)
-- 19 StarchedCollars$Actor.perform(LStarchedCollars$Man;II)I maxLocals 4
def xo_19 : List XO := [(0, 1, .aload_n 0, 1, 0, 0, []), (1, 1, .iconst 0, 2, 0, 0, []), (2, 3, .putfield 15, 3, 0, 1, [1220]), (5, 1, .aload_n 1, 4, 0, 0, []), (6, 3, .ifnull 19, 5, 12, 0, []), (9, 1, .aload_n 1, 6, 0, 0, []), (10, 3, .getfield 19, 7, 1, 1, [1100]), (13, 3, .ifCond .lt 12, 8, 12, 0, []), (16, 1, .aload_n 1, 9, 0, 0, []), (17, 3, .getfield 19, 10, 1, 1, [1100]), (20, 2, .bipush 6, 11, 0, 0, []), (22, 3, .if_icmp .le 5, 12, 14, 0, []), (25, 1, .iconst 0, 13, 0, 0, []), (26, 1, .ireturn, 14, 0, 0, []), (27, 1, .iload_n 2, 15, 0, 0, []), (28, 28, .tableswitch 76 0 2 #[28, 44, 60], 16, 0, 0, [46, 16, 26, 36]), (56, 1, .aload_n 0, 17, 0, 0, []), (57, 3, .getstatic 24, 18, 1, 0, [3213]), (60, 1, .aload_n 1, 19, 0, 0, []), (61, 3, .getfield 19, 20, 1, 1, [1100]), (64, 1, .iaload, 21, 0, 0, []), (65, 1, .aload_n 1, 22, 0, 0, []), (66, 1, .iload_n 3, 23, 0, 0, []), (67, 1, .iconst 0, 24, 0, 0, []), (68, 3, .invokevirtual 27, 25, 20, 4, [3215, 3217, 24, 1007, 3218]), (71, 1, .ireturn, 26, 0, 0, []), (72, 1, .aload_n 0, 27, 0, 0, []), (73, 3, .getstatic 31, 28, 2, 0, [3223]), (76, 1, .aload_n 1, 29, 0, 0, []), (77, 3, .getfield 19, 30, 1, 1, [1100]), (80, 1, .iaload, 31, 0, 0, []), (81, 1, .aload_n 1, 32, 0, 0, []), (82, 1, .iload_n 3, 33, 0, 0, []), (83, 1, .iconst 0, 34, 0, 0, []), (84, 3, .invokevirtual 27, 35, 20, 4, [3215, 3217, 24, 1007, 3218]), (87, 1, .ireturn, 36, 0, 0, []), (88, 1, .aload_n 0, 37, 0, 0, []), (89, 3, .getstatic 34, 38, 3, 0, [3225]), (92, 1, .aload_n 1, 39, 0, 0, []), (93, 3, .getfield 19, 40, 1, 1, [1100]), (96, 1, .iaload, 41, 0, 0, []), (97, 1, .aload_n 1, 42, 0, 0, []), (98, 1, .iload_n 3, 43, 0, 0, []), (99, 1, .iconst 0, 44, 0, 0, []), (100, 3, .invokevirtual 27, 45, 20, 4, [3215, 3217, 24, 1007, 3218]), (103, 1, .ireturn, 46, 0, 0, []), (104, 1, .iconst 0, 47, 0, 0, []), (105, 1, .ireturn, 48, 0, 0, [])]
def xi_19 : XI := (⟨"StarchedCollars$Actor", "perform", "(LStarchedCollars$Man;II)I"⟩, prog_2_method_2_code, 4, some (FieldType.int), xo_19)
-- 20 StarchedCollars$Actor.run(ILStarchedCollars$Man;II)I maxLocals 5
def xo_20_0 : List XO := [(0, 2, .iload 4, 1, 0, 0, []), (2, 2, .bipush 8, 2, 0, 0, []), (4, 3, .if_icmp .gt 19, 3, 10, 0, []), (7, 1, .aload_n 2, 4, 0, 0, []), (8, 3, .getfield 19, 5, 1, 1, [1100]), (11, 3, .ifCond .lt 12, 6, 10, 0, []), (14, 1, .aload_n 2, 7, 0, 0, []), (15, 3, .getfield 19, 8, 1, 1, [1100]), (18, 2, .bipush 6, 9, 0, 0, []), (20, 3, .if_icmp .le 5, 10, 12, 0, []), (23, 1, .iconst 0, 11, 0, 0, []), (24, 1, .ireturn, 12, 0, 0, []), (25, 1, .aload_n 0, 13, 0, 0, []), (26, 1, .iload_n 1, 14, 0, 0, []), (27, 3, .invokevirtual 37, 15, 21, 1, [3219, 3221, 25, 1007, 3222]), (30, 1, .iload_n 1, 16, 0, 0, []), (31, 81, .lookupswitch 242 #[(1, 81), (2, 88), (3, 112), (11, 133), (21, 147), (31, 160), (41, 175), (51, 208), (61, 225)], 17, 0, 0, [130, 17, 22, 37, 51, 62, 72, 83, 106, 118]), (112, 1, .iload_n 3, 18, 0, 0, []), (113, 1, .aload_n 2, 19, 0, 0, []), (114, 3, .getfield 41, 20, 1, 0, [1096]), (117, 1, .iadd, 21, 0, 0, []), (118, 1, .ireturn, 22, 0, 0, []), (119, 1, .aload_n 0, 23, 0, 0, []), (120, 3, .getstatic 24, 24, 1, 0, [3213]), (123, 1, .aload_n 2, 25, 0, 0, []), (124, 3, .getfield 19, 26, 1, 1, [1100]), (127, 1, .iaload, 27, 0, 0, []), (128, 1, .aload_n 2, 28, 0, 0, []), (129, 1, .iload_n 3, 29, 0, 0, []), (130, 2, .iload 4, 30, 0, 0, []), (132, 1, .iconst 1, 31, 0, 0, []), (133, 1, .iadd, 32, 0, 0, []), (134, 3, .invokevirtual 27, 33, 20, 4, [3215, 3217, 24, 1007, 3218]), (137, 1, .aload_n 2, 34, 0, 0, []), (138, 3, .getfield 44, 35, 1, 2, [1104]), (141, 1, .isub, 36, 0, 0, []), (142, 1, .ireturn, 37, 0, 0, []), (143, 1, .aload_n 0, 38, 0, 0, []), (144, 3, .getstatic 31, 39, 2, 0, [3223]), (147, 1, .aload_n 2, 40, 0, 0, []), (148, 3, .getfield 19, 41, 1, 1, [1100]), (151, 1, .iaload, 42, 0, 0, []), (152, 1, .aload_n 2, 43, 0, 0, []), (153, 1, .iload_n 3, 44, 0, 0, []), (154, 2, .iload 4, 45, 0, 0, []), (156, 1, .iconst 1, 46, 0, 0, []), (157, 1, .iadd, 47, 0, 0, []), (158, 3, .invokevirtual 27, 48, 20, 4, [3215, 3217, 24, 1007, 3218]), (161, 1, .iconst 2, 49, 0, 0, []), (162, 1, .imul, 50, 0, 0, [])]
def xo_20_1 : List XO := [(163, 1, .ireturn, 51, 0, 0, []), (164, 1, .aload_n 0, 52, 0, 0, []), (165, 1, .iconst 1, 53, 0, 0, []), (166, 1, .aload_n 2, 54, 0, 0, []), (167, 1, .iload_n 3, 55, 0, 0, []), (168, 1, .iconst 3, 56, 0, 0, []), (169, 1, .imul, 57, 0, 0, []), (170, 2, .iload 4, 58, 0, 0, []), (172, 1, .iconst 1, 59, 0, 0, []), (173, 1, .iadd, 60, 0, 0, []), (174, 3, .invokevirtual 27, 61, 20, 4, [3215, 3217, 24, 1007, 3218]), (177, 1, .ireturn, 62, 0, 0, []), (178, 1, .aload_n 0, 63, 0, 0, []), (179, 1, .iconst 2, 64, 0, 0, []), (180, 1, .aload_n 2, 65, 0, 0, []), (181, 1, .iload_n 3, 66, 0, 0, []), (182, 2, .iload 4, 67, 0, 0, []), (184, 1, .iconst 1, 68, 0, 0, []), (185, 1, .iadd, 69, 0, 0, []), (186, 3, .invokevirtual 27, 70, 20, 4, [3215, 3217, 24, 1007, 3218]), (189, 1, .ineg, 71, 0, 0, []), (190, 1, .ireturn, 72, 0, 0, []), (191, 1, .aload_n 0, 73, 0, 0, []), (192, 1, .iconst 3, 74, 0, 0, []), (193, 1, .aload_n 2, 75, 0, 0, []), (194, 1, .iload_n 3, 76, 0, 0, []), (195, 2, .iload 4, 77, 0, 0, []), (197, 1, .iconst 1, 78, 0, 0, []), (198, 1, .iadd, 79, 0, 0, []), (199, 3, .invokevirtual 27, 80, 20, 4, [3215, 3217, 24, 1007, 3218]), (202, 2, .bipush 7, 81, 0, 0, []), (204, 1, .ixor, 82, 0, 0, []), (205, 1, .ireturn, 83, 0, 0, []), (206, 1, .aload_n 0, 84, 0, 0, []), (207, 1, .iconst 3, 85, 0, 0, []), (208, 1, .aload_n 2, 86, 0, 0, []), (209, 1, .iload_n 3, 87, 0, 0, []), (210, 1, .iconst 1, 88, 0, 0, []), (211, 1, .isub, 89, 0, 0, []), (212, 2, .iload 4, 90, 0, 0, []), (214, 1, .iconst 1, 91, 0, 0, []), (215, 1, .iadd, 92, 0, 0, []), (216, 3, .invokevirtual 27, 93, 20, 4, [3215, 3217, 24, 1007, 3218]), (219, 1, .aload_n 0, 94, 0, 0, []), (220, 3, .getstatic 24, 95, 1, 0, [3213]), (223, 1, .aload_n 2, 96, 0, 0, []), (224, 3, .getfield 19, 97, 1, 1, [1100]), (227, 1, .iaload, 98, 0, 0, []), (228, 1, .aload_n 2, 99, 0, 0, []), (229, 1, .iconst 2, 100, 0, 0, [])]
def xo_20_2 : List XO := [(230, 2, .iload 4, 101, 0, 0, []), (232, 1, .iconst 1, 102, 0, 0, []), (233, 1, .iadd, 103, 0, 0, []), (234, 3, .invokevirtual 27, 104, 20, 4, [3215, 3217, 24, 1007, 3218]), (237, 1, .iadd, 105, 0, 0, []), (238, 1, .ireturn, 106, 0, 0, []), (239, 1, .aload_n 0, 107, 0, 0, []), (240, 1, .iconst 1, 108, 0, 0, []), (241, 1, .aload_n 2, 109, 0, 0, []), (242, 1, .iload_n 3, 110, 0, 0, []), (243, 2, .iload 4, 111, 0, 0, []), (245, 1, .iconst 1, 112, 0, 0, []), (246, 1, .iadd, 113, 0, 0, []), (247, 3, .invokevirtual 27, 114, 20, 4, [3215, 3217, 24, 1007, 3218]), (250, 1, .aload_n 2, 115, 0, 0, []), (251, 3, .getfield 41, 116, 1, 0, [1096]), (254, 1, .ixor, 117, 0, 0, []), (255, 1, .ireturn, 118, 0, 0, []), (256, 1, .aload_n 0, 119, 0, 0, []), (257, 1, .iconst 2, 120, 0, 0, []), (258, 1, .aload_n 2, 121, 0, 0, []), (259, 1, .iload_n 3, 122, 0, 0, []), (260, 2, .iload 4, 123, 0, 0, []), (262, 1, .iconst 1, 124, 0, 0, []), (263, 1, .iadd, 125, 0, 0, []), (264, 3, .invokevirtual 27, 126, 20, 4, [3215, 3217, 24, 1007, 3218]), (267, 1, .aload_n 2, 127, 0, 0, []), (268, 3, .getfield 44, 128, 1, 2, [1104]), (271, 1, .iadd, 129, 0, 0, []), (272, 1, .ireturn, 130, 0, 0, []), (273, 1, .iconst 0, 131, 0, 0, []), (274, 1, .ireturn, 132, 0, 0, [])]
def xo_20 : List XO := xo_20_0 ++ xo_20_1 ++ xo_20_2
def xi_20 : XI := (⟨"StarchedCollars$Actor", "run", "(ILStarchedCollars$Man;II)I"⟩, prog_2_method_3_code, 5, some (FieldType.int), xo_20)
-- 21 StarchedCollars$Actor.keep(I)V maxLocals 2
def xo_21 : List XO := [(0, 1, .aload_n 0, 1, 0, 0, []), (1, 3, .getfield 15, 2, 0, 1, [1220]), (4, 2, .bipush 20, 3, 0, 0, []), (6, 3, .if_icmp .ge 13, 4, 10, 0, []), (9, 1, .aload_n 0, 5, 0, 0, []), (10, 3, .getfield 9, 6, 0, 0, [1218]), (13, 1, .aload_n 0, 7, 0, 0, []), (14, 3, .getfield 15, 8, 0, 1, [1220]), (17, 1, .iload_n 1, 9, 0, 0, []), (18, 1, .iastore, 10, 0, 0, []), (19, 1, .aload_n 0, 11, 0, 0, []), (20, 1, .dup, 12, 0, 0, []), (21, 3, .getfield 15, 13, 0, 1, [1220]), (24, 1, .iconst 1, 14, 0, 0, []), (25, 1, .iadd, 15, 0, 0, []), (26, 3, .putfield 15, 16, 0, 1, [1220]), (29, 1, .return_, 17, 0, 0, [])]
def xi_21 : XI := (⟨"StarchedCollars$Actor", "keep", "(I)V"⟩, prog_2_method_4_code, 2, none, xo_21)
-- 22 StarchedCollars$Man.<init>()V maxLocals 1
def xo_22 : List XO := [(0, 1, .aload_n 0, 1, 0, 0, []), (1, 3, .invokespecial 3, 2, 1000, 0, [1094, 1024, 1025]), (4, 1, .aload_n 0, 3, 0, 0, []), (5, 1, .iconst 4, 4, 0, 0, []), (6, 2, .newarray .int, 5, 100, 0, [1066]), (8, 3, .putfield 9, 6, 1, 8, [1120]), (11, 1, .return_, 7, 0, 0, [])]
def xi_22 : XI := (⟨"StarchedCollars$Man", "<init>", "()V"⟩, prog_3_method_1_code, 1, none, xo_22)
-- 23 StarchedCollars$Man.begin(IIIII)V maxLocals 7
def xo_23 : List XO := [(0, 1, .aload_n 0, 1, 0, 0, []), (1, 1, .iload_n 1, 2, 0, 0, []), (2, 3, .putfield 15, 3, 1, 0, [1095]), (5, 1, .aload_n 0, 4, 0, 0, []), (6, 1, .iload_n 2, 5, 0, 0, []), (7, 3, .putfield 19, 6, 1, 1, [1099]), (10, 1, .aload_n 0, 7, 0, 0, []), (11, 1, .iload_n 3, 8, 0, 0, []), (12, 3, .putfield 22, 9, 1, 2, [1103]), (15, 1, .aload_n 0, 10, 0, 0, []), (16, 2, .iload 4, 11, 0, 0, []), (18, 3, .putfield 25, 12, 1, 3, [1107]), (21, 1, .aload_n 0, 13, 0, 0, []), (22, 2, .iload 5, 14, 0, 0, []), (24, 3, .putfield 28, 15, 1, 4, [1109]), (27, 1, .aload_n 0, 16, 0, 0, []), (28, 1, .iconst 0, 17, 0, 0, []), (29, 3, .putfield 31, 18, 1, 5, [1112]), (32, 1, .aload_n 0, 19, 0, 0, []), (33, 1, .iconst 0, 20, 0, 0, []), (34, 3, .putfield 34, 21, 1, 6, [1115]), (37, 1, .aload_n 0, 22, 0, 0, []), (38, 1, .iconst 0, 23, 0, 0, []), (39, 3, .putfield 38, 24, 1, 7, [1117]), (42, 1, .iconst 0, 25, 0, 0, []), (43, 2, .istore 6, 26, 0, 0, []), (45, 2, .iload 6, 27, 0, 0, []), (47, 1, .aload_n 0, 28, 0, 0, []), (48, 3, .getfield 9, 29, 1, 8, [1120]), (51, 1, .arraylength, 30, 0, 0, []), (52, 3, .if_icmp .ge 17, 31, 38, 0, []), (55, 1, .aload_n 0, 32, 0, 0, []), (56, 3, .getfield 9, 33, 1, 8, [1120]), (59, 2, .iload 6, 34, 0, 0, []), (61, 1, .iconst 0, 35, 0, 0, []), (62, 1, .iastore, 36, 0, 0, []), (63, 3, .iinc 6 1, 37, 0, 0, []), (66, 3, .goto (-21), 38, 26, 0, []), (69, 1, .return_, 39, 0, 0, [])]
def xi_23 : XI := (⟨"StarchedCollars$Man", "begin", "(IIIII)V"⟩, prog_3_method_2_code, 7, none, xo_23)
-- 24 StarchedCollars$Man.copyFrom(LStarchedCollars$Man;)V maxLocals 2
def xo_24 : List XO := [(0, 1, .aload_n 0, 1, 0, 0, []), (1, 1, .aload_n 1, 2, 0, 0, []), (2, 3, .getfield 15, 3, 1, 0, [1095]), (5, 3, .putfield 15, 4, 1, 0, [1095]), (8, 1, .aload_n 0, 5, 0, 0, []), (9, 1, .aload_n 1, 6, 0, 0, []), (10, 3, .getfield 19, 7, 1, 1, [1099]), (13, 3, .putfield 19, 8, 1, 1, [1099]), (16, 1, .aload_n 0, 9, 0, 0, []), (17, 1, .aload_n 1, 10, 0, 0, []), (18, 3, .getfield 22, 11, 1, 2, [1103]), (21, 3, .putfield 22, 12, 1, 2, [1103]), (24, 1, .aload_n 0, 13, 0, 0, []), (25, 1, .aload_n 1, 14, 0, 0, []), (26, 3, .getfield 25, 15, 1, 3, [1107]), (29, 3, .putfield 25, 16, 1, 3, [1107]), (32, 1, .aload_n 0, 17, 0, 0, []), (33, 1, .aload_n 1, 18, 0, 0, []), (34, 3, .getfield 28, 19, 1, 4, [1109]), (37, 3, .putfield 28, 20, 1, 4, [1109]), (40, 1, .aload_n 0, 21, 0, 0, []), (41, 1, .aload_n 1, 22, 0, 0, []), (42, 3, .getfield 31, 23, 1, 5, [1112]), (45, 3, .putfield 31, 24, 1, 5, [1112]), (48, 1, .aload_n 0, 25, 0, 0, []), (49, 1, .aload_n 1, 26, 0, 0, []), (50, 3, .getfield 34, 27, 1, 6, [1115]), (53, 3, .putfield 34, 28, 1, 6, [1115]), (56, 1, .aload_n 0, 29, 0, 0, []), (57, 1, .aload_n 1, 30, 0, 0, []), (58, 3, .getfield 38, 31, 1, 7, [1117]), (61, 3, .putfield 38, 32, 1, 7, [1117]), (64, 1, .aload_n 1, 33, 0, 0, []), (65, 3, .getfield 9, 34, 1, 8, [1120]), (68, 1, .iconst 0, 35, 0, 0, []), (69, 1, .aload_n 0, 36, 0, 0, []), (70, 3, .getfield 9, 37, 1, 8, [1120]), (73, 1, .iconst 0, 38, 0, 0, []), (74, 1, .aload_n 0, 39, 0, 0, []), (75, 3, .getfield 9, 40, 1, 8, [1120]), (78, 1, .arraylength, 41, 0, 0, []), (79, 3, .invokestatic 41, 42, 1001, 0, [3056, 2037, 2036, 1010]), (82, 1, .return_, 43, 0, 0, [])]
def xi_24 : XI := (⟨"StarchedCollars$Man", "copyFrom", "(LStarchedCollars$Man;)V"⟩, prog_3_method_3_code, 2, none, xo_24)
-- 25 StarchedCollars$Man.reach()I maxLocals 1
def xo_25 : List XO := [(0, 2, .bipush 9, 1, 0, 0, []), (2, 1, .aload_n 0, 2, 0, 0, []), (3, 3, .getfield 31, 3, 1, 5, [1112]), (6, 2, .bipush 10, 4, 0, 0, []), (8, 1, .idiv, 5, 0, 0, []), (9, 1, .isub, 6, 0, 0, []), (10, 1, .ireturn, 7, 0, 0, [])]
def xi_25 : XI := (⟨"StarchedCollars$Man", "reach", "()I"⟩, prog_3_method_4_code, 1, some (FieldType.int), xo_25)
-- 26 StarchedCollars$Man.distanceTo(LStarchedCollars$Man;)I maxLocals 2
def xo_26 : List XO := [(0, 1, .aload_n 0, 1, 0, 0, []), (1, 3, .getfield 28, 2, 1, 4, [1109]), (4, 1, .aload_n 1, 3, 0, 0, []), (5, 3, .getfield 28, 4, 1, 4, [1109]), (8, 1, .ixor, 5, 0, 0, []), (9, 3, .invokestatic 47, 6, 1, 1, [3003, 2225, 1017, 2226]), (12, 1, .ireturn, 7, 0, 0, [])]
def xi_26 : XI := (⟨"StarchedCollars$Man", "distanceTo", "(LStarchedCollars$Man;)I"⟩, prog_3_method_5_code, 2, some (FieldType.int), xo_26)
-- 27 StarchedCollars$Man.rise(II)I maxLocals 3
def xo_27 : List XO := [(0, 1, .aload_n 0, 1, 0, 0, []), (1, 3, .getfield 19, 2, 1, 1, [1099]), (4, 40, .tableswitch 111 1 6 #[40, 47, 51, 61, 81, 90], 3, 0, 0, [51, 3, 8, 12, 18, 29, 36]), (44, 1, .iload_n 1, 4, 0, 0, []), (45, 1, .aload_n 0, 5, 0, 0, []), (46, 3, .getfield 22, 6, 1, 2, [1103]), (49, 1, .iadd, 7, 0, 0, []), (50, 1, .ireturn, 8, 0, 0, []), (51, 1, .iload_n 1, 9, 0, 0, []), (52, 1, .iconst 2, 10, 0, 0, []), (53, 1, .idiv, 11, 0, 0, []), (54, 1, .ireturn, 12, 0, 0, []), (55, 1, .iload_n 1, 13, 0, 0, []), (56, 1, .aload_n 0, 14, 0, 0, []), (57, 3, .getfield 28, 15, 1, 4, [1109]), (60, 3, .invokestatic 47, 16, 1, 1, [3003, 2225, 1017, 2226]), (63, 1, .iadd, 17, 0, 0, []), (64, 1, .ireturn, 18, 0, 0, []), (65, 1, .aload_n 0, 19, 0, 0, []), (66, 3, .getfield 31, 20, 1, 5, [1112]), (69, 2, .bipush 60, 21, 0, 0, []), (71, 3, .if_icmp .lt 7, 22, 24, 0, []), (74, 1, .iconst 0, 23, 0, 0, []), (75, 3, .goto 9, 24, 28, 0, []), (78, 1, .iload_n 1, 25, 0, 0, []), (79, 1, .aload_n 0, 26, 0, 0, []), (80, 3, .getfield 22, 27, 1, 2, [1103]), (83, 1, .iadd, 28, 0, 0, []), (84, 1, .ireturn, 29, 0, 0, []), (85, 1, .iload_n 1, 30, 0, 0, []), (86, 1, .iconst 2, 31, 0, 0, []), (87, 1, .idiv, 32, 0, 0, []), (88, 1, .aload_n 0, 33, 0, 0, []), (89, 3, .getfield 22, 34, 1, 2, [1103]), (92, 1, .isub, 35, 0, 0, []), (93, 1, .ireturn, 36, 0, 0, []), (94, 1, .iload_n 1, 37, 0, 0, []), (95, 1, .aload_n 0, 38, 0, 0, []), (96, 3, .getfield 28, 39, 1, 4, [1109]), (99, 3, .invokestatic 47, 40, 1, 1, [3003, 2225, 1017, 2226]), (102, 1, .iadd, 41, 0, 0, []), (103, 1, .aload_n 0, 42, 0, 0, []), (104, 3, .getfield 9, 43, 1, 8, [1120]), (107, 1, .iload_n 2, 44, 0, 0, []), (108, 1, .iconst 3, 45, 0, 0, []), (109, 1, .iand, 46, 0, 0, []), (110, 1, .iaload, 47, 0, 0, []), (111, 1, .iadd, 48, 0, 0, []), (112, 1, .iconst 4, 49, 0, 0, []), (113, 1, .isub, 50, 0, 0, []), (114, 1, .ireturn, 51, 0, 0, []), (115, 1, .iload_n 1, 52, 0, 0, []), (116, 1, .ireturn, 53, 0, 0, [])]
def xi_27 : XI := (⟨"StarchedCollars$Man", "rise", "(II)I"⟩, prog_3_method_6_code, 3, some (FieldType.int), xo_27)
-- 28 StarchedCollars$Man.live(LStarchedCollars$Town;I)V maxLocals 4
def xo_28 : List XO := [(0, 1, .aload_n 0, 1, 0, 0, []), (1, 3, .getfield 38, 2, 1, 7, [1117]), (4, 3, .ifCond .ne 10, 3, 6, 0, []), (7, 1, .aload_n 0, 4, 0, 0, []), (8, 3, .getfield 34, 5, 1, 6, [1115]), (11, 3, .ifCond .eq 4, 6, 7, 0, []), (14, 1, .return_, 7, 0, 0, []), (15, 1, .aload_n 0, 8, 0, 0, []), (16, 3, .getfield 31, 9, 1, 5, [1112]), (19, 1, .aload_n 0, 10, 0, 0, []), (20, 1, .aload_n 1, 11, 0, 0, []), (21, 1, .aload_n 0, 12, 0, 0, []), (22, 1, .iload_n 2, 13, 0, 0, []), (23, 3, .invokevirtual 53, 14, 53, 2, [3065, 2221, 2222, 1003, 2223]), (26, 1, .iload_n 2, 15, 0, 0, []), (27, 3, .invokevirtual 59, 16, 27, 2, [3066, 3000, 3001, 1005, 3002]), (30, 1, .iadd, 17, 0, 0, []), (31, 1, .istore_n 3, 18, 0, 0, []), (32, 1, .aload_n 0, 19, 0, 0, []), (33, 1, .iload_n 3, 20, 0, 0, []), (34, 1, .iconst 0, 21, 0, 0, []), (35, 3, .invokestatic 63, 22, 4, 2, [3067, 2149, 1011, 2150]), (38, 2, .bipush 99, 23, 0, 0, []), (40, 3, .invokestatic 68, 24, 5, 2, [3068, 2039, 1011, 2040]), (43, 3, .putfield 31, 25, 1, 5, [1112]), (46, 1, .aload_n 0, 26, 0, 0, []), (47, 3, .getfield 31, 27, 1, 5, [1112]), (50, 1, .aload_n 1, 28, 0, 0, []), (51, 3, .getfield 71, 29, 5, 0, [1042]), (54, 3, .if_icmp .lt 33, 30, 49, 0, []), (57, 1, .aload_n 0, 31, 0, 0, []), (58, 1, .iconst 1, 32, 0, 0, []), (59, 3, .putfield 34, 33, 1, 6, [1115]), (62, 1, .aload_n 0, 34, 0, 0, []), (63, 1, .iconst 0, 35, 0, 0, []), (64, 3, .putfield 31, 36, 1, 5, [1112]), (67, 1, .aload_n 0, 37, 0, 0, []), (68, 1, .dup, 38, 0, 0, []), (69, 3, .getfield 28, 39, 1, 4, [1109]), (72, 1, .iconst 1, 40, 0, 0, []), (73, 1, .aload_n 0, 41, 0, 0, []), (74, 3, .getfield 22, 42, 1, 2, [1103]), (77, 2, .bipush 8, 43, 0, 0, []), (79, 1, .irem, 44, 0, 0, []), (80, 1, .ishl, 45, 0, 0, []), (81, 1, .iconst (-1), 46, 0, 0, []), (82, 1, .ixor, 47, 0, 0, []), (83, 1, .iand, 48, 0, 0, []), (84, 3, .putfield 28, 49, 1, 4, [1109]), (87, 1, .return_, 50, 0, 0, [])]
def xi_28 : XI := (⟨"StarchedCollars$Man", "live", "(LStarchedCollars$Town;I)V"⟩, prog_3_method_7_code, 4, none, xo_28)
-- 29 StarchedCollars$Pairing.<init>()V maxLocals 1
def xo_29 : List XO := [(0, 1, .aload_n 0, 1, 0, 0, []), (1, 3, .invokespecial 3, 2, 1000, 0, [1232, 1024, 1025]), (4, 1, .aload_n 0, 3, 0, 0, []), (5, 2, .bipush 64, 4, 0, 0, []), (7, 2, .newarray .int, 5, 100, 0, [1066]), (9, 3, .putfield 9, 6, 2, 0, [1233]), (12, 1, .return_, 7, 0, 0, [])]
def xi_29 : XI := (⟨"StarchedCollars$Pairing", "<init>", "()V"⟩, prog_4_method_1_code, 1, none, xo_29)
-- 30 StarchedCollars$Pairing.weigh(LStarchedCollars$World;I)V maxLocals 8
def xo_30 : List XO := [(0, 1, .iconst 1, 1, 0, 0, []), (1, 1, .istore_n 3, 2, 0, 0, []), (2, 1, .iload_n 3, 3, 0, 0, []), (3, 1, .iload_n 2, 4, 0, 0, []), (4, 3, .if_icmp .gt 104, 5, 59, 0, []), (7, 1, .iload_n 3, 6, 0, 0, []), (8, 1, .aload_n 0, 7, 0, 0, []), (9, 3, .getfield 9, 8, 2, 0, [1233]), (12, 1, .arraylength, 9, 0, 0, []), (13, 3, .if_icmp .ge 95, 10, 59, 0, []), (16, 1, .iload_n 3, 11, 0, 0, []), (17, 3, .invokestatic 15, 12, 2, 1, [3101, 3102, 1017, 3103]), (20, 2, .istore 4, 13, 0, 0, []), (22, 1, .iload_n 3, 14, 0, 0, []), (23, 1, .iconst 1, 15, 0, 0, []), (24, 2, .iload 4, 16, 0, 0, []), (26, 1, .ishl, 17, 0, 0, []), (27, 1, .iconst (-1), 18, 0, 0, []), (28, 1, .ixor, 19, 0, 0, []), (29, 1, .iand, 20, 0, 0, []), (30, 2, .istore 5, 21, 0, 0, []), (32, 2, .iload 5, 22, 0, 0, []), (34, 3, .invokestatic 21, 23, 1, 1, [3105, 2225, 1017, 2226]), (37, 1, .iconst 2, 24, 0, 0, []), (38, 1, .irem, 25, 0, 0, []), (39, 3, .ifCond .ne 13, 26, 31, 0, []), (42, 1, .aload_n 0, 27, 0, 0, []), (43, 3, .getfield 9, 28, 2, 0, [1233]), (46, 2, .iload 5, 29, 0, 0, []), (48, 1, .iaload, 30, 0, 0, []), (49, 3, .goto 5, 31, 32, 0, []), (52, 2, .bipush 99, 32, 0, 0, []), (54, 2, .istore 6, 33, 0, 0, []), (56, 2, .iload 4, 34, 0, 0, []), (58, 1, .iconst 1, 35, 0, 0, []), (59, 1, .iadd, 36, 0, 0, []), (60, 2, .istore 7, 37, 0, 0, []), (62, 2, .iload 7, 38, 0, 0, []), (64, 1, .aload_n 1, 39, 0, 0, []), (65, 3, .getfield 24, 40, 6, 1, [1145]), (68, 3, .if_icmp .ge 26, 41, 52, 0, []), (71, 2, .iload 6, 42, 0, 0, []), (73, 1, .aload_n 0, 43, 0, 0, []), (74, 1, .aload_n 1, 44, 0, 0, []), (75, 1, .iload_n 3, 45, 0, 0, []), (76, 2, .iload 4, 46, 0, 0, []), (78, 2, .iload 7, 47, 0, 0, []), (80, 3, .invokevirtual 30, 48, 31, 4, [3106, 3108, 15, 1008, 3109]), (83, 3, .invokestatic 34, 49, 5, 2, [3111, 2039, 1011, 2040]), (86, 2, .istore 6, 50, 0, 0, []), (88, 3, .iinc 7 1, 51, 0, 0, []), (91, 3, .goto (-29), 52, 37, 0, []), (94, 1, .aload_n 0, 53, 0, 0, []), (95, 3, .getfield 9, 54, 2, 0, [1233]), (98, 1, .iload_n 3, 55, 0, 0, []), (99, 2, .iload 6, 56, 0, 0, []), (101, 1, .iastore, 57, 0, 0, []), (102, 3, .iinc 3 1, 58, 0, 0, []), (105, 3, .goto (-103), 59, 2, 0, []), (108, 1, .return_, 60, 0, 0, [])]
def xi_30 : XI := (⟨"StarchedCollars$Pairing", "weigh", "(LStarchedCollars$World;I)V"⟩, prog_4_method_2_code, 8, none, xo_30)
-- 31 StarchedCollars$Pairing.together(LStarchedCollars$World;III)I maxLocals 7
def xo_31 : List XO := [(0, 1, .iload_n 2, 1, 0, 0, []), (1, 1, .iconst 1, 2, 0, 0, []), (2, 1, .iload_n 3, 3, 0, 0, []), (3, 1, .ishl, 4, 0, 0, []), (4, 1, .iconst (-1), 5, 0, 0, []), (5, 1, .ixor, 6, 0, 0, []), (6, 1, .iand, 7, 0, 0, []), (7, 1, .iconst 1, 8, 0, 0, []), (8, 2, .iload 4, 9, 0, 0, []), (10, 1, .ishl, 10, 0, 0, []), (11, 1, .iconst (-1), 11, 0, 0, []), (12, 1, .ixor, 12, 0, 0, []), (13, 1, .iand, 13, 0, 0, []), (14, 2, .istore 5, 14, 0, 0, []), (16, 2, .iload 5, 15, 0, 0, []), (18, 3, .invokestatic 21, 16, 1, 1, [3105, 2225, 1017, 2226]), (21, 1, .iload_n 2, 17, 0, 0, []), (22, 3, .invokestatic 21, 18, 1, 1, [3105, 2225, 1017, 2226]), (25, 1, .iconst 2, 19, 0, 0, []), (26, 1, .isub, 20, 0, 0, []), (27, 3, .if_icmp .ne 7, 21, 23, 0, []), (30, 1, .iconst 1, 22, 0, 0, []), (31, 3, .goto 4, 23, 24, 0, []), (34, 1, .iconst 0, 24, 0, 0, []), (35, 2, .istore 6, 25, 0, 0, []), (37, 2, .iload 6, 26, 0, 0, []), (39, 3, .ifCond .eq 30, 27, 42, 0, []), (42, 1, .aload_n 0, 28, 0, 0, []), (43, 3, .getfield 9, 29, 2, 0, [1233]), (46, 2, .iload 5, 30, 0, 0, []), (48, 1, .iaload, 31, 0, 0, []), (49, 1, .aload_n 1, 32, 0, 0, []), (50, 3, .getfield 40, 33, 6, 0, [1142]), (53, 1, .iload_n 3, 34, 0, 0, []), (54, 1, .aaload, 35, 0, 0, []), (55, 1, .aload_n 1, 36, 0, 0, []), (56, 3, .getfield 40, 37, 6, 0, [1142]), (59, 2, .iload 4, 38, 0, 0, []), (61, 1, .aaload, 39, 0, 0, []), (62, 3, .invokevirtual 44, 40, 26, 1, [3110, 3041, 3042, 1005, 3043]), (65, 1, .iadd, 41, 0, 0, []), (66, 3, .goto 5, 42, 43, 0, []), (69, 2, .bipush 99, 43, 0, 0, []), (71, 1, .ireturn, 44, 0, 0, [])]
def xi_31 : XI := (⟨"StarchedCollars$Pairing", "together", "(LStarchedCollars$World;III)I"⟩, prog_4_method_3_code, 7, some (FieldType.int), xo_31)
-- 32 StarchedCollars$Pairing.partner(LStarchedCollars$World;II)I maxLocals 8
def xo_32 : List XO := [(0, 1, .iload_n 2, 1, 0, 0, []), (1, 2, .istore 4, 2, 0, 0, []), (3, 1, .iconst 0, 3, 0, 0, []), (4, 2, .istore 5, 4, 0, 0, []), (6, 2, .iload 5, 5, 0, 0, []), (8, 2, .bipush 6, 6, 0, 0, []), (10, 3, .if_icmp .ge 75, 7, 46, 0, []), (13, 2, .iload 4, 8, 0, 0, []), (15, 3, .ifCond .eq 70, 9, 46, 0, []), (18, 2, .iload 4, 10, 0, 0, []), (20, 3, .invokestatic 15, 11, 2, 1, [3101, 3102, 1017, 3103]), (23, 2, .istore 6, 12, 0, 0, []), (25, 1, .aload_n 0, 13, 0, 0, []), (26, 1, .aload_n 1, 14, 0, 0, []), (27, 2, .iload 4, 15, 0, 0, []), (29, 2, .iload 6, 16, 0, 0, []), (31, 3, .invokevirtual 50, 17, 33, 3, [3116, 3118, 16, 1008, 3119]), (34, 2, .istore 7, 18, 0, 0, []), (36, 2, .iload 6, 19, 0, 0, []), (38, 1, .iload_n 3, 20, 0, 0, []), (39, 3, .if_icmp .ne 6, 21, 23, 0, []), (42, 2, .iload 7, 22, 0, 0, []), (44, 1, .ireturn, 23, 0, 0, []), (45, 2, .iload 7, 24, 0, 0, []), (47, 1, .iload_n 3, 25, 0, 0, []), (48, 3, .if_icmp .ne 6, 26, 28, 0, []), (51, 2, .iload 6, 27, 0, 0, []), (53, 1, .ireturn, 28, 0, 0, []), (54, 2, .iload 4, 29, 0, 0, []), (56, 1, .iconst 1, 30, 0, 0, []), (57, 2, .iload 6, 31, 0, 0, []), (59, 1, .ishl, 32, 0, 0, []), (60, 2, .iload 7, 33, 0, 0, []), (62, 3, .ifCond .ge 7, 34, 36, 0, []), (65, 1, .iconst 0, 35, 0, 0, []), (66, 3, .goto 7, 36, 39, 0, []), (69, 1, .iconst 1, 37, 0, 0, []), (70, 2, .iload 7, 38, 0, 0, []), (72, 1, .ishl, 39, 0, 0, []), (73, 1, .ior, 40, 0, 0, []), (74, 1, .iconst (-1), 41, 0, 0, []), (75, 1, .ixor, 42, 0, 0, []), (76, 1, .iand, 43, 0, 0, []), (77, 2, .istore 4, 44, 0, 0, []), (79, 3, .iinc 5 1, 45, 0, 0, []), (82, 3, .goto (-76), 46, 4, 0, []), (85, 2, .bipush (-5), 47, 0, 0, []), (87, 1, .ireturn, 48, 0, 0, [])]
def xi_32 : XI := (⟨"StarchedCollars$Pairing", "partner", "(LStarchedCollars$World;II)I"⟩, prog_4_method_4_code, 8, some (FieldType.int), xo_32)
-- 33 StarchedCollars$Pairing.firstPartner(LStarchedCollars$World;II)I maxLocals 5
def xo_33 : List XO := [(0, 1, .iload_n 3, 1, 0, 0, []), (1, 1, .iconst 1, 2, 0, 0, []), (2, 1, .iadd, 3, 0, 0, []), (3, 2, .istore 4, 4, 0, 0, []), (5, 2, .iload 4, 5, 0, 0, []), (7, 1, .aload_n 1, 6, 0, 0, []), (8, 3, .getfield 24, 7, 6, 1, [1145]), (11, 3, .if_icmp .ge 30, 8, 23, 0, []), (14, 1, .aload_n 0, 9, 0, 0, []), (15, 1, .aload_n 1, 10, 0, 0, []), (16, 1, .iload_n 2, 11, 0, 0, []), (17, 1, .iload_n 3, 12, 0, 0, []), (18, 2, .iload 4, 13, 0, 0, []), (20, 3, .invokevirtual 30, 14, 31, 4, [3106, 3108, 15, 1008, 3109]), (23, 1, .aload_n 0, 15, 0, 0, []), (24, 3, .getfield 9, 16, 2, 0, [1233]), (27, 1, .iload_n 2, 17, 0, 0, []), (28, 1, .iaload, 18, 0, 0, []), (29, 3, .if_icmp .ne 6, 19, 21, 0, []), (32, 2, .iload 4, 20, 0, 0, []), (34, 1, .ireturn, 21, 0, 0, []), (35, 3, .iinc 4 1, 22, 0, 0, []), (38, 3, .goto (-33), 23, 4, 0, []), (41, 2, .bipush (-5), 24, 0, 0, []), (43, 1, .ireturn, 25, 0, 0, [])]
def xi_33 : XI := (⟨"StarchedCollars$Pairing", "firstPartner", "(LStarchedCollars$World;II)I"⟩, prog_4_method_5_code, 5, some (FieldType.int), xo_33)
-- 34 StarchedCollars$Reader.<init>()V maxLocals 1
def xo_34 : List XO := [(0, 1, .aload_n 0, 1, 0, 0, []), (1, 3, .invokespecial 3, 2, 1000, 0, [1191, 1024, 1025]), (4, 1, .aload_n 0, 3, 0, 0, []), (5, 3, .new 9, 4, 5, 0, [1192, 1035, 1003]), (8, 1, .dup, 5, 0, 0, []), (9, 3, .invokespecial 11, 6, 48, 0, [1193, 1037, 1003, 1038, 1]), (12, 3, .putfield 12, 7, 3, 0, [1194]), (15, 1, .aload_n 0, 8, 0, 0, []), (16, 2, .bipush 100, 9, 0, 0, []), (18, 2, .newarray .byte, 10, 101, 0, [1065]), (20, 3, .putfield 18, 11, 3, 1, [1196]), (23, 1, .return_, 12, 0, 0, [])]
def xi_34 : XI := (⟨"StarchedCollars$Reader", "<init>", "()V"⟩, prog_5_method_1_code, 1, none, xo_34)
-- 35 StarchedCollars$Reader.reads([BI)Z maxLocals 4
def xo_35 : List XO := [(0, 1, .aload_n 1, 1, 0, 0, []), (1, 1, .iconst 0, 2, 0, 0, []), (2, 1, .aload_n 0, 3, 0, 0, []), (3, 3, .getfield 18, 4, 3, 1, [1196]), (6, 1, .iconst 0, 5, 0, 0, []), (7, 2, .bipush 100, 6, 0, 0, []), (9, 3, .invokestatic 22, 7, 1001, 0, [2035, 2037, 2036, 1010]), (12, 1, .aload_n 0, 8, 0, 0, []), (13, 1, .iload_n 2, 9, 0, 0, []), (14, 2, .bipush 100, 10, 0, 0, []), (16, 3, .invokestatic 28, 11, 5, 2, [2038, 2039, 1011, 2040]), (19, 3, .putfield 34, 12, 3, 2, [1197]), (22, 1, .aload_n 0, 13, 0, 0, []), (23, 1, .iconst 0, 14, 0, 0, []), (24, 3, .putfield 38, 15, 3, 3, [1198]), (27, 1, .aload_n 0, 16, 0, 0, []), (28, 3, .getfield 12, 17, 3, 0, [1194]), (31, 3, .invokevirtual 41, 18, 49, 0, [2041, 2042, 2043, 1003, 2044]), (34, 1, .iconst 1, 19, 0, 0, []), (35, 1, .istore_n 3, 20, 0, 0, []), (36, 1, .iload_n 3, 21, 0, 0, []), (37, 2, .bipush 10, 22, 0, 0, []), (39, 3, .if_icmp .gt 48, 23, 46, 0, []), (42, 1, .aload_n 0, 24, 0, 0, []), (43, 3, .invokevirtual 44, 25, 36, 0, [2045, 2047, 0, 1006, 2048]), (46, 3, .ifCond .ne 5, 26, 28, 0, []), (49, 1, .iconst 0, 27, 0, 0, []), (50, 1, .ireturn, 28, 0, 0, []), (51, 1, .aload_n 0, 29, 0, 0, []), (52, 3, .getfield 38, 30, 3, 3, [1198]), (55, 1, .aload_n 0, 31, 0, 0, []), (56, 3, .getfield 34, 32, 3, 2, [1197]), (59, 3, .if_icmp .ne 5, 33, 35, 0, []), (62, 1, .iconst 1, 34, 0, 0, []), (63, 1, .ireturn, 35, 0, 0, []), (64, 1, .iload_n 3, 36, 0, 0, []), (65, 2, .bipush 10, 37, 0, 0, []), (67, 3, .if_icmp .eq 12, 38, 42, 0, []), (70, 1, .aload_n 0, 39, 0, 0, []), (71, 2, .bipush 59, 40, 0, 0, []), (73, 3, .invokevirtual 48, 41, 42, 1, [2049, 2051, 1, 1006, 2052]), (76, 3, .ifCond .ne 5, 42, 44, 0, []), (79, 1, .iconst 0, 43, 0, 0, []), (80, 1, .ireturn, 44, 0, 0, []), (81, 3, .iinc 3 1, 45, 0, 0, []), (84, 3, .goto (-48), 46, 20, 0, []), (87, 1, .iconst 0, 47, 0, 0, []), (88, 1, .ireturn, 48, 0, 0, [])]
def xi_35 : XI := (⟨"StarchedCollars$Reader", "reads", "([BI)Z"⟩, prog_5_method_2_code, 4, some (FieldType.boolean), xo_35)
-- 36 StarchedCollars$Reader.readsClause()Z maxLocals 3
def xo_36_0 : List XO := [(0, 1, .aload_n 0, 1, 0, 0, []), (1, 2, .bipush 98, 2, 0, 0, []), (3, 3, .invokevirtual 48, 3, 42, 1, [2049, 2051, 1, 1006, 2052]), (6, 3, .ifCond .eq 52, 4, 28, 0, []), (9, 1, .aload_n 0, 5, 0, 0, []), (10, 2, .ldc 52, 6, 8, 1, [2053]), (12, 3, .invokevirtual 54, 7, 43, 1, [2054, 2056, 2, 1006, 2057]), (15, 3, .ifCond .eq 14, 8, 13, 0, []), (18, 1, .aload_n 0, 9, 0, 0, []), (19, 3, .invokevirtual 58, 10, 41, 0, [2106, 2108, 3, 1006, 2109]), (22, 3, .ifCond .eq 7, 11, 13, 0, []), (25, 1, .iconst 1, 12, 0, 0, []), (26, 3, .goto 4, 13, 14, 0, []), (29, 1, .iconst 0, 14, 0, 0, []), (30, 1, .istore_n 1, 15, 0, 0, []), (31, 1, .aload_n 0, 16, 0, 0, []), (32, 3, .getfield 12, 17, 3, 0, [1194]), (35, 1, .iload_n 1, 18, 0, 0, []), (36, 3, .ifCond .eq 10, 19, 22, 0, []), (39, 1, .aload_n 0, 20, 0, 0, []), (40, 3, .getfield 61, 21, 3, 4, [1200]), (43, 3, .goto 10, 22, 25, 0, []), (46, 1, .aload_n 0, 23, 0, 0, []), (47, 3, .getfield 12, 24, 3, 0, [1194]), (50, 3, .getfield 64, 25, 5, 0, [1041]), (53, 3, .putfield 64, 26, 5, 0, [1041]), (56, 1, .iload_n 1, 27, 0, 0, []), (57, 1, .ireturn, 28, 0, 0, []), (58, 1, .aload_n 0, 29, 0, 0, []), (59, 2, .bipush 115, 30, 0, 0, []), (61, 3, .invokevirtual 48, 31, 42, 1, [2049, 2051, 1, 1006, 2052]), (64, 3, .ifCond .ne 5, 32, 34, 0, []), (67, 1, .iconst 0, 33, 0, 0, []), (68, 1, .ireturn, 34, 0, 0, []), (69, 1, .aload_n 0, 35, 0, 0, []), (70, 2, .bipush 116, 36, 0, 0, []), (72, 3, .invokevirtual 48, 37, 42, 1, [2049, 2051, 1, 1006, 2052]), (75, 1, .istore_n 1, 38, 0, 0, []), (76, 1, .aload_n 0, 39, 0, 0, []), (77, 1, .iload_n 1, 40, 0, 0, []), (78, 3, .ifCond .eq 8, 41, 43, 0, []), (81, 2, .ldc 67, 42, 9, 1, [2110]), (83, 3, .goto 5, 43, 44, 0, []), (86, 2, .ldc 69, 44, 10, 1, [2111]), (88, 3, .invokevirtual 54, 45, 43, 1, [2054, 2056, 2, 1006, 2057]), (91, 3, .ifCond .eq 10, 46, 49, 0, []), (94, 1, .aload_n 0, 47, 0, 0, []), (95, 3, .invokevirtual 58, 48, 41, 0, [2106, 2108, 3, 1006, 2109]), (98, 3, .ifCond .ne 5, 49, 51, 0, []), (101, 1, .iconst 0, 50, 0, 0, [])]
def xo_36_1 : List XO := [(102, 1, .ireturn, 51, 0, 0, []), (103, 1, .iload_n 1, 52, 0, 0, []), (104, 3, .ifCond .eq 10, 53, 56, 0, []), (107, 1, .aload_n 0, 54, 0, 0, []), (108, 3, .getfield 61, 55, 3, 4, [1200]), (111, 3, .goto 8, 56, 59, 0, []), (114, 1, .aload_n 0, 57, 0, 0, []), (115, 3, .getfield 61, 58, 3, 4, [1200]), (118, 1, .ineg, 59, 0, 0, []), (119, 1, .istore_n 2, 60, 0, 0, []), (120, 1, .aload_n 0, 61, 0, 0, []), (121, 2, .bipush 32, 62, 0, 0, []), (123, 3, .invokevirtual 48, 63, 42, 1, [2049, 2051, 1, 1006, 2052]), (126, 3, .ifCond .eq 11, 64, 68, 0, []), (129, 1, .aload_n 0, 65, 0, 0, []), (130, 1, .iconst 0, 66, 0, 0, []), (131, 3, .invokevirtual 71, 67, 37, 1, [2112, 2114, 4, 1006, 2115]), (134, 3, .ifCond .ne 5, 68, 70, 0, []), (137, 1, .iconst 0, 69, 0, 0, []), (138, 1, .ireturn, 70, 0, 0, []), (139, 1, .aload_n 0, 71, 0, 0, []), (140, 3, .getfield 12, 72, 3, 0, [1194]), (143, 1, .iload_n 2, 73, 0, 0, []), (144, 3, .invokevirtual 75, 74, 52, 1, [2194, 2195, 2196, 1003, 2197]), (147, 1, .iconst 1, 75, 0, 0, []), (148, 1, .ireturn, 76, 0, 0, [])]
def xo_36 : List XO := xo_36_0 ++ xo_36_1
def xi_36 : XI := (⟨"StarchedCollars$Reader", "readsClause", "()Z"⟩, prog_5_method_3_code, 3, some (FieldType.boolean), xo_36)
-- 37 StarchedCollars$Reader.readsEither(I)Z maxLocals 3
def xo_37 : List XO := [(0, 1, .iconst 0, 1, 0, 0, []), (1, 1, .istore_n 2, 2, 0, 0, []), (2, 1, .iload_n 2, 3, 0, 0, []), (3, 2, .bipush 100, 4, 0, 0, []), (5, 3, .if_icmp .ge 43, 5, 25, 0, []), (8, 1, .aload_n 0, 6, 0, 0, []), (9, 1, .iload_n 1, 7, 0, 0, []), (10, 3, .invokevirtual 79, 8, 38, 1, [2116, 2118, 5, 1006, 2119]), (13, 3, .ifCond .ne 5, 9, 11, 0, []), (16, 1, .iconst 0, 10, 0, 0, []), (17, 1, .ireturn, 11, 0, 0, []), (18, 1, .iload_n 2, 12, 0, 0, []), (19, 3, .ifCond .le 12, 13, 17, 0, []), (22, 1, .aload_n 0, 14, 0, 0, []), (23, 3, .getfield 12, 15, 3, 0, [1194]), (26, 2, .bipush (-3), 16, 0, 0, []), (28, 3, .invokevirtual 82, 17, 51, 1, [2124, 2125, 2126, 1003, 2127]), (31, 1, .aload_n 0, 18, 0, 0, []), (32, 2, .bipush 124, 19, 0, 0, []), (34, 3, .invokevirtual 48, 20, 42, 1, [2049, 2051, 1, 1006, 2052]), (37, 3, .ifCond .ne 5, 21, 23, 0, []), (40, 1, .iconst 1, 22, 0, 0, []), (41, 1, .ireturn, 23, 0, 0, []), (42, 3, .iinc 2 1, 24, 0, 0, []), (45, 3, .goto (-43), 25, 2, 0, []), (48, 1, .iconst 0, 26, 0, 0, []), (49, 1, .ireturn, 27, 0, 0, [])]
def xi_37 : XI := (⟨"StarchedCollars$Reader", "readsEither", "(I)Z"⟩, prog_5_method_4_code, 3, some (FieldType.boolean), xo_37)
-- 38 StarchedCollars$Reader.readsBoth(I)Z maxLocals 3
def xo_38 : List XO := [(0, 1, .iconst 0, 1, 0, 0, []), (1, 1, .istore_n 2, 2, 0, 0, []), (2, 1, .iload_n 2, 3, 0, 0, []), (3, 2, .bipush 100, 4, 0, 0, []), (5, 3, .if_icmp .ge 43, 5, 25, 0, []), (8, 1, .aload_n 0, 6, 0, 0, []), (9, 1, .iload_n 1, 7, 0, 0, []), (10, 3, .invokevirtual 85, 8, 39, 1, [2120, 2122, 6, 1006, 2123]), (13, 3, .ifCond .ne 5, 9, 11, 0, []), (16, 1, .iconst 0, 10, 0, 0, []), (17, 1, .ireturn, 11, 0, 0, []), (18, 1, .iload_n 2, 12, 0, 0, []), (19, 3, .ifCond .le 12, 13, 17, 0, []), (22, 1, .aload_n 0, 14, 0, 0, []), (23, 3, .getfield 12, 15, 3, 0, [1194]), (26, 2, .bipush (-2), 16, 0, 0, []), (28, 3, .invokevirtual 82, 17, 51, 1, [2124, 2125, 2126, 1003, 2127]), (31, 1, .aload_n 0, 18, 0, 0, []), (32, 2, .bipush 38, 19, 0, 0, []), (34, 3, .invokevirtual 48, 20, 42, 1, [2049, 2051, 1, 1006, 2052]), (37, 3, .ifCond .ne 5, 21, 23, 0, []), (40, 1, .iconst 1, 22, 0, 0, []), (41, 1, .ireturn, 23, 0, 0, []), (42, 3, .iinc 2 1, 24, 0, 0, []), (45, 3, .goto (-43), 25, 2, 0, []), (48, 1, .iconst 0, 26, 0, 0, []), (49, 1, .ireturn, 27, 0, 0, [])]
def xi_38 : XI := (⟨"StarchedCollars$Reader", "readsBoth", "(I)Z"⟩, prog_5_method_5_code, 3, some (FieldType.boolean), xo_38)
-- 39 StarchedCollars$Reader.readsOne(I)Z maxLocals 3
def xo_39 : List XO := [(0, 1, .iload_n 1, 1, 0, 0, []), (1, 1, .iconst 5, 2, 0, 0, []), (2, 3, .if_icmp .ge 30, 3, 19, 0, []), (5, 1, .aload_n 0, 4, 0, 0, []), (6, 2, .bipush 33, 5, 0, 0, []), (8, 3, .invokevirtual 48, 6, 42, 1, [2049, 2051, 1, 1006, 2052]), (11, 3, .ifCond .eq 21, 7, 19, 0, []), (14, 1, .aload_n 0, 8, 0, 0, []), (15, 1, .iload_n 1, 9, 0, 0, []), (16, 1, .iconst 1, 10, 0, 0, []), (17, 1, .iadd, 11, 0, 0, []), (18, 3, .invokevirtual 85, 12, 39, 1, [2120, 2122, 6, 1006, 2123]), (21, 1, .istore_n 2, 13, 0, 0, []), (22, 1, .aload_n 0, 14, 0, 0, []), (23, 3, .getfield 12, 15, 3, 0, [1194]), (26, 1, .iconst (-1), 16, 0, 0, []), (27, 3, .invokevirtual 82, 17, 51, 1, [2124, 2125, 2126, 1003, 2127]), (30, 1, .iload_n 2, 18, 0, 0, []), (31, 1, .ireturn, 19, 0, 0, []), (32, 1, .iload_n 1, 20, 0, 0, []), (33, 1, .iconst 5, 21, 0, 0, []), (34, 3, .if_icmp .ge 37, 22, 40, 0, []), (37, 1, .aload_n 0, 23, 0, 0, []), (38, 2, .bipush 40, 24, 0, 0, []), (40, 3, .invokevirtual 48, 25, 42, 1, [2049, 2051, 1, 1006, 2052]), (43, 3, .ifCond .eq 28, 26, 40, 0, []), (46, 1, .aload_n 0, 27, 0, 0, []), (47, 1, .iload_n 1, 28, 0, 0, []), (48, 1, .iconst 1, 29, 0, 0, []), (49, 1, .iadd, 30, 0, 0, []), (50, 3, .invokevirtual 71, 31, 37, 1, [2112, 2114, 4, 1006, 2115]), (53, 3, .ifCond .eq 16, 32, 38, 0, []), (56, 1, .aload_n 0, 33, 0, 0, []), (57, 2, .bipush 41, 34, 0, 0, []), (59, 3, .invokevirtual 48, 35, 42, 1, [2049, 2051, 1, 1006, 2052]), (62, 3, .ifCond .eq 7, 36, 38, 0, []), (65, 1, .iconst 1, 37, 0, 0, []), (66, 3, .goto 4, 38, 39, 0, []), (69, 1, .iconst 0, 39, 0, 0, []), (70, 1, .ireturn, 40, 0, 0, []), (71, 1, .aload_n 0, 41, 0, 0, []), (72, 3, .invokevirtual 88, 42, 40, 0, [2128, 2130, 7, 1006, 2131]), (75, 1, .ireturn, 43, 0, 0, [])]
def xi_39 : XI := (⟨"StarchedCollars$Reader", "readsOne", "(I)Z"⟩, prog_5_method_6_code, 3, some (FieldType.boolean), xo_39)
-- 40 StarchedCollars$Reader.readsTest()Z maxLocals 3
def xo_40_0 : List XO := [(0, 1, .aload_n 0, 1, 0, 0, []), (1, 3, .getfield 38, 2, 3, 3, [1198]), (4, 1, .aload_n 0, 3, 0, 0, []), (5, 3, .getfield 34, 4, 3, 2, [1197]), (8, 3, .if_icmp .ge 21, 5, 14, 0, []), (11, 2, .ldc 91, 6, 11, 1, [2132]), (13, 1, .aload_n 0, 7, 0, 0, []), (14, 3, .getfield 18, 8, 3, 1, [1196]), (17, 1, .aload_n 0, 9, 0, 0, []), (18, 3, .getfield 38, 10, 3, 3, [1198]), (21, 1, .baload, 11, 0, 0, []), (22, 1, .i2c, 12, 0, 0, []), (23, 3, .invokevirtual 93, 13, 8, 1, [2133, 2134, 2135, 1012, 2136]), (26, 3, .goto 4, 14, 15, 0, []), (29, 1, .iconst (-1), 15, 0, 0, []), (30, 1, .istore_n 1, 16, 0, 0, []), (31, 1, .iload_n 1, 17, 0, 0, []), (32, 3, .ifCond .ge 5, 18, 20, 0, []), (35, 1, .iconst 0, 19, 0, 0, []), (36, 1, .ireturn, 20, 0, 0, []), (37, 1, .aload_n 0, 21, 0, 0, []), (38, 1, .dup, 22, 0, 0, []), (39, 3, .getfield 38, 23, 3, 3, [1198]), (42, 1, .iconst 1, 24, 0, 0, []), (43, 1, .iadd, 25, 0, 0, []), (44, 3, .putfield 38, 26, 3, 3, [1198]), (47, 1, .aload_n 0, 27, 0, 0, []), (48, 3, .getfield 38, 28, 3, 3, [1198]), (51, 1, .aload_n 0, 29, 0, 0, []), (52, 3, .getfield 34, 30, 3, 2, [1197]), (55, 3, .if_icmp .ge 21, 31, 40, 0, []), (58, 2, .ldc 99, 32, 12, 1, [2190]), (60, 1, .aload_n 0, 33, 0, 0, []), (61, 3, .getfield 18, 34, 3, 1, [1196]), (64, 1, .aload_n 0, 35, 0, 0, []), (65, 3, .getfield 38, 36, 3, 3, [1198]), (68, 1, .baload, 37, 0, 0, []), (69, 1, .i2c, 38, 0, 0, []), (70, 3, .invokevirtual 93, 39, 8, 1, [2133, 2134, 2135, 1012, 2136]), (73, 3, .goto 4, 40, 41, 0, []), (76, 1, .iconst (-1), 41, 0, 0, []), (77, 1, .istore_n 2, 42, 0, 0, []), (78, 1, .iload_n 2, 43, 0, 0, []), (79, 3, .ifCond .ge 5, 44, 46, 0, []), (82, 1, .iconst 0, 45, 0, 0, []), (83, 1, .ireturn, 46, 0, 0, []), (84, 1, .aload_n 0, 47, 0, 0, []), (85, 1, .dup, 48, 0, 0, []), (86, 3, .getfield 38, 49, 3, 3, [1198]), (89, 1, .iconst 1, 50, 0, 0, [])]
def xo_40_1 : List XO := [(90, 1, .iadd, 51, 0, 0, []), (91, 3, .putfield 38, 52, 3, 3, [1198]), (94, 1, .aload_n 0, 53, 0, 0, []), (95, 3, .invokevirtual 58, 54, 41, 0, [2106, 2108, 3, 1006, 2109]), (98, 3, .ifCond .ne 5, 55, 57, 0, []), (101, 1, .iconst 0, 56, 0, 0, []), (102, 1, .ireturn, 57, 0, 0, []), (103, 1, .aload_n 0, 58, 0, 0, []), (104, 3, .getfield 12, 59, 3, 0, [1194]), (107, 1, .iload_n 1, 60, 0, 0, []), (108, 1, .iload_n 2, 61, 0, 0, []), (109, 1, .aload_n 0, 62, 0, 0, []), (110, 3, .getfield 61, 63, 3, 4, [1200]), (113, 3, .invokestatic 101, 64, 55, 3, [2191, 2192, 1003, 2193]), (116, 3, .invokevirtual 82, 65, 51, 1, [2124, 2125, 2126, 1003, 2127]), (119, 1, .iconst 1, 66, 0, 0, []), (120, 1, .ireturn, 67, 0, 0, [])]
def xo_40 : List XO := xo_40_0 ++ xo_40_1
def xi_40 : XI := (⟨"StarchedCollars$Reader", "readsTest", "()Z"⟩, prog_5_method_7_code, 3, some (FieldType.boolean), xo_40)
-- 41 StarchedCollars$Reader.readsNumber()Z maxLocals 2
def xo_41_0 : List XO := [(0, 1, .iconst 0, 1, 0, 0, []), (1, 1, .istore_n 1, 2, 0, 0, []), (2, 1, .aload_n 0, 3, 0, 0, []), (3, 1, .iconst 0, 4, 0, 0, []), (4, 3, .putfield 61, 5, 3, 4, [1200]), (7, 1, .iload_n 1, 6, 0, 0, []), (8, 1, .iconst 2, 7, 0, 0, []), (9, 3, .if_icmp .ge 96, 8, 57, 0, []), (12, 1, .aload_n 0, 9, 0, 0, []), (13, 3, .getfield 38, 10, 3, 3, [1198]), (16, 1, .aload_n 0, 11, 0, 0, []), (17, 3, .getfield 34, 12, 3, 2, [1197]), (20, 3, .if_icmp .ge 85, 13, 57, 0, []), (23, 1, .aload_n 0, 14, 0, 0, []), (24, 3, .getfield 18, 15, 3, 1, [1196]), (27, 1, .aload_n 0, 16, 0, 0, []), (28, 3, .getfield 38, 17, 3, 3, [1198]), (31, 1, .baload, 18, 0, 0, []), (32, 2, .bipush 48, 19, 0, 0, []), (34, 3, .if_icmp .lt 71, 20, 57, 0, []), (37, 1, .aload_n 0, 21, 0, 0, []), (38, 3, .getfield 18, 22, 3, 1, [1196]), (41, 1, .aload_n 0, 23, 0, 0, []), (42, 3, .getfield 38, 24, 3, 3, [1198]), (45, 1, .baload, 25, 0, 0, []), (46, 2, .bipush 57, 26, 0, 0, []), (48, 3, .if_icmp .gt 57, 27, 57, 0, []), (51, 1, .iload_n 1, 28, 0, 0, []), (52, 1, .iconst 1, 29, 0, 0, []), (53, 3, .if_icmp .ne 12, 30, 35, 0, []), (56, 1, .aload_n 0, 31, 0, 0, []), (57, 3, .getfield 61, 32, 3, 4, [1200]), (60, 3, .ifCond .ne 5, 33, 35, 0, []), (63, 1, .iconst 1, 34, 0, 0, []), (64, 1, .ireturn, 35, 0, 0, []), (65, 1, .aload_n 0, 36, 0, 0, []), (66, 1, .aload_n 0, 37, 0, 0, []), (67, 3, .getfield 61, 38, 3, 4, [1200]), (70, 2, .bipush 10, 39, 0, 0, []), (72, 1, .imul, 40, 0, 0, []), (73, 1, .aload_n 0, 41, 0, 0, []), (74, 3, .getfield 18, 42, 3, 1, [1196]), (77, 1, .aload_n 0, 43, 0, 0, []), (78, 3, .getfield 38, 44, 3, 3, [1198]), (81, 1, .baload, 45, 0, 0, []), (82, 1, .iadd, 46, 0, 0, []), (83, 2, .bipush 48, 47, 0, 0, []), (85, 1, .isub, 48, 0, 0, []), (86, 3, .putfield 61, 49, 3, 4, [1200]), (89, 1, .aload_n 0, 50, 0, 0, [])]
def xo_41_1 : List XO := [(90, 1, .dup, 51, 0, 0, []), (91, 3, .getfield 38, 52, 3, 3, [1198]), (94, 1, .iconst 1, 53, 0, 0, []), (95, 1, .iadd, 54, 0, 0, []), (96, 3, .putfield 38, 55, 3, 3, [1198]), (99, 3, .iinc 1 1, 56, 0, 0, []), (102, 3, .goto (-95), 57, 5, 0, []), (105, 1, .iload_n 1, 58, 0, 0, []), (106, 3, .ifCond .le 7, 59, 61, 0, []), (109, 1, .iconst 1, 60, 0, 0, []), (110, 3, .goto 4, 61, 62, 0, []), (113, 1, .iconst 0, 62, 0, 0, []), (114, 1, .ireturn, 63, 0, 0, [])]
def xo_41 : List XO := xo_41_0 ++ xo_41_1
def xi_41 : XI := (⟨"StarchedCollars$Reader", "readsNumber", "()Z"⟩, prog_5_method_8_code, 2, some (FieldType.boolean), xo_41)
-- 42 StarchedCollars$Reader.takes(C)Z maxLocals 2
def xo_42 : List XO := [(0, 1, .aload_n 0, 1, 0, 0, []), (1, 3, .getfield 38, 2, 3, 3, [1198]), (4, 1, .aload_n 0, 3, 0, 0, []), (5, 3, .getfield 34, 4, 3, 2, [1197]), (8, 3, .if_icmp .ge 16, 5, 12, 0, []), (11, 1, .aload_n 0, 6, 0, 0, []), (12, 3, .getfield 18, 7, 3, 1, [1196]), (15, 1, .aload_n 0, 8, 0, 0, []), (16, 3, .getfield 38, 9, 3, 3, [1198]), (19, 1, .baload, 10, 0, 0, []), (20, 1, .iload_n 1, 11, 0, 0, []), (21, 3, .if_icmp .eq 5, 12, 14, 0, []), (24, 1, .iconst 0, 13, 0, 0, []), (25, 1, .ireturn, 14, 0, 0, []), (26, 1, .aload_n 0, 15, 0, 0, []), (27, 1, .dup, 16, 0, 0, []), (28, 3, .getfield 38, 17, 3, 3, [1198]), (31, 1, .iconst 1, 18, 0, 0, []), (32, 1, .iadd, 19, 0, 0, []), (33, 3, .putfield 38, 20, 3, 3, [1198]), (36, 1, .iconst 1, 21, 0, 0, []), (37, 1, .ireturn, 22, 0, 0, [])]
def xi_42 : XI := (⟨"StarchedCollars$Reader", "takes", "(C)Z"⟩, prog_5_method_9_code, 2, some (FieldType.boolean), xo_42)
-- 43 StarchedCollars$Reader.takesAll(Ljava/lang/String;)Z maxLocals 3
def xo_43 : List XO := [(0, 1, .iconst 0, 1, 0, 0, []), (1, 1, .istore_n 2, 2, 0, 0, []), (2, 1, .iload_n 2, 3, 0, 0, []), (3, 1, .aload_n 1, 4, 0, 0, []), (4, 3, .invokevirtual 105, 5, 6, 0, [2058, 2059, 2060, 1012, 2061]), (7, 3, .if_icmp .ge 23, 6, 16, 0, []), (10, 1, .aload_n 0, 7, 0, 0, []), (11, 1, .aload_n 1, 8, 0, 0, []), (12, 1, .iload_n 2, 9, 0, 0, []), (13, 3, .invokevirtual 109, 10, 7, 1, [2068, 2069, 2070, 1012, 2071]), (16, 3, .invokevirtual 48, 11, 42, 1, [2049, 2051, 1, 1006, 2052]), (19, 3, .ifCond .ne 5, 12, 14, 0, []), (22, 1, .iconst 0, 13, 0, 0, []), (23, 1, .ireturn, 14, 0, 0, []), (24, 3, .iinc 2 1, 15, 0, 0, []), (27, 3, .goto (-25), 16, 2, 0, []), (30, 1, .iconst 1, 17, 0, 0, []), (31, 1, .ireturn, 18, 0, 0, [])]
def xi_43 : XI := (⟨"StarchedCollars$Reader", "takesAll", "(Ljava/lang/String;)Z"⟩, prog_5_method_10_code, 3, some (FieldType.boolean), xo_43)
-- 44 StarchedCollars$Rows.<init>()V maxLocals 1
def xo_44 : List XO := [(0, 1, .aload_n 0, 1, 0, 0, []), (1, 3, .invokespecial 3, 2, 1000, 0, [1072, 1024, 1025]), (4, 1, .aload_n 0, 3, 0, 0, []), (5, 2, .bipush 8, 4, 0, 0, []), (7, 2, .newarray .int, 5, 100, 0, [1066]), (9, 3, .putfield 9, 6, 4, 0, [1073]), (12, 1, .aload_n 0, 7, 0, 0, []), (13, 2, .bipush 8, 8, 0, 0, []), (15, 2, .newarray .int, 9, 100, 0, [1066]), (17, 3, .putfield 15, 10, 4, 1, [1075]), (20, 1, .aload_n 0, 11, 0, 0, []), (21, 2, .bipush 8, 12, 0, 0, []), (23, 2, .newarray .int, 13, 100, 0, [1066]), (25, 3, .putfield 18, 14, 4, 2, [1077]), (28, 1, .return_, 15, 0, 0, [])]
def xi_44 : XI := (⟨"StarchedCollars$Rows", "<init>", "()V"⟩, prog_6_method_1_code, 1, none, xo_44)
-- 45 StarchedCollars$Rows.put(III)I maxLocals 4
def xo_45 : List XO := [(0, 1, .aload_n 0, 1, 0, 0, []), (1, 3, .getfield 21, 2, 4, 3, [1079]), (4, 2, .bipush 8, 3, 0, 0, []), (6, 3, .if_icmp .ge 43, 4, 28, 0, []), (9, 1, .aload_n 0, 5, 0, 0, []), (10, 3, .getfield 9, 6, 4, 0, [1073]), (13, 1, .aload_n 0, 7, 0, 0, []), (14, 3, .getfield 21, 8, 4, 3, [1079]), (17, 1, .iload_n 1, 9, 0, 0, []), (18, 1, .iastore, 10, 0, 0, []), (19, 1, .aload_n 0, 11, 0, 0, []), (20, 3, .getfield 15, 12, 4, 1, [1075]), (23, 1, .aload_n 0, 13, 0, 0, []), (24, 3, .getfield 21, 14, 4, 3, [1079]), (27, 1, .iload_n 2, 15, 0, 0, []), (28, 1, .iastore, 16, 0, 0, []), (29, 1, .aload_n 0, 17, 0, 0, []), (30, 3, .getfield 18, 18, 4, 2, [1077]), (33, 1, .aload_n 0, 19, 0, 0, []), (34, 3, .getfield 21, 20, 4, 3, [1079]), (37, 1, .iload_n 3, 21, 0, 0, []), (38, 1, .iastore, 22, 0, 0, []), (39, 1, .aload_n 0, 23, 0, 0, []), (40, 1, .dup, 24, 0, 0, []), (41, 3, .getfield 21, 25, 4, 3, [1079]), (44, 1, .iconst 1, 26, 0, 0, []), (45, 1, .iadd, 27, 0, 0, []), (46, 3, .putfield 21, 28, 4, 3, [1079]), (49, 1, .aload_n 0, 29, 0, 0, []), (50, 3, .getfield 21, 30, 4, 3, [1079]), (53, 1, .ireturn, 31, 0, 0, [])]
def xi_45 : XI := (⟨"StarchedCollars$Rows", "put", "(III)I"⟩, prog_6_method_2_code, 4, some (FieldType.int), xo_45)
-- 46 StarchedCollars$Rows.empty()I maxLocals 1
def xo_46 : List XO := [(0, 1, .aload_n 0, 1, 0, 0, []), (1, 1, .iconst 0, 2, 0, 0, []), (2, 3, .putfield 21, 3, 4, 3, [1079]), (5, 1, .aload_n 0, 4, 0, 0, []), (6, 3, .getfield 21, 5, 4, 3, [1079]), (9, 1, .ireturn, 6, 0, 0, [])]
def xi_46 : XI := (⟨"StarchedCollars$Rows", "empty", "()I"⟩, prog_6_method_3_code, 1, some (FieldType.int), xo_46)
-- 47 StarchedCollars$Rows.copyFrom(LStarchedCollars$Rows;)V maxLocals 2
def xo_47 : List XO := [(0, 1, .aload_n 1, 1, 0, 0, []), (1, 3, .getfield 9, 2, 4, 0, [1073]), (4, 1, .iconst 0, 3, 0, 0, []), (5, 1, .aload_n 0, 4, 0, 0, []), (6, 3, .getfield 9, 5, 4, 0, [1073]), (9, 1, .iconst 0, 6, 0, 0, []), (10, 2, .bipush 8, 7, 0, 0, []), (12, 3, .invokestatic 25, 8, 1001, 0, [4012, 2037, 2036, 1010]), (15, 1, .aload_n 1, 9, 0, 0, []), (16, 3, .getfield 15, 10, 4, 1, [1075]), (19, 1, .iconst 0, 11, 0, 0, []), (20, 1, .aload_n 0, 12, 0, 0, []), (21, 3, .getfield 15, 13, 4, 1, [1075]), (24, 1, .iconst 0, 14, 0, 0, []), (25, 2, .bipush 8, 15, 0, 0, []), (27, 3, .invokestatic 25, 16, 1001, 0, [4012, 2037, 2036, 1010]), (30, 1, .aload_n 1, 17, 0, 0, []), (31, 3, .getfield 18, 18, 4, 2, [1077]), (34, 1, .iconst 0, 19, 0, 0, []), (35, 1, .aload_n 0, 20, 0, 0, []), (36, 3, .getfield 18, 21, 4, 2, [1077]), (39, 1, .iconst 0, 22, 0, 0, []), (40, 2, .bipush 8, 23, 0, 0, []), (42, 3, .invokestatic 25, 24, 1001, 0, [4012, 2037, 2036, 1010]), (45, 1, .aload_n 0, 25, 0, 0, []), (46, 1, .aload_n 1, 26, 0, 0, []), (47, 3, .getfield 21, 27, 4, 3, [1079]), (50, 3, .putfield 21, 28, 4, 3, [1079]), (53, 1, .return_, 29, 0, 0, [])]
def xi_47 : XI := (⟨"StarchedCollars$Rows", "copyFrom", "(LStarchedCollars$Rows;)V"⟩, prog_6_method_4_code, 2, none, xo_47)
-- 48 StarchedCollars$Town.<init>()V maxLocals 1
def xo_48 : List XO := [(0, 1, .aload_n 0, 1, 0, 0, []), (1, 3, .invokespecial 3, 2, 1000, 0, [1039, 1024, 1025]), (4, 1, .aload_n 0, 3, 0, 0, []), (5, 2, .bipush 90, 4, 0, 0, []), (7, 3, .putfield 9, 5, 5, 0, [1040]), (10, 1, .aload_n 0, 6, 0, 0, []), (11, 2, .bipush 10, 7, 0, 0, []), (13, 2, .newarray .int, 8, 100, 0, [1066]), (15, 3, .putfield 15, 9, 5, 2, [1045]), (18, 1, .aload_n 0, 10, 0, 0, []), (19, 2, .bipush 10, 11, 0, 0, []), (21, 2, .newarray .int, 12, 100, 0, [1066]), (23, 3, .putfield 19, 13, 5, 3, [1046]), (26, 1, .aload_n 0, 14, 0, 0, []), (27, 2, .bipush 100, 15, 0, 0, []), (29, 2, .newarray .int, 16, 100, 0, [1066]), (31, 3, .putfield 22, 17, 5, 4, [1047]), (34, 1, .aload_n 0, 18, 0, 0, []), (35, 2, .bipush 6, 19, 0, 0, []), (37, 2, .newarray .int, 20, 100, 0, [1066]), (39, 3, .putfield 25, 21, 5, 6, [1049]), (42, 1, .return_, 22, 0, 0, [])]
def xi_48 : XI := (⟨"StarchedCollars$Town", "<init>", "()V"⟩, prog_7_method_1_code, 1, none, xo_48)
-- 49 StarchedCollars$Town.clear()V maxLocals 1
def xo_49 : List XO := [(0, 1, .aload_n 0, 1, 0, 0, []), (1, 2, .bipush 90, 2, 0, 0, []), (3, 3, .putfield 9, 3, 5, 0, [1040]), (6, 1, .aload_n 0, 4, 0, 0, []), (7, 1, .iconst 0, 5, 0, 0, []), (8, 3, .putfield 28, 6, 5, 1, [1044]), (11, 1, .aload_n 0, 7, 0, 0, []), (12, 1, .iconst 0, 8, 0, 0, []), (13, 3, .putfield 31, 9, 5, 5, [1048]), (16, 1, .return_, 10, 0, 0, [])]
def xi_49 : XI := (⟨"StarchedCollars$Town", "clear", "()V"⟩, prog_7_method_2_code, 1, none, xo_49)
-- 50 StarchedCollars$Town.copyFrom(LStarchedCollars$Town;)V maxLocals 2
def xo_50 : List XO := [(0, 1, .aload_n 0, 1, 0, 0, []), (1, 1, .aload_n 1, 2, 0, 0, []), (2, 3, .getfield 9, 3, 5, 0, [1040]), (5, 3, .putfield 9, 4, 5, 0, [1040]), (8, 1, .aload_n 0, 5, 0, 0, []), (9, 1, .aload_n 1, 6, 0, 0, []), (10, 3, .getfield 28, 7, 5, 1, [1044]), (13, 3, .putfield 28, 8, 5, 1, [1044]), (16, 1, .aload_n 1, 9, 0, 0, []), (17, 3, .getfield 15, 10, 5, 2, [1045]), (20, 1, .iconst 0, 11, 0, 0, []), (21, 1, .aload_n 0, 12, 0, 0, []), (22, 3, .getfield 15, 13, 5, 2, [1045]), (25, 1, .iconst 0, 14, 0, 0, []), (26, 2, .bipush 10, 15, 0, 0, []), (28, 3, .invokestatic 34, 16, 1001, 0, [2202, 2037, 2036, 1010]), (31, 1, .aload_n 1, 17, 0, 0, []), (32, 3, .getfield 19, 18, 5, 3, [1046]), (35, 1, .iconst 0, 19, 0, 0, []), (36, 1, .aload_n 0, 20, 0, 0, []), (37, 3, .getfield 19, 21, 5, 3, [1046]), (40, 1, .iconst 0, 22, 0, 0, []), (41, 2, .bipush 10, 23, 0, 0, []), (43, 3, .invokestatic 34, 24, 1001, 0, [2202, 2037, 2036, 1010]), (46, 1, .aload_n 1, 25, 0, 0, []), (47, 3, .getfield 22, 26, 5, 4, [1047]), (50, 1, .iconst 0, 27, 0, 0, []), (51, 1, .aload_n 0, 28, 0, 0, []), (52, 3, .getfield 22, 29, 5, 4, [1047]), (55, 1, .iconst 0, 30, 0, 0, []), (56, 2, .bipush 100, 31, 0, 0, []), (58, 3, .invokestatic 34, 32, 1001, 0, [2202, 2037, 2036, 1010]), (61, 1, .aload_n 0, 33, 0, 0, []), (62, 1, .aload_n 1, 34, 0, 0, []), (63, 3, .getfield 31, 35, 5, 5, [1048]), (66, 3, .putfield 31, 36, 5, 5, [1048]), (69, 1, .return_, 37, 0, 0, [])]
def xi_50 : XI := (⟨"StarchedCollars$Town", "copyFrom", "(LStarchedCollars$Town;)V"⟩, prog_7_method_3_code, 2, none, xo_50)
-- 51 StarchedCollars$Town.put(I)V maxLocals 2
def xo_51 : List XO := [(0, 1, .aload_n 0, 1, 0, 0, []), (1, 3, .getfield 31, 2, 5, 5, [1048]), (4, 2, .bipush 100, 3, 0, 0, []), (6, 3, .if_icmp .ge 23, 4, 16, 0, []), (9, 1, .aload_n 0, 5, 0, 0, []), (10, 3, .getfield 22, 6, 5, 4, [1047]), (13, 1, .aload_n 0, 7, 0, 0, []), (14, 3, .getfield 31, 8, 5, 5, [1048]), (17, 1, .iload_n 1, 9, 0, 0, []), (18, 1, .iastore, 10, 0, 0, []), (19, 1, .aload_n 0, 11, 0, 0, []), (20, 1, .dup, 12, 0, 0, []), (21, 3, .getfield 31, 13, 5, 5, [1048]), (24, 1, .iconst 1, 14, 0, 0, []), (25, 1, .iadd, 15, 0, 0, []), (26, 3, .putfield 31, 16, 5, 5, [1048]), (29, 1, .return_, 17, 0, 0, [])]
def xi_51 : XI := (⟨"StarchedCollars$Town", "put", "(I)V"⟩, prog_7_method_4_code, 2, none, xo_51)
-- 52 StarchedCollars$Town.endClause(I)V maxLocals 2
def xo_52 : List XO := [(0, 1, .aload_n 0, 1, 0, 0, []), (1, 3, .getfield 28, 2, 5, 1, [1044]), (4, 2, .bipush 10, 3, 0, 0, []), (6, 3, .if_icmp .ge 36, 4, 23, 0, []), (9, 1, .aload_n 0, 5, 0, 0, []), (10, 3, .getfield 15, 6, 5, 2, [1045]), (13, 1, .aload_n 0, 7, 0, 0, []), (14, 3, .getfield 28, 8, 5, 1, [1044]), (17, 1, .iload_n 1, 9, 0, 0, []), (18, 1, .iastore, 10, 0, 0, []), (19, 1, .aload_n 0, 11, 0, 0, []), (20, 3, .getfield 19, 12, 5, 3, [1046]), (23, 1, .aload_n 0, 13, 0, 0, []), (24, 3, .getfield 28, 14, 5, 1, [1044]), (27, 1, .aload_n 0, 15, 0, 0, []), (28, 3, .getfield 31, 16, 5, 5, [1048]), (31, 1, .iastore, 17, 0, 0, []), (32, 1, .aload_n 0, 18, 0, 0, []), (33, 1, .dup, 19, 0, 0, []), (34, 3, .getfield 28, 20, 5, 1, [1044]), (37, 1, .iconst 1, 21, 0, 0, []), (38, 1, .iadd, 22, 0, 0, []), (39, 3, .putfield 28, 23, 5, 1, [1044]), (42, 1, .return_, 24, 0, 0, [])]
def xi_52 : XI := (⟨"StarchedCollars$Town", "endClause", "(I)V"⟩, prog_7_method_5_code, 2, none, xo_52)
-- 53 StarchedCollars$Town.sum(LStarchedCollars$Man;I)I maxLocals 6
def xo_53_0 : List XO := [(0, 1, .aload_n 0, 1, 0, 0, []), (1, 3, .getfield 25, 2, 5, 6, [1049]), (4, 1, .iconst 0, 3, 0, 0, []), (5, 1, .aload_n 1, 4, 0, 0, []), (6, 3, .getfield 40, 5, 1, 0, [1097]), (9, 1, .iastore, 6, 0, 0, []), (10, 1, .aload_n 0, 7, 0, 0, []), (11, 3, .getfield 25, 8, 5, 6, [1049]), (14, 1, .iconst 1, 9, 0, 0, []), (15, 1, .aload_n 1, 10, 0, 0, []), (16, 3, .getfield 45, 11, 1, 1, [1102]), (19, 1, .iastore, 12, 0, 0, []), (20, 1, .aload_n 0, 13, 0, 0, []), (21, 3, .getfield 25, 14, 5, 6, [1049]), (24, 1, .iconst 2, 15, 0, 0, []), (25, 1, .aload_n 1, 16, 0, 0, []), (26, 3, .getfield 48, 17, 1, 2, [1106]), (29, 1, .iastore, 18, 0, 0, []), (30, 1, .aload_n 0, 19, 0, 0, []), (31, 3, .getfield 25, 20, 5, 6, [1049]), (34, 1, .iconst 3, 21, 0, 0, []), (35, 1, .aload_n 1, 22, 0, 0, []), (36, 3, .getfield 51, 23, 1, 4, [1111]), (39, 3, .invokestatic 54, 24, 1, 1, [2224, 2225, 1017, 2226]), (42, 1, .iastore, 25, 0, 0, []), (43, 1, .aload_n 0, 26, 0, 0, []), (44, 3, .getfield 25, 27, 5, 6, [1049]), (47, 1, .iconst 4, 28, 0, 0, []), (48, 1, .aload_n 1, 29, 0, 0, []), (49, 3, .getfield 60, 30, 1, 5, [1114]), (52, 2, .bipush 10, 31, 0, 0, []), (54, 1, .idiv, 32, 0, 0, []), (55, 1, .iastore, 33, 0, 0, []), (56, 1, .aload_n 0, 34, 0, 0, []), (57, 3, .getfield 25, 35, 5, 6, [1049]), (60, 1, .iconst 5, 36, 0, 0, []), (61, 1, .iload_n 2, 37, 0, 0, []), (62, 2, .bipush 10, 38, 0, 0, []), (64, 1, .irem, 39, 0, 0, []), (65, 1, .iastore, 40, 0, 0, []), (66, 1, .iconst 3, 41, 0, 0, []), (67, 1, .istore_n 3, 42, 0, 0, []), (68, 1, .iconst 0, 43, 0, 0, []), (69, 2, .istore 4, 44, 0, 0, []), (71, 1, .iconst 0, 45, 0, 0, []), (72, 2, .istore 5, 46, 0, 0, []), (74, 2, .iload 5, 47, 0, 0, []), (76, 1, .aload_n 0, 48, 0, 0, []), (77, 3, .getfield 28, 49, 5, 1, [1044]), (80, 3, .if_icmp .ge 48, 50, 74, 0, [])]
def xo_53_1 : List XO := [(83, 1, .iload_n 3, 51, 0, 0, []), (84, 1, .aload_n 0, 52, 0, 0, []), (85, 2, .iload 4, 53, 0, 0, []), (87, 1, .aload_n 0, 54, 0, 0, []), (88, 3, .getfield 19, 55, 5, 3, [1046]), (91, 2, .iload 5, 56, 0, 0, []), (93, 1, .iaload, 57, 0, 0, []), (94, 3, .invokevirtual 63, 58, 54, 2, [2230, 2232, 8, 1003, 2233]), (97, 3, .ifCond .eq 13, 59, 64, 0, []), (100, 1, .aload_n 0, 60, 0, 0, []), (101, 3, .getfield 15, 61, 5, 2, [1045]), (104, 2, .iload 5, 62, 0, 0, []), (106, 1, .iaload, 63, 0, 0, []), (107, 3, .goto 4, 64, 65, 0, []), (110, 1, .iconst 0, 65, 0, 0, []), (111, 1, .iadd, 66, 0, 0, []), (112, 1, .istore_n 3, 67, 0, 0, []), (113, 1, .aload_n 0, 68, 0, 0, []), (114, 3, .getfield 19, 69, 5, 3, [1046]), (117, 2, .iload 5, 70, 0, 0, []), (119, 1, .iaload, 71, 0, 0, []), (120, 2, .istore 4, 72, 0, 0, []), (122, 3, .iinc 5 1, 73, 0, 0, []), (125, 3, .goto (-51), 74, 46, 0, []), (128, 1, .iload_n 3, 75, 0, 0, []), (129, 1, .ireturn, 76, 0, 0, [])]
def xo_53 : List XO := xo_53_0 ++ xo_53_1
def xi_53 : XI := (⟨"StarchedCollars$Town", "sum", "(LStarchedCollars$Man;I)I"⟩, prog_7_method_6_code, 6, some (FieldType.int), xo_53)
-- 54 StarchedCollars$Town.holds(II)Z maxLocals 7
def xo_54_0 : List XO := [(0, 1, .lconst 0, 1, 0, 0, []), (1, 1, .lstore_n 3, 2, 0, 0, []), (2, 1, .iload_n 1, 3, 0, 0, []), (3, 2, .istore 5, 4, 0, 0, []), (5, 2, .iload 5, 5, 0, 0, []), (7, 1, .iload_n 2, 6, 0, 0, []), (8, 3, .if_icmp .ge 89, 7, 59, 0, []), (11, 1, .aload_n 0, 8, 0, 0, []), (12, 3, .getfield 22, 9, 5, 4, [1047]), (15, 2, .iload 5, 10, 0, 0, []), (17, 1, .iaload, 11, 0, 0, []), (18, 2, .istore 6, 12, 0, 0, []), (20, 2, .iload 6, 13, 0, 0, []), (22, 1, .iconst (-1), 14, 0, 0, []), (23, 3, .if_icmp .ne 10, 15, 20, 0, []), (26, 1, .lload_n 3, 16, 0, 0, []), (27, 1, .lconst 1, 17, 0, 0, []), (28, 1, .lxor, 18, 0, 0, []), (29, 1, .lstore_n 3, 19, 0, 0, []), (30, 3, .goto 61, 20, 57, 0, []), (33, 2, .iload 6, 21, 0, 0, []), (35, 2, .bipush (-2), 22, 0, 0, []), (37, 3, .if_icmp .ne 16, 23, 32, 0, []), (40, 1, .lload_n 3, 24, 0, 0, []), (41, 1, .iconst 1, 25, 0, 0, []), (42, 1, .lshr, 26, 0, 0, []), (43, 1, .lload_n 3, 27, 0, 0, []), (44, 3, .ldc2_w 67, 28, 4, 3, [2234]), (47, 1, .lor, 29, 0, 0, []), (48, 1, .land, 30, 0, 0, []), (49, 1, .lstore_n 3, 31, 0, 0, []), (50, 3, .goto 41, 32, 57, 0, []), (53, 2, .iload 6, 33, 0, 0, []), (55, 2, .bipush (-3), 34, 0, 0, []), (57, 3, .if_icmp .ne 14, 35, 44, 0, []), (60, 1, .lload_n 3, 36, 0, 0, []), (61, 1, .iconst 1, 37, 0, 0, []), (62, 1, .lshr, 38, 0, 0, []), (63, 1, .lload_n 3, 39, 0, 0, []), (64, 1, .lconst 1, 40, 0, 0, []), (65, 1, .land, 41, 0, 0, []), (66, 1, .lor, 42, 0, 0, []), (67, 1, .lstore_n 3, 43, 0, 0, []), (68, 3, .goto 23, 44, 57, 0, []), (71, 1, .lload_n 3, 45, 0, 0, []), (72, 1, .iconst 1, 46, 0, 0, []), (73, 1, .lshl, 47, 0, 0, []), (74, 1, .aload_n 0, 48, 0, 0, []), (75, 2, .iload 6, 49, 0, 0, []), (77, 3, .invokevirtual 69, 50, 56, 1, [2235, 2237, 9, 1003, 2238])]
def xo_54_1 : List XO := [(80, 3, .ifCond .eq 7, 51, 53, 0, []), (83, 1, .iconst 1, 52, 0, 0, []), (84, 3, .goto 4, 53, 54, 0, []), (87, 1, .iconst 0, 54, 0, 0, []), (88, 1, .i2l, 55, 0, 0, []), (89, 1, .lor, 56, 0, 0, []), (90, 1, .lstore_n 3, 57, 0, 0, []), (91, 3, .iinc 5 1, 58, 0, 0, []), (94, 3, .goto (-89), 59, 4, 0, []), (97, 1, .lload_n 3, 60, 0, 0, []), (98, 1, .lconst 1, 61, 0, 0, []), (99, 1, .land, 62, 0, 0, []), (100, 1, .lconst 0, 63, 0, 0, []), (101, 1, .lcmp, 64, 0, 0, []), (102, 3, .ifCond .eq 7, 65, 67, 0, []), (105, 1, .iconst 1, 66, 0, 0, []), (106, 3, .goto 4, 67, 68, 0, []), (109, 1, .iconst 0, 68, 0, 0, []), (110, 1, .ireturn, 69, 0, 0, [])]
def xo_54 : List XO := xo_54_0 ++ xo_54_1
def xi_54 : XI := (⟨"StarchedCollars$Town", "holds", "(II)Z"⟩, prog_7_method_7_code, 7, some (FieldType.boolean), xo_54)
-- 55 StarchedCollars$Town.testCode(III)I maxLocals 3
def xo_55 : List XO := [(0, 1, .iload_n 0, 1, 0, 0, []), (1, 1, .iconst 3, 2, 0, 0, []), (2, 1, .imul, 3, 0, 0, []), (3, 1, .iload_n 1, 4, 0, 0, []), (4, 1, .iadd, 5, 0, 0, []), (5, 2, .bipush 100, 6, 0, 0, []), (7, 1, .imul, 7, 0, 0, []), (8, 1, .iload_n 2, 8, 0, 0, []), (9, 1, .iadd, 9, 0, 0, []), (10, 1, .ireturn, 10, 0, 0, [])]
def xi_55 : XI := (⟨"StarchedCollars$Town", "testCode", "(III)I"⟩, prog_7_method_8_code, 3, some (FieldType.int), xo_55)
-- 56 StarchedCollars$Town.isSo(I)Z maxLocals 4
def xo_56 : List XO := [(0, 1, .iload_n 1, 1, 0, 0, []), (1, 3, .sipush 300, 2, 0, 0, []), (4, 1, .idiv, 3, 0, 0, []), (5, 1, .istore_n 2, 4, 0, 0, []), (6, 1, .iload_n 2, 5, 0, 0, []), (7, 3, .ifCond .lt 12, 6, 11, 0, []), (10, 1, .iload_n 2, 7, 0, 0, []), (11, 1, .aload_n 0, 8, 0, 0, []), (12, 3, .getfield 25, 9, 5, 6, [1049]), (15, 1, .arraylength, 10, 0, 0, []), (16, 3, .if_icmp .lt 5, 11, 13, 0, []), (19, 1, .iconst 0, 12, 0, 0, []), (20, 1, .ireturn, 13, 0, 0, []), (21, 1, .iload_n 1, 14, 0, 0, []), (22, 2, .bipush 100, 15, 0, 0, []), (24, 1, .irem, 16, 0, 0, []), (25, 1, .istore_n 3, 17, 0, 0, []), (26, 1, .iload_n 1, 18, 0, 0, []), (27, 2, .bipush 100, 19, 0, 0, []), (29, 1, .idiv, 20, 0, 0, []), (30, 1, .iconst 3, 21, 0, 0, []), (31, 1, .irem, 22, 0, 0, []), (32, 28, .lookupswitch 60 #[(0, 28), (1, 44)], 23, 0, 0, [43, 23, 33]), (60, 1, .aload_n 0, 24, 0, 0, []), (61, 3, .getfield 25, 25, 5, 6, [1049]), (64, 1, .iload_n 2, 26, 0, 0, []), (65, 1, .iaload, 27, 0, 0, []), (66, 1, .iload_n 3, 28, 0, 0, []), (67, 3, .if_icmp .ge 7, 29, 31, 0, []), (70, 1, .iconst 1, 30, 0, 0, []), (71, 3, .goto 4, 31, 32, 0, []), (74, 1, .iconst 0, 32, 0, 0, []), (75, 1, .ireturn, 33, 0, 0, []), (76, 1, .aload_n 0, 34, 0, 0, []), (77, 3, .getfield 25, 35, 5, 6, [1049]), (80, 1, .iload_n 2, 36, 0, 0, []), (81, 1, .iaload, 37, 0, 0, []), (82, 1, .iload_n 3, 38, 0, 0, []), (83, 3, .if_icmp .ne 7, 39, 41, 0, []), (86, 1, .iconst 1, 40, 0, 0, []), (87, 3, .goto 4, 41, 42, 0, []), (90, 1, .iconst 0, 42, 0, 0, []), (91, 1, .ireturn, 43, 0, 0, []), (92, 1, .aload_n 0, 44, 0, 0, []), (93, 3, .getfield 25, 45, 5, 6, [1049]), (96, 1, .iload_n 2, 46, 0, 0, []), (97, 1, .iaload, 47, 0, 0, []), (98, 1, .iload_n 3, 48, 0, 0, []), (99, 3, .if_icmp .le 7, 49, 51, 0, []), (102, 1, .iconst 1, 50, 0, 0, []), (103, 3, .goto 4, 51, 52, 0, []), (106, 1, .iconst 0, 52, 0, 0, []), (107, 1, .ireturn, 53, 0, 0, [])]
def xi_56 : XI := (⟨"StarchedCollars$Town", "isSo", "(I)Z"⟩, prog_7_method_9_code, 4, some (FieldType.boolean), xo_56)
-- 57 StarchedCollars$World.<init>()V maxLocals 2
def xo_57 : List XO := [(0, 1, .aload_n 0, 1, 0, 0, []), (1, 3, .invokespecial 3, 2, 1000, 0, [1031, 1024, 1025]), (4, 1, .aload_n 0, 3, 0, 0, []), (5, 2, .bipush 6, 4, 0, 0, []), (7, 3, .anewarray 9, 5, 103, 0, [1032, 1033]), (10, 3, .putfield 11, 6, 6, 0, [1141]), (13, 1, .aload_n 0, 7, 0, 0, []), (14, 2, .bipush 100, 8, 0, 0, []), (16, 2, .newarray .byte, 9, 101, 0, [1065]), (18, 3, .putfield 17, 10, 6, 3, [1149]), (21, 1, .aload_n 0, 11, 0, 0, []), (22, 3, .new 21, 12, 5, 0, [1034, 1035, 1003]), (25, 1, .dup, 13, 0, 0, []), (26, 3, .invokespecial 23, 14, 48, 0, [1036, 1037, 1003, 1038, 1]), (29, 3, .putfield 24, 15, 6, 5, [1153]), (32, 1, .aload_n 0, 16, 0, 0, []), (33, 3, .new 28, 17, 4, 0, [1067, 1068, 1004]), (36, 1, .dup, 18, 0, 0, []), (37, 3, .invokespecial 30, 19, 44, 0, [1069, 1070, 1004, 1071, 1]), (40, 3, .putfield 31, 20, 6, 7, [1157]), (43, 1, .aload_n 0, 21, 0, 0, []), (44, 3, .new 28, 22, 4, 0, [1067, 1068, 1004]), (47, 1, .dup, 23, 0, 0, []), (48, 3, .invokespecial 30, 24, 44, 0, [1069, 1070, 1004, 1071, 1]), (51, 3, .putfield 35, 25, 6, 8, [1159]), (54, 1, .aload_n 0, 26, 0, 0, []), (55, 3, .new 28, 27, 4, 0, [1067, 1068, 1004]), (58, 1, .dup, 28, 0, 0, []), (59, 3, .invokespecial 30, 29, 44, 0, [1069, 1070, 1004, 1071, 1]), (62, 3, .putfield 38, 30, 6, 9, [1161]), (65, 1, .iconst 0, 31, 0, 0, []), (66, 1, .istore_n 1, 32, 0, 0, []), (67, 1, .iload_n 1, 33, 0, 0, []), (68, 2, .bipush 6, 34, 0, 0, []), (70, 3, .if_icmp .ge 22, 35, 44, 0, []), (73, 1, .aload_n 0, 36, 0, 0, []), (74, 3, .getfield 11, 37, 6, 0, [1141]), (77, 1, .iload_n 1, 38, 0, 0, []), (78, 3, .new 9, 39, 1, 0, [1032, 1090, 1005]), (81, 1, .dup, 40, 0, 0, []), (82, 3, .invokespecial 41, 41, 22, 0, [1091, 1092, 1005, 1093, 1]), (85, 1, .aastore, 42, 0, 0, []), (86, 3, .iinc 1 1, 43, 0, 0, []), (89, 3, .goto (-22), 44, 32, 0, []), (92, 1, .return_, 45, 0, 0, [])]
def xi_57 : XI := (⟨"StarchedCollars$World", "<init>", "()V"⟩, prog_8_method_1_code, 2, none, xo_57)
-- 58 StarchedCollars$World.copyFrom(LStarchedCollars$World;)V maxLocals 3
def xo_58_0 : List XO := [(0, 1, .iconst 0, 1, 0, 0, []), (1, 1, .istore_n 2, 2, 0, 0, []), (2, 1, .iload_n 2, 3, 0, 0, []), (3, 2, .bipush 6, 4, 0, 0, []), (5, 3, .if_icmp .ge 24, 5, 16, 0, []), (8, 1, .aload_n 0, 6, 0, 0, []), (9, 3, .getfield 11, 7, 6, 0, [1141]), (12, 1, .iload_n 2, 8, 0, 0, []), (13, 1, .aaload, 9, 0, 0, []), (14, 1, .aload_n 1, 10, 0, 0, []), (15, 3, .getfield 11, 11, 6, 0, [1141]), (18, 1, .iload_n 2, 12, 0, 0, []), (19, 1, .aaload, 13, 0, 0, []), (20, 3, .invokevirtual 42, 14, 24, 1, [4005, 3053, 3054, 1005, 3055]), (23, 3, .iinc 2 1, 15, 0, 0, []), (26, 3, .goto (-24), 16, 2, 0, []), (29, 1, .aload_n 0, 17, 0, 0, []), (30, 1, .aload_n 1, 18, 0, 0, []), (31, 3, .getfield 46, 19, 6, 1, [1144]), (34, 3, .putfield 46, 20, 6, 1, [1144]), (37, 1, .aload_n 0, 21, 0, 0, []), (38, 1, .aload_n 1, 22, 0, 0, []), (39, 3, .getfield 50, 23, 6, 2, [1147]), (42, 3, .putfield 50, 24, 6, 2, [1147]), (45, 1, .aload_n 1, 25, 0, 0, []), (46, 3, .getfield 17, 26, 6, 3, [1149]), (49, 1, .iconst 0, 27, 0, 0, []), (50, 1, .aload_n 0, 28, 0, 0, []), (51, 3, .getfield 17, 29, 6, 3, [1149]), (54, 1, .iconst 0, 30, 0, 0, []), (55, 2, .bipush 100, 31, 0, 0, []), (57, 3, .invokestatic 53, 32, 1001, 0, [4006, 2037, 2036, 1010]), (60, 1, .aload_n 0, 33, 0, 0, []), (61, 1, .aload_n 1, 34, 0, 0, []), (62, 3, .getfield 59, 35, 6, 4, [1152]), (65, 3, .putfield 59, 36, 6, 4, [1152]), (68, 1, .aload_n 0, 37, 0, 0, []), (69, 3, .getfield 24, 38, 6, 5, [1153]), (72, 1, .aload_n 1, 39, 0, 0, []), (73, 3, .getfield 24, 40, 6, 5, [1153]), (76, 3, .invokevirtual 62, 41, 50, 1, [4007, 2199, 2200, 1003, 2201]), (79, 1, .aload_n 0, 42, 0, 0, []), (80, 1, .aload_n 1, 43, 0, 0, []), (81, 3, .getfield 65, 44, 6, 6, [1155]), (84, 3, .putfield 65, 45, 6, 6, [1155]), (87, 1, .aload_n 0, 46, 0, 0, []), (88, 3, .getfield 31, 47, 6, 7, [1157]), (91, 1, .aload_n 1, 48, 0, 0, []), (92, 3, .getfield 31, 49, 6, 7, [1157]), (95, 3, .invokevirtual 68, 50, 47, 1, [4008, 4009, 4010, 1004, 4011])]
def xo_58_1 : List XO := [(98, 1, .aload_n 0, 51, 0, 0, []), (99, 3, .getfield 35, 52, 6, 8, [1159]), (102, 1, .aload_n 1, 53, 0, 0, []), (103, 3, .getfield 35, 54, 6, 8, [1159]), (106, 3, .invokevirtual 68, 55, 47, 1, [4008, 4009, 4010, 1004, 4011]), (109, 1, .aload_n 0, 56, 0, 0, []), (110, 3, .getfield 38, 57, 6, 9, [1161]), (113, 1, .aload_n 1, 58, 0, 0, []), (114, 3, .getfield 38, 59, 6, 9, [1161]), (117, 3, .invokevirtual 68, 60, 47, 1, [4008, 4009, 4010, 1004, 4011]), (120, 1, .return_, 61, 0, 0, [])]
def xo_58 : List XO := xo_58_0 ++ xo_58_1
def xi_58 : XI := (⟨"StarchedCollars$World", "copyFrom", "(LStarchedCollars$World;)V"⟩, prog_8_method_2_code, 3, none, xo_58)
-- 59 StarchedCollars$World.find(I)LStarchedCollars$Man; maxLocals 2
def xo_59 : List XO := [(0, 1, .iload_n 1, 1, 0, 0, []), (1, 3, .ifCond .lt 26, 2, 14, 0, []), (4, 1, .iload_n 1, 3, 0, 0, []), (5, 1, .aload_n 0, 4, 0, 0, []), (6, 3, .getfield 46, 5, 6, 1, [1144]), (9, 3, .if_icmp .ge 18, 6, 14, 0, []), (12, 1, .iload_n 1, 7, 0, 0, []), (13, 2, .bipush 6, 8, 0, 0, []), (15, 3, .if_icmp .ge 12, 9, 14, 0, []), (18, 1, .aload_n 0, 10, 0, 0, []), (19, 3, .getfield 11, 11, 6, 0, [1141]), (22, 1, .iload_n 1, 12, 0, 0, []), (23, 1, .aaload, 13, 0, 0, []), (24, 3, .goto 4, 14, 15, 0, []), (27, 1, .aconst_null, 15, 0, 0, []), (28, 1, .areturn, 16, 0, 0, [])]
def xi_59 : XI := (⟨"StarchedCollars$World", "find", "(I)LStarchedCollars$Man;"⟩, prog_8_method_3_code, 2, some ((FieldType.object "StarchedCollars$Man")), xo_59)
-- 60 StarchedCollars$World.allBits()I maxLocals 1
def xo_60 : List XO := [(0, 1, .iconst 1, 1, 0, 0, []), (1, 1, .aload_n 0, 2, 0, 0, []), (2, 3, .getfield 46, 3, 6, 1, [1144]), (5, 1, .ishl, 4, 0, 0, []), (6, 1, .iconst 1, 5, 0, 0, []), (7, 1, .isub, 6, 0, 0, []), (8, 1, .ireturn, 7, 0, 0, [])]
def xi_60 : XI := (⟨"StarchedCollars$World", "allBits", "()I"⟩, prog_8_method_4_code, 1, some (FieldType.int), xo_60)
-- 61 StarchedCollars$World.presentBits()I maxLocals 3
def xo_61 : List XO := [(0, 1, .iconst 0, 1, 0, 0, []), (1, 1, .istore_n 1, 2, 0, 0, []), (2, 1, .iconst 0, 3, 0, 0, []), (3, 1, .istore_n 2, 4, 0, 0, []), (4, 1, .iload_n 2, 5, 0, 0, []), (5, 1, .aload_n 0, 6, 0, 0, []), (6, 3, .getfield 46, 7, 6, 1, [1144]), (9, 3, .if_icmp .ge 31, 8, 24, 0, []), (12, 1, .iload_n 1, 9, 0, 0, []), (13, 1, .aload_n 0, 10, 0, 0, []), (14, 3, .getfield 11, 11, 6, 0, [1141]), (17, 1, .iload_n 2, 12, 0, 0, []), (18, 1, .aaload, 13, 0, 0, []), (19, 3, .getfield 71, 14, 1, 7, [1118]), (22, 3, .ifCond .eq 7, 15, 17, 0, []), (25, 1, .iconst 0, 16, 0, 0, []), (26, 3, .goto 6, 17, 20, 0, []), (29, 1, .iconst 1, 18, 0, 0, []), (30, 1, .iload_n 2, 19, 0, 0, []), (31, 1, .ishl, 20, 0, 0, []), (32, 1, .ior, 21, 0, 0, []), (33, 1, .istore_n 1, 22, 0, 0, []), (34, 3, .iinc 2 1, 23, 0, 0, []), (37, 3, .goto (-33), 24, 4, 0, []), (40, 1, .iload_n 1, 25, 0, 0, []), (41, 1, .ireturn, 26, 0, 0, [])]
def xi_61 : XI := (⟨"StarchedCollars$World", "presentBits", "()I"⟩, prog_8_method_5_code, 3, some (FieldType.int), xo_61)
-- 62 StarchedCollars.<init>()V maxLocals 1
def xo_62 : List XO := [(0, 1, .aload_n 0, 1, 0, 0, []), (1, 3, .invokespecial 3, 2, 1000, 0, [1023, 1024, 1025]), (4, 1, .aload_n 0, 3, 0, 0, []), (5, 3, .new 9, 4, 6, 0, [1026, 1027, 1002]), (8, 1, .dup, 5, 0, 0, []), (9, 3, .invokespecial 11, 6, 57, 0, [1028, 1029, 1002, 1030]), (12, 3, .putfield 12, 7, 7, 0, [1238]), (15, 1, .aload_n 0, 8, 0, 0, []), (16, 3, .new 9, 9, 6, 0, [1026, 1027, 1002]), (19, 1, .dup, 10, 0, 0, []), (20, 3, .invokespecial 11, 11, 57, 0, [1028, 1029, 1002, 1030]), (23, 3, .putfield 18, 12, 7, 1, [1239]), (26, 1, .aload_n 0, 13, 0, 0, []), (27, 3, .new 21, 14, 1, 0, [1184, 1090, 1005]), (30, 1, .dup, 15, 0, 0, []), (31, 3, .invokespecial 23, 16, 22, 0, [1185, 1092, 1005, 1093, 1]), (34, 3, .putfield 24, 17, 7, 3, [2001]), (37, 1, .aload_n 0, 18, 0, 0, []), (38, 3, .new 28, 19, 3, 0, [1186, 1187, 1006]), (41, 1, .dup, 20, 0, 0, []), (42, 3, .invokespecial 30, 21, 34, 0, [1188, 1189, 1006, 1190, 1]), (45, 3, .putfield 31, 22, 7, 4, [2002]), (48, 1, .aload_n 0, 23, 0, 0, []), (49, 3, .new 35, 24, 0, 0, [1212, 1213, 1007]), (52, 1, .dup, 25, 0, 0, []), (53, 3, .invokespecial 37, 26, 18, 0, [1214, 1215, 1007, 1216, 1]), (56, 3, .putfield 38, 27, 7, 5, [2003]), (59, 1, .aload_n 0, 28, 0, 0, []), (60, 3, .new 42, 29, 2, 0, [1227, 1228, 1008]), (63, 1, .dup, 30, 0, 0, []), (64, 3, .invokespecial 44, 31, 29, 0, [1229, 1230, 1008, 1231, 1]), (67, 3, .putfield 45, 32, 7, 6, [2004]), (70, 1, .return_, 33, 0, 0, [])]
def xi_62 : XI := (⟨"StarchedCollars", "<init>", "()V"⟩, prog_1_method_1_code, 1, none, xo_62)
-- 63 StarchedCollars.feed(I)I maxLocals 2
def xo_63 : List XO := [(0, 1, .iload_n 1, 1, 0, 0, []), (1, 2, .bipush 127, 2, 0, 0, []), (3, 3, .invokestatic 49, 3, 94, 2, [2024, 2025, 1001, 2026]), (6, 3, .ifCond .ne 6, 4, 6, 0, []), (9, 2, .bipush (-2), 5, 0, 0, []), (11, 1, .ireturn, 6, 0, 0, []), (12, 1, .aload_n 0, 7, 0, 0, []), (13, 3, .getfield 12, 8, 7, 0, [1238]), (16, 3, .getfield 53, 9, 6, 4, [1151]), (19, 2, .bipush 100, 10, 0, 0, []), (21, 3, .if_icmp .lt 6, 11, 13, 0, []), (24, 2, .bipush (-4), 12, 0, 0, []), (26, 1, .ireturn, 13, 0, 0, []), (27, 1, .aload_n 0, 14, 0, 0, []), (28, 3, .getfield 12, 15, 7, 0, [1238]), (31, 3, .getfield 57, 16, 6, 3, [1150]), (34, 1, .aload_n 0, 17, 0, 0, []), (35, 3, .getfield 12, 18, 7, 0, [1238]), (38, 3, .getfield 53, 19, 6, 4, [1151]), (41, 1, .iload_n 1, 20, 0, 0, []), (42, 1, .i2b, 21, 0, 0, []), (43, 1, .bastore, 22, 0, 0, []), (44, 1, .aload_n 0, 23, 0, 0, []), (45, 3, .getfield 12, 24, 7, 0, [1238]), (48, 1, .dup, 25, 0, 0, []), (49, 3, .getfield 53, 26, 6, 4, [1151]), (52, 1, .iconst 1, 27, 0, 0, []), (53, 1, .iadd, 28, 0, 0, []), (54, 3, .putfield 53, 29, 6, 4, [1151]), (57, 1, .aload_n 0, 30, 0, 0, []), (58, 3, .getfield 12, 31, 7, 0, [1238]), (61, 3, .getfield 53, 32, 6, 4, [1151]), (64, 1, .ireturn, 33, 0, 0, [])]
def xi_63 : XI := (⟨"StarchedCollars", "feed", "(I)I"⟩, prog_1_method_2_code, 2, some (FieldType.int), xo_63)
-- 64 StarchedCollars.town()I maxLocals 2
def xo_64 : List XO := [(0, 1, .aload_n 0, 1, 0, 0, []), (1, 3, .getfield 12, 2, 7, 0, [1238]), (4, 3, .getfield 61, 3, 6, 6, [1156]), (7, 1, .iconst 5, 4, 0, 0, []), (8, 3, .if_icmp .lt 6, 5, 7, 0, []), (11, 2, .bipush (-4), 6, 0, 0, []), (13, 1, .ireturn, 7, 0, 0, []), (14, 1, .aload_n 0, 8, 0, 0, []), (15, 3, .getfield 31, 9, 7, 4, [2002]), (18, 1, .aload_n 0, 10, 0, 0, []), (19, 3, .getfield 12, 11, 7, 0, [1238]), (22, 3, .getfield 57, 12, 6, 3, [1150]), (25, 1, .aload_n 0, 13, 0, 0, []), (26, 3, .getfield 12, 14, 7, 0, [1238]), (29, 3, .getfield 53, 15, 6, 4, [1151]), (32, 3, .invokevirtual 64, 16, 35, 2, [2031, 2032, 2033, 1006, 2034]), (35, 1, .istore_n 1, 17, 0, 0, []), (36, 1, .aload_n 0, 18, 0, 0, []), (37, 3, .getfield 12, 19, 7, 0, [1238]), (40, 1, .iconst 0, 20, 0, 0, []), (41, 3, .putfield 53, 21, 6, 4, [1151]), (44, 1, .iload_n 1, 22, 0, 0, []), (45, 3, .ifCond .ne 14, 23, 29, 0, []), (48, 2, .bipush (-10), 24, 0, 0, []), (50, 1, .aload_n 0, 25, 0, 0, []), (51, 3, .getfield 31, 26, 7, 4, [2002]), (54, 3, .getfield 68, 27, 3, 3, [1199]), (57, 1, .isub, 28, 0, 0, []), (58, 1, .ireturn, 29, 0, 0, []), (59, 1, .aload_n 0, 30, 0, 0, []), (60, 3, .getfield 12, 31, 7, 0, [1238]), (63, 3, .getfield 71, 32, 6, 5, [1154]), (66, 1, .aload_n 0, 33, 0, 0, []), (67, 3, .getfield 31, 34, 7, 4, [2002]), (70, 3, .getfield 75, 35, 3, 0, [1195]), (73, 3, .invokevirtual 78, 36, 50, 1, [2198, 2199, 2200, 1003, 2201]), (76, 1, .aload_n 0, 37, 0, 0, []), (77, 3, .getfield 12, 38, 7, 0, [1238]), (80, 1, .dup, 39, 0, 0, []), (81, 3, .getfield 61, 40, 6, 6, [1156]), (84, 1, .iconst 1, 41, 0, 0, []), (85, 1, .iadd, 42, 0, 0, []), (86, 3, .putfield 61, 43, 6, 6, [1156]), (89, 1, .aload_n 0, 44, 0, 0, []), (90, 3, .getfield 12, 45, 7, 0, [1238]), (93, 3, .getfield 61, 46, 6, 6, [1156]), (96, 1, .iconst 1, 47, 0, 0, []), (97, 1, .isub, 48, 0, 0, []), (98, 1, .ireturn, 49, 0, 0, [])]
def xi_64 : XI := (⟨"StarchedCollars", "town", "()I"⟩, prog_1_method_3_code, 2, some (FieldType.int), xo_64)
-- 65 StarchedCollars.man(IIII)I maxLocals 6
def xo_65 : List XO := [(0, 1, .iload_n 1, 1, 0, 0, []), (1, 2, .bipush 6, 2, 0, 0, []), (3, 3, .invokestatic 49, 3, 94, 2, [2024, 2025, 1001, 2026]), (6, 3, .ifCond .eq 12, 4, 8, 0, []), (9, 1, .iload_n 3, 5, 0, 0, []), (10, 2, .bipush 9, 6, 0, 0, []), (12, 3, .invokestatic 49, 7, 94, 2, [2024, 2025, 1001, 2026]), (15, 3, .ifCond .ne 5, 8, 10, 0, []), (18, 1, .iconst (-1), 9, 0, 0, []), (19, 1, .ireturn, 10, 0, 0, []), (20, 1, .iload_n 2, 11, 0, 0, []), (21, 2, .bipush 9, 12, 0, 0, []), (23, 3, .invokestatic 49, 13, 94, 2, [2024, 2025, 1001, 2026]), (26, 3, .ifCond .eq 14, 14, 18, 0, []), (29, 2, .iload 4, 15, 0, 0, []), (31, 3, .sipush 255, 16, 0, 0, []), (34, 3, .invokestatic 49, 17, 94, 2, [2024, 2025, 1001, 2026]), (37, 3, .ifCond .ne 6, 18, 20, 0, []), (40, 2, .bipush (-2), 19, 0, 0, []), (42, 1, .ireturn, 20, 0, 0, []), (43, 1, .aload_n 0, 21, 0, 0, []), (44, 3, .getfield 12, 22, 7, 0, [1238]), (47, 3, .getfield 84, 23, 6, 1, [1146]), (50, 2, .bipush 6, 24, 0, 0, []), (52, 3, .if_icmp .lt 6, 25, 27, 0, []), (55, 2, .bipush (-4), 26, 0, 0, []), (57, 1, .ireturn, 27, 0, 0, []), (58, 1, .aload_n 0, 28, 0, 0, []), (59, 3, .getfield 12, 29, 7, 0, [1238]), (62, 3, .getfield 84, 30, 6, 1, [1146]), (65, 2, .istore 5, 31, 0, 0, []), (67, 1, .aload_n 0, 32, 0, 0, []), (68, 3, .getfield 12, 33, 7, 0, [1238]), (71, 3, .getfield 87, 34, 6, 0, [1143]), (74, 2, .iload 5, 35, 0, 0, []), (76, 1, .aaload, 36, 0, 0, []), (77, 2, .iload 5, 37, 0, 0, []), (79, 1, .iload_n 1, 38, 0, 0, []), (80, 1, .iload_n 2, 39, 0, 0, []), (81, 1, .iload_n 3, 40, 0, 0, []), (82, 2, .iload 4, 41, 0, 0, []), (84, 3, .invokevirtual 91, 42, 23, 5, [2207, 2208, 2209, 1005, 2210]), (87, 1, .aload_n 0, 43, 0, 0, []), (88, 3, .getfield 12, 44, 7, 0, [1238]), (91, 1, .dup, 45, 0, 0, []), (92, 3, .getfield 84, 46, 6, 1, [1146]), (95, 1, .iconst 1, 47, 0, 0, []), (96, 1, .iadd, 48, 0, 0, []), (97, 3, .putfield 84, 49, 6, 1, [1146]), (100, 2, .iload 5, 50, 0, 0, []), (102, 1, .ireturn, 51, 0, 0, [])]
def xi_65 : XI := (⟨"StarchedCollars", "man", "(IIII)I"⟩, prog_1_method_4_code, 6, some (FieldType.int), xo_65)
-- 66 StarchedCollars.of(II)I maxLocals 4
def xo_66_0 : List XO := [(0, 1, .aload_n 0, 1, 0, 0, []), (1, 3, .getfield 12, 2, 7, 0, [1238]), (4, 1, .iload_n 1, 3, 0, 0, []), (5, 3, .invokevirtual 95, 4, 59, 1, [2215, 2216, 2217, 1002, 2218]), (8, 1, .astore_n 3, 5, 0, 0, []), (9, 1, .aload_n 3, 6, 0, 0, []), (10, 3, .ifnonnull 6, 7, 9, 0, []), (13, 2, .ldc 99, 8, 5, 2, [2219]), (15, 1, .ireturn, 9, 0, 0, []), (16, 1, .iload_n 2, 10, 0, 0, []), (17, 55, .tableswitch 152 0 9 #[55, 60, 65, 70, 75, 80, 93, 106, 136, 146], 11, 0, 0, [64, 11, 14, 17, 20, 23, 26, 33, 40, 54, 60]), (72, 1, .aload_n 3, 12, 0, 0, []), (73, 3, .getfield 100, 13, 1, 1, [1101]), (76, 1, .ireturn, 14, 0, 0, []), (77, 1, .aload_n 3, 15, 0, 0, []), (78, 3, .getfield 103, 16, 1, 2, [1105]), (81, 1, .ireturn, 17, 0, 0, []), (82, 1, .aload_n 3, 18, 0, 0, []), (83, 3, .getfield 106, 19, 1, 3, [1108]), (86, 1, .ireturn, 20, 0, 0, []), (87, 1, .aload_n 3, 21, 0, 0, []), (88, 3, .getfield 109, 22, 1, 4, [1110]), (91, 1, .ireturn, 23, 0, 0, []), (92, 1, .aload_n 3, 24, 0, 0, []), (93, 3, .getfield 112, 25, 1, 5, [1113]), (96, 1, .ireturn, 26, 0, 0, []), (97, 1, .aload_n 3, 27, 0, 0, []), (98, 3, .getfield 115, 28, 1, 6, [1116]), (101, 3, .ifCond .eq 7, 29, 31, 0, []), (104, 1, .iconst 1, 30, 0, 0, []), (105, 3, .goto 4, 31, 32, 0, []), (108, 1, .iconst 0, 32, 0, 0, []), (109, 1, .ireturn, 33, 0, 0, []), (110, 1, .aload_n 3, 34, 0, 0, []), (111, 3, .getfield 119, 35, 1, 7, [1119]), (114, 3, .ifCond .eq 7, 36, 38, 0, []), (117, 1, .iconst 1, 37, 0, 0, []), (118, 3, .goto 4, 38, 39, 0, []), (121, 1, .iconst 0, 39, 0, 0, []), (122, 1, .ireturn, 40, 0, 0, []), (123, 1, .aload_n 3, 41, 0, 0, []), (124, 1, .aload_n 0, 42, 0, 0, []), (125, 3, .getfield 12, 43, 7, 0, [1238]), (128, 3, .getfield 71, 44, 6, 5, [1154]), (131, 1, .aload_n 3, 45, 0, 0, []), (132, 1, .aload_n 0, 46, 0, 0, []), (133, 3, .getfield 12, 47, 7, 0, [1238]), (136, 3, .getfield 122, 48, 6, 2, [1148]), (139, 3, .invokevirtual 125, 49, 53, 2, [2220, 2221, 2222, 1003, 2223]), (142, 1, .aload_n 0, 50, 0, 0, [])]
def xo_66_1 : List XO := [(143, 3, .getfield 12, 51, 7, 0, [1238]), (146, 3, .getfield 122, 52, 6, 2, [1148]), (149, 3, .invokevirtual 129, 53, 27, 2, [2239, 3000, 3001, 1005, 3002]), (152, 1, .ireturn, 54, 0, 0, []), (153, 1, .aload_n 0, 55, 0, 0, []), (154, 1, .aload_n 3, 56, 0, 0, []), (155, 1, .aload_n 3, 57, 0, 0, []), (156, 3, .getfield 106, 58, 1, 3, [1108]), (159, 3, .invokevirtual 133, 59, 100, 2, [3004, 3006, 10, 1001, 3007]), (162, 1, .ireturn, 60, 0, 0, []), (163, 1, .aload_n 0, 61, 0, 0, []), (164, 1, .aload_n 3, 62, 0, 0, []), (165, 3, .invokevirtual 136, 63, 101, 1, [3015, 3017, 11, 1001, 3018]), (168, 1, .ireturn, 64, 0, 0, []), (169, 2, .ldc 99, 65, 5, 2, [2219]), (171, 1, .ireturn, 66, 0, 0, [])]
def xo_66 : List XO := xo_66_0 ++ xo_66_1
def xi_66 : XI := (⟨"StarchedCollars", "of", "(II)I"⟩, prog_1_method_5_code, 4, some (FieldType.int), xo_66)
-- 67 StarchedCollars.row(III)I maxLocals 6
def xo_67 : List XO := [(0, 1, .aload_n 0, 1, 0, 0, []), (1, 3, .getfield 12, 2, 7, 0, [1238]), (4, 1, .iload_n 1, 3, 0, 0, []), (5, 3, .invokevirtual 95, 4, 59, 1, [2215, 2216, 2217, 1002, 2218]), (8, 2, .astore 4, 5, 0, 0, []), (10, 2, .aload 4, 6, 0, 0, []), (12, 3, .ifnull 17, 7, 14, 0, []), (15, 1, .iload_n 2, 8, 0, 0, []), (16, 3, .ifCond .lt 13, 9, 14, 0, []), (19, 1, .iload_n 2, 10, 0, 0, []), (20, 2, .aload 4, 11, 0, 0, []), (22, 3, .getfield 140, 12, 1, 8, [1121]), (25, 1, .arraylength, 13, 0, 0, []), (26, 3, .if_icmp .lt 5, 14, 16, 0, []), (29, 1, .iconst (-1), 15, 0, 0, []), (30, 1, .ireturn, 16, 0, 0, []), (31, 1, .iload_n 3, 17, 0, 0, []), (32, 2, .bipush 9, 18, 0, 0, []), (34, 3, .invokestatic 49, 19, 94, 2, [2024, 2025, 1001, 2026]), (37, 3, .ifCond .ne 6, 20, 22, 0, []), (40, 2, .bipush (-2), 21, 0, 0, []), (42, 1, .ireturn, 22, 0, 0, []), (43, 2, .aload 4, 23, 0, 0, []), (45, 3, .getfield 100, 24, 1, 1, [1101]), (48, 2, .bipush 6, 25, 0, 0, []), (50, 3, .if_icmp .eq 6, 26, 28, 0, []), (53, 2, .bipush (-3), 27, 0, 0, []), (55, 1, .ireturn, 28, 0, 0, []), (56, 2, .aload 4, 29, 0, 0, []), (58, 3, .getfield 140, 30, 1, 8, [1121]), (61, 1, .iload_n 2, 31, 0, 0, []), (62, 1, .iaload, 32, 0, 0, []), (63, 2, .istore 5, 33, 0, 0, []), (65, 2, .aload 4, 34, 0, 0, []), (67, 3, .getfield 140, 35, 1, 8, [1121]), (70, 1, .iload_n 2, 36, 0, 0, []), (71, 1, .iload_n 3, 37, 0, 0, []), (72, 1, .iastore, 38, 0, 0, []), (73, 2, .iload 5, 39, 0, 0, []), (75, 1, .ireturn, 40, 0, 0, [])]
def xi_67 : XI := (⟨"StarchedCollars", "row", "(III)I"⟩, prog_1_method_6_code, 6, some (FieldType.int), xo_67)
-- 68 StarchedCollars.set(III)I maxLocals 7
def xo_68 : List XO := [(0, 1, .aload_n 0, 1, 0, 0, []), (1, 3, .getfield 12, 2, 7, 0, [1238]), (4, 1, .iload_n 1, 3, 0, 0, []), (5, 3, .invokevirtual 95, 4, 59, 1, [2215, 2216, 2217, 1002, 2218]), (8, 2, .astore 4, 5, 0, 0, []), (10, 2, .aload 4, 6, 0, 0, []), (12, 3, .ifnull 11, 7, 11, 0, []), (15, 1, .iload_n 2, 8, 0, 0, []), (16, 1, .iconst 2, 9, 0, 0, []), (17, 3, .invokestatic 49, 10, 94, 2, [2024, 2025, 1001, 2026]), (20, 3, .ifCond .ne 5, 11, 13, 0, []), (23, 1, .iconst (-1), 12, 0, 0, []), (24, 1, .ireturn, 13, 0, 0, []), (25, 1, .iload_n 2, 14, 0, 0, []), (26, 3, .ifCond .ne 8, 15, 17, 0, []), (29, 2, .bipush 9, 16, 0, 0, []), (31, 3, .goto 16, 17, 23, 0, []), (34, 1, .iload_n 2, 18, 0, 0, []), (35, 1, .iconst 1, 19, 0, 0, []), (36, 3, .if_icmp .ne 9, 20, 22, 0, []), (39, 3, .sipush 255, 21, 0, 0, []), (42, 3, .goto 5, 22, 23, 0, []), (45, 2, .bipush 99, 23, 0, 0, []), (47, 2, .istore 5, 24, 0, 0, []), (49, 1, .iload_n 3, 25, 0, 0, []), (50, 2, .iload 5, 26, 0, 0, []), (52, 3, .invokestatic 49, 27, 94, 2, [2024, 2025, 1001, 2026]), (55, 3, .ifCond .ne 6, 28, 30, 0, []), (58, 2, .bipush (-2), 29, 0, 0, []), (60, 1, .ireturn, 30, 0, 0, []), (61, 1, .iload_n 2, 31, 0, 0, []), (62, 3, .ifCond .ne 19, 32, 39, 0, []), (65, 2, .aload 4, 33, 0, 0, []), (67, 3, .getfield 106, 34, 1, 3, [1108]), (70, 2, .istore 6, 35, 0, 0, []), (72, 2, .aload 4, 36, 0, 0, []), (74, 1, .iload_n 3, 37, 0, 0, []), (75, 3, .putfield 106, 38, 1, 3, [1108]), (78, 3, .goto 37, 39, 55, 0, []), (81, 1, .iload_n 2, 40, 0, 0, []), (82, 1, .iconst 1, 41, 0, 0, []), (83, 3, .if_icmp .ne 19, 42, 49, 0, []), (86, 2, .aload 4, 43, 0, 0, []), (88, 3, .getfield 109, 44, 1, 4, [1110]), (91, 2, .istore 6, 45, 0, 0, []), (93, 2, .aload 4, 46, 0, 0, []), (95, 1, .iload_n 3, 47, 0, 0, []), (96, 3, .putfield 109, 48, 1, 4, [1110]), (99, 3, .goto 16, 49, 55, 0, []), (102, 2, .aload 4, 50, 0, 0, []), (104, 3, .getfield 112, 51, 1, 5, [1113]), (107, 2, .istore 6, 52, 0, 0, []), (109, 2, .aload 4, 53, 0, 0, []), (111, 1, .iload_n 3, 54, 0, 0, []), (112, 3, .putfield 112, 55, 1, 5, [1113]), (115, 2, .iload 6, 56, 0, 0, []), (117, 1, .ireturn, 57, 0, 0, [])]
def xi_68 : XI := (⟨"StarchedCollars", "set", "(III)I"⟩, prog_1_method_7_code, 7, some (FieldType.int), xo_68)
-- 69 StarchedCollars.stud(IZ)I maxLocals 5
def xo_69 : List XO := [(0, 1, .aload_n 0, 1, 0, 0, []), (1, 3, .getfield 12, 2, 7, 0, [1238]), (4, 1, .iload_n 1, 3, 0, 0, []), (5, 3, .invokevirtual 95, 4, 59, 1, [2215, 2216, 2217, 1002, 2218]), (8, 1, .astore_n 3, 5, 0, 0, []), (9, 1, .aload_n 3, 6, 0, 0, []), (10, 3, .ifnonnull 5, 7, 9, 0, []), (13, 1, .iconst (-1), 8, 0, 0, []), (14, 1, .ireturn, 9, 0, 0, []), (15, 1, .aload_n 3, 10, 0, 0, []), (16, 3, .getfield 115, 11, 1, 6, [1116]), (19, 3, .ifCond .eq 7, 12, 14, 0, []), (22, 1, .iconst 1, 13, 0, 0, []), (23, 3, .goto 4, 14, 15, 0, []), (26, 1, .iconst 0, 15, 0, 0, []), (27, 2, .istore 4, 16, 0, 0, []), (29, 1, .aload_n 3, 17, 0, 0, []), (30, 1, .iload_n 2, 18, 0, 0, []), (31, 3, .putfield 115, 19, 1, 6, [1116]), (34, 2, .iload 4, 20, 0, 0, []), (36, 1, .ireturn, 21, 0, 0, [])]
def xi_69 : XI := (⟨"StarchedCollars", "stud", "(IZ)I"⟩, prog_1_method_8_code, 5, some (FieldType.int), xo_69)
-- 70 StarchedCollars.away(IZ)I maxLocals 5
def xo_70 : List XO := [(0, 1, .aload_n 0, 1, 0, 0, []), (1, 3, .getfield 12, 2, 7, 0, [1238]), (4, 1, .iload_n 1, 3, 0, 0, []), (5, 3, .invokevirtual 95, 4, 59, 1, [2215, 2216, 2217, 1002, 2218]), (8, 1, .astore_n 3, 5, 0, 0, []), (9, 1, .aload_n 3, 6, 0, 0, []), (10, 3, .ifnonnull 5, 7, 9, 0, []), (13, 1, .iconst (-1), 8, 0, 0, []), (14, 1, .ireturn, 9, 0, 0, []), (15, 1, .aload_n 3, 10, 0, 0, []), (16, 3, .getfield 119, 11, 1, 7, [1119]), (19, 3, .ifCond .eq 7, 12, 14, 0, []), (22, 1, .iconst 1, 13, 0, 0, []), (23, 3, .goto 4, 14, 15, 0, []), (26, 1, .iconst 0, 15, 0, 0, []), (27, 2, .istore 4, 16, 0, 0, []), (29, 1, .aload_n 3, 17, 0, 0, []), (30, 1, .iload_n 2, 18, 0, 0, []), (31, 3, .putfield 119, 19, 1, 7, [1119]), (34, 2, .iload 4, 20, 0, 0, []), (36, 1, .ireturn, 21, 0, 0, [])]
def xi_70 : XI := (⟨"StarchedCollars", "away", "(IZ)I"⟩, prog_1_method_9_code, 5, some (FieldType.int), xo_70)
-- 71 StarchedCollars.apart(II)I maxLocals 5
def xo_71 : List XO := [(0, 1, .aload_n 0, 1, 0, 0, []), (1, 3, .getfield 12, 2, 7, 0, [1238]), (4, 1, .iload_n 1, 3, 0, 0, []), (5, 3, .invokevirtual 95, 4, 59, 1, [2215, 2216, 2217, 1002, 2218]), (8, 1, .astore_n 3, 5, 0, 0, []), (9, 1, .aload_n 0, 6, 0, 0, []), (10, 3, .getfield 12, 7, 7, 0, [1238]), (13, 1, .iload_n 2, 8, 0, 0, []), (14, 3, .invokevirtual 95, 9, 59, 1, [2215, 2216, 2217, 1002, 2218]), (17, 2, .astore 4, 10, 0, 0, []), (19, 1, .aload_n 3, 11, 0, 0, []), (20, 3, .ifnull 8, 12, 14, 0, []), (23, 2, .aload 4, 13, 0, 0, []), (25, 3, .ifnonnull 5, 14, 16, 0, []), (28, 1, .iconst (-1), 15, 0, 0, []), (29, 1, .ireturn, 16, 0, 0, []), (30, 1, .iload_n 1, 17, 0, 0, []), (31, 1, .iload_n 2, 18, 0, 0, []), (32, 3, .if_icmp .ne 8, 19, 21, 0, []), (35, 2, .bipush (-2), 20, 0, 0, []), (37, 3, .goto 9, 21, 24, 0, []), (40, 1, .aload_n 3, 22, 0, 0, []), (41, 2, .aload 4, 23, 0, 0, []), (43, 3, .invokevirtual 144, 24, 26, 1, [3040, 3041, 3042, 1005, 3043]), (46, 1, .ireturn, 25, 0, 0, [])]
def xi_71 : XI := (⟨"StarchedCollars", "apart", "(II)I"⟩, prog_1_method_10_code, 5, some (FieldType.int), xo_71)
-- 72 StarchedCollars.told(I)I maxLocals 2
def xo_72 : List XO := [(0, 1, .iload_n 1, 1, 0, 0, []), (1, 35, .tableswitch 83 0 4 #[35, 43, 54, 60, 78], 2, 0, 0, [28, 2, 6, 11, 15, 25]), (36, 1, .aload_n 0, 3, 0, 0, []), (37, 3, .getfield 12, 4, 7, 0, [1238]), (40, 3, .getfield 122, 5, 6, 2, [1148]), (43, 1, .ireturn, 6, 0, 0, []), (44, 1, .aload_n 0, 7, 0, 0, []), (45, 3, .getfield 12, 8, 7, 0, [1238]), (48, 3, .getfield 71, 9, 6, 5, [1154]), (51, 3, .getfield 147, 10, 5, 0, [1043]), (54, 1, .ireturn, 11, 0, 0, []), (55, 1, .aload_n 0, 12, 0, 0, []), (56, 1, .iconst 0, 13, 0, 0, []), (57, 3, .invokevirtual 150, 14, 97, 1, [3048, 3050, 12, 1001, 3051]), (60, 1, .ireturn, 15, 0, 0, []), (61, 1, .aload_n 0, 16, 0, 0, []), (62, 3, .getfield 12, 17, 7, 0, [1238]), (65, 3, .invokevirtual 154, 18, 60, 0, [3069, 3070, 3071, 1002, 3072]), (68, 1, .aload_n 0, 19, 0, 0, []), (69, 3, .getfield 12, 20, 7, 0, [1238]), (72, 3, .invokevirtual 158, 21, 61, 0, [3073, 3074, 3075, 1002, 3076]), (75, 1, .iconst (-1), 22, 0, 0, []), (76, 1, .ixor, 23, 0, 0, []), (77, 1, .iand, 24, 0, 0, []), (78, 1, .ireturn, 25, 0, 0, []), (79, 1, .aload_n 0, 26, 0, 0, []), (80, 3, .invokevirtual 161, 27, 99, 0, [3077, 3079, 14, 1001, 3080]), (83, 1, .ireturn, 28, 0, 0, []), (84, 1, .iconst (-1), 29, 0, 0, []), (85, 1, .ireturn, 30, 0, 0, [])]
def xi_72 : XI := (⟨"StarchedCollars", "told", "(I)I"⟩, prog_1_method_11_code, 2, some (FieldType.int), xo_72)
-- 73 StarchedCollars.pass(I)I maxLocals 3
def xo_73 : List XO := [(0, 1, .iload_n 1, 1, 0, 0, []), (1, 2, .bipush 60, 2, 0, 0, []), (3, 3, .invokestatic 49, 3, 94, 2, [2024, 2025, 1001, 2026]), (6, 3, .ifCond .ne 6, 4, 6, 0, []), (9, 2, .bipush (-2), 5, 0, 0, []), (11, 1, .ireturn, 6, 0, 0, []), (12, 1, .aload_n 0, 7, 0, 0, []), (13, 3, .getfield 12, 8, 7, 0, [1238]), (16, 3, .getfield 122, 9, 6, 2, [1148]), (19, 1, .iload_n 1, 10, 0, 0, []), (20, 1, .iadd, 11, 0, 0, []), (21, 3, .sipush 9999, 12, 0, 0, []), (24, 3, .if_icmp .le 6, 13, 15, 0, []), (27, 2, .bipush (-3), 14, 0, 0, []), (29, 1, .ireturn, 15, 0, 0, []), (30, 1, .iconst 0, 16, 0, 0, []), (31, 1, .istore_n 2, 17, 0, 0, []), (32, 1, .iload_n 2, 18, 0, 0, []), (33, 1, .aload_n 0, 19, 0, 0, []), (34, 3, .getfield 12, 20, 7, 0, [1238]), (37, 3, .getfield 84, 21, 6, 1, [1146]), (40, 3, .if_icmp .ge 23, 22, 32, 0, []), (43, 1, .aload_n 0, 23, 0, 0, []), (44, 1, .aload_n 0, 24, 0, 0, []), (45, 3, .getfield 12, 25, 7, 0, [1238]), (48, 3, .getfield 87, 26, 6, 0, [1143]), (51, 1, .iload_n 2, 27, 0, 0, []), (52, 1, .aaload, 28, 0, 0, []), (53, 1, .iload_n 1, 29, 0, 0, []), (54, 3, .invokevirtual 164, 30, 96, 2, [3057, 3059, 13, 1001, 3060]), (57, 3, .iinc 2 1, 31, 0, 0, []), (60, 3, .goto (-28), 32, 17, 0, []), (63, 1, .aload_n 0, 33, 0, 0, []), (64, 3, .getfield 12, 34, 7, 0, [1238]), (67, 1, .dup, 35, 0, 0, []), (68, 3, .getfield 122, 36, 6, 2, [1148]), (71, 1, .iload_n 1, 37, 0, 0, []), (72, 1, .iadd, 38, 0, 0, []), (73, 3, .putfield 122, 39, 6, 2, [1148]), (76, 1, .aload_n 0, 40, 0, 0, []), (77, 3, .getfield 12, 41, 7, 0, [1238]), (80, 3, .getfield 122, 42, 6, 2, [1148]), (83, 1, .ireturn, 43, 0, 0, [])]
def xi_73 : XI := (⟨"StarchedCollars", "pass", "(I)I"⟩, prog_1_method_12_code, 3, some (FieldType.int), xo_73)
-- 74 StarchedCollars.on(II)I maxLocals 5
def xo_74 : List XO := [(0, 1, .iload_n 2, 1, 0, 0, []), (1, 2, .bipush 20, 2, 0, 0, []), (3, 3, .if_icmp .lt 7, 3, 5, 0, []), (6, 1, .iconst 1, 4, 0, 0, []), (7, 3, .goto 4, 5, 6, 0, []), (10, 1, .iconst 0, 6, 0, 0, []), (11, 1, .istore_n 3, 7, 0, 0, []), (12, 1, .aload_n 0, 8, 0, 0, []), (13, 3, .getfield 12, 9, 7, 0, [1238]), (16, 1, .iload_n 2, 10, 0, 0, []), (17, 1, .iload_n 3, 11, 0, 0, []), (18, 3, .ifCond .eq 8, 12, 14, 0, []), (21, 2, .bipush 20, 13, 0, 0, []), (23, 3, .goto 5, 14, 15, 0, []), (26, 2, .bipush 10, 15, 0, 0, []), (28, 1, .isub, 16, 0, 0, []), (29, 3, .invokevirtual 95, 17, 59, 1, [2215, 2216, 2217, 1002, 2218]), (32, 2, .astore 4, 18, 0, 0, []), (34, 2, .aload 4, 19, 0, 0, []), (36, 3, .ifnonnull 9, 20, 24, 0, []), (39, 1, .iload_n 2, 21, 0, 0, []), (40, 3, .ifCond .eq 5, 22, 24, 0, []), (43, 1, .iconst (-1), 23, 0, 0, []), (44, 1, .ireturn, 24, 0, 0, []), (45, 1, .iload_n 1, 25, 0, 0, []), (46, 2, .bipush 60, 26, 0, 0, []), (48, 3, .invokestatic 49, 27, 94, 2, [2024, 2025, 1001, 2026]), (51, 3, .ifCond .ne 6, 28, 30, 0, []), (54, 2, .bipush (-2), 29, 0, 0, []), (56, 1, .ireturn, 30, 0, 0, []), (57, 2, .aload 4, 31, 0, 0, []), (59, 3, .ifnonnull 9, 32, 36, 0, []), (62, 1, .aload_n 0, 33, 0, 0, []), (63, 1, .iload_n 1, 34, 0, 0, []), (64, 3, .invokevirtual 150, 35, 97, 1, [3048, 3050, 12, 1001, 3051]), (67, 1, .ireturn, 36, 0, 0, []), (68, 1, .aload_n 0, 37, 0, 0, []), (69, 3, .getfield 24, 38, 7, 3, [2001]), (72, 2, .aload 4, 39, 0, 0, []), (74, 3, .invokevirtual 168, 40, 24, 1, [3052, 3053, 3054, 1005, 3055]), (77, 1, .aload_n 0, 41, 0, 0, []), (78, 1, .aload_n 0, 42, 0, 0, []), (79, 3, .getfield 24, 43, 7, 3, [2001]), (82, 1, .iload_n 1, 44, 0, 0, []), (83, 3, .invokevirtual 164, 45, 96, 2, [3057, 3059, 13, 1001, 3060]), (86, 1, .iload_n 3, 46, 0, 0, []), (87, 3, .ifCond .eq 13, 47, 51, 0, []), (90, 1, .aload_n 0, 48, 0, 0, []), (91, 3, .getfield 24, 49, 7, 3, [2001]), (94, 3, .getfield 109, 50, 1, 4, [1110]), (97, 3, .goto 10, 51, 54, 0, []), (100, 1, .aload_n 0, 52, 0, 0, []), (101, 3, .getfield 24, 53, 7, 3, [2001]), (104, 3, .getfield 112, 54, 1, 5, [1113]), (107, 1, .ireturn, 55, 0, 0, [])]
def xi_74 : XI := (⟨"StarchedCollars", "on", "(II)I"⟩, prog_1_method_13_code, 5, some (FieldType.int), xo_74)
-- 75 StarchedCollars.when(I)I maxLocals 4
def xo_75 : List XO := [(0, 1, .aload_n 0, 1, 0, 0, []), (1, 3, .getfield 12, 2, 7, 0, [1238]), (4, 1, .iload_n 1, 3, 0, 0, []), (5, 3, .invokevirtual 95, 4, 59, 1, [2215, 2216, 2217, 1002, 2218]), (8, 1, .astore_n 2, 5, 0, 0, []), (9, 1, .aload_n 2, 6, 0, 0, []), (10, 3, .ifnonnull 5, 7, 9, 0, []), (13, 1, .iconst (-1), 8, 0, 0, []), (14, 1, .ireturn, 9, 0, 0, []), (15, 1, .aload_n 0, 10, 0, 0, []), (16, 3, .getfield 24, 11, 7, 3, [2001]), (19, 1, .aload_n 2, 12, 0, 0, []), (20, 3, .invokevirtual 168, 13, 24, 1, [3052, 3053, 3054, 1005, 3055]), (23, 1, .iconst 0, 14, 0, 0, []), (24, 1, .istore_n 3, 15, 0, 0, []), (25, 1, .iload_n 3, 16, 0, 0, []), (26, 2, .bipush 60, 17, 0, 0, []), (28, 3, .if_icmp .gt 44, 18, 37, 0, []), (31, 1, .aload_n 0, 19, 0, 0, []), (32, 3, .getfield 24, 20, 7, 3, [2001]), (35, 3, .getfield 115, 21, 1, 6, [1116]), (38, 3, .ifCond .eq 5, 22, 24, 0, []), (41, 1, .iload_n 3, 23, 0, 0, []), (42, 1, .ireturn, 24, 0, 0, []), (43, 1, .aload_n 0, 25, 0, 0, []), (44, 3, .getfield 24, 26, 7, 3, [2001]), (47, 1, .aload_n 0, 27, 0, 0, []), (48, 3, .getfield 12, 28, 7, 0, [1238]), (51, 3, .getfield 71, 29, 6, 5, [1154]), (54, 1, .aload_n 0, 30, 0, 0, []), (55, 3, .getfield 12, 31, 7, 0, [1238]), (58, 3, .getfield 122, 32, 6, 2, [1148]), (61, 1, .iload_n 3, 33, 0, 0, []), (62, 1, .iadd, 34, 0, 0, []), (63, 3, .invokevirtual 171, 35, 28, 2, [3061, 3062, 3063, 1005, 3064]), (66, 3, .iinc 3 1, 36, 0, 0, []), (69, 3, .goto (-44), 37, 15, 0, []), (72, 2, .bipush (-5), 38, 0, 0, []), (74, 1, .ireturn, 39, 0, 0, [])]
def xi_75 : XI := (⟨"StarchedCollars", "when", "(I)I"⟩, prog_1_method_14_code, 4, some (FieldType.int), xo_75)
-- 76 StarchedCollars.walk(I)I maxLocals 3
def xo_76 : List XO := [(0, 1, .iload_n 1, 1, 0, 0, []), (1, 1, .iconst (-1), 2, 0, 0, []), (2, 3, .if_icmp .lt 14, 3, 8, 0, []), (5, 1, .iload_n 1, 4, 0, 0, []), (6, 1, .aload_n 0, 5, 0, 0, []), (7, 3, .getfield 12, 6, 7, 0, [1238]), (10, 3, .getfield 84, 7, 6, 1, [1146]), (13, 3, .if_icmp .lt 5, 8, 10, 0, []), (16, 1, .iconst (-1), 9, 0, 0, []), (17, 1, .ireturn, 10, 0, 0, []), (18, 1, .aload_n 0, 11, 0, 0, []), (19, 3, .getfield 12, 12, 7, 0, [1238]), (22, 3, .invokevirtual 158, 13, 61, 0, [3073, 3074, 3075, 1002, 3076]), (25, 1, .istore_n 2, 14, 0, 0, []), (26, 1, .aload_n 0, 15, 0, 0, []), (27, 3, .getfield 45, 16, 7, 6, [2004]), (30, 1, .aload_n 0, 17, 0, 0, []), (31, 3, .getfield 12, 18, 7, 0, [1238]), (34, 1, .iload_n 2, 19, 0, 0, []), (35, 3, .invokevirtual 175, 20, 30, 2, [3097, 3098, 3099, 1008, 3100]), (38, 1, .iload_n 1, 21, 0, 0, []), (39, 1, .iconst (-1), 22, 0, 0, []), (40, 3, .if_icmp .ne 13, 23, 29, 0, []), (43, 1, .aload_n 0, 24, 0, 0, []), (44, 3, .getfield 45, 25, 7, 6, [2004]), (47, 3, .getfield 179, 26, 2, 0, [1234]), (50, 1, .iload_n 2, 27, 0, 0, []), (51, 1, .iaload, 28, 0, 0, []), (52, 1, .ireturn, 29, 0, 0, []), (53, 1, .aload_n 0, 30, 0, 0, []), (54, 3, .getfield 45, 31, 7, 6, [2004]), (57, 1, .aload_n 0, 32, 0, 0, []), (58, 3, .getfield 12, 33, 7, 0, [1238]), (61, 1, .iload_n 2, 34, 0, 0, []), (62, 1, .iload_n 1, 35, 0, 0, []), (63, 3, .invokevirtual 182, 36, 32, 3, [3112, 3113, 3114, 1008, 3115]), (66, 1, .ireturn, 37, 0, 0, [])]
def xi_76 : XI := (⟨"StarchedCollars", "walk", "(I)I"⟩, prog_1_method_15_code, 3, some (FieldType.int), xo_76)
-- 77 StarchedCollars.table(I)I maxLocals 6
def xo_77 : List XO := [(0, 1, .iload_n 1, 1, 0, 0, []), (1, 2, .bipush 8, 2, 0, 0, []), (3, 3, .invokestatic 49, 3, 94, 2, [2024, 2025, 1001, 2026]), (6, 3, .ifCond .ne 6, 4, 6, 0, []), (9, 2, .bipush (-2), 5, 0, 0, []), (11, 1, .ireturn, 6, 0, 0, []), (12, 1, .aload_n 0, 7, 0, 0, []), (13, 3, .getfield 12, 8, 7, 0, [1238]), (16, 3, .invokevirtual 158, 9, 61, 0, [3073, 3074, 3075, 1002, 3076]), (19, 1, .istore_n 2, 10, 0, 0, []), (20, 1, .iconst 0, 11, 0, 0, []), (21, 1, .istore_n 3, 12, 0, 0, []), (22, 1, .iconst 1, 13, 0, 0, []), (23, 2, .istore 4, 14, 0, 0, []), (25, 2, .iload 4, 15, 0, 0, []), (27, 1, .iload_n 2, 16, 0, 0, []), (28, 3, .if_icmp .gt 55, 17, 43, 0, []), (31, 2, .iload 4, 18, 0, 0, []), (33, 3, .invokestatic 186, 19, 1, 1, [3019, 2225, 1017, 2226]), (36, 1, .iload_n 3, 20, 0, 0, []), (37, 3, .invokestatic 186, 21, 1, 1, [3019, 2225, 1017, 2226]), (40, 3, .if_icmp .le 7, 22, 24, 0, []), (43, 1, .iconst 1, 23, 0, 0, []), (44, 3, .goto 4, 24, 25, 0, []), (47, 1, .iconst 0, 25, 0, 0, []), (48, 2, .istore 5, 26, 0, 0, []), (50, 2, .iload 5, 27, 0, 0, []), (52, 3, .ifCond .eq 25, 28, 41, 0, []), (55, 2, .iload 4, 29, 0, 0, []), (57, 1, .iload_n 2, 30, 0, 0, []), (58, 1, .iconst (-1), 31, 0, 0, []), (59, 1, .ixor, 32, 0, 0, []), (60, 1, .iand, 33, 0, 0, []), (61, 3, .ifCond .ne 16, 34, 41, 0, []), (64, 1, .aload_n 0, 35, 0, 0, []), (65, 2, .iload 4, 36, 0, 0, []), (67, 1, .iload_n 1, 37, 0, 0, []), (68, 3, .invokevirtual 191, 38, 102, 2, [3124, 3126, 17, 1001, 3127]), (71, 3, .ifCond .eq 6, 39, 41, 0, []), (74, 2, .iload 4, 40, 0, 0, []), (76, 1, .istore_n 3, 41, 0, 0, []), (77, 3, .iinc 4 1, 42, 0, 0, []), (80, 3, .goto (-55), 43, 14, 0, []), (83, 1, .iload_n 3, 44, 0, 0, []), (84, 1, .ireturn, 45, 0, 0, [])]
def xi_77 : XI := (⟨"StarchedCollars", "table", "(I)I"⟩, prog_1_method_16_code, 6, some (FieldType.int), xo_77)
-- 78 StarchedCollars.wash(I)I maxLocals 11
def xo_78_0 : List XO := [(0, 1, .iload_n 1, 1, 0, 0, []), (1, 2, .bipush 6, 2, 0, 0, []), (3, 3, .invokestatic 49, 3, 94, 2, [2024, 2025, 1001, 2026]), (6, 3, .ifCond .ne 6, 4, 6, 0, []), (9, 2, .bipush (-2), 5, 0, 0, []), (11, 1, .ireturn, 6, 0, 0, []), (12, 1, .iconst 0, 7, 0, 0, []), (13, 1, .istore_n 2, 8, 0, 0, []), (14, 1, .iconst 0, 9, 0, 0, []), (15, 1, .istore_n 3, 10, 0, 0, []), (16, 1, .iconst 0, 11, 0, 0, []), (17, 2, .istore 4, 12, 0, 0, []), (19, 2, .iload 4, 13, 0, 0, []), (21, 1, .aload_n 0, 14, 0, 0, []), (22, 3, .getfield 12, 15, 7, 0, [1238]), (25, 3, .getfield 84, 16, 6, 1, [1146]), (28, 3, .if_icmp .ge 67, 17, 53, 0, []), (31, 1, .iload_n 2, 18, 0, 0, []), (32, 1, .aload_n 0, 19, 0, 0, []), (33, 1, .aload_n 0, 20, 0, 0, []), (34, 3, .getfield 12, 21, 7, 0, [1238]), (37, 3, .getfield 87, 22, 6, 0, [1143]), (40, 2, .iload 4, 23, 0, 0, []), (42, 1, .aaload, 24, 0, 0, []), (43, 1, .iconst 0, 25, 0, 0, []), (44, 3, .invokevirtual 194, 26, 98, 2, [3132, 3134, 18, 1001, 3135]), (47, 3, .ifCond .eq 10, 27, 31, 0, []), (50, 1, .iconst 1, 28, 0, 0, []), (51, 2, .iload 4, 29, 0, 0, []), (53, 1, .ishl, 30, 0, 0, []), (54, 3, .goto 4, 31, 32, 0, []), (57, 1, .iconst 0, 32, 0, 0, []), (58, 1, .ior, 33, 0, 0, []), (59, 1, .istore_n 2, 34, 0, 0, []), (60, 1, .iload_n 3, 35, 0, 0, []), (61, 1, .aload_n 0, 36, 0, 0, []), (62, 1, .aload_n 0, 37, 0, 0, []), (63, 3, .getfield 12, 38, 7, 0, [1238]), (66, 3, .getfield 87, 39, 6, 0, [1143]), (69, 2, .iload 4, 40, 0, 0, []), (71, 1, .aaload, 41, 0, 0, []), (72, 1, .iconst 1, 42, 0, 0, []), (73, 3, .invokevirtual 194, 43, 98, 2, [3132, 3134, 18, 1001, 3135]), (76, 3, .ifCond .eq 10, 44, 48, 0, []), (79, 1, .iconst 1, 45, 0, 0, []), (80, 2, .iload 4, 46, 0, 0, []), (82, 1, .ishl, 47, 0, 0, []), (83, 3, .goto 4, 48, 49, 0, []), (86, 1, .iconst 0, 49, 0, 0, []), (87, 1, .ior, 50, 0, 0, [])]
def xo_78_1 : List XO := [(88, 1, .istore_n 3, 51, 0, 0, []), (89, 3, .iinc 4 1, 52, 0, 0, []), (92, 3, .goto (-73), 53, 12, 0, []), (95, 2, .bipush 7, 54, 0, 0, []), (97, 2, .istore 4, 55, 0, 0, []), (99, 1, .iconst 0, 56, 0, 0, []), (100, 2, .istore 5, 57, 0, 0, []), (102, 1, .iload_n 2, 58, 0, 0, []), (103, 3, .invokestatic 186, 59, 1, 1, [3019, 2225, 1017, 2226]), (106, 2, .iload 4, 60, 0, 0, []), (108, 1, .imul, 61, 0, 0, []), (109, 2, .istore 6, 62, 0, 0, []), (111, 1, .aload_n 0, 63, 0, 0, []), (112, 3, .getfield 12, 64, 7, 0, [1238]), (115, 3, .invokevirtual 154, 65, 60, 0, [3069, 3070, 3071, 1002, 3072]), (118, 2, .istore 7, 66, 0, 0, []), (120, 1, .iconst 1, 67, 0, 0, []), (121, 2, .istore 8, 68, 0, 0, []), (123, 2, .iload 8, 69, 0, 0, []), (125, 2, .iload 7, 70, 0, 0, []), (127, 3, .if_icmp .gt 62, 71, 102, 0, []), (130, 1, .iload_n 2, 72, 0, 0, []), (131, 2, .iload 8, 73, 0, 0, []), (133, 1, .iconst (-1), 74, 0, 0, []), (134, 1, .ixor, 75, 0, 0, []), (135, 1, .iand, 76, 0, 0, []), (136, 1, .iload_n 3, 77, 0, 0, []), (137, 2, .iload 8, 78, 0, 0, []), (139, 1, .iand, 79, 0, 0, []), (140, 1, .ior, 80, 0, 0, []), (141, 2, .istore 9, 81, 0, 0, []), (143, 2, .iload 9, 82, 0, 0, []), (145, 3, .invokestatic 186, 83, 1, 1, [3019, 2225, 1017, 2226]), (148, 2, .iload 4, 84, 0, 0, []), (150, 1, .imul, 85, 0, 0, []), (151, 2, .iload 8, 86, 0, 0, []), (153, 3, .invokestatic 186, 87, 1, 1, [3019, 2225, 1017, 2226]), (156, 1, .iadd, 88, 0, 0, []), (157, 2, .istore 10, 89, 0, 0, []), (159, 2, .iload 8, 90, 0, 0, []), (161, 3, .invokestatic 186, 91, 1, 1, [3019, 2225, 1017, 2226]), (164, 1, .iload_n 1, 92, 0, 0, []), (165, 3, .if_icmp .gt 18, 93, 100, 0, []), (168, 2, .iload 10, 94, 0, 0, []), (170, 2, .iload 6, 95, 0, 0, []), (172, 3, .if_icmp .ge 11, 96, 100, 0, []), (175, 2, .iload 10, 97, 0, 0, []), (177, 2, .istore 6, 98, 0, 0, []), (179, 2, .iload 8, 99, 0, 0, []), (181, 2, .istore 5, 100, 0, 0, [])]
def xo_78_2 : List XO := [(183, 3, .iinc 8 1, 101, 0, 0, []), (186, 3, .goto (-63), 102, 68, 0, []), (189, 2, .iload 5, 103, 0, 0, []), (191, 1, .ireturn, 104, 0, 0, [])]
def xo_78 : List XO := xo_78_0 ++ xo_78_1 ++ xo_78_2
def xi_78 : XI := (⟨"StarchedCollars", "wash", "(I)I"⟩, prog_1_method_17_code, 11, some (FieldType.int), xo_78)
-- 79 StarchedCollars.see(III)I maxLocals 4
def xo_79 : List XO := [(0, 1, .iload_n 1, 1, 0, 0, []), (1, 1, .iconst (-1), 2, 0, 0, []), (2, 3, .if_icmp .ne 14, 3, 8, 0, []), (5, 1, .aload_n 0, 4, 0, 0, []), (6, 3, .getfield 12, 5, 7, 0, [1238]), (9, 3, .getfield 198, 6, 6, 7, [1158]), (12, 3, .invokevirtual 202, 7, 46, 0, [3140, 3141, 3142, 1004, 3143]), (15, 1, .ireturn, 8, 0, 0, []), (16, 1, .aload_n 0, 9, 0, 0, []), (17, 3, .getfield 12, 10, 7, 0, [1238]), (20, 1, .iload_n 1, 11, 0, 0, []), (21, 3, .invokevirtual 95, 12, 59, 1, [2215, 2216, 2217, 1002, 2218]), (24, 3, .ifnonnull 5, 13, 15, 0, []), (27, 1, .iconst (-1), 14, 0, 0, []), (28, 1, .ireturn, 15, 0, 0, []), (29, 1, .iload_n 2, 16, 0, 0, []), (30, 2, .bipush 20, 17, 0, 0, []), (32, 3, .invokestatic 49, 18, 94, 2, [2024, 2025, 1001, 2026]), (35, 3, .ifCond .eq 12, 19, 23, 0, []), (38, 1, .iload_n 3, 20, 0, 0, []), (39, 2, .bipush 99, 21, 0, 0, []), (41, 3, .invokestatic 49, 22, 94, 2, [2024, 2025, 1001, 2026]), (44, 3, .ifCond .ne 6, 23, 25, 0, []), (47, 2, .bipush (-2), 24, 0, 0, []), (49, 1, .ireturn, 25, 0, 0, []), (50, 1, .aload_n 0, 26, 0, 0, []), (51, 3, .getfield 12, 27, 7, 0, [1238]), (54, 3, .getfield 198, 28, 6, 7, [1158]), (57, 3, .getfield 207, 29, 4, 3, [1080]), (60, 1, .iconst 5, 30, 0, 0, []), (61, 3, .if_icmp .lt 8, 31, 33, 0, []), (64, 2, .bipush (-4), 32, 0, 0, []), (66, 3, .goto 16, 33, 40, 0, []), (69, 1, .aload_n 0, 34, 0, 0, []), (70, 3, .getfield 12, 35, 7, 0, [1238]), (73, 3, .getfield 198, 36, 6, 7, [1158]), (76, 1, .iload_n 1, 37, 0, 0, []), (77, 1, .iload_n 2, 38, 0, 0, []), (78, 1, .iload_n 3, 39, 0, 0, []), (79, 3, .invokevirtual 210, 40, 45, 3, [3144, 3145, 3146, 1004, 3147]), (82, 1, .ireturn, 41, 0, 0, [])]
def xi_79 : XI := (⟨"StarchedCollars", "see", "(III)I"⟩, prog_1_method_18_code, 4, some (FieldType.int), xo_79)
-- 80 StarchedCollars.highs(II)I maxLocals 3
def xo_80 : List XO := [(0, 1, .aload_n 0, 1, 0, 0, []), (1, 1, .aload_n 0, 2, 0, 0, []), (2, 3, .getfield 12, 3, 7, 0, [1238]), (5, 1, .iload_n 1, 4, 0, 0, []), (6, 3, .invokevirtual 95, 5, 59, 1, [2215, 2216, 2217, 1002, 2218]), (9, 1, .iload_n 2, 6, 0, 0, []), (10, 1, .iconst 1, 7, 0, 0, []), (11, 3, .invokevirtual 214, 8, 103, 3, [3152, 3154, 19, 1001, 3155]), (14, 1, .ireturn, 9, 0, 0, [])]
def xi_80 : XI := (⟨"StarchedCollars", "highs", "(II)I"⟩, prog_1_method_19_code, 3, some (FieldType.int), xo_80)
-- 81 StarchedCollars.firm(II)I maxLocals 3
def xo_81 : List XO := [(0, 1, .aload_n 0, 1, 0, 0, []), (1, 1, .aload_n 0, 2, 0, 0, []), (2, 3, .getfield 12, 3, 7, 0, [1238]), (5, 1, .iload_n 1, 4, 0, 0, []), (6, 3, .invokevirtual 95, 5, 59, 1, [2215, 2216, 2217, 1002, 2218]), (9, 1, .iload_n 2, 6, 0, 0, []), (10, 1, .iconst 0, 7, 0, 0, []), (11, 3, .invokevirtual 214, 8, 103, 3, [3152, 3154, 19, 1001, 3155]), (14, 1, .ireturn, 9, 0, 0, [])]
def xi_81 : XI := (⟨"StarchedCollars", "firm", "(II)I"⟩, prog_1_method_20_code, 3, some (FieldType.int), xo_81)
-- 82 StarchedCollars.odds(III)J maxLocals 7
def xo_82 : List XO := [(0, 1, .aload_n 0, 1, 0, 0, []), (1, 3, .getfield 12, 2, 7, 0, [1238]), (4, 1, .iload_n 1, 3, 0, 0, []), (5, 3, .invokevirtual 95, 4, 59, 1, [2215, 2216, 2217, 1002, 2218]), (8, 2, .astore 4, 5, 0, 0, []), (10, 2, .aload 4, 6, 0, 0, []), (12, 3, .ifnull 20, 7, 15, 0, []), (15, 1, .iload_n 2, 8, 0, 0, []), (16, 2, .bipush 60, 9, 0, 0, []), (18, 3, .invokestatic 49, 10, 94, 2, [2024, 2025, 1001, 2026]), (21, 3, .ifCond .eq 11, 11, 15, 0, []), (24, 1, .iload_n 3, 12, 0, 0, []), (25, 1, .iconst 1, 13, 0, 0, []), (26, 3, .invokestatic 49, 14, 94, 2, [2024, 2025, 1001, 2026]), (29, 3, .ifCond .ne 7, 15, 17, 0, []), (32, 3, .ldc2_w 218, 16, 6, 3, [3177]), (35, 1, .lreturn, 17, 0, 0, []), (36, 1, .iconst 0, 18, 0, 0, []), (37, 2, .istore 5, 19, 0, 0, []), (39, 1, .iconst 0, 20, 0, 0, []), (40, 2, .istore 6, 21, 0, 0, []), (42, 2, .iload 6, 22, 0, 0, []), (44, 2, .bipush 8, 23, 0, 0, []), (46, 3, .if_icmp .ge 63, 24, 54, 0, []), (49, 1, .aload_n 0, 25, 0, 0, []), (50, 3, .getfield 24, 26, 7, 3, [2001]), (53, 2, .aload 4, 27, 0, 0, []), (55, 3, .invokevirtual 168, 28, 24, 1, [3052, 3053, 3054, 1005, 3055]), (58, 1, .aload_n 0, 29, 0, 0, []), (59, 3, .getfield 24, 30, 7, 3, [2001]), (62, 1, .dup, 31, 0, 0, []), (63, 3, .getfield 109, 32, 1, 4, [1110]), (66, 1, .iconst 1, 33, 0, 0, []), (67, 2, .iload 6, 34, 0, 0, []), (69, 1, .ishl, 35, 0, 0, []), (70, 1, .ixor, 36, 0, 0, []), (71, 3, .putfield 109, 37, 1, 4, [1110]), (74, 1, .aload_n 0, 38, 0, 0, []), (75, 1, .aload_n 0, 39, 0, 0, []), (76, 3, .getfield 24, 40, 7, 3, [2001]), (79, 1, .iload_n 2, 41, 0, 0, []), (80, 3, .invokevirtual 164, 42, 96, 2, [3057, 3059, 13, 1001, 3060]), (83, 2, .iload 5, 43, 0, 0, []), (85, 1, .aload_n 0, 44, 0, 0, []), (86, 3, .getfield 24, 45, 7, 3, [2001]), (89, 3, .getfield 115, 46, 1, 6, [1116]), (92, 3, .ifCond .eq 7, 47, 49, 0, []), (95, 1, .iconst 1, 48, 0, 0, []), (96, 3, .goto 4, 49, 50, 0, []), (99, 1, .iconst 0, 50, 0, 0, []), (100, 1, .iadd, 51, 0, 0, []), (101, 2, .istore 5, 52, 0, 0, []), (103, 3, .iinc 6 1, 53, 0, 0, []), (106, 3, .goto (-64), 54, 21, 0, []), (109, 2, .iload 5, 55, 0, 0, []), (111, 2, .bipush 8, 56, 0, 0, []), (113, 1, .iload_n 3, 57, 0, 0, []), (114, 3, .invokestatic 220, 58, 95, 3, [3178, 3179, 1001, 3180]), (117, 1, .i2l, 59, 0, 0, []), (118, 1, .lreturn, 60, 0, 0, [])]
def xi_82 : XI := (⟨"StarchedCollars", "odds", "(III)J"⟩, prog_1_method_21_code, 7, some (FieldType.long), xo_82)
-- 83 StarchedCollars.mean(I)J maxLocals 5
def xo_83 : List XO := [(0, 1, .aload_n 0, 1, 0, 0, []), (1, 3, .getfield 12, 2, 7, 0, [1238]), (4, 3, .invokevirtual 158, 3, 61, 0, [3073, 3074, 3075, 1002, 3076]), (7, 1, .istore_n 2, 4, 0, 0, []), (8, 1, .iload_n 1, 5, 0, 0, []), (9, 1, .iconst 1, 6, 0, 0, []), (10, 3, .invokestatic 49, 7, 94, 2, [2024, 2025, 1001, 2026]), (13, 3, .ifCond .eq 7, 8, 10, 0, []), (16, 1, .iload_n 2, 9, 0, 0, []), (17, 3, .ifCond .ne 7, 10, 12, 0, []), (20, 3, .ldc2_w 218, 11, 6, 3, [3177]), (23, 1, .lreturn, 12, 0, 0, []), (24, 1, .iconst 0, 13, 0, 0, []), (25, 1, .istore_n 3, 14, 0, 0, []), (26, 1, .iconst 0, 15, 0, 0, []), (27, 2, .istore 4, 16, 0, 0, []), (29, 2, .iload 4, 17, 0, 0, []), (31, 1, .aload_n 0, 18, 0, 0, []), (32, 3, .getfield 12, 19, 7, 0, [1238]), (35, 3, .getfield 84, 20, 6, 1, [1146]), (38, 3, .if_icmp .ge 45, 21, 41, 0, []), (41, 1, .iload_n 3, 22, 0, 0, []), (42, 1, .aload_n 0, 23, 0, 0, []), (43, 3, .getfield 12, 24, 7, 0, [1238]), (46, 3, .getfield 87, 25, 6, 0, [1143]), (49, 2, .iload 4, 26, 0, 0, []), (51, 1, .aaload, 27, 0, 0, []), (52, 3, .getfield 119, 28, 1, 7, [1119]), (55, 3, .ifCond .eq 7, 29, 31, 0, []), (58, 1, .iconst 0, 30, 0, 0, []), (59, 3, .goto 16, 31, 37, 0, []), (62, 1, .aload_n 0, 32, 0, 0, []), (63, 3, .getfield 12, 33, 7, 0, [1238]), (66, 3, .getfield 87, 34, 6, 0, [1143]), (69, 2, .iload 4, 35, 0, 0, []), (71, 1, .aaload, 36, 0, 0, []), (72, 3, .getfield 112, 37, 1, 5, [1113]), (75, 1, .iadd, 38, 0, 0, []), (76, 1, .istore_n 3, 39, 0, 0, []), (77, 3, .iinc 4 1, 40, 0, 0, []), (80, 3, .goto (-51), 41, 16, 0, []), (83, 1, .iload_n 3, 42, 0, 0, []), (84, 1, .iload_n 2, 43, 0, 0, []), (85, 3, .invokestatic 186, 44, 1, 1, [3019, 2225, 1017, 2226]), (88, 1, .iload_n 1, 45, 0, 0, []), (89, 3, .invokestatic 220, 46, 95, 3, [3178, 3179, 1001, 3180]), (92, 1, .i2l, 47, 0, 0, []), (93, 1, .lreturn, 48, 0, 0, [])]
def xi_83 : XI := (⟨"StarchedCollars", "mean", "(I)J"⟩, prog_1_method_22_code, 5, some (FieldType.long), xo_83)
-- 84 StarchedCollars.plan(II)I maxLocals 3
def xo_84 : List XO := [(0, 1, .iload_n 1, 1, 0, 0, []), (1, 1, .iconst (-1), 2, 0, 0, []), (2, 3, .if_icmp .ne 14, 3, 8, 0, []), (5, 1, .aload_n 0, 4, 0, 0, []), (6, 3, .getfield 12, 5, 7, 0, [1238]), (9, 3, .getfield 223, 6, 6, 8, [1160]), (12, 3, .invokevirtual 202, 7, 46, 0, [3140, 3141, 3142, 1004, 3143]), (15, 1, .ireturn, 8, 0, 0, []), (16, 1, .iload_n 1, 9, 0, 0, []), (17, 1, .iconst 3, 10, 0, 0, []), (18, 3, .invokestatic 49, 11, 94, 2, [2024, 2025, 1001, 2026]), (21, 3, .ifCond .eq 18, 12, 19, 0, []), (24, 1, .iload_n 1, 13, 0, 0, []), (25, 3, .ifCond .eq 16, 14, 21, 0, []), (28, 1, .aload_n 0, 15, 0, 0, []), (29, 3, .getfield 12, 16, 7, 0, [1238]), (32, 1, .iload_n 2, 17, 0, 0, []), (33, 3, .invokevirtual 95, 18, 59, 1, [2215, 2216, 2217, 1002, 2218]), (36, 3, .ifnonnull 5, 19, 21, 0, []), (39, 1, .iconst (-1), 20, 0, 0, []), (40, 1, .ireturn, 21, 0, 0, []), (41, 1, .aload_n 0, 22, 0, 0, []), (42, 3, .getfield 12, 23, 7, 0, [1238]), (45, 3, .getfield 223, 24, 6, 8, [1160]), (48, 3, .getfield 207, 25, 4, 3, [1080]), (51, 2, .bipush 8, 26, 0, 0, []), (53, 3, .if_icmp .lt 8, 27, 29, 0, []), (56, 2, .bipush (-4), 28, 0, 0, []), (58, 3, .goto 16, 29, 36, 0, []), (61, 1, .aload_n 0, 30, 0, 0, []), (62, 3, .getfield 12, 31, 7, 0, [1238]), (65, 3, .getfield 223, 32, 6, 8, [1160]), (68, 1, .iload_n 1, 33, 0, 0, []), (69, 1, .iload_n 2, 34, 0, 0, []), (70, 1, .iconst 0, 35, 0, 0, []), (71, 3, .invokevirtual 210, 36, 45, 3, [3144, 3145, 3146, 1004, 3147]), (74, 1, .ireturn, 37, 0, 0, [])]
def xi_84 : XI := (⟨"StarchedCollars", "plan", "(II)I"⟩, prog_1_method_23_code, 3, some (FieldType.int), xo_84)
-- 85 StarchedCollars.done(I)I maxLocals 5
def xo_85 : List XO := [(0, 1, .iload_n 1, 1, 0, 0, []), (1, 1, .iconst 1, 2, 0, 0, []), (2, 3, .invokestatic 49, 3, 94, 2, [2024, 2025, 1001, 2026]), (5, 3, .ifCond .ne 5, 4, 6, 0, []), (8, 1, .iconst (-1), 5, 0, 0, []), (9, 1, .ireturn, 6, 0, 0, []), (10, 1, .iconst 0, 7, 0, 0, []), (11, 1, .istore_n 2, 8, 0, 0, []), (12, 1, .iconst 0, 9, 0, 0, []), (13, 1, .istore_n 3, 10, 0, 0, []), (14, 1, .iconst 0, 11, 0, 0, []), (15, 2, .istore 4, 12, 0, 0, []), (17, 2, .iload 4, 13, 0, 0, []), (19, 1, .aload_n 0, 14, 0, 0, []), (20, 3, .getfield 12, 15, 7, 0, [1238]), (23, 3, .getfield 84, 16, 6, 1, [1146]), (26, 3, .if_icmp .ge 61, 17, 47, 0, []), (29, 1, .aload_n 0, 18, 0, 0, []), (30, 3, .getfield 24, 19, 7, 3, [2001]), (33, 1, .aload_n 0, 20, 0, 0, []), (34, 3, .getfield 12, 21, 7, 0, [1238]), (37, 3, .getfield 87, 22, 6, 0, [1143]), (40, 2, .iload 4, 23, 0, 0, []), (42, 1, .aaload, 24, 0, 0, []), (43, 3, .invokevirtual 168, 25, 24, 1, [3052, 3053, 3054, 1005, 3055]), (46, 1, .aload_n 0, 26, 0, 0, []), (47, 3, .invokevirtual 226, 27, 107, 0, [3193, 3195, 23, 1001, 3196]), (50, 1, .iload_n 2, 28, 0, 0, []), (51, 1, .aload_n 0, 29, 0, 0, []), (52, 3, .getfield 24, 30, 7, 3, [2001]), (55, 3, .getfield 115, 31, 1, 6, [1116]), (58, 3, .ifCond .eq 10, 32, 36, 0, []), (61, 1, .iconst 1, 33, 0, 0, []), (62, 2, .iload 4, 34, 0, 0, []), (64, 1, .ishl, 35, 0, 0, []), (65, 3, .goto 4, 36, 37, 0, []), (68, 1, .iconst 0, 37, 0, 0, []), (69, 1, .ior, 38, 0, 0, []), (70, 1, .istore_n 2, 39, 0, 0, []), (71, 1, .iload_n 3, 40, 0, 0, []), (72, 1, .aload_n 0, 41, 0, 0, []), (73, 3, .getfield 24, 42, 7, 3, [2001]), (76, 3, .getfield 112, 43, 1, 5, [1113]), (79, 1, .iadd, 44, 0, 0, []), (80, 1, .istore_n 3, 45, 0, 0, []), (81, 3, .iinc 4 1, 46, 0, 0, []), (84, 3, .goto (-67), 47, 12, 0, []), (87, 1, .iload_n 1, 48, 0, 0, []), (88, 3, .ifCond .ne 7, 49, 51, 0, []), (91, 1, .iload_n 2, 50, 0, 0, []), (92, 3, .goto 4, 51, 52, 0, []), (95, 1, .iload_n 3, 52, 0, 0, []), (96, 1, .ireturn, 53, 0, 0, [])]
def xi_85 : XI := (⟨"StarchedCollars", "done", "(I)I"⟩, prog_1_method_24_code, 5, some (FieldType.int), xo_85)
-- 86 StarchedCollars.book(II)I maxLocals 3
def xo_86 : List XO := [(0, 1, .iload_n 1, 1, 0, 0, []), (1, 1, .iconst (-1), 2, 0, 0, []), (2, 3, .if_icmp .ne 14, 3, 8, 0, []), (5, 1, .aload_n 0, 4, 0, 0, []), (6, 3, .getfield 12, 5, 7, 0, [1238]), (9, 3, .getfield 229, 6, 6, 9, [1162]), (12, 3, .invokevirtual 202, 7, 46, 0, [3140, 3141, 3142, 1004, 3143]), (15, 1, .ireturn, 8, 0, 0, []), (16, 1, .aload_n 0, 9, 0, 0, []), (17, 3, .getfield 12, 10, 7, 0, [1238]), (20, 1, .iload_n 1, 11, 0, 0, []), (21, 3, .invokevirtual 95, 12, 59, 1, [2215, 2216, 2217, 1002, 2218]), (24, 3, .ifnonnull 5, 13, 15, 0, []), (27, 1, .iconst (-1), 14, 0, 0, []), (28, 1, .ireturn, 15, 0, 0, []), (29, 1, .iload_n 2, 16, 0, 0, []), (30, 3, .sipush 255, 17, 0, 0, []), (33, 3, .invokestatic 49, 18, 94, 2, [2024, 2025, 1001, 2026]), (36, 3, .ifCond .ne 6, 19, 21, 0, []), (39, 2, .bipush (-2), 20, 0, 0, []), (41, 1, .ireturn, 21, 0, 0, []), (42, 1, .aload_n 0, 22, 0, 0, []), (43, 3, .getfield 12, 23, 7, 0, [1238]), (46, 3, .getfield 229, 24, 6, 9, [1162]), (49, 3, .getfield 207, 25, 4, 3, [1080]), (52, 2, .bipush 8, 26, 0, 0, []), (54, 3, .if_icmp .lt 8, 27, 29, 0, []), (57, 2, .bipush (-4), 28, 0, 0, []), (59, 3, .goto 16, 29, 36, 0, []), (62, 1, .aload_n 0, 30, 0, 0, []), (63, 3, .getfield 12, 31, 7, 0, [1238]), (66, 3, .getfield 229, 32, 6, 9, [1162]), (69, 1, .iload_n 1, 33, 0, 0, []), (70, 1, .iload_n 2, 34, 0, 0, []), (71, 1, .iconst 0, 35, 0, 0, []), (72, 3, .invokevirtual 210, 36, 45, 3, [3144, 3145, 3146, 1004, 3147]), (75, 1, .ireturn, 37, 0, 0, [])]
def xi_86 : XI := (⟨"StarchedCollars", "book", "(II)I"⟩, prog_1_method_25_code, 3, some (FieldType.int), xo_86)
-- 87 StarchedCollars.looked()I maxLocals 3
def xo_87 : List XO := [(0, 1, .iconst 0, 1, 0, 0, []), (1, 1, .istore_n 1, 2, 0, 0, []), (2, 1, .iload_n 1, 3, 0, 0, []), (3, 1, .aload_n 0, 4, 0, 0, []), (4, 3, .getfield 12, 5, 7, 0, [1238]), (7, 3, .getfield 229, 6, 6, 9, [1162]), (10, 3, .getfield 207, 7, 4, 3, [1080]), (13, 3, .if_icmp .ge 54, 8, 33, 0, []), (16, 1, .aload_n 0, 9, 0, 0, []), (17, 3, .getfield 12, 10, 7, 0, [1238]), (20, 1, .aload_n 0, 11, 0, 0, []), (21, 3, .getfield 12, 12, 7, 0, [1238]), (24, 3, .getfield 229, 13, 6, 9, [1162]), (27, 3, .getfield 232, 14, 4, 0, [1074]), (30, 1, .iload_n 1, 15, 0, 0, []), (31, 1, .iaload, 16, 0, 0, []), (32, 3, .invokevirtual 95, 17, 59, 1, [2215, 2216, 2217, 1002, 2218]), (35, 1, .astore_n 2, 18, 0, 0, []), (36, 1, .aload_n 2, 19, 0, 0, []), (37, 3, .ifnull 24, 20, 31, 0, []), (40, 1, .aload_n 2, 21, 0, 0, []), (41, 3, .getfield 109, 22, 1, 4, [1110]), (44, 1, .aload_n 0, 23, 0, 0, []), (45, 3, .getfield 12, 24, 7, 0, [1238]), (48, 3, .getfield 229, 25, 6, 9, [1162]), (51, 3, .getfield 235, 26, 4, 1, [1076]), (54, 1, .iload_n 1, 27, 0, 0, []), (55, 1, .iaload, 28, 0, 0, []), (56, 3, .if_icmp .eq 5, 29, 31, 0, []), (59, 1, .iload_n 1, 30, 0, 0, []), (60, 1, .ireturn, 31, 0, 0, []), (61, 3, .iinc 1 1, 32, 0, 0, []), (64, 3, .goto (-62), 33, 2, 0, []), (67, 2, .bipush (-5), 34, 0, 0, []), (69, 1, .ireturn, 35, 0, 0, [])]
def xi_87 : XI := (⟨"StarchedCollars", "looked", "()I"⟩, prog_1_method_26_code, 3, some (FieldType.int), xo_87)
-- 88 StarchedCollars.act(III)I maxLocals 4
def xo_88 : List XO := [(0, 1, .aload_n 0, 1, 0, 0, []), (1, 3, .getfield 38, 2, 7, 5, [2003]), (4, 1, .aload_n 0, 3, 0, 0, []), (5, 3, .getfield 12, 4, 7, 0, [1238]), (8, 1, .iload_n 1, 5, 0, 0, []), (9, 3, .invokevirtual 95, 6, 59, 1, [2215, 2216, 2217, 1002, 2218]), (12, 1, .iload_n 2, 7, 0, 0, []), (13, 1, .iload_n 3, 8, 0, 0, []), (14, 3, .invokevirtual 238, 9, 19, 3, [3209, 3210, 3211, 1007, 3212]), (17, 1, .ireturn, 10, 0, 0, [])]
def xi_88 : XI := (⟨"StarchedCollars", "act", "(III)I"⟩, prog_1_method_27_code, 4, some (FieldType.int), xo_88)
-- 89 StarchedCollars.trace(I)I maxLocals 2
def xo_89 : List XO := [(0, 1, .iload_n 1, 1, 0, 0, []), (1, 3, .ifCond .lt 32, 2, 16, 0, []), (4, 1, .iload_n 1, 3, 0, 0, []), (5, 1, .aload_n 0, 4, 0, 0, []), (6, 3, .getfield 38, 5, 7, 5, [2003]), (9, 3, .getfield 242, 6, 0, 1, [1221]), (12, 3, .if_icmp .ge 21, 7, 16, 0, []), (15, 1, .iload_n 1, 8, 0, 0, []), (16, 2, .bipush 20, 9, 0, 0, []), (18, 3, .if_icmp .ge 15, 10, 16, 0, []), (21, 1, .aload_n 0, 11, 0, 0, []), (22, 3, .getfield 38, 12, 7, 5, [2003]), (25, 3, .getfield 245, 13, 0, 0, [1219]), (28, 1, .iload_n 1, 14, 0, 0, []), (29, 1, .iaload, 15, 0, 0, []), (30, 3, .goto 4, 16, 17, 0, []), (33, 1, .iconst (-1), 17, 0, 0, []), (34, 1, .ireturn, 18, 0, 0, [])]
def xi_89 : XI := (⟨"StarchedCollars", "trace", "(I)I"⟩, prog_1_method_28_code, 2, some (FieldType.int), xo_89)
-- 90 StarchedCollars.as(II)I maxLocals 6
def xo_90 : List XO := [(0, 1, .aload_n 0, 1, 0, 0, []), (1, 3, .getfield 12, 2, 7, 0, [1238]), (4, 1, .iload_n 1, 3, 0, 0, []), (5, 3, .invokevirtual 95, 4, 59, 1, [2215, 2216, 2217, 1002, 2218]), (8, 1, .astore_n 3, 5, 0, 0, []), (9, 1, .aload_n 3, 6, 0, 0, []), (10, 3, .ifnull 12, 7, 11, 0, []), (13, 1, .iload_n 2, 8, 0, 0, []), (14, 2, .bipush 6, 9, 0, 0, []), (16, 3, .invokestatic 49, 10, 94, 2, [2024, 2025, 1001, 2026]), (19, 3, .ifCond .ne 5, 11, 13, 0, []), (22, 1, .iconst (-1), 12, 0, 0, []), (23, 1, .ireturn, 13, 0, 0, []), (24, 1, .aload_n 3, 14, 0, 0, []), (25, 3, .getfield 100, 15, 1, 1, [1101]), (28, 2, .istore 4, 16, 0, 0, []), (30, 1, .iconst 0, 17, 0, 0, []), (31, 2, .istore 5, 18, 0, 0, []), (33, 2, .iload 5, 19, 0, 0, []), (35, 3, .getstatic 248, 20, 0, 0, [3235]), (38, 1, .arraylength, 21, 0, 0, []), (39, 3, .if_icmp .ge 33, 22, 35, 0, []), (42, 2, .iload 4, 23, 0, 0, []), (44, 1, .iload_n 2, 24, 0, 0, []), (45, 3, .if_icmp .eq 27, 25, 35, 0, []), (48, 2, .iload 4, 26, 0, 0, []), (50, 2, .bipush 6, 27, 0, 0, []), (52, 3, .invokestatic 49, 28, 94, 2, [2024, 2025, 1001, 2026]), (55, 3, .ifCond .eq 17, 29, 35, 0, []), (58, 3, .getstatic 248, 30, 0, 0, [3235]), (61, 2, .iload 4, 31, 0, 0, []), (63, 1, .iaload, 32, 0, 0, []), (64, 2, .istore 4, 33, 0, 0, []), (66, 3, .iinc 5 1, 34, 0, 0, []), (69, 3, .goto (-36), 35, 18, 0, []), (72, 2, .iload 4, 36, 0, 0, []), (74, 1, .iload_n 2, 37, 0, 0, []), (75, 3, .if_icmp .ne 10, 38, 41, 0, []), (78, 1, .aload_n 3, 39, 0, 0, []), (79, 3, .getfield 103, 40, 1, 2, [1105]), (82, 3, .goto 5, 41, 42, 0, []), (85, 2, .bipush (-6), 42, 0, 0, []), (87, 1, .ireturn, 43, 0, 0, [])]
def xi_90 : XI := (⟨"StarchedCollars", "as", "(II)I"⟩, prog_1_method_29_code, 6, some (FieldType.int), xo_90)
-- 91 StarchedCollars.image()I maxLocals 1
def xo_91 : List XO := [(0, 1, .aload_n 0, 1, 0, 0, []), (1, 3, .getfield 18, 2, 7, 1, [1239]), (4, 1, .aload_n 0, 3, 0, 0, []), (5, 3, .getfield 12, 4, 7, 0, [1238]), (8, 3, .invokevirtual 251, 5, 58, 1, [4001, 4002, 4003, 1002, 4004]), (11, 1, .aload_n 0, 6, 0, 0, []), (12, 1, .iconst 1, 7, 0, 0, []), (13, 3, .putfield 254, 8, 7, 2, [2000]), (16, 1, .aload_n 0, 9, 0, 0, []), (17, 3, .getfield 12, 10, 7, 0, [1238]), (20, 3, .getfield 84, 11, 6, 1, [1146]), (23, 1, .ireturn, 12, 0, 0, [])]
def xi_91 : XI := (⟨"StarchedCollars", "image", "()I"⟩, prog_1_method_30_code, 1, some (FieldType.int), xo_91)
-- 92 StarchedCollars.undo()I maxLocals 1
def xo_92 : List XO := [(0, 1, .aload_n 0, 1, 0, 0, []), (1, 3, .getfield 254, 2, 7, 2, [2000]), (4, 3, .ifCond .ne 6, 3, 5, 0, []), (7, 2, .bipush (-3), 4, 0, 0, []), (9, 1, .ireturn, 5, 0, 0, []), (10, 1, .aload_n 0, 6, 0, 0, []), (11, 3, .getfield 12, 7, 7, 0, [1238]), (14, 1, .aload_n 0, 8, 0, 0, []), (15, 3, .getfield 18, 9, 7, 1, [1239]), (18, 3, .invokevirtual 251, 10, 58, 1, [4001, 4002, 4003, 1002, 4004]), (21, 1, .aload_n 0, 11, 0, 0, []), (22, 3, .getfield 12, 12, 7, 0, [1238]), (25, 3, .getfield 84, 13, 6, 1, [1146]), (28, 1, .ireturn, 14, 0, 0, [])]
def xi_92 : XI := (⟨"StarchedCollars", "undo", "()I"⟩, prog_1_method_31_code, 1, some (FieldType.int), xo_92)
-- 93 StarchedCollars.count(I)I maxLocals 2
def xo_93 : List XO := [(0, 1, .iload_n 1, 1, 0, 0, []), (1, 43, .tableswitch 108 0 6 #[43, 51, 59, 70, 81, 92, 100], 2, 0, 0, [33, 2, 6, 10, 15, 20, 25, 29]), (44, 1, .aload_n 0, 3, 0, 0, []), (45, 3, .getfield 12, 4, 7, 0, [1238]), (48, 3, .getfield 84, 5, 6, 1, [1146]), (51, 1, .ireturn, 6, 0, 0, []), (52, 1, .aload_n 0, 7, 0, 0, []), (53, 3, .getfield 12, 8, 7, 0, [1238]), (56, 3, .getfield 61, 9, 6, 6, [1156]), (59, 1, .ireturn, 10, 0, 0, []), (60, 1, .aload_n 0, 11, 0, 0, []), (61, 3, .getfield 12, 12, 7, 0, [1238]), (64, 3, .getfield 198, 13, 6, 7, [1158]), (67, 3, .getfield 207, 14, 4, 3, [1080]), (70, 1, .ireturn, 15, 0, 0, []), (71, 1, .aload_n 0, 16, 0, 0, []), (72, 3, .getfield 12, 17, 7, 0, [1238]), (75, 3, .getfield 223, 18, 6, 8, [1160]), (78, 3, .getfield 207, 19, 4, 3, [1080]), (81, 1, .ireturn, 20, 0, 0, []), (82, 1, .aload_n 0, 21, 0, 0, []), (83, 3, .getfield 12, 22, 7, 0, [1238]), (86, 3, .getfield 229, 23, 6, 9, [1162]), (89, 3, .getfield 207, 24, 4, 3, [1080]), (92, 1, .ireturn, 25, 0, 0, []), (93, 1, .aload_n 0, 26, 0, 0, []), (94, 3, .getfield 12, 27, 7, 0, [1238]), (97, 3, .getfield 53, 28, 6, 4, [1151]), (100, 1, .ireturn, 29, 0, 0, []), (101, 1, .aload_n 0, 30, 0, 0, []), (102, 3, .getfield 38, 31, 7, 5, [2003]), (105, 3, .getfield 242, 32, 0, 1, [1221]), (108, 1, .ireturn, 33, 0, 0, []), (109, 1, .iconst (-1), 34, 0, 0, []), (110, 1, .ireturn, 35, 0, 0, [])]
def xi_93 : XI := (⟨"StarchedCollars", "count", "(I)I"⟩, prog_1_method_32_code, 2, some (FieldType.int), xo_93)
-- 94 StarchedCollars.isUpTo(II)Z maxLocals 2
def xo_94 : List XO := [(0, 1, .iload_n 0, 1, 0, 0, []), (1, 3, .ifCond .lt 12, 2, 7, 0, []), (4, 1, .iload_n 0, 3, 0, 0, []), (5, 1, .iload_n 1, 4, 0, 0, []), (6, 3, .if_icmp .gt 7, 5, 7, 0, []), (9, 1, .iconst 1, 6, 0, 0, []), (10, 3, .goto 4, 7, 8, 0, []), (13, 1, .iconst 0, 8, 0, 0, []), (14, 1, .ireturn, 9, 0, 0, [])]
def xi_94 : XI := (⟨"StarchedCollars", "isUpTo", "(II)Z"⟩, prog_1_method_33_code, 2, some (FieldType.boolean), xo_94)
-- 95 StarchedCollars.lowest(III)I maxLocals 5
def xo_95 : List XO := [(0, 1, .iload_n 2, 1, 0, 0, []), (1, 3, .ifCond .ne 7, 2, 4, 0, []), (4, 1, .iload_n 0, 3, 0, 0, []), (5, 3, .goto 4, 4, 5, 0, []), (8, 1, .iload_n 1, 5, 0, 0, []), (9, 1, .istore_n 3, 6, 0, 0, []), (10, 1, .iload_n 1, 7, 0, 0, []), (11, 2, .istore 4, 8, 0, 0, []), (13, 2, .iload 4, 9, 0, 0, []), (15, 1, .iconst 1, 10, 0, 0, []), (16, 3, .if_icmp .le 28, 11, 25, 0, []), (19, 1, .iload_n 0, 12, 0, 0, []), (20, 2, .iload 4, 13, 0, 0, []), (22, 1, .irem, 14, 0, 0, []), (23, 3, .ifCond .ne 15, 15, 23, 0, []), (26, 1, .iload_n 1, 16, 0, 0, []), (27, 2, .iload 4, 17, 0, 0, []), (29, 1, .irem, 18, 0, 0, []), (30, 3, .ifCond .ne 8, 19, 23, 0, []), (33, 1, .iload_n 3, 20, 0, 0, []), (34, 2, .iload 4, 21, 0, 0, []), (36, 1, .idiv, 22, 0, 0, []), (37, 1, .ireturn, 23, 0, 0, []), (38, 3, .iinc 4 (-1), 24, 0, 0, []), (41, 3, .goto (-28), 25, 8, 0, []), (44, 1, .iload_n 3, 26, 0, 0, []), (45, 1, .ireturn, 27, 0, 0, [])]
def xi_95 : XI := (⟨"StarchedCollars", "lowest", "(III)I"⟩, prog_1_method_34_code, 5, some (FieldType.int), xo_95)
-- 96 StarchedCollars.goOn(LStarchedCollars$Man;I)V maxLocals 4
def xo_96 : List XO := [(0, 1, .iconst 0, 1, 0, 0, []), (1, 1, .istore_n 3, 2, 0, 0, []), (2, 1, .iload_n 3, 3, 0, 0, []), (3, 1, .iload_n 2, 4, 0, 0, []), (4, 3, .if_icmp .ge 29, 5, 17, 0, []), (7, 1, .aload_n 1, 6, 0, 0, []), (8, 1, .aload_n 0, 7, 0, 0, []), (9, 3, .getfield 12, 8, 7, 0, [1238]), (12, 3, .getfield 71, 9, 6, 5, [1154]), (15, 1, .aload_n 0, 10, 0, 0, []), (16, 3, .getfield 12, 11, 7, 0, [1238]), (19, 3, .getfield 122, 12, 6, 2, [1148]), (22, 1, .iload_n 3, 13, 0, 0, []), (23, 1, .iadd, 14, 0, 0, []), (24, 3, .invokevirtual 171, 15, 28, 2, [3061, 3062, 3063, 1005, 3064]), (27, 3, .iinc 3 1, 16, 0, 0, []), (30, 3, .goto (-28), 17, 2, 0, []), (33, 1, .return_, 18, 0, 0, [])]
def xi_96 : XI := (⟨"StarchedCollars", "goOn", "(LStarchedCollars$Man;I)V"⟩, prog_1_method_35_code, 4, none, xo_96)
-- 97 StarchedCollars.goneBehind(I)I maxLocals 4
def xo_97 : List XO := [(0, 1, .iconst 0, 1, 0, 0, []), (1, 1, .istore_n 2, 2, 0, 0, []), (2, 1, .iconst 0, 3, 0, 0, []), (3, 1, .istore_n 3, 4, 0, 0, []), (4, 1, .iload_n 3, 5, 0, 0, []), (5, 1, .aload_n 0, 6, 0, 0, []), (6, 3, .getfield 12, 7, 7, 0, [1238]), (9, 3, .getfield 84, 8, 6, 1, [1146]), (12, 3, .if_icmp .ge 54, 9, 36, 0, []), (15, 1, .aload_n 0, 10, 0, 0, []), (16, 3, .getfield 24, 11, 7, 3, [2001]), (19, 1, .aload_n 0, 12, 0, 0, []), (20, 3, .getfield 12, 13, 7, 0, [1238]), (23, 3, .getfield 87, 14, 6, 0, [1143]), (26, 1, .iload_n 3, 15, 0, 0, []), (27, 1, .aaload, 16, 0, 0, []), (28, 3, .invokevirtual 168, 17, 24, 1, [3052, 3053, 3054, 1005, 3055]), (31, 1, .aload_n 0, 18, 0, 0, []), (32, 1, .aload_n 0, 19, 0, 0, []), (33, 3, .getfield 24, 20, 7, 3, [2001]), (36, 1, .iload_n 1, 21, 0, 0, []), (37, 3, .invokevirtual 164, 22, 96, 2, [3057, 3059, 13, 1001, 3060]), (40, 1, .iload_n 2, 23, 0, 0, []), (41, 1, .aload_n 0, 24, 0, 0, []), (42, 3, .getfield 24, 25, 7, 3, [2001]), (45, 3, .getfield 115, 26, 1, 6, [1116]), (48, 3, .ifCond .eq 9, 27, 31, 0, []), (51, 1, .iconst 1, 28, 0, 0, []), (52, 1, .iload_n 3, 29, 0, 0, []), (53, 1, .ishl, 30, 0, 0, []), (54, 3, .goto 4, 31, 32, 0, []), (57, 1, .iconst 0, 32, 0, 0, []), (58, 1, .ior, 33, 0, 0, []), (59, 1, .istore_n 2, 34, 0, 0, []), (60, 3, .iinc 3 1, 35, 0, 0, []), (63, 3, .goto (-59), 36, 4, 0, []), (66, 1, .iload_n 2, 37, 0, 0, []), (67, 1, .ireturn, 38, 0, 0, [])]
def xi_97 : XI := (⟨"StarchedCollars", "goneBehind", "(I)I"⟩, prog_1_method_36_code, 4, some (FieldType.int), xo_97)
-- 98 StarchedCollars.isGoneBehindWash(LStarchedCollars$Man;Z)Z maxLocals 3
def xo_98 : List XO := [(0, 1, .aload_n 0, 1, 0, 0, []), (1, 3, .getfield 24, 2, 7, 3, [2001]), (4, 1, .aload_n 1, 3, 0, 0, []), (5, 3, .invokevirtual 168, 4, 24, 1, [3052, 3053, 3054, 1005, 3055]), (8, 1, .iload_n 2, 5, 0, 0, []), (9, 3, .ifCond .eq 11, 6, 10, 0, []), (12, 1, .aload_n 0, 7, 0, 0, []), (13, 3, .getfield 24, 8, 7, 3, [2001]), (16, 1, .iconst 0, 9, 0, 0, []), (17, 3, .putfield 112, 10, 1, 5, [1113]), (20, 1, .aload_n 0, 11, 0, 0, []), (21, 1, .aload_n 0, 12, 0, 0, []), (22, 3, .getfield 24, 13, 7, 3, [2001]), (25, 2, .bipush 12, 14, 0, 0, []), (27, 3, .invokevirtual 164, 15, 96, 2, [3057, 3059, 13, 1001, 3060]), (30, 1, .aload_n 0, 16, 0, 0, []), (31, 3, .getfield 24, 17, 7, 3, [2001]), (34, 3, .getfield 115, 18, 1, 6, [1116]), (37, 1, .ireturn, 19, 0, 0, [])]
def xi_98 : XI := (⟨"StarchedCollars", "isGoneBehindWash", "(LStarchedCollars$Man;Z)Z"⟩, prog_1_method_37_code, 3, some (FieldType.boolean), xo_98)
-- 99 StarchedCollars.sharedCreed()I maxLocals 3
def xo_99 : List XO := [(0, 3, .sipush 255, 1, 0, 0, []), (3, 1, .istore_n 1, 2, 0, 0, []), (4, 1, .iconst 0, 3, 0, 0, []), (5, 1, .istore_n 2, 4, 0, 0, []), (6, 1, .iload_n 2, 5, 0, 0, []), (7, 1, .aload_n 0, 6, 0, 0, []), (8, 3, .getfield 12, 7, 7, 0, [1238]), (11, 3, .getfield 84, 8, 6, 1, [1146]), (14, 3, .if_icmp .ge 45, 9, 29, 0, []), (17, 1, .iload_n 1, 10, 0, 0, []), (18, 1, .aload_n 0, 11, 0, 0, []), (19, 3, .getfield 12, 12, 7, 0, [1238]), (22, 3, .getfield 87, 13, 6, 0, [1143]), (25, 1, .iload_n 2, 14, 0, 0, []), (26, 1, .aaload, 15, 0, 0, []), (27, 3, .getfield 119, 16, 1, 7, [1119]), (30, 3, .ifCond .eq 9, 17, 19, 0, []), (33, 3, .sipush 255, 18, 0, 0, []), (36, 3, .goto 15, 19, 25, 0, []), (39, 1, .aload_n 0, 20, 0, 0, []), (40, 3, .getfield 12, 21, 7, 0, [1238]), (43, 3, .getfield 87, 22, 6, 0, [1143]), (46, 1, .iload_n 2, 23, 0, 0, []), (47, 1, .aaload, 24, 0, 0, []), (48, 3, .getfield 109, 25, 1, 4, [1110]), (51, 1, .iand, 26, 0, 0, []), (52, 1, .istore_n 1, 27, 0, 0, []), (53, 3, .iinc 2 1, 28, 0, 0, []), (56, 3, .goto (-50), 29, 4, 0, []), (59, 1, .iload_n 1, 30, 0, 0, []), (60, 1, .ireturn, 31, 0, 0, [])]
def xi_99 : XI := (⟨"StarchedCollars", "sharedCreed", "()I"⟩, prog_1_method_38_code, 3, some (FieldType.int), xo_99)
-- 100 StarchedCollars.seenFrom(LStarchedCollars$Man;I)I maxLocals 7
def xo_100 : List XO := [(0, 1, .aload_n 1, 1, 0, 0, []), (1, 3, .getfield 119, 2, 1, 7, [1119]), (4, 3, .ifCond .eq 5, 3, 5, 0, []), (7, 1, .iconst 0, 4, 0, 0, []), (8, 1, .ireturn, 5, 0, 0, []), (9, 1, .iconst 0, 6, 0, 0, []), (10, 1, .istore_n 3, 7, 0, 0, []), (11, 1, .iconst 0, 8, 0, 0, []), (12, 2, .istore 4, 9, 0, 0, []), (14, 2, .iload 4, 10, 0, 0, []), (16, 1, .aload_n 0, 11, 0, 0, []), (17, 3, .getfield 12, 12, 7, 0, [1238]), (20, 3, .getfield 84, 13, 6, 1, [1146]), (23, 3, .if_icmp .ge 78, 14, 51, 0, []), (26, 1, .aload_n 0, 15, 0, 0, []), (27, 3, .getfield 12, 16, 7, 0, [1238]), (30, 3, .getfield 87, 17, 6, 0, [1143]), (33, 2, .iload 4, 18, 0, 0, []), (35, 1, .aaload, 19, 0, 0, []), (36, 2, .astore 5, 20, 0, 0, []), (38, 2, .aload 5, 21, 0, 0, []), (40, 3, .getfield 106, 22, 1, 3, [1108]), (43, 1, .iload_n 2, 23, 0, 0, []), (44, 1, .isub, 24, 0, 0, []), (45, 3, .invokestatic 257, 25, 3, 1, [3008, 3009, 1011, 3010]), (48, 1, .aload_n 1, 26, 0, 0, []), (49, 3, .invokevirtual 262, 27, 25, 0, [3011, 3012, 3013, 1005, 3014]), (52, 3, .if_icmp .gt 7, 28, 30, 0, []), (55, 1, .iconst 1, 29, 0, 0, []), (56, 3, .goto 4, 30, 31, 0, []), (59, 1, .iconst 0, 31, 0, 0, []), (60, 2, .istore 6, 32, 0, 0, []), (62, 1, .iload_n 3, 33, 0, 0, []), (63, 2, .iload 6, 34, 0, 0, []), (65, 3, .ifCond .eq 27, 35, 46, 0, []), (68, 2, .aload 5, 36, 0, 0, []), (70, 3, .getfield 119, 37, 1, 7, [1119]), (73, 3, .ifCond .ne 19, 38, 46, 0, []), (76, 2, .iload 4, 39, 0, 0, []), (78, 1, .aload_n 1, 40, 0, 0, []), (79, 3, .getfield 265, 41, 1, 0, [1098]), (82, 3, .if_icmp .eq 10, 42, 46, 0, []), (85, 1, .iconst 1, 43, 0, 0, []), (86, 2, .iload 4, 44, 0, 0, []), (88, 1, .ishl, 45, 0, 0, []), (89, 3, .goto 4, 46, 47, 0, []), (92, 1, .iconst 0, 47, 0, 0, []), (93, 1, .ior, 48, 0, 0, []), (94, 1, .istore_n 3, 49, 0, 0, []), (95, 3, .iinc 4 1, 50, 0, 0, []), (98, 3, .goto (-84), 51, 9, 0, []), (101, 1, .iload_n 3, 52, 0, 0, []), (102, 1, .ireturn, 53, 0, 0, [])]
def xi_100 : XI := (⟨"StarchedCollars", "seenFrom", "(LStarchedCollars$Man;I)I"⟩, prog_1_method_39_code, 7, some (FieldType.int), xo_100)
-- 101 StarchedCollars.bench(LStarchedCollars$Man;)I maxLocals 4
def xo_101 : List XO := [(0, 1, .iconst 0, 1, 0, 0, []), (1, 1, .istore_n 2, 2, 0, 0, []), (2, 1, .iconst 1, 3, 0, 0, []), (3, 1, .istore_n 3, 4, 0, 0, []), (4, 1, .iload_n 3, 5, 0, 0, []), (5, 2, .bipush 9, 6, 0, 0, []), (7, 3, .if_icmp .gt 32, 7, 22, 0, []), (10, 1, .aload_n 0, 8, 0, 0, []), (11, 1, .aload_n 1, 9, 0, 0, []), (12, 1, .iload_n 3, 10, 0, 0, []), (13, 3, .invokevirtual 133, 11, 100, 2, [3004, 3006, 10, 1001, 3007]), (16, 3, .invokestatic 186, 12, 1, 1, [3019, 2225, 1017, 2226]), (19, 1, .aload_n 0, 13, 0, 0, []), (20, 1, .aload_n 1, 14, 0, 0, []), (21, 1, .iload_n 2, 15, 0, 0, []), (22, 3, .invokevirtual 133, 16, 100, 2, [3004, 3006, 10, 1001, 3007]), (25, 3, .invokestatic 186, 17, 1, 1, [3019, 2225, 1017, 2226]), (28, 3, .if_icmp .le 5, 18, 20, 0, []), (31, 1, .iload_n 3, 19, 0, 0, []), (32, 1, .istore_n 2, 20, 0, 0, []), (33, 3, .iinc 3 1, 21, 0, 0, []), (36, 3, .goto (-32), 22, 4, 0, []), (39, 1, .iload_n 2, 23, 0, 0, []), (40, 1, .ireturn, 24, 0, 0, [])]
def xi_101 : XI := (⟨"StarchedCollars", "bench", "(LStarchedCollars$Man;)I"⟩, prog_1_method_40_code, 4, some (FieldType.int), xo_101)
-- 102 StarchedCollars.isNear(II)Z maxLocals 6
def xo_102 : List XO := [(0, 1, .iconst 0, 1, 0, 0, []), (1, 1, .istore_n 3, 2, 0, 0, []), (2, 1, .iload_n 3, 3, 0, 0, []), (3, 1, .aload_n 0, 4, 0, 0, []), (4, 3, .getfield 12, 5, 7, 0, [1238]), (7, 3, .getfield 84, 6, 6, 1, [1146]), (10, 3, .if_icmp .ge 85, 7, 51, 0, []), (13, 1, .iload_n 3, 8, 0, 0, []), (14, 1, .iconst 1, 9, 0, 0, []), (15, 1, .iadd, 10, 0, 0, []), (16, 2, .istore 4, 11, 0, 0, []), (18, 2, .iload 4, 12, 0, 0, []), (20, 1, .aload_n 0, 13, 0, 0, []), (21, 3, .getfield 12, 14, 7, 0, [1238]), (24, 3, .getfield 84, 15, 6, 1, [1146]), (27, 3, .if_icmp .ge 62, 16, 49, 0, []), (30, 1, .iload_n 1, 17, 0, 0, []), (31, 1, .iload_n 3, 18, 0, 0, []), (32, 1, .ishr, 19, 0, 0, []), (33, 1, .iload_n 1, 20, 0, 0, []), (34, 2, .iload 4, 21, 0, 0, []), (36, 1, .ishr, 22, 0, 0, []), (37, 1, .iand, 23, 0, 0, []), (38, 1, .iconst 1, 24, 0, 0, []), (39, 1, .iand, 25, 0, 0, []), (40, 3, .ifCond .eq 7, 26, 28, 0, []), (43, 1, .iconst 1, 27, 0, 0, []), (44, 3, .goto 4, 28, 29, 0, []), (47, 1, .iconst 0, 29, 0, 0, []), (48, 2, .istore 5, 30, 0, 0, []), (50, 2, .iload 5, 31, 0, 0, []), (52, 3, .ifCond .eq 31, 32, 47, 0, []), (55, 1, .aload_n 0, 33, 0, 0, []), (56, 3, .getfield 12, 34, 7, 0, [1238]), (59, 3, .getfield 87, 35, 6, 0, [1143]), (62, 1, .iload_n 3, 36, 0, 0, []), (63, 1, .aaload, 37, 0, 0, []), (64, 1, .aload_n 0, 38, 0, 0, []), (65, 3, .getfield 12, 39, 7, 0, [1238]), (68, 3, .getfield 87, 40, 6, 0, [1143]), (71, 2, .iload 4, 41, 0, 0, []), (73, 1, .aaload, 42, 0, 0, []), (74, 3, .invokevirtual 144, 43, 26, 1, [3040, 3041, 3042, 1005, 3043]), (77, 1, .iload_n 2, 44, 0, 0, []), (78, 3, .if_icmp .le 5, 45, 47, 0, []), (81, 1, .iconst 0, 46, 0, 0, []), (82, 1, .ireturn, 47, 0, 0, []), (83, 3, .iinc 4 1, 48, 0, 0, []), (86, 3, .goto (-68), 49, 11, 0, []), (89, 3, .iinc 3 1, 50, 0, 0, []), (92, 3, .goto (-90), 51, 2, 0, []), (95, 1, .iconst 1, 52, 0, 0, []), (96, 1, .ireturn, 53, 0, 0, [])]
def xi_102 : XI := (⟨"StarchedCollars", "isNear", "(II)Z"⟩, prog_1_method_41_code, 6, some (FieldType.boolean), xo_102)
-- 103 StarchedCollars.fitting(LStarchedCollars$Man;IZ)I maxLocals 9
def xo_103 : List XO := [(0, 1, .aload_n 1, 1, 0, 0, []), (1, 3, .ifnull 11, 2, 6, 0, []), (4, 1, .iload_n 2, 3, 0, 0, []), (5, 1, .iconst 1, 4, 0, 0, []), (6, 3, .invokestatic 49, 5, 94, 2, [2024, 2025, 1001, 2026]), (9, 3, .ifCond .ne 5, 6, 8, 0, []), (12, 1, .iconst (-1), 7, 0, 0, []), (13, 1, .ireturn, 8, 0, 0, []), (14, 1, .aload_n 0, 9, 0, 0, []), (15, 1, .aload_n 1, 10, 0, 0, []), (16, 3, .getfield 265, 11, 1, 0, [1098]), (19, 3, .invokevirtual 268, 12, 104, 1, [3156, 3158, 20, 1001, 3159]), (22, 2, .istore 4, 13, 0, 0, []), (24, 1, .iload_n 3, 14, 0, 0, []), (25, 3, .ifCond .eq 8, 15, 17, 0, []), (28, 2, .bipush 99, 16, 0, 0, []), (30, 3, .goto 5, 17, 18, 0, []), (33, 2, .bipush 9, 18, 0, 0, []), (35, 2, .istore 5, 19, 0, 0, []), (37, 1, .iconst 0, 20, 0, 0, []), (38, 2, .istore 6, 21, 0, 0, []), (40, 2, .bipush (-5), 22, 0, 0, []), (42, 2, .istore 7, 23, 0, 0, []), (44, 2, .iload 5, 24, 0, 0, []), (46, 2, .istore 8, 25, 0, 0, []), (48, 2, .iload 8, 26, 0, 0, []), (50, 3, .ifCond .lt 58, 27, 51, 0, []), (53, 1, .aload_n 0, 28, 0, 0, []), (54, 3, .getfield 24, 29, 7, 3, [2001]), (57, 1, .aload_n 1, 30, 0, 0, []), (58, 3, .invokevirtual 168, 31, 24, 1, [3052, 3053, 3054, 1005, 3055]), (61, 1, .iload_n 3, 32, 0, 0, []), (62, 3, .ifCond .eq 15, 33, 38, 0, []), (65, 1, .aload_n 0, 34, 0, 0, []), (66, 3, .getfield 24, 35, 7, 3, [2001]), (69, 2, .iload 8, 36, 0, 0, []), (71, 3, .putfield 112, 37, 1, 5, [1113]), (74, 3, .goto 12, 38, 42, 0, []), (77, 1, .aload_n 0, 39, 0, 0, []), (78, 3, .getfield 24, 40, 7, 3, [2001]), (81, 2, .iload 8, 41, 0, 0, []), (83, 3, .putfield 103, 42, 1, 2, [1105]), (86, 1, .aload_n 0, 43, 0, 0, []), (87, 2, .iload 4, 44, 0, 0, []), (89, 3, .invokevirtual 271, 45, 105, 1, [3161, 3163, 21, 1001, 3164]), (92, 3, .ifCond .eq 10, 46, 49, 0, []), (95, 3, .iinc 6 1, 47, 0, 0, []), (98, 2, .iload 8, 48, 0, 0, []), (100, 2, .istore 7, 49, 0, 0, []), (102, 3, .iinc 8 (-1), 50, 0, 0, []), (105, 3, .goto (-57), 51, 25, 0, []), (108, 1, .iload_n 2, 52, 0, 0, []), (109, 3, .ifCond .ne 8, 53, 55, 0, []), (112, 2, .iload 6, 54, 0, 0, []), (114, 3, .goto 5, 55, 56, 0, []), (117, 2, .iload 7, 56, 0, 0, []), (119, 1, .ireturn, 57, 0, 0, [])]
def xi_103 : XI := (⟨"StarchedCollars", "fitting", "(LStarchedCollars$Man;IZ)I"⟩, prog_1_method_42_code, 9, some (FieldType.int), xo_103)
-- 104 StarchedCollars.latestSeen(I)I maxLocals 4
def xo_104 : List XO := [(0, 1, .iconst (-1), 1, 0, 0, []), (1, 1, .istore_n 2, 2, 0, 0, []), (2, 1, .iconst 0, 3, 0, 0, []), (3, 1, .istore_n 3, 4, 0, 0, []), (4, 1, .iload_n 3, 5, 0, 0, []), (5, 1, .aload_n 0, 6, 0, 0, []), (6, 3, .getfield 12, 7, 7, 0, [1238]), (9, 3, .getfield 198, 8, 6, 7, [1158]), (12, 3, .getfield 207, 9, 4, 3, [1080]), (15, 3, .if_icmp .ge 42, 10, 29, 0, []), (18, 1, .aload_n 0, 11, 0, 0, []), (19, 3, .getfield 12, 12, 7, 0, [1238]), (22, 3, .getfield 198, 13, 6, 7, [1158]), (25, 3, .getfield 232, 14, 4, 0, [1074]), (28, 1, .iload_n 3, 15, 0, 0, []), (29, 1, .iaload, 16, 0, 0, []), (30, 1, .iload_n 1, 17, 0, 0, []), (31, 3, .if_icmp .ne 20, 18, 27, 0, []), (34, 1, .iload_n 2, 19, 0, 0, []), (35, 1, .aload_n 0, 20, 0, 0, []), (36, 3, .getfield 12, 21, 7, 0, [1238]), (39, 3, .getfield 198, 22, 6, 7, [1158]), (42, 3, .getfield 235, 23, 4, 1, [1076]), (45, 1, .iload_n 3, 24, 0, 0, []), (46, 1, .iaload, 25, 0, 0, []), (47, 3, .invokestatic 275, 26, 4, 2, [3160, 2149, 1011, 2150]), (50, 1, .istore_n 2, 27, 0, 0, []), (51, 3, .iinc 3 1, 28, 0, 0, []), (54, 3, .goto (-50), 29, 4, 0, []), (57, 1, .iload_n 2, 30, 0, 0, []), (58, 1, .ireturn, 31, 0, 0, [])]
def xi_104 : XI := (⟨"StarchedCollars", "latestSeen", "(I)I"⟩, prog_1_method_43_code, 4, some (FieldType.int), xo_104)
-- 105 StarchedCollars.isGhostAsSeen(I)Z maxLocals 3
def xo_105 : List XO := [(0, 1, .iconst 0, 1, 0, 0, []), (1, 1, .istore_n 2, 2, 0, 0, []), (2, 1, .iload_n 2, 3, 0, 0, []), (3, 1, .iload_n 1, 4, 0, 0, []), (4, 3, .if_icmp .gt 42, 5, 24, 0, []), (7, 1, .aload_n 0, 6, 0, 0, []), (8, 1, .iload_n 2, 7, 0, 0, []), (9, 3, .invokevirtual 278, 8, 106, 1, [3165, 3167, 22, 1001, 3168]), (12, 3, .ifCond .ne 5, 9, 11, 0, []), (15, 1, .iconst 0, 10, 0, 0, []), (16, 1, .ireturn, 11, 0, 0, []), (17, 1, .aload_n 0, 12, 0, 0, []), (18, 3, .getfield 24, 13, 7, 3, [2001]), (21, 1, .aload_n 0, 14, 0, 0, []), (22, 3, .getfield 12, 15, 7, 0, [1238]), (25, 3, .getfield 71, 16, 6, 5, [1154]), (28, 1, .aload_n 0, 17, 0, 0, []), (29, 3, .getfield 12, 18, 7, 0, [1238]), (32, 3, .getfield 122, 19, 6, 2, [1148]), (35, 1, .iload_n 2, 20, 0, 0, []), (36, 1, .iadd, 21, 0, 0, []), (37, 3, .invokevirtual 171, 22, 28, 2, [3061, 3062, 3063, 1005, 3064]), (40, 3, .iinc 2 1, 23, 0, 0, []), (43, 3, .goto (-41), 24, 2, 0, []), (46, 1, .iconst 1, 25, 0, 0, []), (47, 1, .ireturn, 26, 0, 0, [])]
def xi_105 : XI := (⟨"StarchedCollars", "isGhostAsSeen", "(I)Z"⟩, prog_1_method_44_code, 3, some (FieldType.boolean), xo_105)
-- 106 StarchedCollars.isGhostAsSeenAt(I)Z maxLocals 5
def xo_106 : List XO := [(0, 1, .aload_n 0, 1, 0, 0, []), (1, 3, .getfield 12, 2, 7, 0, [1238]), (4, 3, .getfield 198, 3, 6, 7, [1158]), (7, 1, .astore_n 2, 4, 0, 0, []), (8, 1, .iconst 0, 5, 0, 0, []), (9, 1, .istore_n 3, 6, 0, 0, []), (10, 1, .iload_n 3, 7, 0, 0, []), (11, 1, .aload_n 2, 8, 0, 0, []), (12, 3, .getfield 207, 9, 4, 3, [1080]), (15, 3, .if_icmp .ge 65, 10, 42, 0, []), (18, 1, .aload_n 2, 11, 0, 0, []), (19, 3, .getfield 232, 12, 4, 0, [1074]), (22, 1, .iload_n 3, 13, 0, 0, []), (23, 1, .iaload, 14, 0, 0, []), (24, 1, .aload_n 0, 15, 0, 0, []), (25, 3, .getfield 24, 16, 7, 3, [2001]), (28, 3, .getfield 265, 17, 1, 0, [1098]), (31, 3, .if_icmp .ne 17, 18, 26, 0, []), (34, 1, .aload_n 2, 19, 0, 0, []), (35, 3, .getfield 235, 20, 4, 1, [1076]), (38, 1, .iload_n 3, 21, 0, 0, []), (39, 1, .iaload, 22, 0, 0, []), (40, 1, .iload_n 1, 23, 0, 0, []), (41, 3, .if_icmp .ne 7, 24, 26, 0, []), (44, 1, .iconst 1, 25, 0, 0, []), (45, 3, .goto 4, 26, 27, 0, []), (48, 1, .iconst 0, 27, 0, 0, []), (49, 2, .istore 4, 28, 0, 0, []), (51, 2, .iload 4, 29, 0, 0, []), (53, 3, .ifCond .eq 21, 30, 40, 0, []), (56, 1, .aload_n 2, 31, 0, 0, []), (57, 3, .getfield 281, 32, 4, 2, [1078]), (60, 1, .iload_n 3, 33, 0, 0, []), (61, 1, .iaload, 34, 0, 0, []), (62, 1, .aload_n 0, 35, 0, 0, []), (63, 3, .getfield 24, 36, 7, 3, [2001]), (66, 3, .getfield 112, 37, 1, 5, [1113]), (69, 3, .if_icmp .eq 5, 38, 40, 0, []), (72, 1, .iconst 0, 39, 0, 0, []), (73, 1, .ireturn, 40, 0, 0, []), (74, 3, .iinc 3 1, 41, 0, 0, []), (77, 3, .goto (-67), 42, 6, 0, []), (80, 1, .iconst 1, 43, 0, 0, []), (81, 1, .ireturn, 44, 0, 0, [])]
def xi_106 : XI := (⟨"StarchedCollars", "isGhostAsSeenAt", "(I)Z"⟩, prog_1_method_45_code, 5, some (FieldType.boolean), xo_106)
-- 107 StarchedCollars.followPlan()V maxLocals 5
def xo_107_0 : List XO := [(0, 1, .aload_n 0, 1, 0, 0, []), (1, 3, .getfield 12, 2, 7, 0, [1238]), (4, 3, .getfield 122, 3, 6, 2, [1148]), (7, 1, .istore_n 1, 4, 0, 0, []), (8, 1, .iconst 0, 5, 0, 0, []), (9, 1, .istore_n 2, 6, 0, 0, []), (10, 1, .iload_n 2, 7, 0, 0, []), (11, 1, .aload_n 0, 8, 0, 0, []), (12, 3, .getfield 12, 9, 7, 0, [1238]), (15, 3, .getfield 223, 10, 6, 8, [1160]), (18, 3, .getfield 207, 11, 4, 3, [1080]), (21, 3, .if_icmp .ge 136, 12, 75, 0, []), (24, 1, .aload_n 0, 13, 0, 0, []), (25, 3, .getfield 12, 14, 7, 0, [1238]), (28, 3, .getfield 223, 15, 6, 8, [1160]), (31, 3, .getfield 232, 16, 4, 0, [1074]), (34, 1, .iload_n 2, 17, 0, 0, []), (35, 1, .iaload, 18, 0, 0, []), (36, 1, .istore_n 3, 19, 0, 0, []), (37, 1, .aload_n 0, 20, 0, 0, []), (38, 3, .getfield 12, 21, 7, 0, [1238]), (41, 3, .getfield 223, 22, 6, 8, [1160]), (44, 3, .getfield 235, 23, 4, 1, [1076]), (47, 1, .iload_n 2, 24, 0, 0, []), (48, 1, .iaload, 25, 0, 0, []), (49, 1, .aload_n 0, 26, 0, 0, []), (50, 3, .getfield 24, 27, 7, 3, [2001]), (53, 3, .getfield 265, 28, 1, 0, [1098]), (56, 3, .if_icmp .ne 7, 29, 31, 0, []), (59, 1, .iconst 1, 30, 0, 0, []), (60, 3, .goto 4, 31, 32, 0, []), (63, 1, .iconst 0, 32, 0, 0, []), (64, 2, .istore 4, 33, 0, 0, []), (66, 1, .iload_n 3, 34, 0, 0, []), (67, 3, .ifCond .ne 24, 35, 44, 0, []), (70, 1, .aload_n 0, 36, 0, 0, []), (71, 3, .getfield 24, 37, 7, 3, [2001]), (74, 1, .aload_n 0, 38, 0, 0, []), (75, 3, .getfield 12, 39, 7, 0, [1238]), (78, 3, .getfield 71, 40, 6, 5, [1154]), (81, 1, .iload_n 1, 41, 0, 0, []), (82, 3, .invokevirtual 171, 42, 28, 2, [3061, 3062, 3063, 1005, 3064]), (85, 3, .iinc 1 1, 43, 0, 0, []), (88, 3, .goto 63, 44, 73, 0, []), (91, 1, .iload_n 3, 45, 0, 0, []), (92, 1, .iconst 1, 46, 0, 0, []), (93, 3, .if_icmp .ne 19, 47, 54, 0, []), (96, 2, .iload 4, 48, 0, 0, []), (98, 3, .ifCond .eq 14, 49, 54, 0, []), (101, 1, .aload_n 0, 50, 0, 0, [])]
def xo_107_1 : List XO := [(102, 3, .getfield 24, 51, 7, 3, [2001]), (105, 1, .iconst 0, 52, 0, 0, []), (106, 3, .putfield 112, 53, 1, 5, [1113]), (109, 3, .goto 42, 54, 73, 0, []), (112, 1, .iload_n 3, 55, 0, 0, []), (113, 1, .iconst 2, 56, 0, 0, []), (114, 3, .if_icmp .ne 19, 57, 64, 0, []), (117, 2, .iload 4, 58, 0, 0, []), (119, 3, .ifCond .eq 14, 59, 64, 0, []), (122, 1, .aload_n 0, 60, 0, 0, []), (123, 3, .getfield 24, 61, 7, 3, [2001]), (126, 1, .iconst 0, 62, 0, 0, []), (127, 3, .putfield 115, 63, 1, 6, [1116]), (130, 3, .goto 21, 64, 73, 0, []), (133, 1, .iload_n 3, 65, 0, 0, []), (134, 1, .iconst 3, 66, 0, 0, []), (135, 3, .if_icmp .ne 16, 67, 73, 0, []), (138, 2, .iload 4, 68, 0, 0, []), (140, 3, .ifCond .eq 11, 69, 73, 0, []), (143, 1, .aload_n 0, 70, 0, 0, []), (144, 3, .getfield 24, 71, 7, 3, [2001]), (147, 1, .iconst 1, 72, 0, 0, []), (148, 3, .putfield 119, 73, 1, 7, [1119]), (151, 3, .iinc 2 1, 74, 0, 0, []), (154, 3, .goto (-144), 75, 6, 0, []), (157, 1, .return_, 76, 0, 0, [])]
def xo_107 : List XO := xo_107_0 ++ xo_107_1
def xi_107 : XI := (⟨"StarchedCollars", "followPlan", "()V"⟩, prog_1_method_46_code, 5, none, xo_107)
-- 108 StarchedCollarsModel.<init>()V maxLocals 1
def xo_108 : List XO := [(0, 1, .aload_n 0, 1, 0, 0, []), (1, 3, .invokespecial 3, 2, 1000, 0, [4026, 1024, 1025]), (4, 1, .aload_n 0, 3, 0, 0, []), (5, 3, .sipush 931, 4, 0, 0, []), (8, 2, .newarray .int, 5, 100, 0, [1066]), (10, 3, .putfield 9, 6, 8, 1, [4027]), (13, 1, .aload_n 0, 7, 0, 0, []), (14, 3, .sipush 931, 8, 0, 0, []), (17, 2, .newarray .int, 9, 100, 0, [1066]), (19, 3, .putfield 15, 10, 8, 2, [4028]), (22, 1, .aload_n 0, 11, 0, 0, []), (23, 2, .bipush 31, 12, 0, 0, []), (25, 2, .newarray .int, 13, 100, 0, [1066]), (27, 3, .putfield 18, 14, 8, 3, [4029]), (30, 1, .aload_n 0, 15, 0, 0, []), (31, 2, .bipush 6, 16, 0, 0, []), (33, 2, .newarray .int, 17, 100, 0, [1066]), (35, 3, .putfield 21, 18, 8, 10, [4036]), (38, 1, .aload_n 0, 19, 0, 0, []), (39, 2, .bipush 64, 20, 0, 0, []), (41, 2, .newarray .boolean, 21, 102, 0, [4087]), (43, 3, .putfield 24, 22, 8, 11, [4037]), (46, 1, .aload_n 0, 23, 0, 0, []), (47, 2, .bipush 6, 24, 0, 0, []), (49, 2, .newarray .int, 25, 100, 0, [1066]), (51, 3, .putfield 28, 26, 8, 12, [4038]), (54, 1, .aload_n 0, 27, 0, 0, []), (55, 2, .bipush 6, 28, 0, 0, []), (57, 2, .newarray .int, 29, 100, 0, [1066]), (59, 3, .putfield 31, 30, 8, 13, [4039]), (62, 1, .aload_n 0, 31, 0, 0, []), (63, 2, .bipush 20, 32, 0, 0, []), (65, 2, .newarray .int, 33, 100, 0, [1066]), (67, 3, .putfield 34, 34, 8, 15, [4041]), (70, 1, .aload_n 0, 35, 0, 0, []), (71, 3, .getfield 9, 36, 8, 1, [4027]), (74, 2, .bipush 37, 37, 0, 0, []), (76, 1, .iconst (-1), 38, 0, 0, []), (77, 1, .iastore, 39, 0, 0, []), (78, 1, .return_, 40, 0, 0, [])]
def xi_108 : XI := (⟨"StarchedCollarsModel", "<init>", "()V"⟩, prog_10_method_1_code, 1, none, xo_108)
-- 109 StarchedCollarsModel.in(III)Z maxLocals 3
def xo_109 : List XO := [(0, 1, .iload_n 0, 1, 0, 0, []), (1, 1, .iload_n 1, 2, 0, 0, []), (2, 3, .if_icmp .lt 12, 3, 8, 0, []), (5, 1, .iload_n 0, 4, 0, 0, []), (6, 1, .iload_n 2, 5, 0, 0, []), (7, 3, .if_icmp .gt 7, 6, 8, 0, []), (10, 1, .iconst 1, 7, 0, 0, []), (11, 3, .goto 4, 8, 9, 0, []), (14, 1, .iconst 0, 9, 0, 0, []), (15, 1, .ireturn, 10, 0, 0, [])]
def xi_109 : XI := (⟨"StarchedCollarsModel", "in", "(III)Z"⟩, prog_10_method_3_code, 3, some (FieldType.boolean), xo_109)
-- 110 StarchedCollarsModel.isMan(I)Z maxLocals 2
def xo_110 : List XO := [(0, 1, .iload_n 1, 1, 0, 0, []), (1, 1, .iconst 0, 2, 0, 0, []), (2, 1, .aload_n 0, 3, 0, 0, []), (3, 3, .getfield 9, 4, 8, 1, [4027]), (6, 2, .bipush 31, 5, 0, 0, []), (8, 1, .iaload, 6, 0, 0, []), (9, 1, .iconst 1, 7, 0, 0, []), (10, 1, .isub, 8, 0, 0, []), (11, 3, .invokestatic 41, 9, 109, 3, [4092, 4093, 1009, 4094]), (14, 1, .ireturn, 10, 0, 0, [])]
def xi_110 : XI := (⟨"StarchedCollarsModel", "isMan", "(I)Z"⟩, prog_10_method_4_code, 2, some (FieldType.boolean), xo_110)
-- 111 StarchedCollarsModel.held(II)I maxLocals 2
def xo_111 : List XO := [(0, 1, .iload_n 0, 1, 0, 0, []), (1, 3, .ifCond .ge 7, 2, 4, 0, []), (4, 1, .iconst 0, 3, 0, 0, []), (5, 3, .goto 13, 4, 10, 0, []), (8, 1, .iload_n 0, 5, 0, 0, []), (9, 1, .iload_n 1, 6, 0, 0, []), (10, 3, .if_icmp .le 7, 7, 9, 0, []), (13, 1, .iload_n 1, 8, 0, 0, []), (14, 3, .goto 4, 9, 10, 0, []), (17, 1, .iload_n 0, 10, 0, 0, []), (18, 1, .ireturn, 11, 0, 0, [])]
def xi_111 : XI := (⟨"StarchedCollarsModel", "held", "(II)I"⟩, prog_10_method_5_code, 2, some (FieldType.int), xo_111)
-- 112 StarchedCollarsModel.keeps()V maxLocals 2
def xo_112 : List XO := [(0, 1, .iconst 0, 1, 0, 0, []), (1, 1, .istore_n 1, 2, 0, 0, []), (2, 1, .iload_n 1, 3, 0, 0, []), (3, 2, .bipush 31, 4, 0, 0, []), (5, 3, .if_icmp .ge 21, 5, 15, 0, []), (8, 1, .aload_n 0, 6, 0, 0, []), (9, 3, .getfield 18, 7, 8, 3, [4029]), (12, 1, .iload_n 1, 8, 0, 0, []), (13, 1, .aload_n 0, 9, 0, 0, []), (14, 3, .getfield 9, 10, 8, 1, [4027]), (17, 1, .iload_n 1, 11, 0, 0, []), (18, 1, .iaload, 12, 0, 0, []), (19, 1, .iastore, 13, 0, 0, []), (20, 3, .iinc 1 1, 14, 0, 0, []), (23, 3, .goto (-21), 15, 2, 0, []), (26, 1, .return_, 16, 0, 0, [])]
def xi_112 : XI := (⟨"StarchedCollarsModel", "keeps", "()V"⟩, prog_10_method_6_code, 2, none, xo_112)
-- 113 StarchedCollarsModel.goesBack()V maxLocals 2
def xo_113 : List XO := [(0, 1, .iconst 0, 1, 0, 0, []), (1, 1, .istore_n 1, 2, 0, 0, []), (2, 1, .iload_n 1, 3, 0, 0, []), (3, 2, .bipush 31, 4, 0, 0, []), (5, 3, .if_icmp .ge 21, 5, 15, 0, []), (8, 1, .aload_n 0, 6, 0, 0, []), (9, 3, .getfield 9, 7, 8, 1, [4027]), (12, 1, .iload_n 1, 8, 0, 0, []), (13, 1, .aload_n 0, 9, 0, 0, []), (14, 3, .getfield 18, 10, 8, 3, [4029]), (17, 1, .iload_n 1, 11, 0, 0, []), (18, 1, .iaload, 12, 0, 0, []), (19, 1, .iastore, 13, 0, 0, []), (20, 3, .iinc 1 1, 14, 0, 0, []), (23, 3, .goto (-21), 15, 2, 0, []), (26, 1, .return_, 16, 0, 0, [])]
def xi_113 : XI := (⟨"StarchedCollarsModel", "goesBack", "()V"⟩, prog_10_method_7_code, 2, none, xo_113)
-- 114 StarchedCollarsModel.feed(I)I maxLocals 2
def xo_114 : List XO := [(0, 1, .iload_n 1, 1, 0, 0, []), (1, 1, .iconst 0, 2, 0, 0, []), (2, 2, .bipush 127, 3, 0, 0, []), (4, 3, .invokestatic 41, 4, 109, 3, [4092, 4093, 1009, 4094]), (7, 3, .ifCond .ne 6, 5, 7, 0, []), (10, 2, .bipush (-2), 6, 0, 0, []), (12, 1, .ireturn, 7, 0, 0, []), (13, 1, .aload_n 0, 8, 0, 0, []), (14, 3, .getfield 9, 9, 8, 1, [4027]), (17, 2, .bipush 36, 10, 0, 0, []), (19, 1, .iaload, 11, 0, 0, []), (20, 2, .bipush 100, 12, 0, 0, []), (22, 3, .if_icmp .ne 6, 13, 15, 0, []), (25, 2, .bipush (-4), 14, 0, 0, []), (27, 1, .ireturn, 15, 0, 0, []), (28, 1, .aload_n 0, 16, 0, 0, []), (29, 3, .getfield 9, 17, 8, 1, [4027]), (32, 2, .bipush 121, 18, 0, 0, []), (34, 1, .aload_n 0, 19, 0, 0, []), (35, 3, .getfield 9, 20, 8, 1, [4027]), (38, 2, .bipush 36, 21, 0, 0, []), (40, 1, .iaload, 22, 0, 0, []), (41, 1, .iadd, 23, 0, 0, []), (42, 1, .iload_n 1, 24, 0, 0, []), (43, 1, .iastore, 25, 0, 0, []), (44, 1, .aload_n 0, 26, 0, 0, []), (45, 3, .getfield 9, 27, 8, 1, [4027]), (48, 2, .bipush 36, 28, 0, 0, []), (50, 1, .dup2, 29, 0, 0, []), (51, 1, .iaload, 30, 0, 0, []), (52, 1, .iconst 1, 31, 0, 0, []), (53, 1, .iadd, 32, 0, 0, []), (54, 1, .iastore, 33, 0, 0, []), (55, 1, .aload_n 0, 34, 0, 0, []), (56, 3, .getfield 9, 35, 8, 1, [4027]), (59, 2, .bipush 36, 36, 0, 0, []), (61, 1, .iaload, 37, 0, 0, []), (62, 1, .ireturn, 38, 0, 0, [])]
def xi_114 : XI := (⟨"StarchedCollarsModel", "feed", "(I)I"⟩, prog_10_method_8_code, 2, some (FieldType.int), xo_114)
-- 115 StarchedCollarsModel.here()I maxLocals 1
def xo_115 : List XO := [(0, 1, .aload_n 0, 1, 0, 0, []), (1, 3, .getfield 45, 2, 8, 6, [4032]), (4, 1, .aload_n 0, 3, 0, 0, []), (5, 3, .getfield 48, 4, 8, 7, [4033]), (8, 3, .if_icmp .ge 18, 5, 13, 0, []), (11, 1, .aload_n 0, 6, 0, 0, []), (12, 3, .getfield 9, 7, 8, 1, [4027]), (15, 2, .bipush 121, 8, 0, 0, []), (17, 1, .aload_n 0, 9, 0, 0, []), (18, 3, .getfield 45, 10, 8, 6, [4032]), (21, 1, .iadd, 11, 0, 0, []), (22, 1, .iaload, 12, 0, 0, []), (23, 3, .goto 4, 13, 14, 0, []), (26, 1, .iconst (-1), 14, 0, 0, []), (27, 1, .ireturn, 15, 0, 0, [])]
def xi_115 : XI := (⟨"StarchedCollarsModel", "here", "()I"⟩, prog_10_method_9_code, 1, some (FieldType.int), xo_115)
-- 116 StarchedCollarsModel.must(I)V maxLocals 2
def xo_116 : List XO := [(0, 1, .aload_n 0, 1, 0, 0, []), (1, 1, .aload_n 0, 2, 0, 0, []), (2, 3, .getfield 51, 3, 8, 8, [4034]), (5, 3, .ifCond .ne 11, 4, 8, 0, []), (8, 1, .aload_n 0, 5, 0, 0, []), (9, 3, .invokevirtual 55, 6, 115, 0, [4103, 4105, 27, 1009, 4106]), (12, 1, .iload_n 1, 7, 0, 0, []), (13, 3, .if_icmp .eq 7, 8, 10, 0, []), (16, 1, .iconst 1, 9, 0, 0, []), (17, 3, .goto 4, 10, 11, 0, []), (20, 1, .iconst 0, 11, 0, 0, []), (21, 3, .putfield 51, 12, 8, 8, [4034]), (24, 1, .aload_n 0, 13, 0, 0, []), (25, 1, .dup, 14, 0, 0, []), (26, 3, .getfield 45, 15, 8, 6, [4032]), (29, 1, .aload_n 0, 16, 0, 0, []), (30, 3, .getfield 51, 17, 8, 8, [4034]), (33, 3, .ifCond .eq 7, 18, 20, 0, []), (36, 1, .iconst 0, 19, 0, 0, []), (37, 3, .goto 4, 20, 21, 0, []), (40, 1, .iconst 1, 21, 0, 0, []), (41, 1, .iadd, 22, 0, 0, []), (42, 3, .putfield 45, 23, 8, 6, [4032]), (45, 1, .return_, 24, 0, 0, [])]
def xi_116 : XI := (⟨"StarchedCollarsModel", "must", "(I)V"⟩, prog_10_method_10_code, 2, none, xo_116)
-- 117 StarchedCollarsModel.spells(Ljava/lang/String;)V maxLocals 3
def xo_117 : List XO := [(0, 1, .iconst 0, 1, 0, 0, []), (1, 1, .istore_n 2, 2, 0, 0, []), (2, 1, .iload_n 2, 3, 0, 0, []), (3, 1, .aload_n 1, 4, 0, 0, []), (4, 3, .invokevirtual 59, 5, 6, 0, [4116, 2059, 2060, 1012, 2061]), (7, 3, .if_icmp .ge 18, 6, 13, 0, []), (10, 1, .aload_n 0, 7, 0, 0, []), (11, 1, .aload_n 1, 8, 0, 0, []), (12, 1, .iload_n 2, 9, 0, 0, []), (13, 3, .invokevirtual 64, 10, 7, 1, [4117, 2069, 2070, 1012, 2071]), (16, 3, .invokevirtual 68, 11, 116, 1, [4118, 4120, 30, 1009, 4121]), (19, 3, .iinc 2 1, 12, 0, 0, []), (22, 3, .goto (-20), 13, 2, 0, []), (25, 1, .return_, 14, 0, 0, [])]
def xi_117 : XI := (⟨"StarchedCollarsModel", "spells", "(Ljava/lang/String;)V"⟩, prog_10_method_11_code, 3, none, xo_117)
-- 118 StarchedCollarsModel.figures()I maxLocals 3
def xo_118 : List XO := [(0, 1, .aload_n 0, 1, 0, 0, []), (1, 1, .aload_n 0, 2, 0, 0, []), (2, 3, .getfield 51, 3, 8, 8, [4034]), (5, 3, .ifCond .ne 17, 4, 10, 0, []), (8, 1, .aload_n 0, 5, 0, 0, []), (9, 3, .invokevirtual 55, 6, 115, 0, [4103, 4105, 27, 1009, 4106]), (12, 2, .bipush 48, 7, 0, 0, []), (14, 2, .bipush 57, 8, 0, 0, []), (16, 3, .invokestatic 41, 9, 109, 3, [4092, 4093, 1009, 4094]), (19, 3, .ifCond .ne 7, 10, 12, 0, []), (22, 1, .iconst 1, 11, 0, 0, []), (23, 3, .goto 4, 12, 13, 0, []), (26, 1, .iconst 0, 13, 0, 0, []), (27, 3, .putfield 51, 14, 8, 8, [4034]), (30, 1, .iconst 0, 15, 0, 0, []), (31, 1, .istore_n 1, 16, 0, 0, []), (32, 1, .iconst 0, 17, 0, 0, []), (33, 1, .istore_n 2, 18, 0, 0, []), (34, 1, .iload_n 2, 19, 0, 0, []), (35, 1, .iconst 2, 20, 0, 0, []), (36, 3, .if_icmp .ge 61, 21, 51, 0, []), (39, 1, .aload_n 0, 22, 0, 0, []), (40, 3, .getfield 51, 23, 8, 8, [4034]), (43, 3, .ifCond .ne 54, 24, 51, 0, []), (46, 1, .aload_n 0, 25, 0, 0, []), (47, 3, .invokevirtual 55, 26, 115, 0, [4103, 4105, 27, 1009, 4106]), (50, 2, .bipush 48, 27, 0, 0, []), (52, 2, .bipush 57, 28, 0, 0, []), (54, 3, .invokestatic 41, 29, 109, 3, [4092, 4093, 1009, 4094]), (57, 3, .ifCond .eq 40, 30, 51, 0, []), (60, 1, .iload_n 2, 31, 0, 0, []), (61, 3, .ifCond .eq 7, 32, 34, 0, []), (64, 1, .iload_n 1, 33, 0, 0, []), (65, 3, .ifCond .le 32, 34, 51, 0, []), (68, 2, .bipush 10, 35, 0, 0, []), (70, 1, .iload_n 1, 36, 0, 0, []), (71, 1, .imul, 37, 0, 0, []), (72, 1, .aload_n 0, 38, 0, 0, []), (73, 3, .invokevirtual 55, 39, 115, 0, [4103, 4105, 27, 1009, 4106]), (76, 1, .iadd, 40, 0, 0, []), (77, 2, .bipush 48, 41, 0, 0, []), (79, 1, .isub, 42, 0, 0, []), (80, 1, .istore_n 1, 43, 0, 0, []), (81, 1, .aload_n 0, 44, 0, 0, []), (82, 1, .dup, 45, 0, 0, []), (83, 3, .getfield 45, 46, 8, 6, [4032]), (86, 1, .iconst 1, 47, 0, 0, []), (87, 1, .iadd, 48, 0, 0, []), (88, 3, .putfield 45, 49, 8, 6, [4032]), (91, 3, .iinc 2 1, 50, 0, 0, []), (94, 3, .goto (-60), 51, 18, 0, []), (97, 1, .iload_n 1, 52, 0, 0, []), (98, 1, .ireturn, 53, 0, 0, [])]
def xi_118 : XI := (⟨"StarchedCollarsModel", "figures", "()I"⟩, prog_10_method_12_code, 3, some (FieldType.int), xo_118)
-- 119 StarchedCollarsModel.among(Ljava/lang/String;)I maxLocals 3
def xo_119 : List XO := [(0, 1, .iconst 0, 1, 0, 0, []), (1, 1, .istore_n 2, 2, 0, 0, []), (2, 1, .iload_n 2, 3, 0, 0, []), (3, 1, .aload_n 1, 4, 0, 0, []), (4, 3, .invokevirtual 59, 5, 6, 0, [4116, 2059, 2060, 1012, 2061]), (7, 3, .if_icmp .ge 33, 6, 22, 0, []), (10, 1, .aload_n 0, 7, 0, 0, []), (11, 3, .invokevirtual 55, 8, 115, 0, [4103, 4105, 27, 1009, 4106]), (14, 1, .aload_n 1, 9, 0, 0, []), (15, 1, .iload_n 2, 10, 0, 0, []), (16, 3, .invokevirtual 64, 11, 7, 1, [4117, 2069, 2070, 1012, 2071]), (19, 3, .if_icmp .ne 15, 12, 20, 0, []), (22, 1, .aload_n 0, 13, 0, 0, []), (23, 1, .dup, 14, 0, 0, []), (24, 3, .getfield 45, 15, 8, 6, [4032]), (27, 1, .iconst 1, 16, 0, 0, []), (28, 1, .iadd, 17, 0, 0, []), (29, 3, .putfield 45, 18, 8, 6, [4032]), (32, 1, .iload_n 2, 19, 0, 0, []), (33, 1, .ireturn, 20, 0, 0, []), (34, 3, .iinc 2 1, 21, 0, 0, []), (37, 3, .goto (-35), 22, 2, 0, []), (40, 1, .iconst (-1), 23, 0, 0, []), (41, 1, .ireturn, 24, 0, 0, [])]
def xi_119 : XI := (⟨"StarchedCollarsModel", "among", "(Ljava/lang/String;)I"⟩, prog_10_method_13_code, 3, some (FieldType.int), xo_119)
-- 120 StarchedCollarsModel.emits(I)V maxLocals 2
def xo_120 : List XO := [(0, 1, .aload_n 0, 1, 0, 0, []), (1, 3, .getfield 51, 2, 8, 8, [4034]), (4, 3, .ifCond .ne 52, 3, 32, 0, []), (7, 1, .aload_n 0, 4, 0, 0, []), (8, 3, .getfield 9, 5, 8, 1, [4027]), (11, 3, .sipush 231, 6, 0, 0, []), (14, 3, .sipush 140, 7, 0, 0, []), (17, 1, .aload_n 0, 8, 0, 0, []), (18, 3, .getfield 72, 9, 8, 5, [4031]), (21, 1, .imul, 10, 0, 0, []), (22, 1, .iadd, 11, 0, 0, []), (23, 1, .aload_n 0, 12, 0, 0, []), (24, 3, .getfield 9, 13, 8, 1, [4027]), (27, 3, .sipush 226, 14, 0, 0, []), (30, 1, .aload_n 0, 15, 0, 0, []), (31, 3, .getfield 72, 16, 8, 5, [4031]), (34, 1, .iadd, 17, 0, 0, []), (35, 1, .iaload, 18, 0, 0, []), (36, 1, .iadd, 19, 0, 0, []), (37, 1, .iload_n 1, 20, 0, 0, []), (38, 1, .iastore, 21, 0, 0, []), (39, 1, .aload_n 0, 22, 0, 0, []), (40, 3, .getfield 9, 23, 8, 1, [4027]), (43, 3, .sipush 226, 24, 0, 0, []), (46, 1, .aload_n 0, 25, 0, 0, []), (47, 3, .getfield 72, 26, 8, 5, [4031]), (50, 1, .iadd, 27, 0, 0, []), (51, 1, .dup2, 28, 0, 0, []), (52, 1, .iaload, 29, 0, 0, []), (53, 1, .iconst 1, 30, 0, 0, []), (54, 1, .iadd, 31, 0, 0, []), (55, 1, .iastore, 32, 0, 0, []), (56, 1, .return_, 33, 0, 0, [])]
def xi_120 : XI := (⟨"StarchedCollarsModel", "emits", "(I)V"⟩, prog_10_method_14_code, 2, none, xo_120)
-- 121 StarchedCollarsModel.factor()V maxLocals 5
def xo_121_0 : List XO := [(0, 1, .aload_n 0, 1, 0, 0, []), (1, 3, .getfield 51, 2, 8, 8, [4034]), (4, 3, .ifCond .eq 4, 3, 4, 0, []), (7, 1, .return_, 4, 0, 0, []), (8, 1, .aload_n 0, 5, 0, 0, []), (9, 3, .invokevirtual 55, 6, 115, 0, [4103, 4105, 27, 1009, 4106]), (12, 1, .istore_n 1, 7, 0, 0, []), (13, 1, .iload_n 1, 8, 0, 0, []), (14, 2, .bipush 33, 9, 0, 0, []), (16, 3, .if_icmp .eq 9, 10, 13, 0, []), (19, 1, .iload_n 1, 11, 0, 0, []), (20, 2, .bipush 40, 12, 0, 0, []), (22, 3, .if_icmp .ne 90, 13, 60, 0, []), (25, 1, .aload_n 0, 14, 0, 0, []), (26, 1, .aload_n 0, 15, 0, 0, []), (27, 3, .getfield 75, 16, 8, 9, [4035]), (30, 1, .iconst 5, 17, 0, 0, []), (31, 3, .if_icmp .ne 7, 18, 20, 0, []), (34, 1, .iconst 1, 19, 0, 0, []), (35, 3, .goto 4, 20, 21, 0, []), (38, 1, .iconst 0, 21, 0, 0, []), (39, 3, .putfield 51, 22, 8, 8, [4034]), (42, 1, .aload_n 0, 23, 0, 0, []), (43, 1, .dup, 24, 0, 0, []), (44, 3, .getfield 75, 25, 8, 9, [4035]), (47, 1, .iconst 1, 26, 0, 0, []), (48, 1, .iadd, 27, 0, 0, []), (49, 3, .putfield 75, 28, 8, 9, [4035]), (52, 1, .aload_n 0, 29, 0, 0, []), (53, 1, .dup, 30, 0, 0, []), (54, 3, .getfield 45, 31, 8, 6, [4032]), (57, 1, .aload_n 0, 32, 0, 0, []), (58, 3, .getfield 51, 33, 8, 8, [4034]), (61, 3, .ifCond .eq 7, 34, 36, 0, []), (64, 1, .iconst 0, 35, 0, 0, []), (65, 3, .goto 4, 36, 37, 0, []), (68, 1, .iconst 1, 37, 0, 0, []), (69, 1, .iadd, 38, 0, 0, []), (70, 3, .putfield 45, 39, 8, 6, [4032]), (73, 1, .iload_n 1, 40, 0, 0, []), (74, 2, .bipush 33, 41, 0, 0, []), (76, 3, .if_icmp .ne 15, 42, 48, 0, []), (79, 1, .aload_n 0, 43, 0, 0, []), (80, 3, .invokevirtual 78, 44, 121, 0, [4143, 4145, 36, 1009, 4146]), (83, 1, .aload_n 0, 45, 0, 0, []), (84, 1, .iconst (-1), 46, 0, 0, []), (85, 3, .invokevirtual 81, 47, 120, 1, [4147, 4149, 37, 1009, 4150]), (88, 3, .goto 13, 48, 53, 0, []), (91, 1, .aload_n 0, 49, 0, 0, []), (92, 3, .invokevirtual 84, 50, 123, 0, [4135, 4137, 34, 1009, 4138])]
def xo_121_1 : List XO := [(95, 1, .aload_n 0, 51, 0, 0, []), (96, 2, .bipush 41, 52, 0, 0, []), (98, 3, .invokevirtual 68, 53, 116, 1, [4118, 4120, 30, 1009, 4121]), (101, 1, .aload_n 0, 54, 0, 0, []), (102, 1, .dup, 55, 0, 0, []), (103, 3, .getfield 75, 56, 8, 9, [4035]), (106, 1, .iconst 1, 57, 0, 0, []), (107, 1, .isub, 58, 0, 0, []), (108, 3, .putfield 75, 59, 8, 9, [4035]), (111, 1, .return_, 60, 0, 0, []), (112, 1, .aload_n 0, 61, 0, 0, []), (113, 2, .ldc 87, 62, 11, 1, [4151]), (115, 3, .invokevirtual 89, 63, 119, 1, [4152, 4154, 38, 1009, 4155]), (118, 1, .istore_n 2, 64, 0, 0, []), (119, 1, .aload_n 0, 65, 0, 0, []), (120, 1, .iload_n 2, 66, 0, 0, []), (121, 1, .iconst (-1), 67, 0, 0, []), (122, 3, .if_icmp .ne 7, 68, 70, 0, []), (125, 1, .iconst 1, 69, 0, 0, []), (126, 3, .goto 4, 70, 71, 0, []), (129, 1, .iconst 0, 71, 0, 0, []), (130, 3, .putfield 51, 72, 8, 8, [4034]), (133, 1, .aload_n 0, 73, 0, 0, []), (134, 3, .getfield 51, 74, 8, 8, [4034]), (137, 3, .ifCond .eq 7, 75, 77, 0, []), (140, 1, .iconst 0, 76, 0, 0, []), (141, 3, .goto 9, 77, 80, 0, []), (144, 1, .aload_n 0, 78, 0, 0, []), (145, 2, .ldc 93, 79, 12, 1, [4156]), (147, 3, .invokevirtual 89, 80, 119, 1, [4152, 4154, 38, 1009, 4155]), (150, 1, .istore_n 3, 81, 0, 0, []), (151, 1, .aload_n 0, 82, 0, 0, []), (152, 1, .aload_n 0, 83, 0, 0, []), (153, 3, .getfield 51, 84, 8, 8, [4034]), (156, 3, .ifCond .ne 8, 85, 88, 0, []), (159, 1, .iload_n 3, 86, 0, 0, []), (160, 1, .iconst (-1), 87, 0, 0, []), (161, 3, .if_icmp .ne 7, 88, 90, 0, []), (164, 1, .iconst 1, 89, 0, 0, []), (165, 3, .goto 4, 90, 91, 0, []), (168, 1, .iconst 0, 91, 0, 0, []), (169, 3, .putfield 51, 92, 8, 8, [4034]), (172, 1, .aload_n 0, 93, 0, 0, []), (173, 3, .invokevirtual 95, 94, 118, 0, [4122, 4124, 31, 1009, 4125]), (176, 2, .istore 4, 95, 0, 0, []), (178, 1, .aload_n 0, 96, 0, 0, []), (179, 1, .iload_n 2, 97, 0, 0, []), (180, 2, .bipush 8, 98, 0, 0, []), (182, 1, .iload_n 3, 99, 0, 0, []), (183, 1, .imul, 100, 0, 0, [])]
def xo_121_2 : List XO := [(184, 1, .iadd, 101, 0, 0, []), (185, 2, .bipush 32, 102, 0, 0, []), (187, 2, .iload 4, 103, 0, 0, []), (189, 1, .imul, 104, 0, 0, []), (190, 1, .iadd, 105, 0, 0, []), (191, 3, .invokevirtual 81, 106, 120, 1, [4147, 4149, 37, 1009, 4150]), (194, 1, .return_, 107, 0, 0, [])]
def xo_121 : List XO := xo_121_0 ++ xo_121_1 ++ xo_121_2
def xi_121 : XI := (⟨"StarchedCollarsModel", "factor", "()V"⟩, prog_10_method_15_code, 5, none, xo_121)
-- 122 StarchedCollarsModel.every()V maxLocals 1
def xo_122 : List XO := [(0, 1, .aload_n 0, 1, 0, 0, []), (1, 3, .invokevirtual 78, 2, 121, 0, [4143, 4145, 36, 1009, 4146]), (4, 1, .aload_n 0, 3, 0, 0, []), (5, 3, .getfield 51, 4, 8, 8, [4034]), (8, 3, .ifCond .ne 35, 5, 21, 0, []), (11, 1, .aload_n 0, 6, 0, 0, []), (12, 3, .invokevirtual 55, 7, 115, 0, [4103, 4105, 27, 1009, 4106]), (15, 2, .bipush 38, 8, 0, 0, []), (17, 3, .if_icmp .ne 26, 9, 21, 0, []), (20, 1, .aload_n 0, 10, 0, 0, []), (21, 1, .dup, 11, 0, 0, []), (22, 3, .getfield 45, 12, 8, 6, [4032]), (25, 1, .iconst 1, 13, 0, 0, []), (26, 1, .iadd, 14, 0, 0, []), (27, 3, .putfield 45, 15, 8, 6, [4032]), (30, 1, .aload_n 0, 16, 0, 0, []), (31, 3, .invokevirtual 78, 17, 121, 0, [4143, 4145, 36, 1009, 4146]), (34, 1, .aload_n 0, 18, 0, 0, []), (35, 2, .bipush (-2), 19, 0, 0, []), (37, 3, .invokevirtual 81, 20, 120, 1, [4147, 4149, 37, 1009, 4150]), (40, 3, .goto (-36), 21, 2, 0, []), (43, 1, .return_, 22, 0, 0, [])]
def xi_122 : XI := (⟨"StarchedCollarsModel", "every", "()V"⟩, prog_10_method_16_code, 1, none, xo_122)
-- 123 StarchedCollarsModel.some()V maxLocals 1
def xo_123 : List XO := [(0, 1, .aload_n 0, 1, 0, 0, []), (1, 3, .invokevirtual 98, 2, 122, 0, [4139, 4141, 35, 1009, 4142]), (4, 1, .aload_n 0, 3, 0, 0, []), (5, 3, .getfield 51, 4, 8, 8, [4034]), (8, 3, .ifCond .ne 35, 5, 21, 0, []), (11, 1, .aload_n 0, 6, 0, 0, []), (12, 3, .invokevirtual 55, 7, 115, 0, [4103, 4105, 27, 1009, 4106]), (15, 2, .bipush 124, 8, 0, 0, []), (17, 3, .if_icmp .ne 26, 9, 21, 0, []), (20, 1, .aload_n 0, 10, 0, 0, []), (21, 1, .dup, 11, 0, 0, []), (22, 3, .getfield 45, 12, 8, 6, [4032]), (25, 1, .iconst 1, 13, 0, 0, []), (26, 1, .iadd, 14, 0, 0, []), (27, 3, .putfield 45, 15, 8, 6, [4032]), (30, 1, .aload_n 0, 16, 0, 0, []), (31, 3, .invokevirtual 98, 17, 122, 0, [4139, 4141, 35, 1009, 4142]), (34, 1, .aload_n 0, 18, 0, 0, []), (35, 2, .bipush (-3), 19, 0, 0, []), (37, 3, .invokevirtual 81, 20, 120, 1, [4147, 4149, 37, 1009, 4150]), (40, 3, .goto (-36), 21, 2, 0, []), (43, 1, .return_, 22, 0, 0, [])]
def xi_123 : XI := (⟨"StarchedCollarsModel", "some", "()V"⟩, prog_10_method_17_code, 1, none, xo_123)
-- 124 StarchedCollarsModel.much(ILjava/lang/String;)V maxLocals 4
def xo_124 : List XO := [(0, 1, .aload_n 0, 1, 0, 0, []), (1, 1, .aload_n 2, 2, 0, 0, []), (2, 3, .invokevirtual 101, 3, 117, 1, [4112, 4114, 29, 1009, 4115]), (5, 1, .aload_n 0, 4, 0, 0, []), (6, 3, .invokevirtual 95, 5, 118, 0, [4122, 4124, 31, 1009, 4125]), (9, 1, .istore_n 3, 6, 0, 0, []), (10, 1, .aload_n 0, 7, 0, 0, []), (11, 2, .bipush 32, 8, 0, 0, []), (13, 3, .invokevirtual 68, 9, 116, 1, [4118, 4120, 30, 1009, 4121]), (16, 1, .aload_n 0, 10, 0, 0, []), (17, 3, .invokevirtual 84, 11, 123, 0, [4135, 4137, 34, 1009, 4138]), (20, 1, .aload_n 0, 12, 0, 0, []), (21, 1, .iload_n 1, 13, 0, 0, []), (22, 1, .iload_n 3, 14, 0, 0, []), (23, 1, .isub, 15, 0, 0, []), (24, 3, .invokevirtual 81, 16, 120, 1, [4147, 4149, 37, 1009, 4150]), (27, 1, .return_, 17, 0, 0, [])]
def xi_124 : XI := (⟨"StarchedCollarsModel", "much", "(ILjava/lang/String;)V"⟩, prog_10_method_18_code, 4, none, xo_124)
-- 125 StarchedCollarsModel.tellsHere(ILjava/lang/String;)V maxLocals 4
def xo_125 : List XO := [(0, 1, .aload_n 0, 1, 0, 0, []), (1, 1, .aload_n 2, 2, 0, 0, []), (2, 3, .invokevirtual 101, 3, 117, 1, [4112, 4114, 29, 1009, 4115]), (5, 1, .aload_n 0, 4, 0, 0, []), (6, 3, .invokevirtual 95, 5, 118, 0, [4122, 4124, 31, 1009, 4125]), (9, 1, .istore_n 3, 6, 0, 0, []), (10, 1, .aload_n 0, 7, 0, 0, []), (11, 3, .getfield 51, 8, 8, 8, [4034]), (14, 3, .ifCond .ne 15, 9, 17, 0, []), (17, 1, .aload_n 0, 10, 0, 0, []), (18, 3, .getfield 9, 11, 8, 1, [4027]), (21, 1, .iload_n 1, 12, 0, 0, []), (22, 1, .aload_n 0, 13, 0, 0, []), (23, 3, .getfield 72, 14, 8, 5, [4031]), (26, 1, .iadd, 15, 0, 0, []), (27, 1, .iload_n 3, 16, 0, 0, []), (28, 1, .iastore, 17, 0, 0, []), (29, 1, .return_, 18, 0, 0, [])]
def xi_125 : XI := (⟨"StarchedCollarsModel", "tellsHere", "(ILjava/lang/String;)V"⟩, prog_10_method_19_code, 4, none, xo_125)
-- 126 StarchedCollarsModel.second()I maxLocals 1
def xo_126 : List XO := [(0, 1, .aload_n 0, 1, 0, 0, []), (1, 3, .getfield 45, 2, 8, 6, [4032]), (4, 1, .iconst 1, 3, 0, 0, []), (5, 1, .iadd, 4, 0, 0, []), (6, 1, .aload_n 0, 5, 0, 0, []), (7, 3, .getfield 48, 6, 8, 7, [4033]), (10, 3, .if_icmp .ge 20, 7, 17, 0, []), (13, 1, .aload_n 0, 8, 0, 0, []), (14, 3, .getfield 9, 9, 8, 1, [4027]), (17, 2, .bipush 121, 10, 0, 0, []), (19, 1, .aload_n 0, 11, 0, 0, []), (20, 3, .getfield 45, 12, 8, 6, [4032]), (23, 1, .iadd, 13, 0, 0, []), (24, 1, .iconst 1, 14, 0, 0, []), (25, 1, .iadd, 15, 0, 0, []), (26, 1, .iaload, 16, 0, 0, []), (27, 3, .goto 4, 17, 18, 0, []), (30, 1, .iconst (-1), 18, 0, 0, []), (31, 1, .ireturn, 19, 0, 0, [])]
def xi_126 : XI := (⟨"StarchedCollarsModel", "second", "()I"⟩, prog_10_method_20_code, 1, some (FieldType.int), xo_126)
-- 127 StarchedCollarsModel.clauseHere()V maxLocals 1
def xo_127 : List XO := [(0, 1, .aload_n 0, 1, 0, 0, []), (1, 3, .invokevirtual 55, 2, 115, 0, [4103, 4105, 27, 1009, 4106]), (4, 2, .bipush 98, 3, 0, 0, []), (6, 3, .if_icmp .ne 15, 4, 9, 0, []), (9, 1, .aload_n 0, 5, 0, 0, []), (10, 3, .sipush 221, 6, 0, 0, []), (13, 2, .ldc 105, 7, 13, 1, [4107]), (15, 3, .invokevirtual 107, 8, 125, 2, [4108, 4110, 28, 1009, 4111]), (18, 3, .goto 58, 9, 34, 0, []), (21, 1, .aload_n 0, 10, 0, 0, []), (22, 3, .invokevirtual 55, 11, 115, 0, [4103, 4105, 27, 1009, 4106]), (25, 2, .bipush 115, 12, 0, 0, []), (27, 3, .if_icmp .ne 23, 13, 22, 0, []), (30, 1, .aload_n 0, 14, 0, 0, []), (31, 3, .invokevirtual 111, 15, 126, 0, [4126, 4128, 32, 1009, 4129]), (34, 2, .bipush 116, 16, 0, 0, []), (36, 3, .if_icmp .ne 14, 17, 22, 0, []), (39, 1, .aload_n 0, 18, 0, 0, []), (40, 2, .bipush (-10), 19, 0, 0, []), (42, 2, .ldc 114, 20, 14, 1, [4130]), (44, 3, .invokevirtual 116, 21, 124, 2, [4131, 4133, 33, 1009, 4134]), (47, 3, .goto 29, 22, 34, 0, []), (50, 1, .aload_n 0, 23, 0, 0, []), (51, 3, .invokevirtual 55, 24, 115, 0, [4103, 4105, 27, 1009, 4106]), (54, 2, .bipush 115, 25, 0, 0, []), (56, 3, .if_icmp .ne 15, 26, 31, 0, []), (59, 1, .aload_n 0, 27, 0, 0, []), (60, 3, .sipush (-200), 28, 0, 0, []), (63, 2, .ldc 119, 29, 15, 1, [4157]), (65, 3, .invokevirtual 116, 30, 124, 2, [4131, 4133, 33, 1009, 4134]), (68, 3, .goto 8, 31, 34, 0, []), (71, 1, .aload_n 0, 32, 0, 0, []), (72, 1, .iconst 1, 33, 0, 0, []), (73, 3, .putfield 51, 34, 8, 8, [4034]), (76, 1, .return_, 35, 0, 0, [])]
def xi_127 : XI := (⟨"StarchedCollarsModel", "clauseHere", "()V"⟩, prog_10_method_21_code, 1, none, xo_127)
-- 128 StarchedCollarsModel.town()I maxLocals 2
def xo_128_0 : List XO := [(0, 1, .aload_n 0, 1, 0, 0, []), (1, 3, .getfield 9, 2, 8, 1, [4027]), (4, 2, .bipush 32, 3, 0, 0, []), (6, 1, .iaload, 4, 0, 0, []), (7, 1, .iconst 5, 5, 0, 0, []), (8, 3, .if_icmp .ne 6, 6, 8, 0, []), (11, 2, .bipush (-4), 7, 0, 0, []), (13, 1, .ireturn, 8, 0, 0, []), (14, 1, .aload_n 0, 9, 0, 0, []), (15, 1, .aload_n 0, 10, 0, 0, []), (16, 3, .getfield 9, 11, 8, 1, [4027]), (19, 2, .bipush 32, 12, 0, 0, []), (21, 1, .iaload, 13, 0, 0, []), (22, 3, .putfield 72, 14, 8, 5, [4031]), (25, 1, .aload_n 0, 15, 0, 0, []), (26, 1, .aload_n 0, 16, 0, 0, []), (27, 3, .getfield 9, 17, 8, 1, [4027]), (30, 2, .bipush 36, 18, 0, 0, []), (32, 1, .iaload, 19, 0, 0, []), (33, 3, .putfield 48, 20, 8, 7, [4033]), (36, 1, .aload_n 0, 21, 0, 0, []), (37, 3, .getfield 9, 22, 8, 1, [4027]), (40, 2, .bipush 36, 23, 0, 0, []), (42, 1, .iconst 0, 24, 0, 0, []), (43, 1, .iastore, 25, 0, 0, []), (44, 1, .aload_n 0, 26, 0, 0, []), (45, 3, .getfield 9, 27, 8, 1, [4027]), (48, 3, .sipush 221, 28, 0, 0, []), (51, 1, .aload_n 0, 29, 0, 0, []), (52, 3, .getfield 72, 30, 8, 5, [4031]), (55, 1, .iadd, 31, 0, 0, []), (56, 2, .bipush 90, 32, 0, 0, []), (58, 1, .iastore, 33, 0, 0, []), (59, 1, .aload_n 0, 34, 0, 0, []), (60, 3, .getfield 9, 35, 8, 1, [4027]), (63, 3, .sipush 226, 36, 0, 0, []), (66, 1, .aload_n 0, 37, 0, 0, []), (67, 3, .getfield 72, 38, 8, 5, [4031]), (70, 1, .iadd, 39, 0, 0, []), (71, 1, .iconst 0, 40, 0, 0, []), (72, 1, .iastore, 41, 0, 0, []), (73, 1, .aload_n 0, 42, 0, 0, []), (74, 1, .iconst 0, 43, 0, 0, []), (75, 3, .putfield 45, 44, 8, 6, [4032]), (78, 1, .aload_n 0, 45, 0, 0, []), (79, 1, .iconst 0, 46, 0, 0, []), (80, 3, .putfield 51, 47, 8, 8, [4034]), (83, 1, .aload_n 0, 48, 0, 0, []), (84, 1, .iconst 0, 49, 0, 0, []), (85, 3, .putfield 75, 50, 8, 9, [4035])]
def xo_128_1 : List XO := [(88, 1, .iconst 1, 51, 0, 0, []), (89, 1, .istore_n 1, 52, 0, 0, []), (90, 1, .aload_n 0, 53, 0, 0, []), (91, 3, .invokevirtual 121, 54, 127, 0, [4099, 4101, 26, 1009, 4102]), (94, 1, .aload_n 0, 55, 0, 0, []), (95, 3, .getfield 51, 56, 8, 8, [4034]), (98, 3, .ifCond .ne 38, 57, 74, 0, []), (101, 1, .iload_n 1, 58, 0, 0, []), (102, 2, .bipush 10, 59, 0, 0, []), (104, 3, .if_icmp .ge 32, 60, 74, 0, []), (107, 1, .aload_n 0, 61, 0, 0, []), (108, 3, .invokevirtual 55, 62, 115, 0, [4103, 4105, 27, 1009, 4106]), (111, 2, .bipush 59, 63, 0, 0, []), (113, 3, .if_icmp .ne 23, 64, 74, 0, []), (116, 1, .aload_n 0, 65, 0, 0, []), (117, 1, .dup, 66, 0, 0, []), (118, 3, .getfield 45, 67, 8, 6, [4032]), (121, 1, .iconst 1, 68, 0, 0, []), (122, 1, .iadd, 69, 0, 0, []), (123, 3, .putfield 45, 70, 8, 6, [4032]), (126, 1, .aload_n 0, 71, 0, 0, []), (127, 3, .invokevirtual 121, 72, 127, 0, [4099, 4101, 26, 1009, 4102]), (130, 3, .iinc 1 1, 73, 0, 0, []), (133, 3, .goto (-39), 74, 54, 0, []), (136, 1, .aload_n 0, 75, 0, 0, []), (137, 3, .getfield 51, 76, 8, 8, [4034]), (140, 3, .ifCond .ne 14, 77, 82, 0, []), (143, 1, .aload_n 0, 78, 0, 0, []), (144, 3, .getfield 45, 79, 8, 6, [4032]), (147, 1, .aload_n 0, 80, 0, 0, []), (148, 3, .getfield 48, 81, 8, 7, [4033]), (151, 3, .if_icmp .eq 11, 82, 87, 0, []), (154, 2, .bipush (-10), 83, 0, 0, []), (156, 1, .aload_n 0, 84, 0, 0, []), (157, 3, .getfield 45, 85, 8, 6, [4032]), (160, 1, .isub, 86, 0, 0, []), (161, 1, .ireturn, 87, 0, 0, []), (162, 1, .aload_n 0, 88, 0, 0, []), (163, 3, .getfield 9, 89, 8, 1, [4027]), (166, 2, .bipush 32, 90, 0, 0, []), (168, 1, .dup2, 91, 0, 0, []), (169, 1, .iaload, 92, 0, 0, []), (170, 1, .iconst 1, 93, 0, 0, []), (171, 1, .iadd, 94, 0, 0, []), (172, 1, .iastore, 95, 0, 0, []), (173, 1, .aload_n 0, 96, 0, 0, []), (174, 3, .getfield 9, 97, 8, 1, [4027]), (177, 2, .bipush 37, 98, 0, 0, []), (179, 1, .aload_n 0, 99, 0, 0, []), (180, 3, .getfield 72, 100, 8, 5, [4031])]
def xo_128_2 : List XO := [(183, 1, .iastore, 101, 0, 0, []), (184, 1, .aload_n 0, 102, 0, 0, []), (185, 3, .getfield 72, 103, 8, 5, [4031]), (188, 1, .ireturn, 104, 0, 0, [])]
def xo_128 : List XO := xo_128_0 ++ xo_128_1 ++ xo_128_2
def xi_128 : XI := (⟨"StarchedCollarsModel", "town", "()I"⟩, prog_10_method_22_code, 2, some (FieldType.int), xo_128)
-- 129 StarchedCollarsModel.tellsOf(II)I maxLocals 3
def xo_129 : List XO := [(0, 1, .aload_n 0, 1, 0, 0, []), (1, 3, .getfield 9, 2, 8, 1, [4027]), (4, 2, .bipush 37, 3, 0, 0, []), (6, 1, .iaload, 4, 0, 0, []), (7, 1, .iconst (-1), 5, 0, 0, []), (8, 3, .if_icmp .ne 7, 6, 8, 0, []), (11, 1, .iload_n 2, 7, 0, 0, []), (12, 3, .goto 17, 8, 17, 0, []), (15, 1, .aload_n 0, 9, 0, 0, []), (16, 3, .getfield 9, 10, 8, 1, [4027]), (19, 1, .iload_n 1, 11, 0, 0, []), (20, 1, .aload_n 0, 12, 0, 0, []), (21, 3, .getfield 9, 13, 8, 1, [4027]), (24, 2, .bipush 37, 14, 0, 0, []), (26, 1, .iaload, 15, 0, 0, []), (27, 1, .iadd, 16, 0, 0, []), (28, 1, .iaload, 17, 0, 0, []), (29, 1, .ireturn, 18, 0, 0, [])]
def xi_129 : XI := (⟨"StarchedCollarsModel", "tellsOf", "(II)I"⟩, prog_10_method_23_code, 3, some (FieldType.int), xo_129)
-- 130 StarchedCollarsModel.countOf(I)I maxLocals 3
def xo_130 : List XO := [(0, 1, .iconst 0, 1, 0, 0, []), (1, 1, .istore_n 1, 2, 0, 0, []), (2, 1, .iconst 0, 3, 0, 0, []), (3, 1, .istore_n 2, 4, 0, 0, []), (4, 1, .iload_n 2, 5, 0, 0, []), (5, 2, .bipush 8, 6, 0, 0, []), (7, 3, .if_icmp .ge 17, 7, 17, 0, []), (10, 1, .iload_n 1, 8, 0, 0, []), (11, 1, .iload_n 0, 9, 0, 0, []), (12, 1, .iload_n 2, 10, 0, 0, []), (13, 1, .ishr, 11, 0, 0, []), (14, 1, .iconst 1, 12, 0, 0, []), (15, 1, .iand, 13, 0, 0, []), (16, 1, .iadd, 14, 0, 0, []), (17, 1, .istore_n 1, 15, 0, 0, []), (18, 3, .iinc 2 1, 16, 0, 0, []), (21, 3, .goto (-17), 17, 4, 0, []), (24, 1, .iload_n 1, 18, 0, 0, []), (25, 1, .ireturn, 19, 0, 0, [])]
def xi_130 : XI := (⟨"StarchedCollarsModel", "countOf", "(I)I"⟩, prog_10_method_24_code, 3, some (FieldType.int), xo_130)
-- 131 StarchedCollarsModel.sumOf(I)I maxLocals 11
def xo_131_0 : List XO := [(0, 1, .aload_n 0, 1, 0, 0, []), (1, 3, .getfield 21, 2, 8, 10, [4036]), (4, 1, .iconst 0, 3, 0, 0, []), (5, 1, .iload_n 1, 4, 0, 0, []), (6, 1, .iastore, 5, 0, 0, []), (7, 1, .aload_n 0, 6, 0, 0, []), (8, 3, .getfield 21, 7, 8, 10, [4036]), (11, 1, .iconst 1, 8, 0, 0, []), (12, 1, .aload_n 0, 9, 0, 0, []), (13, 3, .getfield 9, 10, 8, 1, [4027]), (16, 2, .bipush 38, 11, 0, 0, []), (18, 1, .iload_n 1, 12, 0, 0, []), (19, 1, .iadd, 13, 0, 0, []), (20, 1, .iaload, 14, 0, 0, []), (21, 1, .iastore, 15, 0, 0, []), (22, 1, .aload_n 0, 16, 0, 0, []), (23, 3, .getfield 21, 17, 8, 10, [4036]), (26, 1, .iconst 2, 18, 0, 0, []), (27, 1, .aload_n 0, 19, 0, 0, []), (28, 3, .getfield 9, 20, 8, 1, [4027]), (31, 2, .bipush 44, 21, 0, 0, []), (33, 1, .iload_n 1, 22, 0, 0, []), (34, 1, .iadd, 23, 0, 0, []), (35, 1, .iaload, 24, 0, 0, []), (36, 1, .iastore, 25, 0, 0, []), (37, 1, .aload_n 0, 26, 0, 0, []), (38, 3, .getfield 21, 27, 8, 10, [4036]), (41, 1, .iconst 3, 28, 0, 0, []), (42, 1, .aload_n 0, 29, 0, 0, []), (43, 3, .getfield 9, 30, 8, 1, [4027]), (46, 1, .iconst 1, 31, 0, 0, []), (47, 1, .iload_n 1, 32, 0, 0, []), (48, 1, .iadd, 33, 0, 0, []), (49, 1, .iaload, 34, 0, 0, []), (50, 3, .invokestatic 124, 35, 130, 1, [4179, 4180, 1009, 4181]), (53, 1, .iastore, 36, 0, 0, []), (54, 1, .aload_n 0, 37, 0, 0, []), (55, 3, .getfield 21, 38, 8, 10, [4036]), (58, 1, .iconst 4, 39, 0, 0, []), (59, 1, .aload_n 0, 40, 0, 0, []), (60, 3, .getfield 9, 41, 8, 1, [4027]), (63, 2, .bipush 7, 42, 0, 0, []), (65, 1, .iload_n 1, 43, 0, 0, []), (66, 1, .iadd, 44, 0, 0, []), (67, 1, .iaload, 45, 0, 0, []), (68, 2, .bipush 10, 46, 0, 0, []), (70, 1, .idiv, 47, 0, 0, []), (71, 1, .iastore, 48, 0, 0, []), (72, 1, .aload_n 0, 49, 0, 0, []), (73, 3, .getfield 21, 50, 8, 10, [4036])]
def xo_131_1 : List XO := [(76, 1, .iconst 5, 51, 0, 0, []), (77, 1, .aload_n 0, 52, 0, 0, []), (78, 3, .getfield 9, 53, 8, 1, [4027]), (81, 1, .iconst 0, 54, 0, 0, []), (82, 1, .iaload, 55, 0, 0, []), (83, 2, .bipush 10, 56, 0, 0, []), (85, 1, .irem, 57, 0, 0, []), (86, 1, .iastore, 58, 0, 0, []), (87, 1, .iconst 3, 59, 0, 0, []), (88, 1, .istore_n 2, 60, 0, 0, []), (89, 1, .aload_n 0, 61, 0, 0, []), (90, 3, .sipush 226, 62, 0, 0, []), (93, 1, .iconst 0, 63, 0, 0, []), (94, 3, .invokevirtual 128, 64, 129, 2, [4182, 4184, 42, 1009, 4185]), (97, 1, .istore_n 3, 65, 0, 0, []), (98, 3, .sipush 231, 66, 0, 0, []), (101, 3, .sipush 140, 67, 0, 0, []), (104, 1, .aload_n 0, 68, 0, 0, []), (105, 3, .getfield 9, 69, 8, 1, [4027]), (108, 2, .bipush 37, 70, 0, 0, []), (110, 1, .iaload, 71, 0, 0, []), (111, 1, .imul, 72, 0, 0, []), (112, 1, .iadd, 73, 0, 0, []), (113, 2, .istore 4, 74, 0, 0, []), (115, 1, .iconst 0, 75, 0, 0, []), (116, 2, .istore 5, 76, 0, 0, []), (118, 2, .iload 4, 77, 0, 0, []), (120, 2, .istore 6, 78, 0, 0, []), (122, 2, .iload 6, 79, 0, 0, []), (124, 2, .iload 4, 80, 0, 0, []), (126, 1, .iload_n 3, 81, 0, 0, []), (127, 1, .iadd, 82, 0, 0, []), (128, 3, .if_icmp .ge 300, 83, 238, 0, []), (131, 1, .aload_n 0, 84, 0, 0, []), (132, 3, .getfield 9, 85, 8, 1, [4027]), (135, 2, .iload 6, 86, 0, 0, []), (137, 1, .iaload, 87, 0, 0, []), (138, 2, .istore 7, 88, 0, 0, []), (140, 2, .iload 7, 89, 0, 0, []), (142, 3, .ifCond .lt 97, 90, 138, 0, []), (145, 1, .aload_n 0, 91, 0, 0, []), (146, 3, .getfield 21, 92, 8, 10, [4036]), (149, 2, .iload 7, 93, 0, 0, []), (151, 2, .bipush 8, 94, 0, 0, []), (153, 1, .irem, 95, 0, 0, []), (154, 1, .iaload, 96, 0, 0, []), (155, 2, .istore 8, 97, 0, 0, []), (157, 2, .iload 7, 98, 0, 0, []), (159, 2, .bipush 8, 99, 0, 0, []), (161, 1, .idiv, 100, 0, 0, [])]
def xo_131_2 : List XO := [(162, 1, .iconst 4, 101, 0, 0, []), (163, 1, .irem, 102, 0, 0, []), (164, 2, .istore 9, 103, 0, 0, []), (166, 2, .iload 7, 104, 0, 0, []), (168, 2, .bipush 32, 105, 0, 0, []), (170, 1, .idiv, 106, 0, 0, []), (171, 2, .istore 10, 107, 0, 0, []), (173, 1, .aload_n 0, 108, 0, 0, []), (174, 3, .getfield 24, 109, 8, 11, [4037]), (177, 2, .iload 5, 110, 0, 0, []), (179, 2, .iload 9, 111, 0, 0, []), (181, 3, .ifCond .ne 18, 112, 119, 0, []), (184, 2, .iload 8, 113, 0, 0, []), (186, 2, .iload 10, 114, 0, 0, []), (188, 3, .if_icmp .ge 7, 115, 117, 0, []), (191, 1, .iconst 1, 116, 0, 0, []), (192, 3, .goto 40, 117, 135, 0, []), (195, 1, .iconst 0, 118, 0, 0, []), (196, 3, .goto 36, 119, 135, 0, []), (199, 2, .iload 9, 120, 0, 0, []), (201, 1, .iconst 1, 121, 0, 0, []), (202, 3, .if_icmp .ne 18, 122, 129, 0, []), (205, 2, .iload 8, 123, 0, 0, []), (207, 2, .iload 10, 124, 0, 0, []), (209, 3, .if_icmp .ne 7, 125, 127, 0, []), (212, 1, .iconst 1, 126, 0, 0, []), (213, 3, .goto 19, 127, 135, 0, []), (216, 1, .iconst 0, 128, 0, 0, []), (217, 3, .goto 15, 129, 135, 0, []), (220, 2, .iload 8, 130, 0, 0, []), (222, 2, .iload 10, 131, 0, 0, []), (224, 3, .if_icmp .le 7, 132, 134, 0, []), (227, 1, .iconst 1, 133, 0, 0, []), (228, 3, .goto 4, 134, 135, 0, []), (231, 1, .iconst 0, 135, 0, 0, []), (232, 1, .bastore, 136, 0, 0, []), (233, 3, .iinc 5 1, 137, 0, 0, []), (236, 3, .goto 186, 138, 236, 0, []), (239, 2, .iload 7, 139, 0, 0, []), (241, 1, .iconst (-1), 140, 0, 0, []), (242, 3, .if_icmp .ne 32, 141, 158, 0, []), (245, 1, .aload_n 0, 142, 0, 0, []), (246, 3, .getfield 24, 143, 8, 11, [4037]), (249, 2, .iload 5, 144, 0, 0, []), (251, 1, .iconst 1, 145, 0, 0, []), (252, 1, .isub, 146, 0, 0, []), (253, 1, .aload_n 0, 147, 0, 0, []), (254, 3, .getfield 24, 148, 8, 11, [4037]), (257, 2, .iload 5, 149, 0, 0, []), (259, 1, .iconst 1, 150, 0, 0, [])]
def xo_131_3 : List XO := [(260, 1, .isub, 151, 0, 0, []), (261, 1, .baload, 152, 0, 0, []), (262, 3, .ifCond .ne 7, 153, 155, 0, []), (265, 1, .iconst 1, 154, 0, 0, []), (266, 3, .goto 4, 155, 156, 0, []), (269, 1, .iconst 0, 156, 0, 0, []), (270, 1, .bastore, 157, 0, 0, []), (271, 3, .goto 151, 158, 236, 0, []), (274, 2, .iload 7, 159, 0, 0, []), (276, 2, .bipush (-10), 160, 0, 0, []), (278, 3, .if_icmp .le 82, 161, 203, 0, []), (281, 3, .iinc 5 (-1), 162, 0, 0, []), (284, 1, .aload_n 0, 163, 0, 0, []), (285, 3, .getfield 24, 164, 8, 11, [4037]), (288, 2, .iload 5, 165, 0, 0, []), (290, 1, .iconst 1, 166, 0, 0, []), (291, 1, .isub, 167, 0, 0, []), (292, 2, .iload 7, 168, 0, 0, []), (294, 2, .bipush (-2), 169, 0, 0, []), (296, 3, .if_icmp .ne 33, 170, 186, 0, []), (299, 1, .aload_n 0, 171, 0, 0, []), (300, 3, .getfield 24, 172, 8, 11, [4037]), (303, 2, .iload 5, 173, 0, 0, []), (305, 1, .iconst 1, 174, 0, 0, []), (306, 1, .isub, 175, 0, 0, []), (307, 1, .baload, 176, 0, 0, []), (308, 3, .ifCond .eq 17, 177, 184, 0, []), (311, 1, .aload_n 0, 178, 0, 0, []), (312, 3, .getfield 24, 179, 8, 11, [4037]), (315, 2, .iload 5, 180, 0, 0, []), (317, 1, .baload, 181, 0, 0, []), (318, 3, .ifCond .eq 7, 182, 184, 0, []), (321, 1, .iconst 1, 183, 0, 0, []), (322, 3, .goto 34, 184, 201, 0, []), (325, 1, .iconst 0, 185, 0, 0, []), (326, 3, .goto 30, 186, 201, 0, []), (329, 1, .aload_n 0, 187, 0, 0, []), (330, 3, .getfield 24, 188, 8, 11, [4037]), (333, 2, .iload 5, 189, 0, 0, []), (335, 1, .iconst 1, 190, 0, 0, []), (336, 1, .isub, 191, 0, 0, []), (337, 1, .baload, 192, 0, 0, []), (338, 3, .ifCond .ne 13, 193, 198, 0, []), (341, 1, .aload_n 0, 194, 0, 0, []), (342, 3, .getfield 24, 195, 8, 11, [4037]), (345, 2, .iload 5, 196, 0, 0, []), (347, 1, .baload, 197, 0, 0, []), (348, 3, .ifCond .eq 7, 198, 200, 0, []), (351, 1, .iconst 1, 199, 0, 0, []), (352, 3, .goto 4, 200, 201, 0, [])]
def xo_131_4 : List XO := [(355, 1, .iconst 0, 201, 0, 0, []), (356, 1, .bastore, 202, 0, 0, []), (357, 3, .goto 65, 203, 236, 0, []), (360, 1, .iconst 0, 204, 0, 0, []), (361, 2, .istore 5, 205, 0, 0, []), (363, 1, .aload_n 0, 206, 0, 0, []), (364, 3, .getfield 24, 207, 8, 11, [4037]), (367, 1, .iconst 0, 208, 0, 0, []), (368, 1, .baload, 209, 0, 0, []), (369, 2, .istore 8, 210, 0, 0, []), (371, 1, .iload_n 2, 211, 0, 0, []), (372, 2, .iload 8, 212, 0, 0, []), (374, 3, .ifCond .eq 19, 213, 220, 0, []), (377, 2, .iload 7, 214, 0, 0, []), (379, 3, .sipush (-200), 215, 0, 0, []), (382, 3, .if_icmp .le 11, 216, 220, 0, []), (385, 2, .bipush (-10), 217, 0, 0, []), (387, 2, .iload 7, 218, 0, 0, []), (389, 1, .isub, 219, 0, 0, []), (390, 3, .goto 4, 220, 221, 0, []), (393, 1, .iconst 0, 221, 0, 0, []), (394, 1, .iadd, 222, 0, 0, []), (395, 1, .istore_n 2, 223, 0, 0, []), (396, 1, .iload_n 2, 224, 0, 0, []), (397, 2, .iload 8, 225, 0, 0, []), (399, 3, .ifCond .eq 20, 226, 233, 0, []), (402, 2, .iload 7, 227, 0, 0, []), (404, 3, .sipush (-200), 228, 0, 0, []), (407, 3, .if_icmp .gt 12, 229, 233, 0, []), (410, 3, .sipush (-200), 230, 0, 0, []), (413, 2, .iload 7, 231, 0, 0, []), (415, 1, .isub, 232, 0, 0, []), (416, 3, .goto 4, 233, 234, 0, []), (419, 1, .iconst 0, 234, 0, 0, []), (420, 1, .isub, 235, 0, 0, []), (421, 1, .istore_n 2, 236, 0, 0, []), (422, 3, .iinc 6 1, 237, 0, 0, []), (425, 3, .goto (-303), 238, 78, 0, []), (428, 1, .iload_n 2, 239, 0, 0, []), (429, 1, .ireturn, 240, 0, 0, [])]
def xo_131 : List XO := xo_131_0 ++ xo_131_1 ++ xo_131_2 ++ xo_131_3 ++ xo_131_4
def xi_131 : XI := (⟨"StarchedCollarsModel", "sumOf", "(I)I"⟩, prog_10_method_25_code, 11, some (FieldType.int), xo_131)
-- 132 StarchedCollarsModel.riseOf(I)I maxLocals 4
def xo_132_0 : List XO := [(0, 1, .aload_n 0, 1, 0, 0, []), (1, 1, .iload_n 1, 2, 0, 0, []), (2, 3, .invokevirtual 132, 3, 131, 1, [4175, 4177, 41, 1009, 4178]), (5, 1, .istore_n 2, 4, 0, 0, []), (6, 1, .iload_n 2, 5, 0, 0, []), (7, 1, .aload_n 0, 6, 0, 0, []), (8, 3, .getfield 9, 7, 8, 1, [4027]), (11, 1, .iconst 1, 8, 0, 0, []), (12, 1, .iload_n 1, 9, 0, 0, []), (13, 1, .iadd, 10, 0, 0, []), (14, 1, .iaload, 11, 0, 0, []), (15, 3, .invokestatic 124, 12, 130, 1, [4179, 4180, 1009, 4181]), (18, 1, .iadd, 13, 0, 0, []), (19, 1, .istore_n 3, 14, 0, 0, []), (20, 1, .aload_n 0, 15, 0, 0, []), (21, 3, .getfield 9, 16, 8, 1, [4027]), (24, 2, .bipush 38, 17, 0, 0, []), (26, 1, .iload_n 1, 18, 0, 0, []), (27, 1, .iadd, 19, 0, 0, []), (28, 1, .iaload, 20, 0, 0, []), (29, 39, .tableswitch 126 1 6 #[39, 51, 55, 57, 87, 101], 21, 0, 0, [86, 21, 30, 34, 36, 55, 66]), (68, 1, .iload_n 2, 22, 0, 0, []), (69, 1, .aload_n 0, 23, 0, 0, []), (70, 3, .getfield 9, 24, 8, 1, [4027]), (73, 2, .bipush 44, 25, 0, 0, []), (75, 1, .iload_n 1, 26, 0, 0, []), (76, 1, .iadd, 27, 0, 0, []), (77, 1, .iaload, 28, 0, 0, []), (78, 1, .iadd, 29, 0, 0, []), (79, 1, .ireturn, 30, 0, 0, []), (80, 1, .iload_n 2, 31, 0, 0, []), (81, 1, .iconst 2, 32, 0, 0, []), (82, 1, .idiv, 33, 0, 0, []), (83, 1, .ireturn, 34, 0, 0, []), (84, 1, .iload_n 3, 35, 0, 0, []), (85, 1, .ireturn, 36, 0, 0, []), (86, 1, .aload_n 0, 37, 0, 0, []), (87, 3, .getfield 9, 38, 8, 1, [4027]), (90, 2, .bipush 7, 39, 0, 0, []), (92, 1, .iload_n 1, 40, 0, 0, []), (93, 1, .iadd, 41, 0, 0, []), (94, 1, .iaload, 42, 0, 0, []), (95, 2, .bipush 60, 43, 0, 0, []), (97, 3, .if_icmp .lt 7, 44, 46, 0, []), (100, 1, .iconst 0, 45, 0, 0, []), (101, 3, .goto 14, 46, 54, 0, []), (104, 1, .iload_n 2, 47, 0, 0, []), (105, 1, .aload_n 0, 48, 0, 0, []), (106, 3, .getfield 9, 49, 8, 1, [4027]), (109, 2, .bipush 44, 50, 0, 0, [])]
def xo_132_1 : List XO := [(111, 1, .iload_n 1, 51, 0, 0, []), (112, 1, .iadd, 52, 0, 0, []), (113, 1, .iaload, 53, 0, 0, []), (114, 1, .iadd, 54, 0, 0, []), (115, 1, .ireturn, 55, 0, 0, []), (116, 1, .iload_n 2, 56, 0, 0, []), (117, 1, .iconst 2, 57, 0, 0, []), (118, 1, .idiv, 58, 0, 0, []), (119, 1, .aload_n 0, 59, 0, 0, []), (120, 3, .getfield 9, 60, 8, 1, [4027]), (123, 2, .bipush 44, 61, 0, 0, []), (125, 1, .iload_n 1, 62, 0, 0, []), (126, 1, .iadd, 63, 0, 0, []), (127, 1, .iaload, 64, 0, 0, []), (128, 1, .isub, 65, 0, 0, []), (129, 1, .ireturn, 66, 0, 0, []), (130, 1, .iload_n 3, 67, 0, 0, []), (131, 1, .aload_n 0, 68, 0, 0, []), (132, 3, .getfield 9, 69, 8, 1, [4027]), (135, 2, .bipush 50, 70, 0, 0, []), (137, 1, .iconst 4, 71, 0, 0, []), (138, 1, .iload_n 1, 72, 0, 0, []), (139, 1, .imul, 73, 0, 0, []), (140, 1, .iadd, 74, 0, 0, []), (141, 1, .aload_n 0, 75, 0, 0, []), (142, 3, .getfield 9, 76, 8, 1, [4027]), (145, 1, .iconst 0, 77, 0, 0, []), (146, 1, .iaload, 78, 0, 0, []), (147, 1, .iconst 4, 79, 0, 0, []), (148, 1, .irem, 80, 0, 0, []), (149, 1, .iadd, 81, 0, 0, []), (150, 1, .iaload, 82, 0, 0, []), (151, 1, .iadd, 83, 0, 0, []), (152, 1, .iconst 4, 84, 0, 0, []), (153, 1, .isub, 85, 0, 0, []), (154, 1, .ireturn, 86, 0, 0, []), (155, 1, .iload_n 2, 87, 0, 0, []), (156, 1, .ireturn, 88, 0, 0, [])]
def xo_132 : List XO := xo_132_0 ++ xo_132_1
def xi_132 : XI := (⟨"StarchedCollarsModel", "riseOf", "(I)I"⟩, prog_10_method_26_code, 4, some (FieldType.int), xo_132)
-- 133 StarchedCollarsModel.apartOf(II)I maxLocals 3
def xo_133 : List XO := [(0, 1, .aload_n 0, 1, 0, 0, []), (1, 3, .getfield 9, 2, 8, 1, [4027]), (4, 1, .iconst 1, 3, 0, 0, []), (5, 1, .iload_n 1, 4, 0, 0, []), (6, 1, .iadd, 5, 0, 0, []), (7, 1, .iaload, 6, 0, 0, []), (8, 1, .aload_n 0, 7, 0, 0, []), (9, 3, .getfield 9, 8, 8, 1, [4027]), (12, 1, .iconst 1, 9, 0, 0, []), (13, 1, .iload_n 2, 10, 0, 0, []), (14, 1, .iadd, 11, 0, 0, []), (15, 1, .iaload, 12, 0, 0, []), (16, 1, .ixor, 13, 0, 0, []), (17, 3, .invokestatic 124, 14, 130, 1, [4179, 4180, 1009, 4181]), (20, 1, .ireturn, 15, 0, 0, [])]
def xi_133 : XI := (⟨"StarchedCollarsModel", "apartOf", "(II)I"⟩, prog_10_method_27_code, 3, some (FieldType.int), xo_133)
-- 134 StarchedCollarsModel.doesSee(II)Z maxLocals 5
def xo_134 : List XO := [(0, 1, .aload_n 0, 1, 0, 0, []), (1, 3, .getfield 9, 2, 8, 1, [4027]), (4, 2, .bipush 25, 3, 0, 0, []), (6, 1, .iload_n 1, 4, 0, 0, []), (7, 1, .iadd, 5, 0, 0, []), (8, 1, .iaload, 6, 0, 0, []), (9, 1, .aload_n 0, 7, 0, 0, []), (10, 3, .getfield 9, 8, 8, 1, [4027]), (13, 2, .bipush 25, 9, 0, 0, []), (15, 1, .iload_n 2, 10, 0, 0, []), (16, 1, .iadd, 11, 0, 0, []), (17, 1, .iaload, 12, 0, 0, []), (18, 1, .isub, 13, 0, 0, []), (19, 1, .istore_n 3, 14, 0, 0, []), (20, 2, .bipush 9, 15, 0, 0, []), (22, 1, .aload_n 0, 16, 0, 0, []), (23, 3, .getfield 9, 17, 8, 1, [4027]), (26, 2, .bipush 7, 18, 0, 0, []), (28, 1, .iload_n 1, 19, 0, 0, []), (29, 1, .iadd, 20, 0, 0, []), (30, 1, .iaload, 21, 0, 0, []), (31, 2, .bipush 10, 22, 0, 0, []), (33, 1, .idiv, 23, 0, 0, []), (34, 1, .isub, 24, 0, 0, []), (35, 2, .istore 4, 25, 0, 0, []), (37, 1, .iload_n 1, 26, 0, 0, []), (38, 1, .iload_n 2, 27, 0, 0, []), (39, 3, .if_icmp .eq 44, 28, 51, 0, []), (42, 1, .aload_n 0, 29, 0, 0, []), (43, 3, .getfield 9, 30, 8, 1, [4027]), (46, 2, .bipush 19, 31, 0, 0, []), (48, 1, .iload_n 1, 32, 0, 0, []), (49, 1, .iadd, 33, 0, 0, []), (50, 1, .iaload, 34, 0, 0, []), (51, 3, .ifCond .ne 32, 35, 51, 0, []), (54, 1, .aload_n 0, 36, 0, 0, []), (55, 3, .getfield 9, 37, 8, 1, [4027]), (58, 2, .bipush 19, 38, 0, 0, []), (60, 1, .iload_n 2, 39, 0, 0, []), (61, 1, .iadd, 40, 0, 0, []), (62, 1, .iaload, 41, 0, 0, []), (63, 3, .ifCond .ne 20, 42, 51, 0, []), (66, 1, .iload_n 3, 43, 0, 0, []), (67, 2, .iload 4, 44, 0, 0, []), (69, 3, .if_icmp .gt 14, 45, 51, 0, []), (72, 1, .iload_n 3, 46, 0, 0, []), (73, 1, .ineg, 47, 0, 0, []), (74, 2, .iload 4, 48, 0, 0, []), (76, 3, .if_icmp .gt 7, 49, 51, 0, []), (79, 1, .iconst 1, 50, 0, 0, []), (80, 3, .goto 4, 51, 52, 0, []), (83, 1, .iconst 0, 52, 0, 0, []), (84, 1, .ireturn, 53, 0, 0, [])]
def xi_134 : XI := (⟨"StarchedCollarsModel", "doesSee", "(II)Z"⟩, prog_10_method_28_code, 5, some (FieldType.boolean), xo_134)
-- 135 StarchedCollarsModel.seenBy(I)I maxLocals 4
def xo_135 : List XO := [(0, 1, .iconst 0, 1, 0, 0, []), (1, 1, .istore_n 2, 2, 0, 0, []), (2, 1, .iconst 0, 3, 0, 0, []), (3, 1, .istore_n 3, 4, 0, 0, []), (4, 1, .iload_n 3, 5, 0, 0, []), (5, 1, .aload_n 0, 6, 0, 0, []), (6, 3, .getfield 9, 7, 8, 1, [4027]), (9, 2, .bipush 31, 8, 0, 0, []), (11, 1, .iaload, 9, 0, 0, []), (12, 3, .if_icmp .ge 28, 10, 25, 0, []), (15, 1, .iload_n 2, 11, 0, 0, []), (16, 1, .aload_n 0, 12, 0, 0, []), (17, 1, .iload_n 1, 13, 0, 0, []), (18, 1, .iload_n 3, 14, 0, 0, []), (19, 3, .invokevirtual 135, 15, 134, 2, [4190, 4192, 44, 1009, 4193]), (22, 3, .ifCond .eq 9, 16, 20, 0, []), (25, 1, .iconst 1, 17, 0, 0, []), (26, 1, .iload_n 3, 18, 0, 0, []), (27, 1, .ishl, 19, 0, 0, []), (28, 3, .goto 4, 20, 21, 0, []), (31, 1, .iconst 0, 21, 0, 0, []), (32, 1, .ior, 22, 0, 0, []), (33, 1, .istore_n 2, 23, 0, 0, []), (34, 3, .iinc 3 1, 24, 0, 0, []), (37, 3, .goto (-33), 25, 4, 0, []), (40, 1, .iload_n 2, 26, 0, 0, []), (41, 1, .ireturn, 27, 0, 0, [])]
def xi_135 : XI := (⟨"StarchedCollarsModel", "seenBy", "(I)I"⟩, prog_10_method_29_code, 4, some (FieldType.int), xo_135)
-- 136 StarchedCollarsModel.benchOf(I)I maxLocals 6
def xo_136 : List XO := [(0, 1, .aload_n 0, 1, 0, 0, []), (1, 3, .invokevirtual 139, 2, 112, 0, [4198, 4200, 46, 1009, 4201]), (4, 1, .iconst 0, 3, 0, 0, []), (5, 1, .istore_n 2, 4, 0, 0, []), (6, 1, .iconst (-1), 5, 0, 0, []), (7, 1, .istore_n 3, 6, 0, 0, []), (8, 1, .iconst 0, 7, 0, 0, []), (9, 2, .istore 4, 8, 0, 0, []), (11, 2, .iload 4, 9, 0, 0, []), (13, 2, .bipush 10, 10, 0, 0, []), (15, 3, .if_icmp .ge 56, 11, 39, 0, []), (18, 1, .aload_n 0, 12, 0, 0, []), (19, 3, .getfield 9, 13, 8, 1, [4027]), (22, 2, .bipush 25, 14, 0, 0, []), (24, 1, .iload_n 1, 15, 0, 0, []), (25, 1, .iadd, 16, 0, 0, []), (26, 2, .iload 4, 17, 0, 0, []), (28, 1, .iastore, 18, 0, 0, []), (29, 1, .aload_n 0, 19, 0, 0, []), (30, 1, .iload_n 1, 20, 0, 0, []), (31, 3, .invokevirtual 142, 21, 135, 1, [4186, 4188, 43, 1009, 4189]), (34, 3, .invokestatic 124, 22, 130, 1, [4179, 4180, 1009, 4181]), (37, 2, .istore 5, 23, 0, 0, []), (39, 2, .iload 5, 24, 0, 0, []), (41, 1, .iload_n 3, 25, 0, 0, []), (42, 3, .if_icmp .le 8, 26, 28, 0, []), (45, 2, .iload 4, 27, 0, 0, []), (47, 3, .goto 4, 28, 29, 0, []), (50, 1, .iload_n 2, 29, 0, 0, []), (51, 1, .istore_n 2, 30, 0, 0, []), (52, 2, .iload 5, 31, 0, 0, []), (54, 1, .iload_n 3, 32, 0, 0, []), (55, 3, .if_icmp .le 8, 33, 35, 0, []), (58, 2, .iload 5, 34, 0, 0, []), (60, 3, .goto 4, 35, 36, 0, []), (63, 1, .iload_n 3, 36, 0, 0, []), (64, 1, .istore_n 3, 37, 0, 0, []), (65, 3, .iinc 4 1, 38, 0, 0, []), (68, 3, .goto (-57), 39, 8, 0, []), (71, 1, .aload_n 0, 40, 0, 0, []), (72, 3, .invokevirtual 145, 41, 113, 0, [4202, 4204, 47, 1009, 4205]), (75, 1, .iload_n 2, 42, 0, 0, []), (76, 1, .ireturn, 43, 0, 0, [])]
def xi_136 : XI := (⟨"StarchedCollarsModel", "benchOf", "(I)I"⟩, prog_10_method_30_code, 6, some (FieldType.int), xo_136)
-- 137 StarchedCollarsModel.becomes(II)I maxLocals 4
def xo_137 : List XO := [(0, 1, .aload_n 0, 1, 0, 0, []), (1, 3, .getfield 9, 2, 8, 1, [4027]), (4, 1, .iload_n 1, 3, 0, 0, []), (5, 1, .iaload, 4, 0, 0, []), (6, 1, .istore_n 3, 5, 0, 0, []), (7, 1, .aload_n 0, 6, 0, 0, []), (8, 3, .getfield 9, 7, 8, 1, [4027]), (11, 1, .iload_n 1, 8, 0, 0, []), (12, 1, .iload_n 2, 9, 0, 0, []), (13, 1, .iastore, 10, 0, 0, []), (14, 1, .iload_n 3, 11, 0, 0, []), (15, 1, .ireturn, 12, 0, 0, [])]
def xi_137 : XI := (⟨"StarchedCollarsModel", "becomes", "(II)I"⟩, prog_10_method_31_code, 4, some (FieldType.int), xo_137)
-- 138 StarchedCollarsModel.man(IIII)I maxLocals 7
def xo_138_0 : List XO := [(0, 1, .iload_n 1, 1, 0, 0, []), (1, 1, .iconst 0, 2, 0, 0, []), (2, 2, .bipush 6, 3, 0, 0, []), (4, 3, .invokestatic 41, 4, 109, 3, [4092, 4093, 1009, 4094]), (7, 3, .ifCond .eq 13, 5, 10, 0, []), (10, 1, .iload_n 3, 6, 0, 0, []), (11, 1, .iconst 0, 7, 0, 0, []), (12, 2, .bipush 9, 8, 0, 0, []), (14, 3, .invokestatic 41, 9, 109, 3, [4092, 4093, 1009, 4094]), (17, 3, .ifCond .ne 5, 10, 12, 0, []), (20, 1, .iconst (-1), 11, 0, 0, []), (21, 1, .ireturn, 12, 0, 0, []), (22, 1, .iload_n 2, 13, 0, 0, []), (23, 1, .iconst 0, 14, 0, 0, []), (24, 2, .bipush 9, 15, 0, 0, []), (26, 3, .invokestatic 41, 16, 109, 3, [4092, 4093, 1009, 4094]), (29, 3, .ifCond .eq 15, 17, 22, 0, []), (32, 2, .iload 4, 18, 0, 0, []), (34, 1, .iconst 0, 19, 0, 0, []), (35, 3, .sipush 255, 20, 0, 0, []), (38, 3, .invokestatic 41, 21, 109, 3, [4092, 4093, 1009, 4094]), (41, 3, .ifCond .ne 6, 22, 24, 0, []), (44, 2, .bipush (-2), 23, 0, 0, []), (46, 1, .ireturn, 24, 0, 0, []), (47, 1, .aload_n 0, 25, 0, 0, []), (48, 3, .getfield 9, 26, 8, 1, [4027]), (51, 2, .bipush 31, 27, 0, 0, []), (53, 1, .iaload, 28, 0, 0, []), (54, 2, .bipush 6, 29, 0, 0, []), (56, 3, .if_icmp .ne 6, 30, 32, 0, []), (59, 2, .bipush (-4), 31, 0, 0, []), (61, 1, .ireturn, 32, 0, 0, []), (62, 1, .aload_n 0, 33, 0, 0, []), (63, 3, .getfield 9, 34, 8, 1, [4027]), (66, 2, .bipush 31, 35, 0, 0, []), (68, 1, .iaload, 36, 0, 0, []), (69, 2, .istore 5, 37, 0, 0, []), (71, 1, .aload_n 0, 38, 0, 0, []), (72, 3, .getfield 9, 39, 8, 1, [4027]), (75, 2, .bipush 38, 40, 0, 0, []), (77, 2, .iload 5, 41, 0, 0, []), (79, 1, .iadd, 42, 0, 0, []), (80, 1, .iload_n 1, 43, 0, 0, []), (81, 1, .iastore, 44, 0, 0, []), (82, 1, .aload_n 0, 45, 0, 0, []), (83, 3, .getfield 9, 46, 8, 1, [4027]), (86, 2, .bipush 44, 47, 0, 0, []), (88, 2, .iload 5, 48, 0, 0, []), (90, 1, .iadd, 49, 0, 0, []), (91, 1, .iload_n 2, 50, 0, 0, [])]
def xo_138_1 : List XO := [(92, 1, .iastore, 51, 0, 0, []), (93, 1, .aload_n 0, 52, 0, 0, []), (94, 3, .getfield 9, 53, 8, 1, [4027]), (97, 2, .bipush 25, 54, 0, 0, []), (99, 2, .iload 5, 55, 0, 0, []), (101, 1, .iadd, 56, 0, 0, []), (102, 1, .iload_n 3, 57, 0, 0, []), (103, 1, .iastore, 58, 0, 0, []), (104, 1, .aload_n 0, 59, 0, 0, []), (105, 3, .getfield 9, 60, 8, 1, [4027]), (108, 1, .iconst 1, 61, 0, 0, []), (109, 2, .iload 5, 62, 0, 0, []), (111, 1, .iadd, 63, 0, 0, []), (112, 2, .iload 4, 64, 0, 0, []), (114, 1, .iastore, 65, 0, 0, []), (115, 1, .aload_n 0, 66, 0, 0, []), (116, 3, .getfield 9, 67, 8, 1, [4027]), (119, 2, .bipush 7, 68, 0, 0, []), (121, 2, .iload 5, 69, 0, 0, []), (123, 1, .iadd, 70, 0, 0, []), (124, 1, .iconst 0, 71, 0, 0, []), (125, 1, .iastore, 72, 0, 0, []), (126, 1, .aload_n 0, 73, 0, 0, []), (127, 3, .getfield 9, 74, 8, 1, [4027]), (130, 2, .bipush 13, 75, 0, 0, []), (132, 2, .iload 5, 76, 0, 0, []), (134, 1, .iadd, 77, 0, 0, []), (135, 1, .iconst 0, 78, 0, 0, []), (136, 1, .iastore, 79, 0, 0, []), (137, 1, .aload_n 0, 80, 0, 0, []), (138, 3, .getfield 9, 81, 8, 1, [4027]), (141, 2, .bipush 19, 82, 0, 0, []), (143, 2, .iload 5, 83, 0, 0, []), (145, 1, .iadd, 84, 0, 0, []), (146, 1, .iconst 0, 85, 0, 0, []), (147, 1, .iastore, 86, 0, 0, []), (148, 1, .iconst 0, 87, 0, 0, []), (149, 2, .istore 6, 88, 0, 0, []), (151, 2, .iload 6, 89, 0, 0, []), (153, 1, .iconst 4, 90, 0, 0, []), (154, 3, .if_icmp .ge 25, 91, 104, 0, []), (157, 1, .aload_n 0, 92, 0, 0, []), (158, 3, .getfield 9, 93, 8, 1, [4027]), (161, 2, .bipush 50, 94, 0, 0, []), (163, 1, .iconst 4, 95, 0, 0, []), (164, 2, .iload 5, 96, 0, 0, []), (166, 1, .imul, 97, 0, 0, []), (167, 1, .iadd, 98, 0, 0, []), (168, 2, .iload 6, 99, 0, 0, []), (170, 1, .iadd, 100, 0, 0, [])]
def xo_138_2 : List XO := [(171, 1, .iconst 0, 101, 0, 0, []), (172, 1, .iastore, 102, 0, 0, []), (173, 3, .iinc 6 1, 103, 0, 0, []), (176, 3, .goto (-25), 104, 88, 0, []), (179, 1, .aload_n 0, 105, 0, 0, []), (180, 3, .getfield 9, 106, 8, 1, [4027]), (183, 2, .bipush 31, 107, 0, 0, []), (185, 1, .dup2, 108, 0, 0, []), (186, 1, .iaload, 109, 0, 0, []), (187, 1, .iconst 1, 110, 0, 0, []), (188, 1, .iadd, 111, 0, 0, []), (189, 1, .iastore, 112, 0, 0, []), (190, 2, .iload 5, 113, 0, 0, []), (192, 1, .ireturn, 114, 0, 0, [])]
def xo_138 : List XO := xo_138_0 ++ xo_138_1 ++ xo_138_2
def xi_138 : XI := (⟨"StarchedCollarsModel", "man", "(IIII)I"⟩, prog_10_method_32_code, 7, some (FieldType.int), xo_138)
-- 139 StarchedCollarsModel.of(II)I maxLocals 3
def xo_139_0 : List XO := [(0, 1, .aload_n 0, 1, 0, 0, []), (1, 1, .iload_n 1, 2, 0, 0, []), (2, 3, .invokevirtual 148, 3, 110, 1, [4166, 4168, 39, 1009, 4169]), (5, 3, .ifCond .ne 6, 4, 6, 0, []), (8, 2, .ldc 152, 5, 5, 2, [4170]), (10, 1, .ireturn, 6, 0, 0, []), (11, 1, .iload_n 2, 7, 0, 0, []), (12, 56, .tableswitch 143 0 9 #[56, 66, 76, 86, 95, 105, 115, 125, 131, 137], 8, 0, 0, [69, 8, 15, 22, 29, 36, 43, 50, 57, 61, 65]), (68, 1, .aload_n 0, 9, 0, 0, []), (69, 3, .getfield 9, 10, 8, 1, [4027]), (72, 2, .bipush 38, 11, 0, 0, []), (74, 1, .iload_n 1, 12, 0, 0, []), (75, 1, .iadd, 13, 0, 0, []), (76, 1, .iaload, 14, 0, 0, []), (77, 1, .ireturn, 15, 0, 0, []), (78, 1, .aload_n 0, 16, 0, 0, []), (79, 3, .getfield 9, 17, 8, 1, [4027]), (82, 2, .bipush 44, 18, 0, 0, []), (84, 1, .iload_n 1, 19, 0, 0, []), (85, 1, .iadd, 20, 0, 0, []), (86, 1, .iaload, 21, 0, 0, []), (87, 1, .ireturn, 22, 0, 0, []), (88, 1, .aload_n 0, 23, 0, 0, []), (89, 3, .getfield 9, 24, 8, 1, [4027]), (92, 2, .bipush 25, 25, 0, 0, []), (94, 1, .iload_n 1, 26, 0, 0, []), (95, 1, .iadd, 27, 0, 0, []), (96, 1, .iaload, 28, 0, 0, []), (97, 1, .ireturn, 29, 0, 0, []), (98, 1, .aload_n 0, 30, 0, 0, []), (99, 3, .getfield 9, 31, 8, 1, [4027]), (102, 1, .iconst 1, 32, 0, 0, []), (103, 1, .iload_n 1, 33, 0, 0, []), (104, 1, .iadd, 34, 0, 0, []), (105, 1, .iaload, 35, 0, 0, []), (106, 1, .ireturn, 36, 0, 0, []), (107, 1, .aload_n 0, 37, 0, 0, []), (108, 3, .getfield 9, 38, 8, 1, [4027]), (111, 2, .bipush 7, 39, 0, 0, []), (113, 1, .iload_n 1, 40, 0, 0, []), (114, 1, .iadd, 41, 0, 0, []), (115, 1, .iaload, 42, 0, 0, []), (116, 1, .ireturn, 43, 0, 0, []), (117, 1, .aload_n 0, 44, 0, 0, []), (118, 3, .getfield 9, 45, 8, 1, [4027]), (121, 2, .bipush 13, 46, 0, 0, []), (123, 1, .iload_n 1, 47, 0, 0, []), (124, 1, .iadd, 48, 0, 0, []), (125, 1, .iaload, 49, 0, 0, []), (126, 1, .ireturn, 50, 0, 0, [])]
def xo_139_1 : List XO := [(127, 1, .aload_n 0, 51, 0, 0, []), (128, 3, .getfield 9, 52, 8, 1, [4027]), (131, 2, .bipush 19, 53, 0, 0, []), (133, 1, .iload_n 1, 54, 0, 0, []), (134, 1, .iadd, 55, 0, 0, []), (135, 1, .iaload, 56, 0, 0, []), (136, 1, .ireturn, 57, 0, 0, []), (137, 1, .aload_n 0, 58, 0, 0, []), (138, 1, .iload_n 1, 59, 0, 0, []), (139, 3, .invokevirtual 153, 60, 132, 1, [4171, 4173, 40, 1009, 4174]), (142, 1, .ireturn, 61, 0, 0, []), (143, 1, .aload_n 0, 62, 0, 0, []), (144, 1, .iload_n 1, 63, 0, 0, []), (145, 3, .invokevirtual 142, 64, 135, 1, [4186, 4188, 43, 1009, 4189]), (148, 1, .ireturn, 65, 0, 0, []), (149, 1, .aload_n 0, 66, 0, 0, []), (150, 1, .iload_n 1, 67, 0, 0, []), (151, 3, .invokevirtual 156, 68, 136, 1, [4194, 4196, 45, 1009, 4197]), (154, 1, .ireturn, 69, 0, 0, []), (155, 2, .ldc 152, 70, 5, 2, [4170]), (157, 1, .ireturn, 71, 0, 0, [])]
def xo_139 : List XO := xo_139_0 ++ xo_139_1
def xi_139 : XI := (⟨"StarchedCollarsModel", "of", "(II)I"⟩, prog_10_method_33_code, 3, some (FieldType.int), xo_139)
-- 140 StarchedCollarsModel.row(III)I maxLocals 4
def xo_140 : List XO := [(0, 1, .aload_n 0, 1, 0, 0, []), (1, 1, .iload_n 1, 2, 0, 0, []), (2, 3, .invokevirtual 148, 3, 110, 1, [4166, 4168, 39, 1009, 4169]), (5, 3, .ifCond .eq 12, 4, 9, 0, []), (8, 1, .iload_n 2, 5, 0, 0, []), (9, 1, .iconst 0, 6, 0, 0, []), (10, 1, .iconst 3, 7, 0, 0, []), (11, 3, .invokestatic 41, 8, 109, 3, [4092, 4093, 1009, 4094]), (14, 3, .ifCond .ne 5, 9, 11, 0, []), (17, 1, .iconst (-1), 10, 0, 0, []), (18, 1, .ireturn, 11, 0, 0, []), (19, 1, .iload_n 3, 12, 0, 0, []), (20, 1, .iconst 0, 13, 0, 0, []), (21, 2, .bipush 9, 14, 0, 0, []), (23, 3, .invokestatic 41, 15, 109, 3, [4092, 4093, 1009, 4094]), (26, 3, .ifCond .ne 6, 16, 18, 0, []), (29, 2, .bipush (-2), 17, 0, 0, []), (31, 1, .ireturn, 18, 0, 0, []), (32, 1, .aload_n 0, 19, 0, 0, []), (33, 3, .getfield 9, 20, 8, 1, [4027]), (36, 2, .bipush 38, 21, 0, 0, []), (38, 1, .iload_n 1, 22, 0, 0, []), (39, 1, .iadd, 23, 0, 0, []), (40, 1, .iaload, 24, 0, 0, []), (41, 2, .bipush 6, 25, 0, 0, []), (43, 3, .if_icmp .ne 19, 26, 37, 0, []), (46, 1, .aload_n 0, 27, 0, 0, []), (47, 2, .bipush 50, 28, 0, 0, []), (49, 1, .iconst 4, 29, 0, 0, []), (50, 1, .iload_n 1, 30, 0, 0, []), (51, 1, .imul, 31, 0, 0, []), (52, 1, .iadd, 32, 0, 0, []), (53, 1, .iload_n 2, 33, 0, 0, []), (54, 1, .iadd, 34, 0, 0, []), (55, 1, .iload_n 3, 35, 0, 0, []), (56, 3, .invokevirtual 159, 36, 137, 2, [4210, 4212, 48, 1009, 4213]), (59, 3, .goto 5, 37, 38, 0, []), (62, 2, .bipush (-3), 38, 0, 0, []), (64, 1, .ireturn, 39, 0, 0, [])]
def xi_140 : XI := (⟨"StarchedCollarsModel", "row", "(III)I"⟩, prog_10_method_34_code, 4, some (FieldType.int), xo_140)
-- 141 StarchedCollarsModel.set(III)I maxLocals 4
def xo_141 : List XO := [(0, 1, .aload_n 0, 1, 0, 0, []), (1, 1, .iload_n 1, 2, 0, 0, []), (2, 3, .invokevirtual 148, 3, 110, 1, [4166, 4168, 39, 1009, 4169]), (5, 3, .ifCond .eq 12, 4, 9, 0, []), (8, 1, .iload_n 2, 5, 0, 0, []), (9, 1, .iconst 0, 6, 0, 0, []), (10, 1, .iconst 2, 7, 0, 0, []), (11, 3, .invokestatic 41, 8, 109, 3, [4092, 4093, 1009, 4094]), (14, 3, .ifCond .ne 5, 9, 11, 0, []), (17, 1, .iconst (-1), 10, 0, 0, []), (18, 1, .ireturn, 11, 0, 0, []), (19, 1, .iload_n 3, 12, 0, 0, []), (20, 1, .iconst 0, 13, 0, 0, []), (21, 1, .iload_n 2, 14, 0, 0, []), (22, 3, .ifCond .ne 8, 15, 17, 0, []), (25, 2, .bipush 9, 16, 0, 0, []), (27, 3, .goto 16, 17, 23, 0, []), (30, 1, .iload_n 2, 18, 0, 0, []), (31, 1, .iconst 1, 19, 0, 0, []), (32, 3, .if_icmp .ne 9, 20, 22, 0, []), (35, 3, .sipush 255, 21, 0, 0, []), (38, 3, .goto 5, 22, 23, 0, []), (41, 2, .bipush 99, 23, 0, 0, []), (43, 3, .invokestatic 41, 24, 109, 3, [4092, 4093, 1009, 4094]), (46, 3, .ifCond .ne 6, 25, 27, 0, []), (49, 2, .bipush (-2), 26, 0, 0, []), (51, 1, .ireturn, 27, 0, 0, []), (52, 1, .aload_n 0, 28, 0, 0, []), (53, 1, .iload_n 2, 29, 0, 0, []), (54, 3, .ifCond .ne 8, 30, 32, 0, []), (57, 2, .bipush 25, 31, 0, 0, []), (59, 3, .goto 14, 32, 38, 0, []), (62, 1, .iload_n 2, 33, 0, 0, []), (63, 1, .iconst 1, 34, 0, 0, []), (64, 3, .if_icmp .ne 7, 35, 37, 0, []), (67, 1, .iconst 1, 36, 0, 0, []), (68, 3, .goto 5, 37, 38, 0, []), (71, 2, .bipush 7, 38, 0, 0, []), (73, 1, .iload_n 1, 39, 0, 0, []), (74, 1, .iadd, 40, 0, 0, []), (75, 1, .iload_n 3, 41, 0, 0, []), (76, 3, .invokevirtual 159, 42, 137, 2, [4210, 4212, 48, 1009, 4213]), (79, 1, .ireturn, 43, 0, 0, [])]
def xi_141 : XI := (⟨"StarchedCollarsModel", "set", "(III)I"⟩, prog_10_method_35_code, 4, some (FieldType.int), xo_141)
-- 142 StarchedCollarsModel.stud(IZ)I maxLocals 3
def xo_142 : List XO := [(0, 1, .aload_n 0, 1, 0, 0, []), (1, 1, .iload_n 1, 2, 0, 0, []), (2, 3, .invokevirtual 148, 3, 110, 1, [4166, 4168, 39, 1009, 4169]), (5, 3, .ifCond .eq 23, 4, 15, 0, []), (8, 1, .aload_n 0, 5, 0, 0, []), (9, 2, .bipush 13, 6, 0, 0, []), (11, 1, .iload_n 1, 7, 0, 0, []), (12, 1, .iadd, 8, 0, 0, []), (13, 1, .iload_n 2, 9, 0, 0, []), (14, 3, .ifCond .eq 7, 10, 12, 0, []), (17, 1, .iconst 1, 11, 0, 0, []), (18, 3, .goto 4, 12, 13, 0, []), (21, 1, .iconst 0, 13, 0, 0, []), (22, 3, .invokevirtual 159, 14, 137, 2, [4210, 4212, 48, 1009, 4213]), (25, 3, .goto 4, 15, 16, 0, []), (28, 1, .iconst (-1), 16, 0, 0, []), (29, 1, .ireturn, 17, 0, 0, [])]
def xi_142 : XI := (⟨"StarchedCollarsModel", "stud", "(IZ)I"⟩, prog_10_method_36_code, 3, some (FieldType.int), xo_142)
-- 143 StarchedCollarsModel.away(IZ)I maxLocals 3
def xo_143 : List XO := [(0, 1, .aload_n 0, 1, 0, 0, []), (1, 1, .iload_n 1, 2, 0, 0, []), (2, 3, .invokevirtual 148, 3, 110, 1, [4166, 4168, 39, 1009, 4169]), (5, 3, .ifCond .eq 23, 4, 15, 0, []), (8, 1, .aload_n 0, 5, 0, 0, []), (9, 2, .bipush 19, 6, 0, 0, []), (11, 1, .iload_n 1, 7, 0, 0, []), (12, 1, .iadd, 8, 0, 0, []), (13, 1, .iload_n 2, 9, 0, 0, []), (14, 3, .ifCond .eq 7, 10, 12, 0, []), (17, 1, .iconst 1, 11, 0, 0, []), (18, 3, .goto 4, 12, 13, 0, []), (21, 1, .iconst 0, 13, 0, 0, []), (22, 3, .invokevirtual 159, 14, 137, 2, [4210, 4212, 48, 1009, 4213]), (25, 3, .goto 4, 15, 16, 0, []), (28, 1, .iconst (-1), 16, 0, 0, []), (29, 1, .ireturn, 17, 0, 0, [])]
def xi_143 : XI := (⟨"StarchedCollarsModel", "away", "(IZ)I"⟩, prog_10_method_37_code, 3, some (FieldType.int), xo_143)
-- 144 StarchedCollarsModel.apart(II)I maxLocals 3
def xo_144 : List XO := [(0, 1, .aload_n 0, 1, 0, 0, []), (1, 1, .iload_n 1, 2, 0, 0, []), (2, 3, .invokevirtual 148, 3, 110, 1, [4166, 4168, 39, 1009, 4169]), (5, 3, .ifCond .eq 11, 4, 8, 0, []), (8, 1, .aload_n 0, 5, 0, 0, []), (9, 1, .iload_n 2, 6, 0, 0, []), (10, 3, .invokevirtual 148, 7, 110, 1, [4166, 4168, 39, 1009, 4169]), (13, 3, .ifCond .ne 5, 8, 10, 0, []), (16, 1, .iconst (-1), 9, 0, 0, []), (17, 1, .ireturn, 10, 0, 0, []), (18, 1, .iload_n 1, 11, 0, 0, []), (19, 1, .iload_n 2, 12, 0, 0, []), (20, 3, .if_icmp .ne 8, 13, 15, 0, []), (23, 2, .bipush (-2), 14, 0, 0, []), (25, 3, .goto 9, 15, 19, 0, []), (28, 1, .aload_n 0, 16, 0, 0, []), (29, 1, .iload_n 1, 17, 0, 0, []), (30, 1, .iload_n 2, 18, 0, 0, []), (31, 3, .invokevirtual 162, 19, 133, 2, [4230, 4232, 49, 1009, 4233]), (34, 1, .ireturn, 20, 0, 0, [])]
def xi_144 : XI := (⟨"StarchedCollarsModel", "apart", "(II)I"⟩, prog_10_method_38_code, 3, some (FieldType.int), xo_144)
-- 145 StarchedCollarsModel.ones(I)I maxLocals 4
def xo_145 : List XO := [(0, 1, .iconst 0, 1, 0, 0, []), (1, 1, .istore_n 2, 2, 0, 0, []), (2, 1, .iconst 0, 3, 0, 0, []), (3, 1, .istore_n 3, 4, 0, 0, []), (4, 1, .iload_n 3, 5, 0, 0, []), (5, 1, .aload_n 0, 6, 0, 0, []), (6, 3, .getfield 9, 7, 8, 1, [4027]), (9, 2, .bipush 31, 8, 0, 0, []), (11, 1, .iaload, 9, 0, 0, []), (12, 3, .if_icmp .ge 22, 10, 23, 0, []), (15, 1, .iload_n 2, 11, 0, 0, []), (16, 1, .aload_n 0, 12, 0, 0, []), (17, 3, .getfield 9, 13, 8, 1, [4027]), (20, 1, .iload_n 1, 14, 0, 0, []), (21, 1, .iload_n 3, 15, 0, 0, []), (22, 1, .iadd, 16, 0, 0, []), (23, 1, .iaload, 17, 0, 0, []), (24, 1, .iload_n 3, 18, 0, 0, []), (25, 1, .ishl, 19, 0, 0, []), (26, 1, .ior, 20, 0, 0, []), (27, 1, .istore_n 2, 21, 0, 0, []), (28, 3, .iinc 3 1, 22, 0, 0, []), (31, 3, .goto (-27), 23, 4, 0, []), (34, 1, .iload_n 2, 24, 0, 0, []), (35, 1, .ireturn, 25, 0, 0, [])]
def xi_145 : XI := (⟨"StarchedCollarsModel", "ones", "(I)I"⟩, prog_10_method_39_code, 4, some (FieldType.int), xo_145)
-- 146 StarchedCollarsModel.sharedCreed()I maxLocals 3
def xo_146 : List XO := [(0, 3, .sipush 255, 1, 0, 0, []), (3, 1, .istore_n 1, 2, 0, 0, []), (4, 1, .iconst 0, 3, 0, 0, []), (5, 1, .istore_n 2, 4, 0, 0, []), (6, 1, .iload_n 2, 5, 0, 0, []), (7, 1, .aload_n 0, 6, 0, 0, []), (8, 3, .getfield 9, 7, 8, 1, [4027]), (11, 2, .bipush 31, 8, 0, 0, []), (13, 1, .iaload, 9, 0, 0, []), (14, 3, .if_icmp .ge 38, 10, 30, 0, []), (17, 1, .iload_n 1, 11, 0, 0, []), (18, 1, .aload_n 0, 12, 0, 0, []), (19, 3, .getfield 9, 13, 8, 1, [4027]), (22, 2, .bipush 19, 14, 0, 0, []), (24, 1, .iload_n 2, 15, 0, 0, []), (25, 1, .iadd, 16, 0, 0, []), (26, 1, .iaload, 17, 0, 0, []), (27, 3, .ifCond .ne 14, 18, 25, 0, []), (30, 1, .aload_n 0, 19, 0, 0, []), (31, 3, .getfield 9, 20, 8, 1, [4027]), (34, 1, .iconst 1, 21, 0, 0, []), (35, 1, .iload_n 2, 22, 0, 0, []), (36, 1, .iadd, 23, 0, 0, []), (37, 1, .iaload, 24, 0, 0, []), (38, 3, .goto 6, 25, 26, 0, []), (41, 3, .sipush 255, 26, 0, 0, []), (44, 1, .iand, 27, 0, 0, []), (45, 1, .istore_n 1, 28, 0, 0, []), (46, 3, .iinc 2 1, 29, 0, 0, []), (49, 3, .goto (-43), 30, 4, 0, []), (52, 1, .iload_n 1, 31, 0, 0, []), (53, 1, .ireturn, 32, 0, 0, [])]
def xi_146 : XI := (⟨"StarchedCollarsModel", "sharedCreed", "()I"⟩, prog_10_method_40_code, 3, some (FieldType.int), xo_146)
-- 147 StarchedCollarsModel.told(I)I maxLocals 2
def xo_147 : List XO := [(0, 1, .iload_n 1, 1, 0, 0, []), (1, 35, .tableswitch 71 0 4 #[35, 42, 52, 59, 66], 2, 0, 0, [23, 2, 7, 12, 16, 20]), (36, 1, .aload_n 0, 3, 0, 0, []), (37, 3, .getfield 9, 4, 8, 1, [4027]), (40, 1, .iconst 0, 5, 0, 0, []), (41, 1, .iaload, 6, 0, 0, []), (42, 1, .ireturn, 7, 0, 0, []), (43, 1, .aload_n 0, 8, 0, 0, []), (44, 3, .sipush 221, 9, 0, 0, []), (47, 2, .bipush 90, 10, 0, 0, []), (49, 3, .invokevirtual 128, 11, 129, 2, [4182, 4184, 42, 1009, 4185]), (52, 1, .ireturn, 12, 0, 0, []), (53, 1, .aload_n 0, 13, 0, 0, []), (54, 2, .bipush 13, 14, 0, 0, []), (56, 3, .invokevirtual 165, 15, 145, 1, [4238, 5000, 50, 1009, 5001]), (59, 1, .ireturn, 16, 0, 0, []), (60, 1, .aload_n 0, 17, 0, 0, []), (61, 2, .bipush 19, 18, 0, 0, []), (63, 3, .invokevirtual 165, 19, 145, 1, [4238, 5000, 50, 1009, 5001]), (66, 1, .ireturn, 20, 0, 0, []), (67, 1, .aload_n 0, 21, 0, 0, []), (68, 3, .invokevirtual 168, 22, 146, 0, [5002, 5004, 51, 1009, 5005]), (71, 1, .ireturn, 23, 0, 0, []), (72, 1, .iconst (-1), 24, 0, 0, []), (73, 1, .ireturn, 25, 0, 0, [])]
def xi_147 : XI := (⟨"StarchedCollarsModel", "told", "(I)I"⟩, prog_10_method_41_code, 2, some (FieldType.int), xo_147)
-- 148 StarchedCollarsModel.rises(I)V maxLocals 2
def xo_148_0 : List XO := [(0, 1, .aload_n 0, 1, 0, 0, []), (1, 3, .getfield 9, 2, 8, 1, [4027]), (4, 2, .bipush 19, 3, 0, 0, []), (6, 1, .iload_n 1, 4, 0, 0, []), (7, 1, .iadd, 5, 0, 0, []), (8, 1, .iaload, 6, 0, 0, []), (9, 1, .iconst 1, 7, 0, 0, []), (10, 3, .if_icmp .eq 16, 8, 16, 0, []), (13, 1, .aload_n 0, 9, 0, 0, []), (14, 3, .getfield 9, 10, 8, 1, [4027]), (17, 2, .bipush 13, 11, 0, 0, []), (19, 1, .iload_n 1, 12, 0, 0, []), (20, 1, .iadd, 13, 0, 0, []), (21, 1, .iaload, 14, 0, 0, []), (22, 1, .iconst 1, 15, 0, 0, []), (23, 3, .if_icmp .ne 4, 16, 17, 0, []), (26, 1, .return_, 17, 0, 0, []), (27, 1, .aload_n 0, 18, 0, 0, []), (28, 3, .getfield 9, 19, 8, 1, [4027]), (31, 2, .bipush 7, 20, 0, 0, []), (33, 1, .iload_n 1, 21, 0, 0, []), (34, 1, .iadd, 22, 0, 0, []), (35, 1, .aload_n 0, 23, 0, 0, []), (36, 3, .getfield 9, 24, 8, 1, [4027]), (39, 2, .bipush 7, 25, 0, 0, []), (41, 1, .iload_n 1, 26, 0, 0, []), (42, 1, .iadd, 27, 0, 0, []), (43, 1, .iaload, 28, 0, 0, []), (44, 1, .aload_n 0, 29, 0, 0, []), (45, 1, .iload_n 1, 30, 0, 0, []), (46, 3, .invokevirtual 153, 31, 132, 1, [4171, 4173, 40, 1009, 4174]), (49, 1, .iadd, 32, 0, 0, []), (50, 2, .bipush 99, 33, 0, 0, []), (52, 3, .invokestatic 171, 34, 111, 2, [5022, 5023, 1009, 5024]), (55, 1, .iastore, 35, 0, 0, []), (56, 1, .aload_n 0, 36, 0, 0, []), (57, 3, .getfield 9, 37, 8, 1, [4027]), (60, 2, .bipush 7, 38, 0, 0, []), (62, 1, .iload_n 1, 39, 0, 0, []), (63, 1, .iadd, 40, 0, 0, []), (64, 1, .iaload, 41, 0, 0, []), (65, 1, .aload_n 0, 42, 0, 0, []), (66, 3, .sipush 221, 43, 0, 0, []), (69, 2, .bipush 90, 44, 0, 0, []), (71, 3, .invokevirtual 128, 45, 129, 2, [4182, 4184, 42, 1009, 4185]), (74, 3, .if_icmp .lt 50, 46, 81, 0, []), (77, 1, .aload_n 0, 47, 0, 0, []), (78, 3, .getfield 9, 48, 8, 1, [4027]), (81, 2, .bipush 13, 49, 0, 0, []), (83, 1, .iload_n 1, 50, 0, 0, [])]
def xo_148_1 : List XO := [(84, 1, .iadd, 51, 0, 0, []), (85, 1, .iconst 1, 52, 0, 0, []), (86, 1, .iastore, 53, 0, 0, []), (87, 1, .aload_n 0, 54, 0, 0, []), (88, 3, .getfield 9, 55, 8, 1, [4027]), (91, 2, .bipush 7, 56, 0, 0, []), (93, 1, .iload_n 1, 57, 0, 0, []), (94, 1, .iadd, 58, 0, 0, []), (95, 1, .iconst 0, 59, 0, 0, []), (96, 1, .iastore, 60, 0, 0, []), (97, 1, .aload_n 0, 61, 0, 0, []), (98, 3, .getfield 9, 62, 8, 1, [4027]), (101, 1, .iconst 1, 63, 0, 0, []), (102, 1, .iload_n 1, 64, 0, 0, []), (103, 1, .iadd, 65, 0, 0, []), (104, 1, .dup2, 66, 0, 0, []), (105, 1, .iaload, 67, 0, 0, []), (106, 1, .iconst 1, 68, 0, 0, []), (107, 1, .aload_n 0, 69, 0, 0, []), (108, 3, .getfield 9, 70, 8, 1, [4027]), (111, 2, .bipush 44, 71, 0, 0, []), (113, 1, .iload_n 1, 72, 0, 0, []), (114, 1, .iadd, 73, 0, 0, []), (115, 1, .iaload, 74, 0, 0, []), (116, 2, .bipush 8, 75, 0, 0, []), (118, 1, .irem, 76, 0, 0, []), (119, 1, .ishl, 77, 0, 0, []), (120, 1, .iconst (-1), 78, 0, 0, []), (121, 1, .ixor, 79, 0, 0, []), (122, 1, .iand, 80, 0, 0, []), (123, 1, .iastore, 81, 0, 0, []), (124, 1, .return_, 82, 0, 0, [])]
def xo_148 : List XO := xo_148_0 ++ xo_148_1
def xi_148 : XI := (⟨"StarchedCollarsModel", "rises", "(I)V"⟩, prog_10_method_42_code, 2, none, xo_148)
-- 149 StarchedCollarsModel.goes()V maxLocals 2
def xo_149 : List XO := [(0, 1, .iconst 0, 1, 0, 0, []), (1, 1, .istore_n 1, 2, 0, 0, []), (2, 1, .iload_n 1, 3, 0, 0, []), (3, 1, .aload_n 0, 4, 0, 0, []), (4, 3, .getfield 9, 5, 8, 1, [4027]), (7, 2, .bipush 31, 6, 0, 0, []), (9, 1, .iaload, 7, 0, 0, []), (10, 3, .if_icmp .ge 14, 8, 13, 0, []), (13, 1, .aload_n 0, 9, 0, 0, []), (14, 1, .iload_n 1, 10, 0, 0, []), (15, 3, .invokevirtual 174, 11, 148, 1, [5018, 5020, 54, 1009, 5021]), (18, 3, .iinc 1 1, 12, 0, 0, []), (21, 3, .goto (-19), 13, 2, 0, []), (24, 1, .aload_n 0, 14, 0, 0, []), (25, 3, .getfield 9, 15, 8, 1, [4027]), (28, 1, .iconst 0, 16, 0, 0, []), (29, 1, .dup2, 17, 0, 0, []), (30, 1, .iaload, 18, 0, 0, []), (31, 1, .iconst 1, 19, 0, 0, []), (32, 1, .iadd, 20, 0, 0, []), (33, 1, .iastore, 21, 0, 0, []), (34, 1, .return_, 22, 0, 0, [])]
def xi_149 : XI := (⟨"StarchedCollarsModel", "goes", "()V"⟩, prog_10_method_43_code, 2, none, xo_149)
-- 150 StarchedCollarsModel.goesOn(I)V maxLocals 3
def xo_150 : List XO := [(0, 1, .iconst 0, 1, 0, 0, []), (1, 1, .istore_n 2, 2, 0, 0, []), (2, 1, .iload_n 2, 3, 0, 0, []), (3, 1, .iload_n 1, 4, 0, 0, []), (4, 3, .if_icmp .ge 13, 5, 9, 0, []), (7, 1, .aload_n 0, 6, 0, 0, []), (8, 3, .invokevirtual 177, 7, 149, 0, [5014, 5016, 53, 1009, 5017]), (11, 3, .iinc 2 1, 8, 0, 0, []), (14, 3, .goto (-12), 9, 2, 0, []), (17, 1, .return_, 10, 0, 0, [])]
def xi_150 : XI := (⟨"StarchedCollarsModel", "goesOn", "(I)V"⟩, prog_10_method_44_code, 3, none, xo_150)
-- 151 StarchedCollarsModel.goesAlone(I)V maxLocals 2
def xo_151 : List XO := [(0, 1, .aload_n 0, 1, 0, 0, []), (1, 1, .iload_n 1, 2, 0, 0, []), (2, 3, .invokevirtual 174, 3, 148, 1, [5018, 5020, 54, 1009, 5021]), (5, 1, .aload_n 0, 4, 0, 0, []), (6, 3, .getfield 9, 5, 8, 1, [4027]), (9, 1, .iconst 0, 6, 0, 0, []), (10, 1, .dup2, 7, 0, 0, []), (11, 1, .iaload, 8, 0, 0, []), (12, 1, .iconst 1, 9, 0, 0, []), (13, 1, .iadd, 10, 0, 0, []), (14, 1, .iastore, 11, 0, 0, []), (15, 1, .return_, 12, 0, 0, [])]
def xi_151 : XI := (⟨"StarchedCollarsModel", "goesAlone", "(I)V"⟩, prog_10_method_45_code, 2, none, xo_151)
-- 152 StarchedCollarsModel.pass(I)I maxLocals 2
def xo_152 : List XO := [(0, 1, .iload_n 1, 1, 0, 0, []), (1, 1, .iconst 0, 2, 0, 0, []), (2, 2, .bipush 60, 3, 0, 0, []), (4, 3, .invokestatic 41, 4, 109, 3, [4092, 4093, 1009, 4094]), (7, 3, .ifCond .ne 6, 5, 7, 0, []), (10, 2, .bipush (-2), 6, 0, 0, []), (12, 1, .ireturn, 7, 0, 0, []), (13, 1, .aload_n 0, 8, 0, 0, []), (14, 3, .getfield 9, 9, 8, 1, [4027]), (17, 1, .iconst 0, 10, 0, 0, []), (18, 1, .iaload, 11, 0, 0, []), (19, 1, .iload_n 1, 12, 0, 0, []), (20, 1, .iadd, 13, 0, 0, []), (21, 3, .sipush 9999, 14, 0, 0, []), (24, 3, .if_icmp .le 6, 15, 17, 0, []), (27, 2, .bipush (-3), 16, 0, 0, []), (29, 1, .ireturn, 17, 0, 0, []), (30, 1, .aload_n 0, 18, 0, 0, []), (31, 1, .iload_n 1, 19, 0, 0, []), (32, 3, .invokevirtual 180, 20, 150, 1, [5010, 5012, 52, 1009, 5013]), (35, 1, .aload_n 0, 21, 0, 0, []), (36, 3, .getfield 9, 22, 8, 1, [4027]), (39, 1, .iconst 0, 23, 0, 0, []), (40, 1, .iaload, 24, 0, 0, []), (41, 1, .ireturn, 25, 0, 0, [])]
def xi_152 : XI := (⟨"StarchedCollarsModel", "pass", "(I)I"⟩, prog_10_method_46_code, 2, some (FieldType.int), xo_152)
-- 153 StarchedCollarsModel.on(II)I maxLocals 4
def xo_153 : List XO := [(0, 1, .iload_n 2, 1, 0, 0, []), (1, 3, .ifCond .eq 27, 2, 16, 0, []), (4, 1, .aload_n 0, 3, 0, 0, []), (5, 1, .iload_n 2, 4, 0, 0, []), (6, 2, .bipush 10, 5, 0, 0, []), (8, 1, .isub, 6, 0, 0, []), (9, 3, .invokevirtual 148, 7, 110, 1, [4166, 4168, 39, 1009, 4169]), (12, 3, .ifCond .ne 16, 8, 16, 0, []), (15, 1, .aload_n 0, 9, 0, 0, []), (16, 1, .iload_n 2, 10, 0, 0, []), (17, 2, .bipush 20, 11, 0, 0, []), (19, 1, .isub, 12, 0, 0, []), (20, 3, .invokevirtual 148, 13, 110, 1, [4166, 4168, 39, 1009, 4169]), (23, 3, .ifCond .ne 5, 14, 16, 0, []), (26, 1, .iconst (-1), 15, 0, 0, []), (27, 1, .ireturn, 16, 0, 0, []), (28, 1, .iload_n 1, 17, 0, 0, []), (29, 1, .iconst 0, 18, 0, 0, []), (30, 2, .bipush 60, 19, 0, 0, []), (32, 3, .invokestatic 41, 20, 109, 3, [4092, 4093, 1009, 4094]), (35, 3, .ifCond .ne 6, 21, 23, 0, []), (38, 2, .bipush (-2), 22, 0, 0, []), (40, 1, .ireturn, 23, 0, 0, []), (41, 1, .aload_n 0, 24, 0, 0, []), (42, 3, .invokevirtual 139, 25, 112, 0, [4198, 4200, 46, 1009, 4201]), (45, 1, .aload_n 0, 26, 0, 0, []), (46, 1, .iload_n 1, 27, 0, 0, []), (47, 3, .invokevirtual 180, 28, 150, 1, [5010, 5012, 52, 1009, 5013]), (50, 1, .iload_n 2, 29, 0, 0, []), (51, 3, .ifCond .ne 12, 30, 34, 0, []), (54, 1, .aload_n 0, 31, 0, 0, []), (55, 2, .bipush 13, 32, 0, 0, []), (57, 3, .invokevirtual 165, 33, 145, 1, [4238, 5000, 50, 1009, 5001]), (60, 3, .goto 35, 34, 54, 0, []), (63, 1, .iload_n 2, 35, 0, 0, []), (64, 2, .bipush 20, 36, 0, 0, []), (66, 3, .if_icmp .ge 18, 37, 46, 0, []), (69, 1, .aload_n 0, 38, 0, 0, []), (70, 3, .getfield 9, 39, 8, 1, [4027]), (73, 2, .bipush 7, 40, 0, 0, []), (75, 1, .iload_n 2, 41, 0, 0, []), (76, 1, .iadd, 42, 0, 0, []), (77, 2, .bipush 10, 43, 0, 0, []), (79, 1, .isub, 44, 0, 0, []), (80, 1, .iaload, 45, 0, 0, []), (81, 3, .goto 14, 46, 54, 0, []), (84, 1, .aload_n 0, 47, 0, 0, []), (85, 3, .getfield 9, 48, 8, 1, [4027]), (88, 1, .iconst 1, 49, 0, 0, []), (89, 1, .iload_n 2, 50, 0, 0, []), (90, 1, .iadd, 51, 0, 0, []), (91, 2, .bipush 20, 52, 0, 0, []), (93, 1, .isub, 53, 0, 0, []), (94, 1, .iaload, 54, 0, 0, []), (95, 1, .istore_n 3, 55, 0, 0, []), (96, 1, .aload_n 0, 56, 0, 0, []), (97, 3, .invokevirtual 145, 57, 113, 0, [4202, 4204, 47, 1009, 4205]), (100, 1, .iload_n 3, 58, 0, 0, []), (101, 1, .ireturn, 59, 0, 0, [])]
def xi_153 : XI := (⟨"StarchedCollarsModel", "on", "(II)I"⟩, prog_10_method_47_code, 4, some (FieldType.int), xo_153)
-- 154 StarchedCollarsModel.when(I)I maxLocals 4
def xo_154 : List XO := [(0, 1, .aload_n 0, 1, 0, 0, []), (1, 1, .iload_n 1, 2, 0, 0, []), (2, 3, .invokevirtual 148, 3, 110, 1, [4166, 4168, 39, 1009, 4169]), (5, 3, .ifCond .ne 5, 4, 6, 0, []), (8, 1, .iconst (-1), 5, 0, 0, []), (9, 1, .ireturn, 6, 0, 0, []), (10, 1, .aload_n 0, 7, 0, 0, []), (11, 3, .invokevirtual 139, 8, 112, 0, [4198, 4200, 46, 1009, 4201]), (14, 2, .bipush (-5), 9, 0, 0, []), (16, 1, .istore_n 2, 10, 0, 0, []), (17, 1, .iconst 0, 11, 0, 0, []), (18, 1, .istore_n 3, 12, 0, 0, []), (19, 1, .iload_n 3, 13, 0, 0, []), (20, 2, .bipush 60, 14, 0, 0, []), (22, 3, .if_icmp .gt 40, 15, 35, 0, []), (25, 1, .iload_n 2, 16, 0, 0, []), (26, 2, .bipush (-5), 17, 0, 0, []), (28, 3, .if_icmp .ne 34, 18, 35, 0, []), (31, 1, .aload_n 0, 19, 0, 0, []), (32, 3, .getfield 9, 20, 8, 1, [4027]), (35, 2, .bipush 13, 21, 0, 0, []), (37, 1, .iload_n 1, 22, 0, 0, []), (38, 1, .iadd, 23, 0, 0, []), (39, 1, .iaload, 24, 0, 0, []), (40, 1, .iconst 1, 25, 0, 0, []), (41, 3, .if_icmp .ne 7, 26, 28, 0, []), (44, 1, .iload_n 3, 27, 0, 0, []), (45, 3, .goto 5, 28, 29, 0, []), (48, 2, .bipush (-5), 29, 0, 0, []), (50, 1, .istore_n 2, 30, 0, 0, []), (51, 1, .aload_n 0, 31, 0, 0, []), (52, 1, .iload_n 1, 32, 0, 0, []), (53, 3, .invokevirtual 183, 33, 151, 1, [5033, 5035, 55, 1009, 5036]), (56, 3, .iinc 3 1, 34, 0, 0, []), (59, 3, .goto (-40), 35, 12, 0, []), (62, 1, .aload_n 0, 36, 0, 0, []), (63, 3, .invokevirtual 145, 37, 113, 0, [4202, 4204, 47, 1009, 4205]), (66, 1, .iload_n 2, 38, 0, 0, []), (67, 1, .ireturn, 39, 0, 0, [])]
def xi_154 : XI := (⟨"StarchedCollarsModel", "when", "(I)I"⟩, prog_10_method_48_code, 4, some (FieldType.int), xo_154)
-- 155 StarchedCollarsModel.firstWithout()I maxLocals 2
def xo_155 : List XO := [(0, 1, .iconst 0, 1, 0, 0, []), (1, 1, .istore_n 1, 2, 0, 0, []), (2, 1, .iload_n 1, 3, 0, 0, []), (3, 1, .aload_n 0, 4, 0, 0, []), (4, 3, .getfield 9, 5, 8, 1, [4027]), (7, 2, .bipush 31, 6, 0, 0, []), (9, 1, .iaload, 7, 0, 0, []), (10, 3, .if_icmp .ge 33, 8, 25, 0, []), (13, 1, .aload_n 0, 9, 0, 0, []), (14, 3, .getfield 9, 10, 8, 1, [4027]), (17, 2, .bipush 19, 11, 0, 0, []), (19, 1, .iload_n 1, 12, 0, 0, []), (20, 1, .iadd, 13, 0, 0, []), (21, 1, .iaload, 14, 0, 0, []), (22, 3, .ifCond .ne 15, 15, 23, 0, []), (25, 1, .aload_n 0, 16, 0, 0, []), (26, 3, .getfield 28, 17, 8, 12, [4038]), (29, 1, .iload_n 1, 18, 0, 0, []), (30, 1, .iaload, 19, 0, 0, []), (31, 1, .iconst (-1), 20, 0, 0, []), (32, 3, .if_icmp .ne 5, 21, 23, 0, []), (35, 1, .iload_n 1, 22, 0, 0, []), (36, 1, .ireturn, 23, 0, 0, []), (37, 3, .iinc 1 1, 24, 0, 0, []), (40, 3, .goto (-38), 25, 2, 0, []), (43, 1, .iconst (-1), 26, 0, 0, []), (44, 1, .ireturn, 27, 0, 0, [])]
def xi_155 : XI := (⟨"StarchedCollarsModel", "firstWithout", "()I"⟩, prog_10_method_49_code, 2, some (FieldType.int), xo_155)
-- 156 StarchedCollarsModel.walksFrom(II)V maxLocals 6
def xo_156_0 : List XO := [(0, 1, .aload_n 0, 1, 0, 0, []), (1, 3, .invokevirtual 186, 2, 155, 0, [5050, 5052, 58, 1009, 5053]), (4, 1, .istore_n 3, 3, 0, 0, []), (5, 1, .iload_n 3, 4, 0, 0, []), (6, 1, .iconst (-1), 5, 0, 0, []), (7, 3, .if_icmp .ne 71, 6, 40, 0, []), (10, 1, .iload_n 1, 7, 0, 0, []), (11, 1, .aload_n 0, 8, 0, 0, []), (12, 3, .getfield 189, 9, 8, 14, [4040]), (15, 3, .if_icmp .ge 7, 10, 12, 0, []), (18, 1, .iconst 1, 11, 0, 0, []), (19, 3, .goto 4, 12, 13, 0, []), (22, 1, .iconst 0, 13, 0, 0, []), (23, 2, .istore 4, 14, 0, 0, []), (25, 1, .aload_n 0, 15, 0, 0, []), (26, 2, .iload 4, 16, 0, 0, []), (28, 3, .ifCond .eq 7, 17, 19, 0, []), (31, 1, .iload_n 1, 18, 0, 0, []), (32, 3, .goto 7, 19, 21, 0, []), (35, 1, .aload_n 0, 20, 0, 0, []), (36, 3, .getfield 189, 21, 8, 14, [4040]), (39, 3, .putfield 189, 22, 8, 14, [4040]), (42, 1, .iconst 0, 23, 0, 0, []), (43, 2, .istore 5, 24, 0, 0, []), (45, 2, .iload 5, 25, 0, 0, []), (47, 2, .bipush 6, 26, 0, 0, []), (49, 3, .if_icmp .ge 28, 27, 39, 0, []), (52, 2, .iload 4, 28, 0, 0, []), (54, 3, .ifCond .eq 23, 29, 39, 0, []), (57, 1, .aload_n 0, 30, 0, 0, []), (58, 3, .getfield 31, 31, 8, 13, [4039]), (61, 2, .iload 5, 32, 0, 0, []), (63, 1, .aload_n 0, 33, 0, 0, []), (64, 3, .getfield 28, 34, 8, 12, [4038]), (67, 2, .iload 5, 35, 0, 0, []), (69, 1, .iaload, 36, 0, 0, []), (70, 1, .iastore, 37, 0, 0, []), (71, 3, .iinc 5 1, 38, 0, 0, []), (74, 3, .goto (-29), 39, 24, 0, []), (77, 1, .return_, 40, 0, 0, []), (78, 1, .iload_n 3, 41, 0, 0, []), (79, 1, .iconst 1, 42, 0, 0, []), (80, 1, .iadd, 43, 0, 0, []), (81, 2, .istore 4, 44, 0, 0, []), (83, 2, .iload 4, 45, 0, 0, []), (85, 1, .aload_n 0, 46, 0, 0, []), (86, 3, .getfield 9, 47, 8, 1, [4027]), (89, 2, .bipush 31, 48, 0, 0, []), (91, 1, .iaload, 49, 0, 0, []), (92, 3, .if_icmp .ge 71, 50, 89, 0, [])]
def xo_156_1 : List XO := [(95, 1, .aload_n 0, 51, 0, 0, []), (96, 3, .getfield 9, 52, 8, 1, [4027]), (99, 2, .bipush 19, 53, 0, 0, []), (101, 2, .iload 4, 54, 0, 0, []), (103, 1, .iadd, 55, 0, 0, []), (104, 1, .iaload, 56, 0, 0, []), (105, 3, .ifCond .ne 52, 57, 87, 0, []), (108, 1, .aload_n 0, 58, 0, 0, []), (109, 3, .getfield 28, 59, 8, 12, [4038]), (112, 2, .iload 4, 60, 0, 0, []), (114, 1, .iaload, 61, 0, 0, []), (115, 1, .iconst (-1), 62, 0, 0, []), (116, 3, .if_icmp .ne 41, 63, 87, 0, []), (119, 1, .aload_n 0, 64, 0, 0, []), (120, 3, .getfield 28, 65, 8, 12, [4038]), (123, 1, .iload_n 3, 66, 0, 0, []), (124, 2, .iload 4, 67, 0, 0, []), (126, 1, .iastore, 68, 0, 0, []), (127, 1, .aload_n 0, 69, 0, 0, []), (128, 3, .getfield 28, 70, 8, 12, [4038]), (131, 2, .iload 4, 71, 0, 0, []), (133, 1, .iload_n 3, 72, 0, 0, []), (134, 1, .iastore, 73, 0, 0, []), (135, 1, .aload_n 0, 74, 0, 0, []), (136, 1, .iload_n 1, 75, 0, 0, []), (137, 1, .aload_n 0, 76, 0, 0, []), (138, 1, .iload_n 3, 77, 0, 0, []), (139, 2, .iload 4, 78, 0, 0, []), (141, 3, .invokevirtual 162, 79, 133, 2, [4230, 4232, 49, 1009, 4233]), (144, 1, .iadd, 80, 0, 0, []), (145, 1, .iload_n 2, 81, 0, 0, []), (146, 3, .invokevirtual 192, 82, 156, 2, [5046, 5048, 57, 1009, 5049]), (149, 1, .aload_n 0, 83, 0, 0, []), (150, 3, .getfield 28, 84, 8, 12, [4038]), (153, 2, .iload 4, 85, 0, 0, []), (155, 1, .iconst (-1), 86, 0, 0, []), (156, 1, .iastore, 87, 0, 0, []), (157, 3, .iinc 4 1, 88, 0, 0, []), (160, 3, .goto (-77), 89, 44, 0, []), (163, 1, .aload_n 0, 90, 0, 0, []), (164, 3, .getfield 28, 91, 8, 12, [4038]), (167, 1, .iload_n 3, 92, 0, 0, []), (168, 2, .bipush 9, 93, 0, 0, []), (170, 1, .iastore, 94, 0, 0, []), (171, 1, .iload_n 2, 95, 0, 0, []), (172, 3, .ifCond .le 11, 96, 102, 0, []), (175, 1, .aload_n 0, 97, 0, 0, []), (176, 1, .iload_n 1, 98, 0, 0, []), (177, 1, .iload_n 2, 99, 0, 0, []), (178, 1, .iconst 1, 100, 0, 0, [])]
def xo_156_2 : List XO := [(179, 1, .isub, 101, 0, 0, []), (180, 3, .invokevirtual 192, 102, 156, 2, [5046, 5048, 57, 1009, 5049]), (183, 1, .aload_n 0, 103, 0, 0, []), (184, 3, .getfield 28, 104, 8, 12, [4038]), (187, 1, .iload_n 3, 105, 0, 0, []), (188, 1, .iconst (-1), 106, 0, 0, []), (189, 1, .iastore, 107, 0, 0, []), (190, 1, .return_, 108, 0, 0, [])]
def xo_156 : List XO := xo_156_0 ++ xo_156_1 ++ xo_156_2
def xi_156 : XI := (⟨"StarchedCollarsModel", "walksFrom", "(II)V"⟩, prog_10_method_50_code, 6, none, xo_156)
-- 157 StarchedCollarsModel.looksForWalk()V maxLocals 4
def xo_157 : List XO := [(0, 1, .iconst 0, 1, 0, 0, []), (1, 1, .istore_n 1, 2, 0, 0, []), (2, 1, .iconst 0, 3, 0, 0, []), (3, 1, .istore_n 2, 4, 0, 0, []), (4, 1, .iload_n 2, 5, 0, 0, []), (5, 2, .bipush 6, 6, 0, 0, []), (7, 3, .if_icmp .ge 66, 7, 43, 0, []), (10, 1, .iload_n 2, 8, 0, 0, []), (11, 1, .aload_n 0, 9, 0, 0, []), (12, 3, .getfield 9, 10, 8, 1, [4027]), (15, 2, .bipush 31, 11, 0, 0, []), (17, 1, .iaload, 12, 0, 0, []), (18, 3, .if_icmp .ge 19, 13, 22, 0, []), (21, 1, .aload_n 0, 14, 0, 0, []), (22, 3, .getfield 9, 15, 8, 1, [4027]), (25, 2, .bipush 19, 16, 0, 0, []), (27, 1, .iload_n 2, 17, 0, 0, []), (28, 1, .iadd, 18, 0, 0, []), (29, 1, .iaload, 19, 0, 0, []), (30, 3, .ifCond .ne 7, 20, 22, 0, []), (33, 1, .iconst 1, 21, 0, 0, []), (34, 3, .goto 4, 22, 23, 0, []), (37, 1, .iconst 0, 23, 0, 0, []), (38, 1, .istore_n 3, 24, 0, 0, []), (39, 1, .aload_n 0, 25, 0, 0, []), (40, 3, .getfield 28, 26, 8, 12, [4038]), (43, 1, .iload_n 2, 27, 0, 0, []), (44, 1, .iload_n 3, 28, 0, 0, []), (45, 3, .ifCond .eq 7, 29, 31, 0, []), (48, 1, .iconst (-1), 30, 0, 0, []), (49, 3, .goto 5, 31, 32, 0, []), (52, 2, .bipush 9, 32, 0, 0, []), (54, 1, .iastore, 33, 0, 0, []), (55, 1, .iload_n 1, 34, 0, 0, []), (56, 1, .iload_n 3, 35, 0, 0, []), (57, 3, .ifCond .eq 7, 36, 38, 0, []), (60, 1, .iconst 1, 37, 0, 0, []), (61, 3, .goto 4, 38, 39, 0, []), (64, 1, .iconst 0, 39, 0, 0, []), (65, 1, .iadd, 40, 0, 0, []), (66, 1, .istore_n 1, 41, 0, 0, []), (67, 3, .iinc 2 1, 42, 0, 0, []), (70, 3, .goto (-66), 43, 4, 0, []), (73, 1, .aload_n 0, 44, 0, 0, []), (74, 2, .ldc 196, 45, 7, 2, [5045]), (76, 3, .putfield 189, 46, 8, 14, [4040]), (79, 1, .aload_n 0, 47, 0, 0, []), (80, 1, .iconst 0, 48, 0, 0, []), (81, 1, .iload_n 1, 49, 0, 0, []), (82, 1, .iconst 2, 50, 0, 0, []), (83, 1, .irem, 51, 0, 0, []), (84, 3, .invokevirtual 192, 52, 156, 2, [5046, 5048, 57, 1009, 5049]), (87, 1, .return_, 53, 0, 0, [])]
def xi_157 : XI := (⟨"StarchedCollarsModel", "looksForWalk", "()V"⟩, prog_10_method_51_code, 4, none, xo_157)
-- 158 StarchedCollarsModel.walk(I)I maxLocals 2
def xo_158 : List XO := [(0, 1, .iload_n 1, 1, 0, 0, []), (1, 1, .iconst (-1), 2, 0, 0, []), (2, 3, .if_icmp .eq 13, 3, 9, 0, []), (5, 1, .aload_n 0, 4, 0, 0, []), (6, 1, .iload_n 1, 5, 0, 0, []), (7, 3, .invokevirtual 148, 6, 110, 1, [4166, 4168, 39, 1009, 4169]), (10, 3, .ifCond .ne 5, 7, 9, 0, []), (13, 1, .iconst (-1), 8, 0, 0, []), (14, 1, .ireturn, 9, 0, 0, []), (15, 1, .aload_n 0, 10, 0, 0, []), (16, 3, .invokevirtual 197, 11, 157, 0, [5041, 5043, 56, 1009, 5044]), (19, 1, .iload_n 1, 12, 0, 0, []), (20, 1, .iconst (-1), 13, 0, 0, []), (21, 3, .if_icmp .ne 10, 14, 17, 0, []), (24, 1, .aload_n 0, 15, 0, 0, []), (25, 3, .getfield 189, 16, 8, 14, [4040]), (28, 3, .goto 25, 17, 29, 0, []), (31, 1, .aload_n 0, 18, 0, 0, []), (32, 3, .getfield 31, 19, 8, 13, [4039]), (35, 1, .iload_n 1, 20, 0, 0, []), (36, 1, .iaload, 21, 0, 0, []), (37, 2, .bipush 9, 22, 0, 0, []), (39, 3, .if_icmp .ne 8, 23, 25, 0, []), (42, 2, .bipush (-5), 24, 0, 0, []), (44, 3, .goto 9, 25, 29, 0, []), (47, 1, .aload_n 0, 26, 0, 0, []), (48, 3, .getfield 31, 27, 8, 13, [4039]), (51, 1, .iload_n 1, 28, 0, 0, []), (52, 1, .iaload, 29, 0, 0, []), (53, 1, .ireturn, 30, 0, 0, [])]
def xi_158 : XI := (⟨"StarchedCollarsModel", "walk", "(I)I"⟩, prog_10_method_52_code, 2, some (FieldType.int), xo_158)
-- 159 StarchedCollarsModel.isTable(II)Z maxLocals 7
def xo_159_0 : List XO := [(0, 1, .iload_n 1, 1, 0, 0, []), (1, 1, .aload_n 0, 2, 0, 0, []), (2, 2, .bipush 19, 3, 0, 0, []), (4, 3, .invokevirtual 165, 4, 145, 1, [4238, 5000, 50, 1009, 5001]), (7, 1, .iand, 5, 0, 0, []), (8, 3, .ifCond .ne 7, 6, 8, 0, []), (11, 1, .iconst 1, 7, 0, 0, []), (12, 3, .goto 4, 8, 9, 0, []), (15, 1, .iconst 0, 9, 0, 0, []), (16, 1, .istore_n 3, 10, 0, 0, []), (17, 1, .iconst 0, 11, 0, 0, []), (18, 2, .istore 4, 12, 0, 0, []), (20, 2, .iload 4, 13, 0, 0, []), (22, 1, .aload_n 0, 14, 0, 0, []), (23, 3, .getfield 9, 15, 8, 1, [4027]), (26, 2, .bipush 31, 16, 0, 0, []), (28, 1, .iaload, 17, 0, 0, []), (29, 3, .if_icmp .ge 79, 18, 59, 0, []), (32, 1, .iconst 0, 19, 0, 0, []), (33, 2, .istore 5, 20, 0, 0, []), (35, 2, .iload 5, 21, 0, 0, []), (37, 2, .iload 4, 22, 0, 0, []), (39, 3, .if_icmp .ge 63, 23, 57, 0, []), (42, 1, .iload_n 1, 24, 0, 0, []), (43, 2, .iload 4, 25, 0, 0, []), (45, 1, .ishr, 26, 0, 0, []), (46, 1, .iconst 1, 27, 0, 0, []), (47, 1, .iand, 28, 0, 0, []), (48, 1, .iconst 1, 29, 0, 0, []), (49, 3, .if_icmp .ne 17, 30, 39, 0, []), (52, 1, .iload_n 1, 31, 0, 0, []), (53, 2, .iload 5, 32, 0, 0, []), (55, 1, .ishr, 33, 0, 0, []), (56, 1, .iconst 1, 34, 0, 0, []), (57, 1, .iand, 35, 0, 0, []), (58, 1, .iconst 1, 36, 0, 0, []), (59, 3, .if_icmp .ne 7, 37, 39, 0, []), (62, 1, .iconst 1, 38, 0, 0, []), (63, 3, .goto 4, 39, 40, 0, []), (66, 1, .iconst 0, 40, 0, 0, []), (67, 2, .istore 6, 41, 0, 0, []), (69, 1, .iload_n 3, 42, 0, 0, []), (70, 3, .ifCond .eq 24, 43, 53, 0, []), (73, 2, .iload 6, 44, 0, 0, []), (75, 3, .ifCond .eq 15, 45, 51, 0, []), (78, 1, .aload_n 0, 46, 0, 0, []), (79, 2, .iload 4, 47, 0, 0, []), (81, 2, .iload 5, 48, 0, 0, []), (83, 3, .invokevirtual 162, 49, 133, 2, [4230, 4232, 49, 1009, 4233]), (86, 1, .iload_n 2, 50, 0, 0, [])]
def xo_159_1 : List XO := [(87, 3, .if_icmp .gt 7, 51, 53, 0, []), (90, 1, .iconst 1, 52, 0, 0, []), (91, 3, .goto 4, 53, 54, 0, []), (94, 1, .iconst 0, 54, 0, 0, []), (95, 1, .istore_n 3, 55, 0, 0, []), (96, 3, .iinc 5 1, 56, 0, 0, []), (99, 3, .goto (-64), 57, 20, 0, []), (102, 3, .iinc 4 1, 58, 0, 0, []), (105, 3, .goto (-85), 59, 12, 0, []), (108, 1, .iload_n 3, 60, 0, 0, []), (109, 1, .ireturn, 61, 0, 0, [])]
def xo_159 : List XO := xo_159_0 ++ xo_159_1
def xi_159 : XI := (⟨"StarchedCollarsModel", "isTable", "(II)Z"⟩, prog_10_method_53_code, 7, some (FieldType.boolean), xo_159)
-- 160 StarchedCollarsModel.table(I)I maxLocals 4
def xo_160 : List XO := [(0, 1, .iload_n 1, 1, 0, 0, []), (1, 1, .iconst 0, 2, 0, 0, []), (2, 2, .bipush 8, 3, 0, 0, []), (4, 3, .invokestatic 41, 4, 109, 3, [4092, 4093, 1009, 4094]), (7, 3, .ifCond .ne 6, 5, 7, 0, []), (10, 2, .bipush (-2), 6, 0, 0, []), (12, 1, .ireturn, 7, 0, 0, []), (13, 1, .iconst 0, 8, 0, 0, []), (14, 1, .istore_n 2, 9, 0, 0, []), (15, 1, .iconst 0, 10, 0, 0, []), (16, 1, .istore_n 3, 11, 0, 0, []), (17, 1, .iload_n 3, 12, 0, 0, []), (18, 1, .iconst 1, 13, 0, 0, []), (19, 1, .aload_n 0, 14, 0, 0, []), (20, 3, .getfield 9, 15, 8, 1, [4027]), (23, 2, .bipush 31, 16, 0, 0, []), (25, 1, .iaload, 17, 0, 0, []), (26, 1, .ishl, 18, 0, 0, []), (27, 3, .if_icmp .ge 35, 19, 35, 0, []), (30, 1, .iload_n 3, 20, 0, 0, []), (31, 3, .invokestatic 124, 21, 130, 1, [4179, 4180, 1009, 4181]), (34, 1, .iload_n 2, 22, 0, 0, []), (35, 3, .invokestatic 124, 23, 130, 1, [4179, 4180, 1009, 4181]), (38, 3, .if_icmp .le 16, 24, 31, 0, []), (41, 1, .aload_n 0, 25, 0, 0, []), (42, 1, .iload_n 3, 26, 0, 0, []), (43, 1, .iload_n 1, 27, 0, 0, []), (44, 3, .invokevirtual 200, 28, 159, 2, [5058, 5060, 59, 1009, 5061]), (47, 3, .ifCond .eq 7, 29, 31, 0, []), (50, 1, .iload_n 3, 30, 0, 0, []), (51, 3, .goto 4, 31, 32, 0, []), (54, 1, .iload_n 2, 32, 0, 0, []), (55, 1, .istore_n 2, 33, 0, 0, []), (56, 3, .iinc 3 1, 34, 0, 0, []), (59, 3, .goto (-42), 35, 11, 0, []), (62, 1, .iload_n 2, 36, 0, 0, []), (63, 1, .ireturn, 37, 0, 0, [])]
def xi_160 : XI := (⟨"StarchedCollarsModel", "table", "(I)I"⟩, prog_10_method_54_code, 4, some (FieldType.int), xo_160)
-- 161 StarchedCollarsModel.goneBy(I)I maxLocals 3
def xo_161 : List XO := [(0, 1, .aload_n 0, 1, 0, 0, []), (1, 3, .invokevirtual 139, 2, 112, 0, [4198, 4200, 46, 1009, 4201]), (4, 1, .iconst 0, 3, 0, 0, []), (5, 1, .istore_n 2, 4, 0, 0, []), (6, 1, .iload_n 2, 5, 0, 0, []), (7, 1, .aload_n 0, 6, 0, 0, []), (8, 3, .getfield 9, 7, 8, 1, [4027]), (11, 2, .bipush 31, 8, 0, 0, []), (13, 1, .iaload, 9, 0, 0, []), (14, 3, .if_icmp .ge 40, 10, 33, 0, []), (17, 1, .aload_n 0, 11, 0, 0, []), (18, 3, .getfield 9, 12, 8, 1, [4027]), (21, 2, .bipush 7, 13, 0, 0, []), (23, 1, .iload_n 2, 14, 0, 0, []), (24, 1, .iadd, 15, 0, 0, []), (25, 1, .iload_n 1, 16, 0, 0, []), (26, 1, .iload_n 2, 17, 0, 0, []), (27, 1, .ishr, 18, 0, 0, []), (28, 1, .iconst 1, 19, 0, 0, []), (29, 1, .iand, 20, 0, 0, []), (30, 1, .iconst 1, 21, 0, 0, []), (31, 3, .if_icmp .ne 7, 22, 24, 0, []), (34, 1, .iconst 0, 23, 0, 0, []), (35, 3, .goto 12, 24, 30, 0, []), (38, 1, .aload_n 0, 25, 0, 0, []), (39, 3, .getfield 9, 26, 8, 1, [4027]), (42, 2, .bipush 7, 27, 0, 0, []), (44, 1, .iload_n 2, 28, 0, 0, []), (45, 1, .iadd, 29, 0, 0, []), (46, 1, .iaload, 30, 0, 0, []), (47, 1, .iastore, 31, 0, 0, []), (48, 3, .iinc 2 1, 32, 0, 0, []), (51, 3, .goto (-45), 33, 4, 0, []), (54, 1, .aload_n 0, 34, 0, 0, []), (55, 2, .bipush 12, 35, 0, 0, []), (57, 3, .invokevirtual 180, 36, 150, 1, [5010, 5012, 52, 1009, 5013]), (60, 1, .aload_n 0, 37, 0, 0, []), (61, 2, .bipush 13, 38, 0, 0, []), (63, 3, .invokevirtual 165, 39, 145, 1, [4238, 5000, 50, 1009, 5001]), (66, 3, .invokestatic 124, 40, 130, 1, [4179, 4180, 1009, 4181]), (69, 1, .istore_n 2, 41, 0, 0, []), (70, 1, .aload_n 0, 42, 0, 0, []), (71, 3, .invokevirtual 145, 43, 113, 0, [4202, 4204, 47, 1009, 4205]), (74, 1, .iload_n 2, 44, 0, 0, []), (75, 1, .ireturn, 45, 0, 0, [])]
def xi_161 : XI := (⟨"StarchedCollarsModel", "goneBy", "(I)I"⟩, prog_10_method_55_code, 3, some (FieldType.int), xo_161)
-- 162 StarchedCollarsModel.wash(I)I maxLocals 7
def xo_162_0 : List XO := [(0, 1, .iload_n 1, 1, 0, 0, []), (1, 1, .iconst 0, 2, 0, 0, []), (2, 2, .bipush 6, 3, 0, 0, []), (4, 3, .invokestatic 41, 4, 109, 3, [4092, 4093, 1009, 4094]), (7, 3, .ifCond .ne 6, 5, 7, 0, []), (10, 2, .bipush (-2), 6, 0, 0, []), (12, 1, .ireturn, 7, 0, 0, []), (13, 1, .iconst 0, 8, 0, 0, []), (14, 1, .istore_n 2, 9, 0, 0, []), (15, 1, .aload_n 0, 10, 0, 0, []), (16, 1, .iconst 0, 11, 0, 0, []), (17, 3, .invokevirtual 203, 12, 161, 1, [5066, 5068, 60, 1009, 5069]), (20, 1, .istore_n 3, 13, 0, 0, []), (21, 1, .iconst 1, 14, 0, 0, []), (22, 2, .istore 4, 15, 0, 0, []), (24, 2, .iload 4, 16, 0, 0, []), (26, 1, .iconst 1, 17, 0, 0, []), (27, 1, .aload_n 0, 18, 0, 0, []), (28, 3, .getfield 9, 19, 8, 1, [4027]), (31, 2, .bipush 31, 20, 0, 0, []), (33, 1, .iaload, 21, 0, 0, []), (34, 1, .ishl, 22, 0, 0, []), (35, 3, .if_icmp .ge 86, 23, 62, 0, []), (38, 2, .iload 4, 24, 0, 0, []), (40, 3, .invokestatic 124, 25, 130, 1, [4179, 4180, 1009, 4181]), (43, 1, .iload_n 1, 26, 0, 0, []), (44, 3, .if_icmp .gt 12, 27, 31, 0, []), (47, 1, .aload_n 0, 28, 0, 0, []), (48, 2, .iload 4, 29, 0, 0, []), (50, 3, .invokevirtual 203, 30, 161, 1, [5066, 5068, 60, 1009, 5069]), (53, 3, .goto 5, 31, 32, 0, []), (56, 2, .ldc 196, 32, 7, 2, [5045]), (58, 2, .istore 5, 33, 0, 0, []), (60, 2, .iload 5, 34, 0, 0, []), (62, 1, .iload_n 3, 35, 0, 0, []), (63, 3, .if_icmp .lt 21, 36, 44, 0, []), (66, 2, .iload 5, 37, 0, 0, []), (68, 1, .iload_n 3, 38, 0, 0, []), (69, 3, .if_icmp .ne 19, 39, 46, 0, []), (72, 2, .iload 4, 40, 0, 0, []), (74, 3, .invokestatic 124, 41, 130, 1, [4179, 4180, 1009, 4181]), (77, 1, .iload_n 2, 42, 0, 0, []), (78, 3, .invokestatic 124, 43, 130, 1, [4179, 4180, 1009, 4181]), (81, 3, .if_icmp .ge 7, 44, 46, 0, []), (84, 1, .iconst 1, 45, 0, 0, []), (85, 3, .goto 4, 46, 47, 0, []), (88, 1, .iconst 0, 47, 0, 0, []), (89, 2, .istore 6, 48, 0, 0, []), (91, 2, .iload 6, 49, 0, 0, []), (93, 3, .ifCond .eq 8, 50, 52, 0, [])]
def xo_162_1 : List XO := [(96, 2, .iload 4, 51, 0, 0, []), (98, 3, .goto 4, 52, 53, 0, []), (101, 1, .iload_n 2, 53, 0, 0, []), (102, 1, .istore_n 2, 54, 0, 0, []), (103, 2, .iload 6, 55, 0, 0, []), (105, 3, .ifCond .eq 8, 56, 58, 0, []), (108, 2, .iload 5, 57, 0, 0, []), (110, 3, .goto 4, 58, 59, 0, []), (113, 1, .iload_n 3, 59, 0, 0, []), (114, 1, .istore_n 3, 60, 0, 0, []), (115, 3, .iinc 4 1, 61, 0, 0, []), (118, 3, .goto (-94), 62, 15, 0, []), (121, 1, .iload_n 2, 63, 0, 0, []), (122, 1, .ireturn, 64, 0, 0, [])]
def xo_162 : List XO := xo_162_0 ++ xo_162_1
def xi_162 : XI := (⟨"StarchedCollarsModel", "wash", "(I)I"⟩, prog_10_method_56_code, 7, some (FieldType.int), xo_162)
-- 163 StarchedCollarsModel.see(III)I maxLocals 4
def xo_163_0 : List XO := [(0, 1, .iload_n 1, 1, 0, 0, []), (1, 1, .iconst (-1), 2, 0, 0, []), (2, 3, .if_icmp .ne 13, 3, 10, 0, []), (5, 1, .aload_n 0, 4, 0, 0, []), (6, 3, .getfield 9, 5, 8, 1, [4027]), (9, 2, .bipush 33, 6, 0, 0, []), (11, 1, .iconst 0, 7, 0, 0, []), (12, 1, .iastore, 8, 0, 0, []), (13, 1, .iconst 0, 9, 0, 0, []), (14, 1, .ireturn, 10, 0, 0, []), (15, 1, .aload_n 0, 11, 0, 0, []), (16, 1, .iload_n 1, 12, 0, 0, []), (17, 3, .invokevirtual 148, 13, 110, 1, [4166, 4168, 39, 1009, 4169]), (20, 3, .ifCond .ne 5, 14, 16, 0, []), (23, 1, .iconst (-1), 15, 0, 0, []), (24, 1, .ireturn, 16, 0, 0, []), (25, 1, .iload_n 2, 17, 0, 0, []), (26, 1, .iconst 0, 18, 0, 0, []), (27, 2, .bipush 20, 19, 0, 0, []), (29, 3, .invokestatic 41, 20, 109, 3, [4092, 4093, 1009, 4094]), (32, 3, .ifCond .eq 13, 21, 26, 0, []), (35, 1, .iload_n 3, 22, 0, 0, []), (36, 1, .iconst 0, 23, 0, 0, []), (37, 2, .bipush 99, 24, 0, 0, []), (39, 3, .invokestatic 41, 25, 109, 3, [4092, 4093, 1009, 4094]), (42, 3, .ifCond .ne 6, 26, 28, 0, []), (45, 2, .bipush (-2), 27, 0, 0, []), (47, 1, .ireturn, 28, 0, 0, []), (48, 1, .aload_n 0, 29, 0, 0, []), (49, 3, .getfield 9, 30, 8, 1, [4027]), (52, 2, .bipush 33, 31, 0, 0, []), (54, 1, .iaload, 32, 0, 0, []), (55, 1, .iconst 5, 33, 0, 0, []), (56, 3, .if_icmp .ne 6, 34, 36, 0, []), (59, 2, .bipush (-4), 35, 0, 0, []), (61, 1, .ireturn, 36, 0, 0, []), (62, 1, .aload_n 0, 37, 0, 0, []), (63, 3, .getfield 9, 38, 8, 1, [4027]), (66, 2, .bipush 74, 39, 0, 0, []), (68, 1, .aload_n 0, 40, 0, 0, []), (69, 3, .getfield 9, 41, 8, 1, [4027]), (72, 2, .bipush 33, 42, 0, 0, []), (74, 1, .iaload, 43, 0, 0, []), (75, 1, .iadd, 44, 0, 0, []), (76, 1, .iload_n 1, 45, 0, 0, []), (77, 1, .iastore, 46, 0, 0, []), (78, 1, .aload_n 0, 47, 0, 0, []), (79, 3, .getfield 9, 48, 8, 1, [4027]), (82, 2, .bipush 79, 49, 0, 0, []), (84, 1, .aload_n 0, 50, 0, 0, [])]
def xo_163_1 : List XO := [(85, 3, .getfield 9, 51, 8, 1, [4027]), (88, 2, .bipush 33, 52, 0, 0, []), (90, 1, .iaload, 53, 0, 0, []), (91, 1, .iadd, 54, 0, 0, []), (92, 1, .iload_n 2, 55, 0, 0, []), (93, 1, .iastore, 56, 0, 0, []), (94, 1, .aload_n 0, 57, 0, 0, []), (95, 3, .getfield 9, 58, 8, 1, [4027]), (98, 2, .bipush 84, 59, 0, 0, []), (100, 1, .aload_n 0, 60, 0, 0, []), (101, 3, .getfield 9, 61, 8, 1, [4027]), (104, 2, .bipush 33, 62, 0, 0, []), (106, 1, .iaload, 63, 0, 0, []), (107, 1, .iadd, 64, 0, 0, []), (108, 1, .iload_n 3, 65, 0, 0, []), (109, 1, .iastore, 66, 0, 0, []), (110, 1, .aload_n 0, 67, 0, 0, []), (111, 3, .getfield 9, 68, 8, 1, [4027]), (114, 2, .bipush 33, 69, 0, 0, []), (116, 1, .dup2, 70, 0, 0, []), (117, 1, .iaload, 71, 0, 0, []), (118, 1, .iconst 1, 72, 0, 0, []), (119, 1, .iadd, 73, 0, 0, []), (120, 1, .iastore, 74, 0, 0, []), (121, 1, .aload_n 0, 75, 0, 0, []), (122, 3, .getfield 9, 76, 8, 1, [4027]), (125, 2, .bipush 33, 77, 0, 0, []), (127, 1, .iaload, 78, 0, 0, []), (128, 1, .ireturn, 79, 0, 0, [])]
def xo_163 : List XO := xo_163_0 ++ xo_163_1
def xi_163 : XI := (⟨"StarchedCollarsModel", "see", "(III)I"⟩, prog_10_method_57_code, 4, some (FieldType.int), xo_163)
-- 164 StarchedCollarsModel.isAsSeen(II)Z maxLocals 5
def xo_164 : List XO := [(0, 1, .iconst 1, 1, 0, 0, []), (1, 1, .istore_n 3, 2, 0, 0, []), (2, 1, .iconst 0, 3, 0, 0, []), (3, 2, .istore 4, 4, 0, 0, []), (5, 2, .iload 4, 5, 0, 0, []), (7, 1, .aload_n 0, 6, 0, 0, []), (8, 3, .getfield 9, 7, 8, 1, [4027]), (11, 2, .bipush 33, 8, 0, 0, []), (13, 1, .iaload, 9, 0, 0, []), (14, 3, .if_icmp .ge 69, 10, 47, 0, []), (17, 1, .iload_n 3, 11, 0, 0, []), (18, 3, .ifCond .eq 57, 12, 43, 0, []), (21, 1, .aload_n 0, 13, 0, 0, []), (22, 3, .getfield 9, 14, 8, 1, [4027]), (25, 2, .bipush 74, 15, 0, 0, []), (27, 2, .iload 4, 16, 0, 0, []), (29, 1, .iadd, 17, 0, 0, []), (30, 1, .iaload, 18, 0, 0, []), (31, 1, .iload_n 1, 19, 0, 0, []), (32, 3, .if_icmp .ne 39, 20, 41, 0, []), (35, 1, .aload_n 0, 21, 0, 0, []), (36, 3, .getfield 9, 22, 8, 1, [4027]), (39, 2, .bipush 79, 23, 0, 0, []), (41, 2, .iload 4, 24, 0, 0, []), (43, 1, .iadd, 25, 0, 0, []), (44, 1, .iaload, 26, 0, 0, []), (45, 1, .iload_n 2, 27, 0, 0, []), (46, 3, .if_icmp .ne 25, 28, 41, 0, []), (49, 1, .aload_n 0, 29, 0, 0, []), (50, 3, .getfield 9, 30, 8, 1, [4027]), (53, 2, .bipush 7, 31, 0, 0, []), (55, 1, .iload_n 1, 32, 0, 0, []), (56, 1, .iadd, 33, 0, 0, []), (57, 1, .iaload, 34, 0, 0, []), (58, 1, .aload_n 0, 35, 0, 0, []), (59, 3, .getfield 9, 36, 8, 1, [4027]), (62, 2, .bipush 84, 37, 0, 0, []), (64, 2, .iload 4, 38, 0, 0, []), (66, 1, .iadd, 39, 0, 0, []), (67, 1, .iaload, 40, 0, 0, []), (68, 3, .if_icmp .ne 7, 41, 43, 0, []), (71, 1, .iconst 1, 42, 0, 0, []), (72, 3, .goto 4, 43, 44, 0, []), (75, 1, .iconst 0, 44, 0, 0, []), (76, 1, .istore_n 3, 45, 0, 0, []), (77, 3, .iinc 4 1, 46, 0, 0, []), (80, 3, .goto (-75), 47, 4, 0, []), (83, 1, .iload_n 3, 48, 0, 0, []), (84, 1, .ireturn, 49, 0, 0, [])]
def xi_164 : XI := (⟨"StarchedCollarsModel", "isAsSeen", "(II)Z"⟩, prog_10_method_58_code, 5, some (FieldType.boolean), xo_164)
-- 165 StarchedCollarsModel.areAsSeen(I)Z maxLocals 4
def xo_165 : List XO := [(0, 1, .iconst 1, 1, 0, 0, []), (1, 1, .istore_n 2, 2, 0, 0, []), (2, 1, .iconst 0, 3, 0, 0, []), (3, 1, .istore_n 3, 4, 0, 0, []), (4, 1, .iload_n 3, 5, 0, 0, []), (5, 2, .bipush 20, 6, 0, 0, []), (7, 3, .if_icmp .gt 25, 7, 19, 0, []), (10, 1, .iload_n 2, 8, 0, 0, []), (11, 3, .ifCond .eq 21, 9, 19, 0, []), (14, 1, .aload_n 0, 10, 0, 0, []), (15, 1, .iload_n 1, 11, 0, 0, []), (16, 1, .iload_n 3, 12, 0, 0, []), (17, 3, .invokevirtual 206, 13, 164, 2, [5086, 5088, 63, 1009, 5089]), (20, 1, .istore_n 2, 14, 0, 0, []), (21, 1, .aload_n 0, 15, 0, 0, []), (22, 1, .iload_n 1, 16, 0, 0, []), (23, 3, .invokevirtual 183, 17, 151, 1, [5033, 5035, 55, 1009, 5036]), (26, 3, .iinc 3 1, 18, 0, 0, []), (29, 3, .goto (-25), 19, 4, 0, []), (32, 1, .aload_n 0, 20, 0, 0, []), (33, 3, .invokevirtual 145, 21, 113, 0, [4202, 4204, 47, 1009, 4205]), (36, 1, .iload_n 2, 22, 0, 0, []), (37, 1, .ireturn, 23, 0, 0, [])]
def xi_165 : XI := (⟨"StarchedCollarsModel", "areAsSeen", "(I)Z"⟩, prog_10_method_59_code, 4, some (FieldType.boolean), xo_165)
-- 166 StarchedCollarsModel.fitting(IIII)I maxLocals 10
def xo_166 : List XO := [(0, 1, .aload_n 0, 1, 0, 0, []), (1, 3, .getfield 9, 2, 8, 1, [4027]), (4, 1, .iload_n 2, 3, 0, 0, []), (5, 1, .iaload, 4, 0, 0, []), (6, 2, .istore 5, 5, 0, 0, []), (8, 1, .iconst 0, 6, 0, 0, []), (9, 2, .istore 6, 7, 0, 0, []), (11, 2, .bipush (-5), 8, 0, 0, []), (13, 2, .istore 7, 9, 0, 0, []), (15, 1, .iload_n 3, 10, 0, 0, []), (16, 2, .istore 8, 11, 0, 0, []), (18, 2, .iload 8, 12, 0, 0, []), (20, 3, .ifCond .lt 57, 13, 40, 0, []), (23, 1, .aload_n 0, 14, 0, 0, []), (24, 3, .invokevirtual 139, 15, 112, 0, [4198, 4200, 46, 1009, 4201]), (27, 1, .aload_n 0, 16, 0, 0, []), (28, 3, .getfield 9, 17, 8, 1, [4027]), (31, 1, .iload_n 2, 18, 0, 0, []), (32, 2, .iload 8, 19, 0, 0, []), (34, 1, .iastore, 20, 0, 0, []), (35, 1, .aload_n 0, 21, 0, 0, []), (36, 1, .iload_n 1, 22, 0, 0, []), (37, 3, .invokevirtual 209, 23, 165, 1, [5082, 5084, 62, 1009, 5085]), (40, 2, .istore 9, 24, 0, 0, []), (42, 2, .iload 6, 25, 0, 0, []), (44, 2, .iload 9, 26, 0, 0, []), (46, 3, .ifCond .eq 7, 27, 29, 0, []), (49, 1, .iconst 1, 28, 0, 0, []), (50, 3, .goto 4, 29, 30, 0, []), (53, 1, .iconst 0, 30, 0, 0, []), (54, 1, .iadd, 31, 0, 0, []), (55, 2, .istore 6, 32, 0, 0, []), (57, 2, .iload 9, 33, 0, 0, []), (59, 3, .ifCond .eq 8, 34, 36, 0, []), (62, 2, .iload 8, 35, 0, 0, []), (64, 3, .goto 5, 36, 37, 0, []), (67, 2, .iload 7, 37, 0, 0, []), (69, 2, .istore 7, 38, 0, 0, []), (71, 3, .iinc 8 (-1), 39, 0, 0, []), (74, 3, .goto (-56), 40, 11, 0, []), (77, 1, .aload_n 0, 41, 0, 0, []), (78, 3, .getfield 9, 42, 8, 1, [4027]), (81, 1, .iload_n 2, 43, 0, 0, []), (82, 2, .iload 5, 44, 0, 0, []), (84, 1, .iastore, 45, 0, 0, []), (85, 2, .iload 4, 46, 0, 0, []), (87, 3, .ifCond .ne 8, 47, 49, 0, []), (90, 2, .iload 6, 48, 0, 0, []), (92, 3, .goto 5, 49, 50, 0, []), (95, 2, .iload 7, 50, 0, 0, []), (97, 1, .ireturn, 51, 0, 0, [])]
def xi_166 : XI := (⟨"StarchedCollarsModel", "fitting", "(IIII)I"⟩, prog_10_method_60_code, 10, some (FieldType.int), xo_166)
-- 167 StarchedCollarsModel.highs(II)I maxLocals 3
def xo_167 : List XO := [(0, 1, .aload_n 0, 1, 0, 0, []), (1, 1, .iload_n 1, 2, 0, 0, []), (2, 3, .invokevirtual 148, 3, 110, 1, [4166, 4168, 39, 1009, 4169]), (5, 3, .ifCond .eq 27, 4, 18, 0, []), (8, 1, .iload_n 2, 5, 0, 0, []), (9, 1, .iconst 0, 6, 0, 0, []), (10, 1, .iconst 1, 7, 0, 0, []), (11, 3, .invokestatic 41, 8, 109, 3, [4092, 4093, 1009, 4094]), (14, 3, .ifCond .eq 18, 9, 18, 0, []), (17, 1, .aload_n 0, 10, 0, 0, []), (18, 1, .iload_n 1, 11, 0, 0, []), (19, 2, .bipush 7, 12, 0, 0, []), (21, 1, .iload_n 1, 13, 0, 0, []), (22, 1, .iadd, 14, 0, 0, []), (23, 2, .bipush 99, 15, 0, 0, []), (25, 1, .iload_n 2, 16, 0, 0, []), (26, 3, .invokevirtual 212, 17, 166, 4, [5078, 5080, 61, 1009, 5081]), (29, 3, .goto 4, 18, 19, 0, []), (32, 1, .iconst (-1), 19, 0, 0, []), (33, 1, .ireturn, 20, 0, 0, [])]
def xi_167 : XI := (⟨"StarchedCollarsModel", "highs", "(II)I"⟩, prog_10_method_61_code, 3, some (FieldType.int), xo_167)
-- 168 StarchedCollarsModel.firm(II)I maxLocals 3
def xo_168 : List XO := [(0, 1, .aload_n 0, 1, 0, 0, []), (1, 1, .iload_n 1, 2, 0, 0, []), (2, 3, .invokevirtual 148, 3, 110, 1, [4166, 4168, 39, 1009, 4169]), (5, 3, .ifCond .eq 27, 4, 18, 0, []), (8, 1, .iload_n 2, 5, 0, 0, []), (9, 1, .iconst 0, 6, 0, 0, []), (10, 1, .iconst 1, 7, 0, 0, []), (11, 3, .invokestatic 41, 8, 109, 3, [4092, 4093, 1009, 4094]), (14, 3, .ifCond .eq 18, 9, 18, 0, []), (17, 1, .aload_n 0, 10, 0, 0, []), (18, 1, .iload_n 1, 11, 0, 0, []), (19, 2, .bipush 44, 12, 0, 0, []), (21, 1, .iload_n 1, 13, 0, 0, []), (22, 1, .iadd, 14, 0, 0, []), (23, 2, .bipush 9, 15, 0, 0, []), (25, 1, .iload_n 2, 16, 0, 0, []), (26, 3, .invokevirtual 212, 17, 166, 4, [5078, 5080, 61, 1009, 5081]), (29, 3, .goto 4, 18, 19, 0, []), (32, 1, .iconst (-1), 19, 0, 0, []), (33, 1, .ireturn, 20, 0, 0, [])]
def xi_168 : XI := (⟨"StarchedCollarsModel", "firm", "(II)I"⟩, prog_10_method_62_code, 3, some (FieldType.int), xo_168)
-- 169 StarchedCollarsModel.lowest(JJI)J maxLocals 11
def xo_169 : List XO := [(0, 1, .lload_n 0, 1, 0, 0, []), (1, 1, .lconst 0, 2, 0, 0, []), (2, 1, .lcmp, 3, 0, 0, []), (3, 3, .ifCond .ge 8, 4, 7, 0, []), (6, 1, .lload_n 0, 5, 0, 0, []), (7, 1, .lneg, 6, 0, 0, []), (8, 3, .goto 4, 7, 8, 0, []), (11, 1, .lload_n 0, 8, 0, 0, []), (12, 2, .lstore 5, 9, 0, 0, []), (14, 1, .lload_n 2, 10, 0, 0, []), (15, 2, .lstore 7, 11, 0, 0, []), (17, 2, .lload 7, 12, 0, 0, []), (19, 1, .lconst 0, 13, 0, 0, []), (20, 1, .lcmp, 14, 0, 0, []), (21, 3, .ifCond .eq 21, 15, 24, 0, []), (24, 2, .lload 5, 16, 0, 0, []), (26, 2, .lload 7, 17, 0, 0, []), (28, 1, .lrem, 18, 0, 0, []), (29, 2, .lstore 9, 19, 0, 0, []), (31, 2, .lload 7, 20, 0, 0, []), (33, 2, .lstore 5, 21, 0, 0, []), (35, 2, .lload 9, 22, 0, 0, []), (37, 2, .lstore 7, 23, 0, 0, []), (39, 3, .goto (-22), 24, 11, 0, []), (42, 2, .iload 4, 25, 0, 0, []), (44, 3, .ifCond .ne 7, 26, 28, 0, []), (47, 1, .lload_n 0, 27, 0, 0, []), (48, 3, .goto 4, 28, 29, 0, []), (51, 1, .lload_n 2, 29, 0, 0, []), (52, 2, .lload 5, 30, 0, 0, []), (54, 1, .ldiv, 31, 0, 0, []), (55, 1, .lreturn, 32, 0, 0, [])]
def xi_169 : XI := (⟨"StarchedCollarsModel", "lowest", "(JJI)J"⟩, prog_10_method_63_code, 11, some (FieldType.long), xo_169)
-- 170 StarchedCollarsModel.odds(III)J maxLocals 8
def xo_170_0 : List XO := [(0, 1, .aload_n 0, 1, 0, 0, []), (1, 1, .iload_n 1, 2, 0, 0, []), (2, 3, .invokevirtual 148, 3, 110, 1, [4166, 4168, 39, 1009, 4169]), (5, 3, .ifCond .eq 22, 4, 14, 0, []), (8, 1, .iload_n 2, 5, 0, 0, []), (9, 1, .iconst 0, 6, 0, 0, []), (10, 2, .bipush 60, 7, 0, 0, []), (12, 3, .invokestatic 41, 8, 109, 3, [4092, 4093, 1009, 4094]), (15, 3, .ifCond .eq 12, 9, 14, 0, []), (18, 1, .iload_n 3, 10, 0, 0, []), (19, 1, .iconst 0, 11, 0, 0, []), (20, 1, .iconst 1, 12, 0, 0, []), (21, 3, .invokestatic 41, 13, 109, 3, [4092, 4093, 1009, 4094]), (24, 3, .ifCond .ne 7, 14, 16, 0, []), (27, 3, .ldc2_w 216, 15, 6, 3, [5098]), (30, 1, .lreturn, 16, 0, 0, []), (31, 1, .lconst 0, 17, 0, 0, []), (32, 2, .lstore 4, 18, 0, 0, []), (34, 1, .iconst 0, 19, 0, 0, []), (35, 2, .istore 6, 20, 0, 0, []), (37, 2, .iload 6, 21, 0, 0, []), (39, 2, .bipush 8, 22, 0, 0, []), (41, 3, .if_icmp .ge 67, 23, 61, 0, []), (44, 1, .aload_n 0, 24, 0, 0, []), (45, 3, .invokevirtual 139, 25, 112, 0, [4198, 4200, 46, 1009, 4201]), (48, 1, .aload_n 0, 26, 0, 0, []), (49, 3, .getfield 9, 27, 8, 1, [4027]), (52, 1, .iconst 1, 28, 0, 0, []), (53, 1, .iload_n 1, 29, 0, 0, []), (54, 1, .iadd, 30, 0, 0, []), (55, 1, .dup2, 31, 0, 0, []), (56, 1, .iaload, 32, 0, 0, []), (57, 1, .iconst 1, 33, 0, 0, []), (58, 2, .iload 6, 34, 0, 0, []), (60, 1, .ishl, 35, 0, 0, []), (61, 1, .ixor, 36, 0, 0, []), (62, 1, .iastore, 37, 0, 0, []), (63, 1, .iconst 0, 38, 0, 0, []), (64, 2, .istore 7, 39, 0, 0, []), (66, 2, .iload 7, 40, 0, 0, []), (68, 1, .iload_n 2, 41, 0, 0, []), (69, 3, .if_icmp .ge 14, 42, 47, 0, []), (72, 1, .aload_n 0, 43, 0, 0, []), (73, 1, .iload_n 1, 44, 0, 0, []), (74, 3, .invokevirtual 183, 45, 151, 1, [5033, 5035, 55, 1009, 5036]), (77, 3, .iinc 7 1, 46, 0, 0, []), (80, 3, .goto (-14), 47, 39, 0, []), (83, 2, .lload 4, 48, 0, 0, []), (85, 1, .aload_n 0, 49, 0, 0, []), (86, 3, .getfield 9, 50, 8, 1, [4027])]
def xo_170_1 : List XO := [(89, 2, .bipush 13, 51, 0, 0, []), (91, 1, .iload_n 1, 52, 0, 0, []), (92, 1, .iadd, 53, 0, 0, []), (93, 1, .iaload, 54, 0, 0, []), (94, 1, .i2l, 55, 0, 0, []), (95, 1, .ladd, 56, 0, 0, []), (96, 2, .lstore 4, 57, 0, 0, []), (98, 1, .aload_n 0, 58, 0, 0, []), (99, 3, .invokevirtual 145, 59, 113, 0, [4202, 4204, 47, 1009, 4205]), (102, 3, .iinc 6 1, 60, 0, 0, []), (105, 3, .goto (-68), 61, 20, 0, []), (108, 2, .lload 4, 62, 0, 0, []), (110, 3, .ldc2_w 218, 63, 8, 3, [5099]), (113, 1, .iload_n 3, 64, 0, 0, []), (114, 3, .invokestatic 220, 65, 169, 3, [5100, 5101, 1009, 5102]), (117, 1, .lreturn, 66, 0, 0, [])]
def xo_170 : List XO := xo_170_0 ++ xo_170_1
def xi_170 : XI := (⟨"StarchedCollarsModel", "odds", "(III)J"⟩, prog_10_method_64_code, 8, some (FieldType.long), xo_170)
-- 171 StarchedCollarsModel.mean(I)J maxLocals 7
def xo_171_0 : List XO := [(0, 1, .lconst 0, 1, 0, 0, []), (1, 1, .lstore_n 2, 2, 0, 0, []), (2, 1, .lconst 0, 3, 0, 0, []), (3, 2, .lstore 4, 4, 0, 0, []), (5, 1, .iconst 0, 5, 0, 0, []), (6, 2, .istore 6, 6, 0, 0, []), (8, 2, .iload 6, 7, 0, 0, []), (10, 1, .aload_n 0, 8, 0, 0, []), (11, 3, .getfield 9, 9, 8, 1, [4027]), (14, 2, .bipush 31, 10, 0, 0, []), (16, 1, .iaload, 11, 0, 0, []), (17, 3, .if_icmp .ge 63, 12, 46, 0, []), (20, 1, .lload_n 2, 13, 0, 0, []), (21, 1, .aload_n 0, 14, 0, 0, []), (22, 3, .getfield 9, 15, 8, 1, [4027]), (25, 2, .bipush 19, 16, 0, 0, []), (27, 2, .iload 6, 17, 0, 0, []), (29, 1, .iadd, 18, 0, 0, []), (30, 1, .iaload, 19, 0, 0, []), (31, 3, .ifCond .ne 17, 20, 28, 0, []), (34, 1, .aload_n 0, 21, 0, 0, []), (35, 3, .getfield 9, 22, 8, 1, [4027]), (38, 2, .bipush 7, 23, 0, 0, []), (40, 2, .iload 6, 24, 0, 0, []), (42, 1, .iadd, 25, 0, 0, []), (43, 1, .iaload, 26, 0, 0, []), (44, 1, .i2l, 27, 0, 0, []), (45, 3, .goto 4, 28, 29, 0, []), (48, 1, .lconst 0, 29, 0, 0, []), (49, 1, .ladd, 30, 0, 0, []), (50, 1, .lstore_n 2, 31, 0, 0, []), (51, 2, .lload 4, 32, 0, 0, []), (53, 1, .aload_n 0, 33, 0, 0, []), (54, 3, .getfield 9, 34, 8, 1, [4027]), (57, 2, .bipush 19, 35, 0, 0, []), (59, 2, .iload 6, 36, 0, 0, []), (61, 1, .iadd, 37, 0, 0, []), (62, 1, .iaload, 38, 0, 0, []), (63, 3, .ifCond .ne 7, 39, 41, 0, []), (66, 1, .lconst 1, 40, 0, 0, []), (67, 3, .goto 4, 41, 42, 0, []), (70, 1, .lconst 0, 42, 0, 0, []), (71, 1, .ladd, 43, 0, 0, []), (72, 2, .lstore 4, 44, 0, 0, []), (74, 3, .iinc 6 1, 45, 0, 0, []), (77, 3, .goto (-69), 46, 6, 0, []), (80, 1, .iload_n 1, 47, 0, 0, []), (81, 1, .iconst 0, 48, 0, 0, []), (82, 1, .iconst 1, 49, 0, 0, []), (83, 3, .invokestatic 41, 50, 109, 3, [4092, 4093, 1009, 4094])]
def xo_171_1 : List XO := [(86, 3, .ifCond .eq 10, 51, 55, 0, []), (89, 2, .lload 4, 52, 0, 0, []), (91, 1, .lconst 0, 53, 0, 0, []), (92, 1, .lcmp, 54, 0, 0, []), (93, 3, .ifCond .ne 9, 55, 57, 0, []), (96, 3, .ldc2_w 216, 56, 6, 3, [5098]), (99, 3, .goto 10, 57, 61, 0, []), (102, 1, .lload_n 2, 58, 0, 0, []), (103, 2, .lload 4, 59, 0, 0, []), (105, 1, .iload_n 1, 60, 0, 0, []), (106, 3, .invokestatic 220, 61, 169, 3, [5100, 5101, 1009, 5102]), (109, 1, .lreturn, 62, 0, 0, [])]
def xo_171 : List XO := xo_171_0 ++ xo_171_1
def xi_171 : XI := (⟨"StarchedCollarsModel", "mean", "(I)J"⟩, prog_10_method_65_code, 7, some (FieldType.long), xo_171)
-- 172 StarchedCollarsModel.plan(II)I maxLocals 3
def xo_172_0 : List XO := [(0, 1, .iload_n 1, 1, 0, 0, []), (1, 1, .iconst (-1), 2, 0, 0, []), (2, 3, .if_icmp .ne 13, 3, 10, 0, []), (5, 1, .aload_n 0, 4, 0, 0, []), (6, 3, .getfield 9, 5, 8, 1, [4027]), (9, 2, .bipush 34, 6, 0, 0, []), (11, 1, .iconst 0, 7, 0, 0, []), (12, 1, .iastore, 8, 0, 0, []), (13, 1, .iconst 0, 9, 0, 0, []), (14, 1, .ireturn, 10, 0, 0, []), (15, 1, .iload_n 1, 11, 0, 0, []), (16, 1, .iconst 0, 12, 0, 0, []), (17, 1, .iconst 3, 13, 0, 0, []), (18, 3, .invokestatic 41, 14, 109, 3, [4092, 4093, 1009, 4094]), (21, 3, .ifCond .eq 15, 15, 21, 0, []), (24, 1, .iload_n 1, 16, 0, 0, []), (25, 3, .ifCond .le 13, 17, 23, 0, []), (28, 1, .aload_n 0, 18, 0, 0, []), (29, 1, .iload_n 2, 19, 0, 0, []), (30, 3, .invokevirtual 148, 20, 110, 1, [4166, 4168, 39, 1009, 4169]), (33, 3, .ifCond .ne 5, 21, 23, 0, []), (36, 1, .iconst (-1), 22, 0, 0, []), (37, 1, .ireturn, 23, 0, 0, []), (38, 1, .aload_n 0, 24, 0, 0, []), (39, 3, .getfield 9, 25, 8, 1, [4027]), (42, 2, .bipush 34, 26, 0, 0, []), (44, 1, .iaload, 27, 0, 0, []), (45, 2, .bipush 8, 28, 0, 0, []), (47, 3, .if_icmp .ne 6, 29, 31, 0, []), (50, 2, .bipush (-4), 30, 0, 0, []), (52, 1, .ireturn, 31, 0, 0, []), (53, 1, .aload_n 0, 32, 0, 0, []), (54, 3, .getfield 9, 33, 8, 1, [4027]), (57, 2, .bipush 89, 34, 0, 0, []), (59, 1, .aload_n 0, 35, 0, 0, []), (60, 3, .getfield 9, 36, 8, 1, [4027]), (63, 2, .bipush 34, 37, 0, 0, []), (65, 1, .iaload, 38, 0, 0, []), (66, 1, .iadd, 39, 0, 0, []), (67, 1, .iload_n 1, 40, 0, 0, []), (68, 1, .iastore, 41, 0, 0, []), (69, 1, .aload_n 0, 42, 0, 0, []), (70, 3, .getfield 9, 43, 8, 1, [4027]), (73, 2, .bipush 97, 44, 0, 0, []), (75, 1, .aload_n 0, 45, 0, 0, []), (76, 3, .getfield 9, 46, 8, 1, [4027]), (79, 2, .bipush 34, 47, 0, 0, []), (81, 1, .iaload, 48, 0, 0, []), (82, 1, .iadd, 49, 0, 0, []), (83, 1, .iload_n 2, 50, 0, 0, [])]
def xo_172_1 : List XO := [(84, 1, .iastore, 51, 0, 0, []), (85, 1, .aload_n 0, 52, 0, 0, []), (86, 3, .getfield 9, 53, 8, 1, [4027]), (89, 2, .bipush 34, 54, 0, 0, []), (91, 1, .dup2, 55, 0, 0, []), (92, 1, .iaload, 56, 0, 0, []), (93, 1, .iconst 1, 57, 0, 0, []), (94, 1, .iadd, 58, 0, 0, []), (95, 1, .iastore, 59, 0, 0, []), (96, 1, .aload_n 0, 60, 0, 0, []), (97, 3, .getfield 9, 61, 8, 1, [4027]), (100, 2, .bipush 34, 62, 0, 0, []), (102, 1, .iaload, 63, 0, 0, []), (103, 1, .ireturn, 64, 0, 0, [])]
def xo_172 : List XO := xo_172_0 ++ xo_172_1
def xi_172 : XI := (⟨"StarchedCollarsModel", "plan", "(II)I"⟩, prog_10_method_66_code, 3, some (FieldType.int), xo_172)
-- 173 StarchedCollarsModel.goesBy(II)V maxLocals 3
def xo_173 : List XO := [(0, 1, .iload_n 1, 1, 0, 0, []), (1, 27, .tableswitch 60 0 2 #[27, 34, 47], 2, 0, 0, [21, 2, 5, 13]), (28, 1, .aload_n 0, 3, 0, 0, []), (29, 3, .invokevirtual 177, 4, 149, 0, [5014, 5016, 53, 1009, 5017]), (32, 3, .goto 39, 5, 28, 0, []), (35, 1, .aload_n 0, 6, 0, 0, []), (36, 3, .getfield 9, 7, 8, 1, [4027]), (39, 2, .bipush 7, 8, 0, 0, []), (41, 1, .iload_n 2, 9, 0, 0, []), (42, 1, .iadd, 10, 0, 0, []), (43, 1, .iconst 0, 11, 0, 0, []), (44, 1, .iastore, 12, 0, 0, []), (45, 3, .goto 26, 13, 28, 0, []), (48, 1, .aload_n 0, 14, 0, 0, []), (49, 3, .getfield 9, 15, 8, 1, [4027]), (52, 2, .bipush 13, 16, 0, 0, []), (54, 1, .iload_n 2, 17, 0, 0, []), (55, 1, .iadd, 18, 0, 0, []), (56, 1, .iconst 0, 19, 0, 0, []), (57, 1, .iastore, 20, 0, 0, []), (58, 3, .goto 13, 21, 28, 0, []), (61, 1, .aload_n 0, 22, 0, 0, []), (62, 3, .getfield 9, 23, 8, 1, [4027]), (65, 2, .bipush 19, 24, 0, 0, []), (67, 1, .iload_n 2, 25, 0, 0, []), (68, 1, .iadd, 26, 0, 0, []), (69, 1, .iconst 1, 27, 0, 0, []), (70, 1, .iastore, 28, 0, 0, []), (71, 1, .return_, 29, 0, 0, [])]
def xi_173 : XI := (⟨"StarchedCollarsModel", "goesBy", "(II)V"⟩, prog_10_method_67_code, 3, none, xo_173)
-- 174 StarchedCollarsModel.heights()I maxLocals 3
def xo_174 : List XO := [(0, 1, .iconst 0, 1, 0, 0, []), (1, 1, .istore_n 1, 2, 0, 0, []), (2, 1, .iconst 0, 3, 0, 0, []), (3, 1, .istore_n 2, 4, 0, 0, []), (4, 1, .iload_n 2, 5, 0, 0, []), (5, 1, .aload_n 0, 6, 0, 0, []), (6, 3, .getfield 9, 7, 8, 1, [4027]), (9, 2, .bipush 31, 8, 0, 0, []), (11, 1, .iaload, 9, 0, 0, []), (12, 3, .if_icmp .ge 21, 10, 21, 0, []), (15, 1, .iload_n 1, 11, 0, 0, []), (16, 1, .aload_n 0, 12, 0, 0, []), (17, 3, .getfield 9, 13, 8, 1, [4027]), (20, 2, .bipush 7, 14, 0, 0, []), (22, 1, .iload_n 2, 15, 0, 0, []), (23, 1, .iadd, 16, 0, 0, []), (24, 1, .iaload, 17, 0, 0, []), (25, 1, .iadd, 18, 0, 0, []), (26, 1, .istore_n 1, 19, 0, 0, []), (27, 3, .iinc 2 1, 20, 0, 0, []), (30, 3, .goto (-26), 21, 4, 0, []), (33, 1, .iload_n 1, 22, 0, 0, []), (34, 1, .ireturn, 23, 0, 0, [])]
def xi_174 : XI := (⟨"StarchedCollarsModel", "heights", "()I"⟩, prog_10_method_68_code, 3, some (FieldType.int), xo_174)
-- 175 StarchedCollarsModel.done(I)I maxLocals 3
def xo_175 : List XO := [(0, 1, .iload_n 1, 1, 0, 0, []), (1, 1, .iconst 0, 2, 0, 0, []), (2, 1, .iconst 1, 3, 0, 0, []), (3, 3, .invokestatic 41, 4, 109, 3, [4092, 4093, 1009, 4094]), (6, 3, .ifCond .ne 5, 5, 7, 0, []), (9, 1, .iconst (-1), 6, 0, 0, []), (10, 1, .ireturn, 7, 0, 0, []), (11, 1, .aload_n 0, 8, 0, 0, []), (12, 3, .invokevirtual 139, 9, 112, 0, [4198, 4200, 46, 1009, 4201]), (15, 1, .iconst 0, 10, 0, 0, []), (16, 1, .istore_n 2, 11, 0, 0, []), (17, 1, .iload_n 2, 12, 0, 0, []), (18, 1, .aload_n 0, 13, 0, 0, []), (19, 3, .getfield 9, 14, 8, 1, [4027]), (22, 2, .bipush 34, 15, 0, 0, []), (24, 1, .iaload, 16, 0, 0, []), (25, 3, .if_icmp .ge 31, 17, 33, 0, []), (28, 1, .aload_n 0, 18, 0, 0, []), (29, 1, .aload_n 0, 19, 0, 0, []), (30, 3, .getfield 9, 20, 8, 1, [4027]), (33, 2, .bipush 89, 21, 0, 0, []), (35, 1, .iload_n 2, 22, 0, 0, []), (36, 1, .iadd, 23, 0, 0, []), (37, 1, .iaload, 24, 0, 0, []), (38, 1, .aload_n 0, 25, 0, 0, []), (39, 3, .getfield 9, 26, 8, 1, [4027]), (42, 2, .bipush 97, 27, 0, 0, []), (44, 1, .iload_n 2, 28, 0, 0, []), (45, 1, .iadd, 29, 0, 0, []), (46, 1, .iaload, 30, 0, 0, []), (47, 3, .invokevirtual 224, 31, 173, 2, [5115, 5117, 64, 1009, 5118]), (50, 3, .iinc 2 1, 32, 0, 0, []), (53, 3, .goto (-36), 33, 11, 0, []), (56, 1, .iload_n 1, 34, 0, 0, []), (57, 3, .ifCond .ne 12, 35, 39, 0, []), (60, 1, .aload_n 0, 36, 0, 0, []), (61, 2, .bipush 13, 37, 0, 0, []), (63, 3, .invokevirtual 165, 38, 145, 1, [4238, 5000, 50, 1009, 5001]), (66, 3, .goto 7, 39, 41, 0, []), (69, 1, .aload_n 0, 40, 0, 0, []), (70, 3, .invokevirtual 227, 41, 174, 0, [5119, 5121, 65, 1009, 5122]), (73, 1, .istore_n 2, 42, 0, 0, []), (74, 1, .aload_n 0, 43, 0, 0, []), (75, 3, .invokevirtual 145, 44, 113, 0, [4202, 4204, 47, 1009, 4205]), (78, 1, .iload_n 2, 45, 0, 0, []), (79, 1, .ireturn, 46, 0, 0, [])]
def xi_175 : XI := (⟨"StarchedCollarsModel", "done", "(I)I"⟩, prog_10_method_69_code, 3, some (FieldType.int), xo_175)
-- 176 StarchedCollarsModel.book(II)I maxLocals 3
def xo_176_0 : List XO := [(0, 1, .iload_n 1, 1, 0, 0, []), (1, 1, .iconst (-1), 2, 0, 0, []), (2, 3, .if_icmp .ne 13, 3, 10, 0, []), (5, 1, .aload_n 0, 4, 0, 0, []), (6, 3, .getfield 9, 5, 8, 1, [4027]), (9, 2, .bipush 35, 6, 0, 0, []), (11, 1, .iconst 0, 7, 0, 0, []), (12, 1, .iastore, 8, 0, 0, []), (13, 1, .iconst 0, 9, 0, 0, []), (14, 1, .ireturn, 10, 0, 0, []), (15, 1, .aload_n 0, 11, 0, 0, []), (16, 1, .iload_n 1, 12, 0, 0, []), (17, 3, .invokevirtual 148, 13, 110, 1, [4166, 4168, 39, 1009, 4169]), (20, 3, .ifCond .ne 5, 14, 16, 0, []), (23, 1, .iconst (-1), 15, 0, 0, []), (24, 1, .ireturn, 16, 0, 0, []), (25, 1, .iload_n 2, 17, 0, 0, []), (26, 1, .iconst 0, 18, 0, 0, []), (27, 3, .sipush 255, 19, 0, 0, []), (30, 3, .invokestatic 41, 20, 109, 3, [4092, 4093, 1009, 4094]), (33, 3, .ifCond .ne 6, 21, 23, 0, []), (36, 2, .bipush (-2), 22, 0, 0, []), (38, 1, .ireturn, 23, 0, 0, []), (39, 1, .aload_n 0, 24, 0, 0, []), (40, 3, .getfield 9, 25, 8, 1, [4027]), (43, 2, .bipush 35, 26, 0, 0, []), (45, 1, .iaload, 27, 0, 0, []), (46, 2, .bipush 8, 28, 0, 0, []), (48, 3, .if_icmp .ne 6, 29, 31, 0, []), (51, 2, .bipush (-4), 30, 0, 0, []), (53, 1, .ireturn, 31, 0, 0, []), (54, 1, .aload_n 0, 32, 0, 0, []), (55, 3, .getfield 9, 33, 8, 1, [4027]), (58, 2, .bipush 105, 34, 0, 0, []), (60, 1, .aload_n 0, 35, 0, 0, []), (61, 3, .getfield 9, 36, 8, 1, [4027]), (64, 2, .bipush 35, 37, 0, 0, []), (66, 1, .iaload, 38, 0, 0, []), (67, 1, .iadd, 39, 0, 0, []), (68, 1, .iload_n 1, 40, 0, 0, []), (69, 1, .iastore, 41, 0, 0, []), (70, 1, .aload_n 0, 42, 0, 0, []), (71, 3, .getfield 9, 43, 8, 1, [4027]), (74, 2, .bipush 113, 44, 0, 0, []), (76, 1, .aload_n 0, 45, 0, 0, []), (77, 3, .getfield 9, 46, 8, 1, [4027]), (80, 2, .bipush 35, 47, 0, 0, []), (82, 1, .iaload, 48, 0, 0, []), (83, 1, .iadd, 49, 0, 0, []), (84, 1, .iload_n 2, 50, 0, 0, [])]
def xo_176_1 : List XO := [(85, 1, .iastore, 51, 0, 0, []), (86, 1, .aload_n 0, 52, 0, 0, []), (87, 3, .getfield 9, 53, 8, 1, [4027]), (90, 2, .bipush 35, 54, 0, 0, []), (92, 1, .dup2, 55, 0, 0, []), (93, 1, .iaload, 56, 0, 0, []), (94, 1, .iconst 1, 57, 0, 0, []), (95, 1, .iadd, 58, 0, 0, []), (96, 1, .iastore, 59, 0, 0, []), (97, 1, .aload_n 0, 60, 0, 0, []), (98, 3, .getfield 9, 61, 8, 1, [4027]), (101, 2, .bipush 35, 62, 0, 0, []), (103, 1, .iaload, 63, 0, 0, []), (104, 1, .ireturn, 64, 0, 0, [])]
def xo_176 : List XO := xo_176_0 ++ xo_176_1
def xi_176 : XI := (⟨"StarchedCollarsModel", "book", "(II)I"⟩, prog_10_method_70_code, 3, some (FieldType.int), xo_176)
-- 177 StarchedCollarsModel.looked()I maxLocals 2
def xo_177 : List XO := [(0, 1, .iconst 0, 1, 0, 0, []), (1, 1, .istore_n 1, 2, 0, 0, []), (2, 1, .iload_n 1, 3, 0, 0, []), (3, 1, .aload_n 0, 4, 0, 0, []), (4, 3, .getfield 9, 5, 8, 1, [4027]), (7, 2, .bipush 35, 6, 0, 0, []), (9, 1, .iaload, 7, 0, 0, []), (10, 3, .if_icmp .ge 39, 8, 30, 0, []), (13, 1, .aload_n 0, 9, 0, 0, []), (14, 3, .getfield 9, 10, 8, 1, [4027]), (17, 1, .iconst 1, 11, 0, 0, []), (18, 1, .aload_n 0, 12, 0, 0, []), (19, 3, .getfield 9, 13, 8, 1, [4027]), (22, 2, .bipush 105, 14, 0, 0, []), (24, 1, .iload_n 1, 15, 0, 0, []), (25, 1, .iadd, 16, 0, 0, []), (26, 1, .iaload, 17, 0, 0, []), (27, 1, .iadd, 18, 0, 0, []), (28, 1, .iaload, 19, 0, 0, []), (29, 1, .aload_n 0, 20, 0, 0, []), (30, 3, .getfield 9, 21, 8, 1, [4027]), (33, 2, .bipush 113, 22, 0, 0, []), (35, 1, .iload_n 1, 23, 0, 0, []), (36, 1, .iadd, 24, 0, 0, []), (37, 1, .iaload, 25, 0, 0, []), (38, 3, .if_icmp .eq 5, 26, 28, 0, []), (41, 1, .iload_n 1, 27, 0, 0, []), (42, 1, .ireturn, 28, 0, 0, []), (43, 3, .iinc 1 1, 29, 0, 0, []), (46, 3, .goto (-44), 30, 2, 0, []), (49, 2, .bipush (-5), 31, 0, 0, []), (51, 1, .ireturn, 32, 0, 0, [])]
def xi_177 : XI := (⟨"StarchedCollarsModel", "looked", "()I"⟩, prog_10_method_71_code, 2, some (FieldType.int), xo_177)
-- 178 StarchedCollarsModel.ranBody(I)V maxLocals 2
def xo_178 : List XO := [(0, 1, .aload_n 0, 1, 0, 0, []), (1, 3, .getfield 230, 2, 8, 16, [4042]), (4, 2, .bipush 20, 3, 0, 0, []), (6, 3, .if_icmp .ge 13, 4, 10, 0, []), (9, 1, .aload_n 0, 5, 0, 0, []), (10, 3, .getfield 34, 6, 8, 15, [4041]), (13, 1, .aload_n 0, 7, 0, 0, []), (14, 3, .getfield 230, 8, 8, 16, [4042]), (17, 1, .iload_n 1, 9, 0, 0, []), (18, 1, .iastore, 10, 0, 0, []), (19, 1, .aload_n 0, 11, 0, 0, []), (20, 1, .dup, 12, 0, 0, []), (21, 3, .getfield 230, 13, 8, 16, [4042]), (24, 1, .iconst 1, 14, 0, 0, []), (25, 1, .iadd, 15, 0, 0, []), (26, 3, .putfield 230, 16, 8, 16, [4042]), (29, 1, .return_, 17, 0, 0, [])]
def xi_178 : XI := (⟨"StarchedCollarsModel", "ranBody", "(I)V"⟩, prog_10_method_72_code, 2, none, xo_178)
-- 179 StarchedCollarsModel.isUnder(II)Z maxLocals 2
def xo_179 : List XO := [(0, 1, .iload_n 1, 1, 0, 0, []), (1, 3, .ifCond .eq 24, 2, 15, 0, []), (4, 1, .iload_n 1, 3, 0, 0, []), (5, 1, .iload_n 0, 4, 0, 0, []), (6, 3, .if_icmp .eq 19, 5, 15, 0, []), (9, 1, .iload_n 1, 6, 0, 0, []), (10, 3, .ifCond .le 19, 7, 17, 0, []), (13, 1, .iload_n 1, 8, 0, 0, []), (14, 1, .iconst 4, 9, 0, 0, []), (15, 3, .if_icmp .ge 14, 10, 17, 0, []), (18, 1, .iload_n 0, 11, 0, 0, []), (19, 1, .iload_n 1, 12, 0, 0, []), (20, 1, .iconst 3, 13, 0, 0, []), (21, 1, .iadd, 14, 0, 0, []), (22, 3, .if_icmp .ne 7, 15, 17, 0, []), (25, 1, .iconst 1, 16, 0, 0, []), (26, 3, .goto 4, 17, 18, 0, []), (29, 1, .iconst 0, 18, 0, 0, []), (30, 1, .ireturn, 19, 0, 0, [])]
def xi_179 : XI := (⟨"StarchedCollarsModel", "isUnder", "(II)Z"⟩, prog_10_method_73_code, 2, some (FieldType.boolean), xo_179)
-- 180 StarchedCollarsModel.plainNods(I)I maxLocals 2
def xo_180 : List XO := [(0, 1, .aload_n 0, 1, 0, 0, []), (1, 1, .iconst 1, 2, 0, 0, []), (2, 3, .invokevirtual 233, 3, 178, 1, [5142, 5144, 67, 1009, 5145]), (5, 1, .iload_n 1, 4, 0, 0, []), (6, 1, .aload_n 0, 5, 0, 0, []), (7, 3, .getfield 236, 6, 8, 18, [4044]), (10, 1, .iadd, 7, 0, 0, []), (11, 1, .ireturn, 8, 0, 0, [])]
def xi_180 : XI := (⟨"StarchedCollarsModel", "plainNods", "(I)I"⟩, prog_10_method_74_code, 2, some (FieldType.int), xo_180)
-- 181 StarchedCollarsModel.nodsActs(I)I maxLocals 2
def xo_181 : List XO := [(0, 1, .aload_n 0, 1, 0, 0, []), (1, 3, .getfield 239, 2, 8, 17, [4043]), (4, 1, .iconst 1, 3, 0, 0, []), (5, 3, .invokestatic 242, 4, 179, 2, [5139, 5140, 1009, 5141]), (8, 3, .ifCond .eq 17, 5, 14, 0, []), (11, 1, .aload_n 0, 6, 0, 0, []), (12, 2, .bipush 11, 7, 0, 0, []), (14, 3, .invokevirtual 233, 8, 178, 1, [5142, 5144, 67, 1009, 5145]), (17, 1, .aload_n 0, 9, 0, 0, []), (18, 1, .iload_n 1, 10, 0, 0, []), (19, 1, .iconst 3, 11, 0, 0, []), (20, 1, .imul, 12, 0, 0, []), (21, 3, .invokevirtual 245, 13, 180, 1, [5146, 5148, 68, 1009, 5149]), (24, 1, .ireturn, 14, 0, 0, []), (25, 1, .aload_n 0, 15, 0, 0, []), (26, 3, .getfield 239, 16, 8, 17, [4043]), (29, 1, .iconst 5, 17, 0, 0, []), (30, 3, .if_icmp .ne 20, 18, 28, 0, []), (33, 1, .aload_n 0, 19, 0, 0, []), (34, 2, .bipush 51, 20, 0, 0, []), (36, 3, .invokevirtual 233, 21, 178, 1, [5142, 5144, 67, 1009, 5145]), (39, 1, .aload_n 0, 22, 0, 0, []), (40, 1, .iload_n 1, 23, 0, 0, []), (41, 3, .invokevirtual 245, 24, 180, 1, [5146, 5148, 68, 1009, 5149]), (44, 1, .aload_n 0, 25, 0, 0, []), (45, 3, .getfield 236, 26, 8, 18, [4044]), (48, 1, .ixor, 27, 0, 0, []), (49, 1, .ireturn, 28, 0, 0, []), (50, 1, .aload_n 0, 29, 0, 0, []), (51, 1, .iload_n 1, 30, 0, 0, []), (52, 3, .invokevirtual 245, 31, 180, 1, [5146, 5148, 68, 1009, 5149]), (55, 1, .ireturn, 32, 0, 0, [])]
def xi_181 : XI := (⟨"StarchedCollarsModel", "nodsActs", "(I)I"⟩, prog_10_method_75_code, 2, some (FieldType.int), xo_181)
-- 182 StarchedCollarsModel.plainPreaches(I)I maxLocals 2
def xo_182 : List XO := [(0, 1, .aload_n 0, 1, 0, 0, []), (1, 1, .iconst 2, 2, 0, 0, []), (2, 3, .invokevirtual 233, 3, 178, 1, [5142, 5144, 67, 1009, 5145]), (5, 1, .aload_n 0, 4, 0, 0, []), (6, 1, .iload_n 1, 5, 0, 0, []), (7, 3, .invokevirtual 248, 6, 181, 1, [5135, 5137, 66, 1009, 5138]), (10, 1, .aload_n 0, 7, 0, 0, []), (11, 3, .getfield 251, 8, 8, 19, [4045]), (14, 1, .isub, 9, 0, 0, []), (15, 1, .ireturn, 10, 0, 0, [])]
def xi_182 : XI := (⟨"StarchedCollarsModel", "plainPreaches", "(I)I"⟩, prog_10_method_76_code, 2, some (FieldType.int), xo_182)
-- 183 StarchedCollarsModel.preachesActs(I)I maxLocals 2
def xo_183 : List XO := [(0, 1, .aload_n 0, 1, 0, 0, []), (1, 3, .getfield 239, 2, 8, 17, [4043]), (4, 1, .iconst 2, 3, 0, 0, []), (5, 3, .invokestatic 242, 4, 179, 2, [5139, 5140, 1009, 5141]), (8, 3, .ifCond .eq 16, 5, 13, 0, []), (11, 1, .aload_n 0, 6, 0, 0, []), (12, 2, .bipush 21, 7, 0, 0, []), (14, 3, .invokevirtual 233, 8, 178, 1, [5142, 5144, 67, 1009, 5145]), (17, 1, .aload_n 0, 9, 0, 0, []), (18, 1, .iload_n 1, 10, 0, 0, []), (19, 3, .invokevirtual 254, 11, 182, 1, [5154, 5156, 70, 1009, 5157]), (22, 1, .ineg, 12, 0, 0, []), (23, 1, .ireturn, 13, 0, 0, []), (24, 1, .aload_n 0, 14, 0, 0, []), (25, 3, .getfield 239, 15, 8, 17, [4043]), (28, 2, .bipush 6, 16, 0, 0, []), (30, 3, .if_icmp .ne 20, 17, 27, 0, []), (33, 1, .aload_n 0, 18, 0, 0, []), (34, 2, .bipush 61, 19, 0, 0, []), (36, 3, .invokevirtual 233, 20, 178, 1, [5142, 5144, 67, 1009, 5145]), (39, 1, .aload_n 0, 21, 0, 0, []), (40, 1, .iload_n 1, 22, 0, 0, []), (41, 3, .invokevirtual 254, 23, 182, 1, [5154, 5156, 70, 1009, 5157]), (44, 1, .aload_n 0, 24, 0, 0, []), (45, 3, .getfield 251, 25, 8, 19, [4045]), (48, 1, .iadd, 26, 0, 0, []), (49, 1, .ireturn, 27, 0, 0, []), (50, 1, .aload_n 0, 28, 0, 0, []), (51, 1, .iload_n 1, 29, 0, 0, []), (52, 3, .invokevirtual 254, 30, 182, 1, [5154, 5156, 70, 1009, 5157]), (55, 1, .ireturn, 31, 0, 0, [])]
def xi_183 : XI := (⟨"StarchedCollarsModel", "preachesActs", "(I)I"⟩, prog_10_method_77_code, 2, some (FieldType.int), xo_183)
-- 184 StarchedCollarsModel.plainTelling(I)I maxLocals 2
def xo_184 : List XO := [(0, 1, .aload_n 0, 1, 0, 0, []), (1, 1, .iconst 3, 2, 0, 0, []), (2, 3, .invokevirtual 233, 3, 178, 1, [5142, 5144, 67, 1009, 5145]), (5, 1, .aload_n 0, 4, 0, 0, []), (6, 1, .iload_n 1, 5, 0, 0, []), (7, 3, .invokevirtual 257, 6, 183, 1, [5150, 5152, 69, 1009, 5153]), (10, 1, .iconst 2, 7, 0, 0, []), (11, 1, .imul, 8, 0, 0, []), (12, 1, .ireturn, 9, 0, 0, [])]
def xi_184 : XI := (⟨"StarchedCollarsModel", "plainTelling", "(I)I"⟩, prog_10_method_78_code, 2, some (FieldType.int), xo_184)
-- 185 StarchedCollarsModel.turningActs(I)I maxLocals 3
def xo_185 : List XO := [(0, 1, .aload_n 0, 1, 0, 0, []), (1, 3, .getfield 239, 2, 8, 17, [4043]), (4, 1, .iconst 3, 3, 0, 0, []), (5, 3, .invokestatic 242, 4, 179, 2, [5139, 5140, 1009, 5141]), (8, 3, .ifCond .eq 18, 5, 14, 0, []), (11, 1, .aload_n 0, 6, 0, 0, []), (12, 2, .bipush 31, 7, 0, 0, []), (14, 3, .invokevirtual 233, 8, 178, 1, [5142, 5144, 67, 1009, 5145]), (17, 1, .aload_n 0, 9, 0, 0, []), (18, 1, .iload_n 1, 10, 0, 0, []), (19, 3, .invokevirtual 260, 11, 184, 1, [5162, 5164, 72, 1009, 5165]), (22, 2, .bipush 7, 12, 0, 0, []), (24, 1, .ixor, 13, 0, 0, []), (25, 1, .ireturn, 14, 0, 0, []), (26, 1, .aload_n 0, 15, 0, 0, []), (27, 3, .getfield 239, 16, 8, 17, [4043]), (30, 1, .iconst 4, 17, 0, 0, []), (31, 3, .if_icmp .ne 25, 18, 33, 0, []), (34, 1, .aload_n 0, 19, 0, 0, []), (35, 2, .bipush 41, 20, 0, 0, []), (37, 3, .invokevirtual 233, 21, 178, 1, [5142, 5144, 67, 1009, 5145]), (40, 1, .aload_n 0, 22, 0, 0, []), (41, 1, .iload_n 1, 23, 0, 0, []), (42, 1, .iconst 1, 24, 0, 0, []), (43, 1, .isub, 25, 0, 0, []), (44, 3, .invokevirtual 260, 26, 184, 1, [5162, 5164, 72, 1009, 5165]), (47, 1, .istore_n 2, 27, 0, 0, []), (48, 1, .iload_n 2, 28, 0, 0, []), (49, 1, .aload_n 0, 29, 0, 0, []), (50, 1, .iconst 2, 30, 0, 0, []), (51, 3, .invokevirtual 248, 31, 181, 1, [5135, 5137, 66, 1009, 5138]), (54, 1, .iadd, 32, 0, 0, []), (55, 1, .ireturn, 33, 0, 0, []), (56, 1, .aload_n 0, 34, 0, 0, []), (57, 1, .iload_n 1, 35, 0, 0, []), (58, 3, .invokevirtual 260, 36, 184, 1, [5162, 5164, 72, 1009, 5165]), (61, 1, .ireturn, 37, 0, 0, [])]
def xi_185 : XI := (⟨"StarchedCollarsModel", "turningActs", "(I)I"⟩, prog_10_method_79_code, 3, some (FieldType.int), xo_185)
-- 186 StarchedCollarsModel.act(III)I maxLocals 4
def xo_186 : List XO := [(0, 1, .aload_n 0, 1, 0, 0, []), (1, 1, .iconst 0, 2, 0, 0, []), (2, 3, .putfield 230, 3, 8, 16, [4042]), (5, 1, .aload_n 0, 4, 0, 0, []), (6, 1, .iload_n 1, 5, 0, 0, []), (7, 3, .invokevirtual 148, 6, 110, 1, [4166, 4168, 39, 1009, 4169]), (10, 3, .ifCond .eq 12, 7, 12, 0, []), (13, 1, .iload_n 2, 8, 0, 0, []), (14, 1, .iconst 0, 9, 0, 0, []), (15, 1, .iconst 2, 10, 0, 0, []), (16, 3, .invokestatic 41, 11, 109, 3, [4092, 4093, 1009, 4094]), (19, 3, .ifCond .ne 5, 12, 14, 0, []), (22, 1, .iconst 0, 13, 0, 0, []), (23, 1, .ireturn, 14, 0, 0, []), (24, 1, .aload_n 0, 15, 0, 0, []), (25, 1, .aload_n 0, 16, 0, 0, []), (26, 3, .getfield 9, 17, 8, 1, [4027]), (29, 2, .bipush 38, 18, 0, 0, []), (31, 1, .iload_n 1, 19, 0, 0, []), (32, 1, .iadd, 20, 0, 0, []), (33, 1, .iaload, 21, 0, 0, []), (34, 3, .putfield 239, 22, 8, 17, [4043]), (37, 1, .aload_n 0, 23, 0, 0, []), (38, 1, .iload_n 1, 24, 0, 0, []), (39, 3, .putfield 236, 25, 8, 18, [4044]), (42, 1, .aload_n 0, 26, 0, 0, []), (43, 1, .aload_n 0, 27, 0, 0, []), (44, 3, .getfield 9, 28, 8, 1, [4027]), (47, 2, .bipush 44, 29, 0, 0, []), (49, 1, .iload_n 1, 30, 0, 0, []), (50, 1, .iadd, 31, 0, 0, []), (51, 1, .iaload, 32, 0, 0, []), (52, 3, .putfield 251, 33, 8, 19, [4045]), (55, 1, .iload_n 2, 34, 0, 0, []), (56, 3, .ifCond .ne 11, 35, 39, 0, []), (59, 1, .aload_n 0, 36, 0, 0, []), (60, 1, .iload_n 3, 37, 0, 0, []), (61, 3, .invokevirtual 248, 38, 181, 1, [5135, 5137, 66, 1009, 5138]), (64, 3, .goto 21, 39, 49, 0, []), (67, 1, .iload_n 2, 40, 0, 0, []), (68, 1, .iconst 1, 41, 0, 0, []), (69, 3, .if_icmp .ne 11, 42, 46, 0, []), (72, 1, .aload_n 0, 43, 0, 0, []), (73, 1, .iload_n 3, 44, 0, 0, []), (74, 3, .invokevirtual 257, 45, 183, 1, [5150, 5152, 69, 1009, 5153]), (77, 3, .goto 8, 46, 49, 0, []), (80, 1, .aload_n 0, 47, 0, 0, []), (81, 1, .iload_n 3, 48, 0, 0, []), (82, 3, .invokevirtual 263, 49, 185, 1, [5158, 5160, 71, 1009, 5161]), (85, 1, .ireturn, 50, 0, 0, [])]
def xi_186 : XI := (⟨"StarchedCollarsModel", "act", "(III)I"⟩, prog_10_method_80_code, 4, some (FieldType.int), xo_186)
-- 187 StarchedCollarsModel.trace(I)I maxLocals 2
def xo_187 : List XO := [(0, 1, .iload_n 1, 1, 0, 0, []), (1, 1, .iconst 0, 2, 0, 0, []), (2, 1, .aload_n 0, 3, 0, 0, []), (3, 3, .getfield 230, 4, 8, 16, [4042]), (6, 2, .bipush 20, 5, 0, 0, []), (8, 3, .if_icmp .ge 10, 6, 9, 0, []), (11, 1, .aload_n 0, 7, 0, 0, []), (12, 3, .getfield 230, 8, 8, 16, [4042]), (15, 3, .goto 5, 9, 10, 0, []), (18, 2, .bipush 20, 10, 0, 0, []), (20, 1, .iconst 1, 11, 0, 0, []), (21, 1, .isub, 12, 0, 0, []), (22, 3, .invokestatic 41, 13, 109, 3, [4092, 4093, 1009, 4094]), (25, 3, .ifCond .eq 12, 14, 19, 0, []), (28, 1, .aload_n 0, 15, 0, 0, []), (29, 3, .getfield 34, 16, 8, 15, [4041]), (32, 1, .iload_n 1, 17, 0, 0, []), (33, 1, .iaload, 18, 0, 0, []), (34, 3, .goto 4, 19, 20, 0, []), (37, 1, .iconst (-1), 20, 0, 0, []), (38, 1, .ireturn, 21, 0, 0, [])]
def xi_187 : XI := (⟨"StarchedCollarsModel", "trace", "(I)I"⟩, prog_10_method_81_code, 2, some (FieldType.int), xo_187)
-- 188 StarchedCollarsModel.as(II)I maxLocals 3
def xo_188 : List XO := [(0, 1, .aload_n 0, 1, 0, 0, []), (1, 1, .iload_n 1, 2, 0, 0, []), (2, 3, .invokevirtual 148, 3, 110, 1, [4166, 4168, 39, 1009, 4169]), (5, 3, .ifCond .eq 13, 4, 9, 0, []), (8, 1, .iload_n 2, 5, 0, 0, []), (9, 1, .iconst 0, 6, 0, 0, []), (10, 2, .bipush 6, 7, 0, 0, []), (12, 3, .invokestatic 41, 8, 109, 3, [4092, 4093, 1009, 4094]), (15, 3, .ifCond .ne 5, 9, 11, 0, []), (18, 1, .iconst (-1), 10, 0, 0, []), (19, 1, .ireturn, 11, 0, 0, []), (20, 1, .aload_n 0, 12, 0, 0, []), (21, 3, .getfield 9, 13, 8, 1, [4027]), (24, 2, .bipush 38, 14, 0, 0, []), (26, 1, .iload_n 1, 15, 0, 0, []), (27, 1, .iadd, 16, 0, 0, []), (28, 1, .iaload, 17, 0, 0, []), (29, 1, .iload_n 2, 18, 0, 0, []), (30, 3, .invokestatic 242, 19, 179, 2, [5139, 5140, 1009, 5141]), (33, 3, .ifCond .eq 15, 20, 27, 0, []), (36, 1, .aload_n 0, 21, 0, 0, []), (37, 3, .getfield 9, 22, 8, 1, [4027]), (40, 2, .bipush 44, 23, 0, 0, []), (42, 1, .iload_n 1, 24, 0, 0, []), (43, 1, .iadd, 25, 0, 0, []), (44, 1, .iaload, 26, 0, 0, []), (45, 3, .goto 5, 27, 28, 0, []), (48, 2, .bipush (-6), 28, 0, 0, []), (50, 1, .ireturn, 29, 0, 0, [])]
def xi_188 : XI := (⟨"StarchedCollarsModel", "as", "(II)I"⟩, prog_10_method_82_code, 3, some (FieldType.int), xo_188)
-- 189 StarchedCollarsModel.image()I maxLocals 2
def xo_189 : List XO := [(0, 1, .iconst 0, 1, 0, 0, []), (1, 1, .istore_n 1, 2, 0, 0, []), (2, 1, .iload_n 1, 3, 0, 0, []), (3, 3, .sipush 931, 4, 0, 0, []), (6, 3, .if_icmp .ge 21, 5, 15, 0, []), (9, 1, .aload_n 0, 6, 0, 0, []), (10, 3, .getfield 15, 7, 8, 2, [4028]), (13, 1, .iload_n 1, 8, 0, 0, []), (14, 1, .aload_n 0, 9, 0, 0, []), (15, 3, .getfield 9, 10, 8, 1, [4027]), (18, 1, .iload_n 1, 11, 0, 0, []), (19, 1, .iaload, 12, 0, 0, []), (20, 1, .iastore, 13, 0, 0, []), (21, 3, .iinc 1 1, 14, 0, 0, []), (24, 3, .goto (-22), 15, 2, 0, []), (27, 1, .aload_n 0, 16, 0, 0, []), (28, 1, .iconst 1, 17, 0, 0, []), (29, 3, .putfield 266, 18, 8, 4, [4030]), (32, 1, .aload_n 0, 19, 0, 0, []), (33, 3, .getfield 9, 20, 8, 1, [4027]), (36, 2, .bipush 31, 21, 0, 0, []), (38, 1, .iaload, 22, 0, 0, []), (39, 1, .ireturn, 23, 0, 0, [])]
def xi_189 : XI := (⟨"StarchedCollarsModel", "image", "()I"⟩, prog_10_method_83_code, 2, some (FieldType.int), xo_189)
-- 190 StarchedCollarsModel.undo()I maxLocals 2
def xo_190 : List XO := [(0, 1, .aload_n 0, 1, 0, 0, []), (1, 3, .getfield 266, 2, 8, 4, [4030]), (4, 3, .ifCond .ne 6, 3, 5, 0, []), (7, 2, .bipush (-3), 4, 0, 0, []), (9, 1, .ireturn, 5, 0, 0, []), (10, 1, .iconst 0, 6, 0, 0, []), (11, 1, .istore_n 1, 7, 0, 0, []), (12, 1, .iload_n 1, 8, 0, 0, []), (13, 3, .sipush 931, 9, 0, 0, []), (16, 3, .if_icmp .ge 21, 10, 20, 0, []), (19, 1, .aload_n 0, 11, 0, 0, []), (20, 3, .getfield 9, 12, 8, 1, [4027]), (23, 1, .iload_n 1, 13, 0, 0, []), (24, 1, .aload_n 0, 14, 0, 0, []), (25, 3, .getfield 15, 15, 8, 2, [4028]), (28, 1, .iload_n 1, 16, 0, 0, []), (29, 1, .iaload, 17, 0, 0, []), (30, 1, .iastore, 18, 0, 0, []), (31, 3, .iinc 1 1, 19, 0, 0, []), (34, 3, .goto (-22), 20, 7, 0, []), (37, 1, .aload_n 0, 21, 0, 0, []), (38, 3, .getfield 9, 22, 8, 1, [4027]), (41, 2, .bipush 31, 23, 0, 0, []), (43, 1, .iaload, 24, 0, 0, []), (44, 1, .ireturn, 25, 0, 0, [])]
def xi_190 : XI := (⟨"StarchedCollarsModel", "undo", "()I"⟩, prog_10_method_84_code, 2, some (FieldType.int), xo_190)
-- 191 StarchedCollarsModel.count(I)I maxLocals 2
def xo_191 : List XO := [(0, 1, .iload_n 1, 1, 0, 0, []), (1, 2, .bipush 6, 2, 0, 0, []), (3, 3, .if_icmp .ne 10, 3, 6, 0, []), (6, 1, .aload_n 0, 4, 0, 0, []), (7, 3, .getfield 230, 5, 8, 16, [4042]), (10, 3, .goto 25, 6, 19, 0, []), (13, 1, .iload_n 1, 7, 0, 0, []), (14, 1, .iconst 0, 8, 0, 0, []), (15, 1, .iconst 5, 9, 0, 0, []), (16, 3, .invokestatic 41, 10, 109, 3, [4092, 4093, 1009, 4094]), (19, 3, .ifCond .eq 15, 11, 18, 0, []), (22, 1, .aload_n 0, 12, 0, 0, []), (23, 3, .getfield 9, 13, 8, 1, [4027]), (26, 2, .bipush 31, 14, 0, 0, []), (28, 1, .iload_n 1, 15, 0, 0, []), (29, 1, .iadd, 16, 0, 0, []), (30, 1, .iaload, 17, 0, 0, []), (31, 3, .goto 4, 18, 19, 0, []), (34, 1, .iconst (-1), 19, 0, 0, []), (35, 1, .ireturn, 20, 0, 0, [])]
def xi_191 : XI := (⟨"StarchedCollarsModel", "count", "(I)I"⟩, prog_10_method_85_code, 2, some (FieldType.int), xo_191)
def x_ms : List XI := [xi_0, xi_1, xi_2, xi_3, xi_4, xi_5, xi_6, xi_7, xi_8, xi_9, xi_10, xi_11, xi_12, xi_13, xi_14, xi_15, xi_16, xi_17, xi_18, xi_19, xi_20, xi_21, xi_22, xi_23, xi_24, xi_25, xi_26, xi_27, xi_28, xi_29, xi_30, xi_31, xi_32, xi_33, xi_34, xi_35, xi_36, xi_37, xi_38, xi_39, xi_40, xi_41, xi_42, xi_43, xi_44, xi_45, xi_46, xi_47, xi_48, xi_49, xi_50, xi_51, xi_52, xi_53, xi_54, xi_55, xi_56, xi_57, xi_58, xi_59, xi_60, xi_61, xi_62, xi_63, xi_64, xi_65, xi_66, xi_67, xi_68, xi_69, xi_70, xi_71, xi_72, xi_73, xi_74, xi_75, xi_76, xi_77, xi_78, xi_79, xi_80, xi_81, xi_82, xi_83, xi_84, xi_85, xi_86, xi_87, xi_88, xi_89, xi_90, xi_91, xi_92, xi_93, xi_94, xi_95, xi_96, xi_97, xi_98, xi_99, xi_100, xi_101, xi_102, xi_103, xi_104, xi_105, xi_106, xi_107, xi_108, xi_109, xi_110, xi_111, xi_112, xi_113, xi_114, xi_115, xi_116, xi_117, xi_118, xi_119, xi_120, xi_121, xi_122, xi_123, xi_124, xi_125, xi_126, xi_127, xi_128, xi_129, xi_130, xi_131, xi_132, xi_133, xi_134, xi_135, xi_136, xi_137, xi_138, xi_139, xi_140, xi_141, xi_142, xi_143, xi_144, xi_145, xi_146, xi_147, xi_148, xi_149, xi_150, xi_151, xi_152, xi_153, xi_154, xi_155, xi_156, xi_157, xi_158, xi_159, xi_160, xi_161, xi_162, xi_163, xi_164, xi_165, xi_166, xi_167, xi_168, xi_169, xi_170, xi_171, xi_172, xi_173, xi_174, xi_175, xi_176, xi_177, xi_178, xi_179, xi_180, xi_181, xi_182, xi_183, xi_184, xi_185, xi_186, xi_187, xi_188, xi_189, xi_190, xi_191]
def x_m (k : Nat) : XI := x_ms.getD k xi_0
def x_op (mi i : Nat) : Option XO := (x_m mi).2.2.2.2[i]?
def x_kv : List (Int32 × Int64) := [(1431655765, 0), (858993459, 0), (252645135, 0), (65536, 0), (0, -2), (-999999, 0), (0, -9223372036854775808), (1000000000, 0), (0, 8)]
end
section
/-- a word of the tables, by its place -/
def x_tb (c : Nat) : List Jvm.Cond := match c with
  | 0 => k2_sels lw_privs
  | 1 => tables_1_1
  | 2 => tables_1_2
  | 3 => tables_1_3
  | 4 => tables_1_4
  | _ => tables_1_5
def x_w (p : Nat) (w : Jvm.Cond) : Bool := decide ((x_tb (p / 1000))[p % 1000]? = some w)
def x_strs : List String := ["urst ", "arch ", "often ", "pkvchw", "<=>", "burst ", "starch ", "soften "]
def x_ext (e : Nat) : Option (String × String × String) := match e with
  | 0 => some ("StarchedCollars", "ABOVE", "[I")
  | 1 => some ("StarchedCollars$Actor", "NODS", "[I")
  | 2 => some ("StarchedCollars$Actor", "PREACHES", "[I")
  | 3 => some ("StarchedCollars$Actor", "TURNS", "[I")
  | 5 => some ("jdk/internal/util/Preconditions", "SIOOBE_FORMATTER", "Ljava/util/function/BiFunction;")
  | 902 => some ("java/lang/String", "COMPACT_STRINGS", "Z")
  | _ => none
def x_sf (k : Nat) : String × String := if k = 900 then ("value", "[B") else ("coder", "B")
def x_kty (a : Nat) : FieldType := if a = 101 then .byte else if a = 102 then .boolean else .int
def x_pco (ops : List XO) (i : Nat) : Nat := match ops[i]? with
  | some o => o.1
  | none => 0
def x_pc (mi i : Nat) : Nat := x_pco (x_m mi).2.2.2.2 i
def x_term (ins : Jvm.ClassFile.Instr) : Bool := match ins with
  | .goto _ => true
  | .tableswitch _ _ _ _ => true
  | .lookupswitch _ _ => true
  | .ireturn => true
  | .lreturn => true
  | .areturn => true
  | .return_ => true
  | .athrow => true
  | _ => false
def x_okc (c : String) : Bool := decide (c ≠ "java/lang/invoke/MethodHandle" ∧ c ≠ "java/lang/invoke/VarHandle")
def x_ckF (own : String) (idx a b : Nat) (ps : List Nat) : Bool :=
  match vwCl[a]?, ps with
  | some (C, T, N), [p] => decide (b < N) && x_w p (.fieldLink own idx C (T b).2.1 (T b).2.2.1) && decide ((T b).1 = C)
  | _, _ => false
def x_ckY (Y : XI) (b p3 : Nat) : Bool :=
  x_w p3 (.initialized Y.1.cls) && decide ((parseMethodDescriptor Y.1.desc).map (fun d => d.parameters.length) = some b) && x_okc Y.1.cls && decide (Y.2.2.1 ≤ 30)
def x_ckI (own : String) (ops : List XO) (pc : Nat) (ins : Jvm.ClassFile.Instr) (a b : Nat) (ps : List Nat) : Bool :=
  match ins with
  | .getfield idx => if a < 9 then x_ckF own idx a b ps else if a = 900 ∨ a = 901 then (match ps with
      | [p] => x_w p (.fieldLink own idx "java/lang/String" (x_sf a).1 (x_sf a).2)
      | _ => false) else true
  | .putfield idx => x_ckF own idx a b ps
  | .getstatic idx => (match x_ext a, ps with
      | some (C, n, d), [p] => x_w p (.fieldLink own idx C n d)
      | some _, _ => false
      | none, _ => decide (a = 999))
  | .new idx => if a = 999 then true else (match vwCl[a]?, ps with
      | some (C, _, N), [p, q, r] => x_w p (.classLink own idx C) && x_w q (.instantiable C N) && x_w r (.initialized C)
      | _, _ => false)
  | .newarray t => (match ps with
      | [p] => x_w p (.arrayClass (x_kty a)) && decide (Jvm.Op.newarray.typeOf t = x_kty a) && decide (100 ≤ a ∧ a ≤ 102)
      | _ => false)
  | .anewarray idx => (match ps with
      | [p, q] => x_w p (.classLink own idx "StarchedCollars$Man") && x_w q (.arrayOver (.object "StarchedCollars$Man"))
      | _ => false)
  | .ldc idx => (if a = 999 then true else match ps with
      | [p] => if b = 1 then (match x_strs[a - 8]? with
          | some t => x_w p (.stringRef own idx t) && decide (8 ≤ a)
          | none => false) else (match x_kv[a]? with
          | some v => x_w p (.constant own idx v.1)
          | none => false)
      | _ => false)
  | .ldc_w idx => (if a = 999 then true else match ps, x_kv[a]? with
      | [p], some v => x_w p (.constant own idx v.1)
      | _, _ => false)
  | .ldc2_w idx => (match ps, x_kv[a]? with
      | [p], some v => x_w p (.constantLong own idx v.2)
      | _, _ => false)
  | .invokevirtual idx => if a < 192 then (match ps with
      | [p0, p1, p2, p3, p4] => x_w p0 (.methodLink own idx (x_m a).1) && x_w p1 (.instanceMethod (x_m a).1) && x_w p2 (.selects (x_m a).1.cls (x_m a).1 (x_m a).1) && x_ckY (x_m a) b p3
      | _ => false) else true
  | .invokestatic idx => if a < 192 then (match ps with
      | [p0, p1, p3, p4] => x_w p0 (.methodLink own idx (x_m a).1) && x_w p1 (.static (x_m a).1) && x_ckY (x_m a) b p3
      | _ => false) else if a = 1001 then (match ps with
      | [p0, p1, p2, p3] => x_w p0 (.methodLink own idx arraycopyName) && x_w p1 (.native arraycopyName) && x_w p2 (.static arraycopyName) && x_w p3 (.initialized "java/lang/System")
      | _ => false) else true
  | .invokespecial idx => if a < 192 then (match ps with
      | [p0, p1, p3, p4] => x_w p0 (.methodLink own idx (x_m a).1) && x_w p1 (.instanceMethod (x_m a).1) && x_ckY (x_m a) b p3 && decide ((x_m a).1.name = "<init>") && decide ((x_m a).2.2.2.1 = none)
      | [p0, p1, p3, p4, _] => x_w p0 (.methodLinkNest own idx (x_m a).1 "StarchedCollars") && x_w p1 (.instanceMethod (x_m a).1) && x_ckY (x_m a) b p3 && decide ((x_m a).1.name = "<init>") && decide ((x_m a).2.2.2.1 = none)
      | _ => false) else if a = 1000 then (match ps with
      | [p0, p1, p2] => x_w p0 (.methodLink own idx Jvm.Lib.objectInit) && x_w p1 (.instanceMethod Jvm.Lib.objectInit) && x_w p2 (.code Jvm.Lib.objectInit ⟨#[0xb1]⟩ 1 none)
      | _ => false) else true
  | .if_icmp _ off => decide ((pc : Int) + off = (x_pco ops a : Int))
  | .ifCond _ off => decide ((pc : Int) + off = (x_pco ops a : Int))
  | .goto off => decide ((pc : Int) + off = (x_pco ops a : Int))
  | .ifnull off => decide ((pc : Int) + off = (x_pco ops a : Int))
  | .ifnonnull off => decide ((pc : Int) + off = (x_pco ops a : Int))
  | .tableswitch d lo hi offs => (match ps with
      | t :: ts => decide ((pc : Int) + d = (x_pco ops t : Int)) && decide (ts.length = offs.size) && decide ((ts.length : Int) = hi - lo + 1) && (ts.zip offs.toList).all (fun q => decide ((pc : Int) + q.2 = (x_pco ops q.1 : Int)))
      | _ => false)
  | .lookupswitch d prs => (match ps with
      | t :: ts => decide ((pc : Int) + d = (x_pco ops t : Int)) && decide (ts.length = prs.size) && (ts.zip prs.toList).all (fun q => decide ((pc : Int) + q.2.2 = (x_pco ops q.1 : Int))) && (prs.toList.zip (prs.toList.drop 1)).all (fun (a, next) => decide (a.1 < next.1))
      | _ => false)
  | _ => true
def x_ck1 (X : XI) (o : XO) : Bool :=
  decide (decode X.2.1 o.1 = .ok (o.2.2.1, o.2.1)) && (x_term o.2.2.1 || (match X.2.2.2.2[o.2.2.2.1]? with
    | some o' => o'.1 == o.1 + o.2.1
    | none => false)) && x_ckI X.1.cls X.2.2.2.2 o.1 o.2.2.1 o.2.2.2.2.1 o.2.2.2.2.2.1 o.2.2.2.2.2.2
def x_ckM (X : XI) : Bool := X.2.2.2.2.all (x_ck1 X)
def x_chk (X : XI) (j n : Nat) : Bool := ((X.2.2.2.2.drop j).take n).all (x_ck1 X)
theorem x_chk_app {X : XI} {j n k : Nat} (h1 : x_chk X j n = true) (h2 : (X.2.2.2.2.drop (j + n)).all (x_ck1 X) = true) : (X.2.2.2.2.drop j).all (x_ck1 X) = true := by
  have e : X.2.2.2.2.drop j = (X.2.2.2.2.drop j).take n ++ X.2.2.2.2.drop (j + n) := by
    rw [← List.drop_drop, List.take_append_drop]
  rw [e, List.all_append, h2, Bool.and_true]
  exact h1
-- law
set_option maxRecDepth 100000 in
theorem xk_0_0 : x_chk xi_0 0 40 = true := by decide +kernel
set_option maxRecDepth 100000 in
theorem xk_0_40 : x_chk xi_0 40 40 = true := by decide +kernel
set_option maxRecDepth 100000 in
theorem xk_0_80 : x_chk xi_0 80 40 = true := by decide +kernel
set_option maxRecDepth 100000 in
theorem xk_0_120 : x_chk xi_0 120 40 = true := by decide +kernel
set_option maxRecDepth 100000 in
theorem xk_0_160 : x_chk xi_0 160 40 = true := by decide +kernel
set_option maxRecDepth 100000 in
theorem xk_0_200 : x_chk xi_0 200 40 = true := by decide +kernel
set_option maxRecDepth 100000 in
theorem xk_0_240 : x_chk xi_0 240 40 = true := by decide +kernel
set_option maxRecDepth 100000 in
theorem xk_0_280 : x_chk xi_0 280 40 = true := by decide +kernel
set_option maxRecDepth 100000 in
theorem xk_0_320 : x_chk xi_0 320 40 = true := by decide +kernel
set_option maxRecDepth 100000 in
theorem xk_0_360 : x_chk xi_0 360 40 = true := by decide +kernel
set_option maxRecDepth 100000 in
theorem xk_0_400 : x_chk xi_0 400 40 = true := by decide +kernel
set_option maxRecDepth 100000 in
theorem xk_0_440 : x_chk xi_0 440 40 = true := by decide +kernel
set_option maxRecDepth 100000 in
theorem xk_0_480 : x_chk xi_0 480 40 = true := by decide +kernel
set_option maxRecDepth 100000 in
theorem xk_0_520 : x_chk xi_0 520 40 = true := by decide +kernel
set_option maxRecDepth 100000 in
theorem xk_0_560 : x_chk xi_0 560 40 = true := by decide +kernel
set_option maxRecDepth 100000 in
theorem xk_0_600 : x_chk xi_0 600 40 = true := by decide +kernel
set_option maxRecDepth 100000 in
theorem xk_0_640 : x_chk xi_0 640 40 = true := by decide +kernel
set_option maxRecDepth 100000 in
theorem xk_0_680 : x_chk xi_0 680 40 = true := by decide +kernel
set_option maxRecDepth 100000 in
theorem xk_0_720 : x_chk xi_0 720 40 = true := by decide +kernel
set_option maxRecDepth 100000 in
theorem xk_0_760 : x_chk xi_0 760 40 = true := by decide +kernel
set_option maxRecDepth 100000 in
theorem xk_0 : (xi_0.2.2.2.2.drop 0).all (x_ck1 xi_0) = true := x_chk_app (k := 0) xk_0_0 (x_chk_app (k := 0) xk_0_40 (x_chk_app (k := 0) xk_0_80 (x_chk_app (k := 0) xk_0_120 (x_chk_app (k := 0) xk_0_160 (x_chk_app (k := 0) xk_0_200 (x_chk_app (k := 0) xk_0_240 (x_chk_app (k := 0) xk_0_280 (x_chk_app (k := 0) xk_0_320 (x_chk_app (k := 0) xk_0_360 (x_chk_app (k := 0) xk_0_400 (x_chk_app (k := 0) xk_0_440 (x_chk_app (k := 0) xk_0_480 (x_chk_app (k := 0) xk_0_520 (x_chk_app (k := 0) xk_0_560 (x_chk_app (k := 0) xk_0_600 (x_chk_app (k := 0) xk_0_640 (x_chk_app (k := 0) xk_0_680 (x_chk_app (k := 0) xk_0_720 (x_chk_app (k := 0) xk_0_760 (rfl))))))))))))))))))))
set_option maxRecDepth 100000 in
theorem xc_1 : (x_tb (2226 / 1000))[2226 % 1000]? = some (.code xi_1.1 xi_1.2.1 xi_1.2.2.1 xi_1.2.2.2.1) := rfl
set_option maxRecDepth 100000 in
theorem xk_1 : (xi_1.2.2.2.2.drop 0).all (x_ck1 xi_1) = true := by decide +kernel
set_option maxRecDepth 100000 in
theorem xc_2 : (x_tb (3103 / 1000))[3103 % 1000]? = some (.code xi_2.1 xi_2.2.1 xi_2.2.2.1 xi_2.2.2.2.1) := rfl
set_option maxRecDepth 100000 in
theorem xk_2 : (xi_2.2.2.2.2.drop 0).all (x_ck1 xi_2) = true := by decide +kernel
set_option maxRecDepth 100000 in
theorem xc_3 : (x_tb (3010 / 1000))[3010 % 1000]? = some (.code xi_3.1 xi_3.2.1 xi_3.2.2.1 xi_3.2.2.2.1) := rfl
set_option maxRecDepth 100000 in
theorem xk_3 : (xi_3.2.2.2.2.drop 0).all (x_ck1 xi_3) = true := by decide +kernel
set_option maxRecDepth 100000 in
theorem xc_4 : (x_tb (2150 / 1000))[2150 % 1000]? = some (.code xi_4.1 xi_4.2.1 xi_4.2.2.1 xi_4.2.2.2.1) := rfl
set_option maxRecDepth 100000 in
theorem xk_4 : (xi_4.2.2.2.2.drop 0).all (x_ck1 xi_4) = true := by decide +kernel
set_option maxRecDepth 100000 in
theorem xc_5 : (x_tb (2040 / 1000))[2040 % 1000]? = some (.code xi_5.1 xi_5.2.1 xi_5.2.2.1 xi_5.2.2.2.1) := rfl
set_option maxRecDepth 100000 in
theorem xk_5 : (xi_5.2.2.2.2.drop 0).all (x_ck1 xi_5) = true := by decide +kernel
set_option maxRecDepth 100000 in
theorem xc_6 : (x_tb (2061 / 1000))[2061 % 1000]? = some (.code xi_6.1 xi_6.2.1 xi_6.2.2.1 xi_6.2.2.2.1) := rfl
set_option maxRecDepth 100000 in
theorem xk_6 : (xi_6.2.2.2.2.drop 0).all (x_ck1 xi_6) = true := by decide +kernel
set_option maxRecDepth 100000 in
theorem xc_7 : (x_tb (2071 / 1000))[2071 % 1000]? = some (.code xi_7.1 xi_7.2.1 xi_7.2.2.1 xi_7.2.2.2.1) := rfl
set_option maxRecDepth 100000 in
theorem xk_7 : (xi_7.2.2.2.2.drop 0).all (x_ck1 xi_7) = true := by decide +kernel
set_option maxRecDepth 100000 in
theorem xc_8 : (x_tb (2136 / 1000))[2136 % 1000]? = some (.code xi_8.1 xi_8.2.1 xi_8.2.2.1 xi_8.2.2.2.1) := rfl
set_option maxRecDepth 100000 in
theorem xk_8 : (xi_8.2.2.2.2.drop 0).all (x_ck1 xi_8) = true := by decide +kernel
set_option maxRecDepth 100000 in
theorem xc_9 : (x_tb (2140 / 1000))[2140 % 1000]? = some (.code xi_9.1 xi_9.2.1 xi_9.2.2.1 xi_9.2.2.2.1) := rfl
set_option maxRecDepth 100000 in
theorem xk_9 : (xi_9.2.2.2.2.drop 0).all (x_ck1 xi_9) = true := by decide +kernel
set_option maxRecDepth 100000 in
theorem xc_10 : (x_tb (2065 / 1000))[2065 % 1000]? = some (.code xi_10.1 xi_10.2.1 xi_10.2.2.1 xi_10.2.2.2.1) := rfl
set_option maxRecDepth 100000 in
theorem xk_10 : (xi_10.2.2.2.2.drop 0).all (x_ck1 xi_10) = true := by decide +kernel
set_option maxRecDepth 100000 in
theorem xc_11 : (x_tb (2075 / 1000))[2075 % 1000]? = some (.code xi_11.1 xi_11.2.1 xi_11.2.2.1 xi_11.2.2.2.1) := rfl
set_option maxRecDepth 100000 in
theorem xk_11 : (xi_11.2.2.2.2.drop 0).all (x_ck1 xi_11) = true := by decide +kernel
set_option maxRecDepth 100000 in
theorem xc_12 : (x_tb (2081 / 1000))[2081 % 1000]? = some (.code xi_12.1 xi_12.2.1 xi_12.2.2.1 xi_12.2.2.2.1) := rfl
set_option maxRecDepth 100000 in
theorem xk_12 : (xi_12.2.2.2.2.drop 0).all (x_ck1 xi_12) = true := by decide +kernel
set_option maxRecDepth 100000 in
theorem xc_13 : (x_tb (2078 / 1000))[2078 % 1000]? = some (.code xi_13.1 xi_13.2.1 xi_13.2.2.1 xi_13.2.2.2.1) := rfl
set_option maxRecDepth 100000 in
theorem xk_13 : (xi_13.2.2.2.2.drop 0).all (x_ck1 xi_13) = true := by decide +kernel
set_option maxRecDepth 100000 in
theorem xc_14 : (x_tb (2147 / 1000))[2147 % 1000]? = some (.code xi_14.1 xi_14.2.1 xi_14.2.2.1 xi_14.2.2.2.1) := rfl
set_option maxRecDepth 100000 in
theorem xk_14 : (xi_14.2.2.2.2.drop 0).all (x_ck1 xi_14) = true := by decide +kernel
set_option maxRecDepth 100000 in
theorem xc_15 : (x_tb (2144 / 1000))[2144 % 1000]? = some (.code xi_15.1 xi_15.2.1 xi_15.2.2.1 xi_15.2.2.2.1) := rfl
set_option maxRecDepth 100000 in
theorem xk_15 : (xi_15.2.2.2.2.drop 0).all (x_ck1 xi_15) = true := by decide +kernel
set_option maxRecDepth 100000 in
theorem xc_16 : (x_tb (2154 / 1000))[2154 % 1000]? = some (.code xi_16.1 xi_16.2.1 xi_16.2.2.1 xi_16.2.2.2.1) := rfl
set_option maxRecDepth 100000 in
theorem xk_16 : (xi_16.2.2.2.2.drop 0).all (x_ck1 xi_16) = true := by decide +kernel
set_option maxRecDepth 100000 in
theorem xc_17 : (x_tb (2086 / 1000))[2086 % 1000]? = some (.code xi_17.1 xi_17.2.1 xi_17.2.2.1 xi_17.2.2.2.1) := rfl
set_option maxRecDepth 100000 in
theorem xk_17 : (xi_17.2.2.2.2.drop 0).all (x_ck1 xi_17) = true := by decide +kernel
set_option maxRecDepth 100000 in
theorem xc_18 : (x_tb (1216 / 1000))[1216 % 1000]? = some (.code xi_18.1 xi_18.2.1 xi_18.2.2.1 xi_18.2.2.2.1) := rfl
set_option maxRecDepth 100000 in
theorem xk_18 : (xi_18.2.2.2.2.drop 0).all (x_ck1 xi_18) = true := by decide +kernel
set_option maxRecDepth 100000 in
theorem xc_19 : (x_tb (3212 / 1000))[3212 % 1000]? = some (.code xi_19.1 xi_19.2.1 xi_19.2.2.1 xi_19.2.2.2.1) := rfl
set_option maxRecDepth 100000 in
theorem xk_19 : (xi_19.2.2.2.2.drop 0).all (x_ck1 xi_19) = true := by decide +kernel
set_option maxRecDepth 100000 in
theorem xc_20 : (x_tb (3218 / 1000))[3218 % 1000]? = some (.code xi_20.1 xi_20.2.1 xi_20.2.2.1 xi_20.2.2.2.1) := rfl
set_option maxRecDepth 100000 in
theorem xk_20_0 : x_chk xi_20 0 40 = true := by decide +kernel
set_option maxRecDepth 100000 in
theorem xk_20_40 : x_chk xi_20 40 40 = true := by decide +kernel
set_option maxRecDepth 100000 in
theorem xk_20_80 : x_chk xi_20 80 40 = true := by decide +kernel
set_option maxRecDepth 100000 in
theorem xk_20_120 : x_chk xi_20 120 40 = true := by decide +kernel
set_option maxRecDepth 100000 in
theorem xk_20 : (xi_20.2.2.2.2.drop 0).all (x_ck1 xi_20) = true := x_chk_app (k := 0) xk_20_0 (x_chk_app (k := 0) xk_20_40 (x_chk_app (k := 0) xk_20_80 (x_chk_app (k := 0) xk_20_120 (rfl))))
set_option maxRecDepth 100000 in
theorem xc_21 : (x_tb (3222 / 1000))[3222 % 1000]? = some (.code xi_21.1 xi_21.2.1 xi_21.2.2.1 xi_21.2.2.2.1) := rfl
set_option maxRecDepth 100000 in
theorem xk_21 : (xi_21.2.2.2.2.drop 0).all (x_ck1 xi_21) = true := by decide +kernel
set_option maxRecDepth 100000 in
theorem xc_22 : (x_tb (1093 / 1000))[1093 % 1000]? = some (.code xi_22.1 xi_22.2.1 xi_22.2.2.1 xi_22.2.2.2.1) := rfl
set_option maxRecDepth 100000 in
theorem xk_22 : (xi_22.2.2.2.2.drop 0).all (x_ck1 xi_22) = true := by decide +kernel
set_option maxRecDepth 100000 in
theorem xc_23 : (x_tb (2210 / 1000))[2210 % 1000]? = some (.code xi_23.1 xi_23.2.1 xi_23.2.2.1 xi_23.2.2.2.1) := rfl
set_option maxRecDepth 100000 in
theorem xk_23 : (xi_23.2.2.2.2.drop 0).all (x_ck1 xi_23) = true := by decide +kernel
set_option maxRecDepth 100000 in
theorem xc_24 : (x_tb (3055 / 1000))[3055 % 1000]? = some (.code xi_24.1 xi_24.2.1 xi_24.2.2.1 xi_24.2.2.2.1) := rfl
set_option maxRecDepth 100000 in
theorem xk_24 : (xi_24.2.2.2.2.drop 0).all (x_ck1 xi_24) = true := by decide +kernel
set_option maxRecDepth 100000 in
theorem xc_25 : (x_tb (3014 / 1000))[3014 % 1000]? = some (.code xi_25.1 xi_25.2.1 xi_25.2.2.1 xi_25.2.2.2.1) := rfl
set_option maxRecDepth 100000 in
theorem xk_25 : (xi_25.2.2.2.2.drop 0).all (x_ck1 xi_25) = true := by decide +kernel
set_option maxRecDepth 100000 in
theorem xc_26 : (x_tb (3043 / 1000))[3043 % 1000]? = some (.code xi_26.1 xi_26.2.1 xi_26.2.2.1 xi_26.2.2.2.1) := rfl
set_option maxRecDepth 100000 in
theorem xk_26 : (xi_26.2.2.2.2.drop 0).all (x_ck1 xi_26) = true := by decide +kernel
set_option maxRecDepth 100000 in
theorem xc_27 : (x_tb (3002 / 1000))[3002 % 1000]? = some (.code xi_27.1 xi_27.2.1 xi_27.2.2.1 xi_27.2.2.2.1) := rfl
set_option maxRecDepth 100000 in
theorem xk_27 : (xi_27.2.2.2.2.drop 0).all (x_ck1 xi_27) = true := by decide +kernel
set_option maxRecDepth 100000 in
theorem xc_28 : (x_tb (3064 / 1000))[3064 % 1000]? = some (.code xi_28.1 xi_28.2.1 xi_28.2.2.1 xi_28.2.2.2.1) := rfl
set_option maxRecDepth 100000 in
theorem xk_28 : (xi_28.2.2.2.2.drop 0).all (x_ck1 xi_28) = true := by decide +kernel
set_option maxRecDepth 100000 in
theorem xc_29 : (x_tb (1231 / 1000))[1231 % 1000]? = some (.code xi_29.1 xi_29.2.1 xi_29.2.2.1 xi_29.2.2.2.1) := rfl
set_option maxRecDepth 100000 in
theorem xk_29 : (xi_29.2.2.2.2.drop 0).all (x_ck1 xi_29) = true := by decide +kernel
set_option maxRecDepth 100000 in
theorem xc_30 : (x_tb (3100 / 1000))[3100 % 1000]? = some (.code xi_30.1 xi_30.2.1 xi_30.2.2.1 xi_30.2.2.2.1) := rfl
set_option maxRecDepth 100000 in
theorem xk_30 : (xi_30.2.2.2.2.drop 0).all (x_ck1 xi_30) = true := by decide +kernel
set_option maxRecDepth 100000 in
theorem xc_31 : (x_tb (3109 / 1000))[3109 % 1000]? = some (.code xi_31.1 xi_31.2.1 xi_31.2.2.1 xi_31.2.2.2.1) := rfl
set_option maxRecDepth 100000 in
theorem xk_31 : (xi_31.2.2.2.2.drop 0).all (x_ck1 xi_31) = true := by decide +kernel
set_option maxRecDepth 100000 in
theorem xc_32 : (x_tb (3115 / 1000))[3115 % 1000]? = some (.code xi_32.1 xi_32.2.1 xi_32.2.2.1 xi_32.2.2.2.1) := rfl
set_option maxRecDepth 100000 in
theorem xk_32 : (xi_32.2.2.2.2.drop 0).all (x_ck1 xi_32) = true := by decide +kernel
set_option maxRecDepth 100000 in
theorem xc_33 : (x_tb (3119 / 1000))[3119 % 1000]? = some (.code xi_33.1 xi_33.2.1 xi_33.2.2.1 xi_33.2.2.2.1) := rfl
set_option maxRecDepth 100000 in
theorem xk_33 : (xi_33.2.2.2.2.drop 0).all (x_ck1 xi_33) = true := by decide +kernel
set_option maxRecDepth 100000 in
theorem xc_34 : (x_tb (1190 / 1000))[1190 % 1000]? = some (.code xi_34.1 xi_34.2.1 xi_34.2.2.1 xi_34.2.2.2.1) := rfl
set_option maxRecDepth 100000 in
theorem xk_34 : (xi_34.2.2.2.2.drop 0).all (x_ck1 xi_34) = true := by decide +kernel
set_option maxRecDepth 100000 in
theorem xc_35 : (x_tb (2034 / 1000))[2034 % 1000]? = some (.code xi_35.1 xi_35.2.1 xi_35.2.2.1 xi_35.2.2.2.1) := rfl
set_option maxRecDepth 100000 in
theorem xk_35 : (xi_35.2.2.2.2.drop 0).all (x_ck1 xi_35) = true := by decide +kernel
set_option maxRecDepth 100000 in
theorem xc_36 : (x_tb (2048 / 1000))[2048 % 1000]? = some (.code xi_36.1 xi_36.2.1 xi_36.2.2.1 xi_36.2.2.2.1) := rfl
set_option maxRecDepth 100000 in
theorem xk_36_0 : x_chk xi_36 0 40 = true := by decide +kernel
set_option maxRecDepth 100000 in
theorem xk_36_40 : x_chk xi_36 40 40 = true := by decide +kernel
set_option maxRecDepth 100000 in
theorem xk_36 : (xi_36.2.2.2.2.drop 0).all (x_ck1 xi_36) = true := x_chk_app (k := 0) xk_36_0 (x_chk_app (k := 0) xk_36_40 (rfl))
set_option maxRecDepth 100000 in
theorem xc_37 : (x_tb (2115 / 1000))[2115 % 1000]? = some (.code xi_37.1 xi_37.2.1 xi_37.2.2.1 xi_37.2.2.2.1) := rfl
set_option maxRecDepth 100000 in
theorem xk_37 : (xi_37.2.2.2.2.drop 0).all (x_ck1 xi_37) = true := by decide +kernel
set_option maxRecDepth 100000 in
theorem xc_38 : (x_tb (2119 / 1000))[2119 % 1000]? = some (.code xi_38.1 xi_38.2.1 xi_38.2.2.1 xi_38.2.2.2.1) := rfl
set_option maxRecDepth 100000 in
theorem xk_38 : (xi_38.2.2.2.2.drop 0).all (x_ck1 xi_38) = true := by decide +kernel
set_option maxRecDepth 100000 in
theorem xc_39 : (x_tb (2123 / 1000))[2123 % 1000]? = some (.code xi_39.1 xi_39.2.1 xi_39.2.2.1 xi_39.2.2.2.1) := rfl
set_option maxRecDepth 100000 in
theorem xk_39 : (xi_39.2.2.2.2.drop 0).all (x_ck1 xi_39) = true := by decide +kernel
set_option maxRecDepth 100000 in
theorem xc_40 : (x_tb (2131 / 1000))[2131 % 1000]? = some (.code xi_40.1 xi_40.2.1 xi_40.2.2.1 xi_40.2.2.2.1) := rfl
set_option maxRecDepth 100000 in
theorem xk_40_0 : x_chk xi_40 0 40 = true := by decide +kernel
set_option maxRecDepth 100000 in
theorem xk_40_40 : x_chk xi_40 40 40 = true := by decide +kernel
set_option maxRecDepth 100000 in
theorem xk_40 : (xi_40.2.2.2.2.drop 0).all (x_ck1 xi_40) = true := x_chk_app (k := 0) xk_40_0 (x_chk_app (k := 0) xk_40_40 (rfl))
set_option maxRecDepth 100000 in
theorem xc_41 : (x_tb (2109 / 1000))[2109 % 1000]? = some (.code xi_41.1 xi_41.2.1 xi_41.2.2.1 xi_41.2.2.2.1) := rfl
set_option maxRecDepth 100000 in
theorem xk_41_0 : x_chk xi_41 0 40 = true := by decide +kernel
set_option maxRecDepth 100000 in
theorem xk_41_40 : x_chk xi_41 40 40 = true := by decide +kernel
set_option maxRecDepth 100000 in
theorem xk_41 : (xi_41.2.2.2.2.drop 0).all (x_ck1 xi_41) = true := x_chk_app (k := 0) xk_41_0 (x_chk_app (k := 0) xk_41_40 (rfl))
set_option maxRecDepth 100000 in
theorem xc_42 : (x_tb (2052 / 1000))[2052 % 1000]? = some (.code xi_42.1 xi_42.2.1 xi_42.2.2.1 xi_42.2.2.2.1) := rfl
set_option maxRecDepth 100000 in
theorem xk_42 : (xi_42.2.2.2.2.drop 0).all (x_ck1 xi_42) = true := by decide +kernel
set_option maxRecDepth 100000 in
theorem xc_43 : (x_tb (2057 / 1000))[2057 % 1000]? = some (.code xi_43.1 xi_43.2.1 xi_43.2.2.1 xi_43.2.2.2.1) := rfl
set_option maxRecDepth 100000 in
theorem xk_43 : (xi_43.2.2.2.2.drop 0).all (x_ck1 xi_43) = true := by decide +kernel
set_option maxRecDepth 100000 in
theorem xc_44 : (x_tb (1071 / 1000))[1071 % 1000]? = some (.code xi_44.1 xi_44.2.1 xi_44.2.2.1 xi_44.2.2.2.1) := rfl
set_option maxRecDepth 100000 in
theorem xk_44 : (xi_44.2.2.2.2.drop 0).all (x_ck1 xi_44) = true := by decide +kernel
set_option maxRecDepth 100000 in
theorem xc_45 : (x_tb (3147 / 1000))[3147 % 1000]? = some (.code xi_45.1 xi_45.2.1 xi_45.2.2.1 xi_45.2.2.2.1) := rfl
set_option maxRecDepth 100000 in
theorem xk_45 : (xi_45.2.2.2.2.drop 0).all (x_ck1 xi_45) = true := by decide +kernel
set_option maxRecDepth 100000 in
theorem xc_46 : (x_tb (3143 / 1000))[3143 % 1000]? = some (.code xi_46.1 xi_46.2.1 xi_46.2.2.1 xi_46.2.2.2.1) := rfl
set_option maxRecDepth 100000 in
theorem xk_46 : (xi_46.2.2.2.2.drop 0).all (x_ck1 xi_46) = true := by decide +kernel
set_option maxRecDepth 100000 in
theorem xc_47 : (x_tb (4011 / 1000))[4011 % 1000]? = some (.code xi_47.1 xi_47.2.1 xi_47.2.2.1 xi_47.2.2.2.1) := rfl
set_option maxRecDepth 100000 in
theorem xk_47 : (xi_47.2.2.2.2.drop 0).all (x_ck1 xi_47) = true := by decide +kernel
set_option maxRecDepth 100000 in
theorem xc_48 : (x_tb (1038 / 1000))[1038 % 1000]? = some (.code xi_48.1 xi_48.2.1 xi_48.2.2.1 xi_48.2.2.2.1) := rfl
set_option maxRecDepth 100000 in
theorem xk_48 : (xi_48.2.2.2.2.drop 0).all (x_ck1 xi_48) = true := by decide +kernel
set_option maxRecDepth 100000 in
theorem xc_49 : (x_tb (2044 / 1000))[2044 % 1000]? = some (.code xi_49.1 xi_49.2.1 xi_49.2.2.1 xi_49.2.2.2.1) := rfl
set_option maxRecDepth 100000 in
theorem xk_49 : (xi_49.2.2.2.2.drop 0).all (x_ck1 xi_49) = true := by decide +kernel
set_option maxRecDepth 100000 in
theorem xc_50 : (x_tb (2201 / 1000))[2201 % 1000]? = some (.code xi_50.1 xi_50.2.1 xi_50.2.2.1 xi_50.2.2.2.1) := rfl
set_option maxRecDepth 100000 in
theorem xk_50 : (xi_50.2.2.2.2.drop 0).all (x_ck1 xi_50) = true := by decide +kernel
set_option maxRecDepth 100000 in
theorem xc_51 : (x_tb (2127 / 1000))[2127 % 1000]? = some (.code xi_51.1 xi_51.2.1 xi_51.2.2.1 xi_51.2.2.2.1) := rfl
set_option maxRecDepth 100000 in
theorem xk_51 : (xi_51.2.2.2.2.drop 0).all (x_ck1 xi_51) = true := by decide +kernel
set_option maxRecDepth 100000 in
theorem xc_52 : (x_tb (2197 / 1000))[2197 % 1000]? = some (.code xi_52.1 xi_52.2.1 xi_52.2.2.1 xi_52.2.2.2.1) := rfl
set_option maxRecDepth 100000 in
theorem xk_52 : (xi_52.2.2.2.2.drop 0).all (x_ck1 xi_52) = true := by decide +kernel
set_option maxRecDepth 100000 in
theorem xc_53 : (x_tb (2223 / 1000))[2223 % 1000]? = some (.code xi_53.1 xi_53.2.1 xi_53.2.2.1 xi_53.2.2.2.1) := rfl
set_option maxRecDepth 100000 in
theorem xk_53_0 : x_chk xi_53 0 40 = true := by decide +kernel
set_option maxRecDepth 100000 in
theorem xk_53_40 : x_chk xi_53 40 40 = true := by decide +kernel
set_option maxRecDepth 100000 in
theorem xk_53 : (xi_53.2.2.2.2.drop 0).all (x_ck1 xi_53) = true := x_chk_app (k := 0) xk_53_0 (x_chk_app (k := 0) xk_53_40 (rfl))
set_option maxRecDepth 100000 in
theorem xc_54 : (x_tb (2233 / 1000))[2233 % 1000]? = some (.code xi_54.1 xi_54.2.1 xi_54.2.2.1 xi_54.2.2.2.1) := rfl
set_option maxRecDepth 100000 in
theorem xk_54_0 : x_chk xi_54 0 40 = true := by decide +kernel
set_option maxRecDepth 100000 in
theorem xk_54_40 : x_chk xi_54 40 40 = true := by decide +kernel
set_option maxRecDepth 100000 in
theorem xk_54 : (xi_54.2.2.2.2.drop 0).all (x_ck1 xi_54) = true := x_chk_app (k := 0) xk_54_0 (x_chk_app (k := 0) xk_54_40 (rfl))
set_option maxRecDepth 100000 in
theorem xc_55 : (x_tb (2193 / 1000))[2193 % 1000]? = some (.code xi_55.1 xi_55.2.1 xi_55.2.2.1 xi_55.2.2.2.1) := rfl
set_option maxRecDepth 100000 in
theorem xk_55 : (xi_55.2.2.2.2.drop 0).all (x_ck1 xi_55) = true := by decide +kernel
set_option maxRecDepth 100000 in
theorem xc_56 : (x_tb (2238 / 1000))[2238 % 1000]? = some (.code xi_56.1 xi_56.2.1 xi_56.2.2.1 xi_56.2.2.2.1) := rfl
set_option maxRecDepth 100000 in
theorem xk_56 : (xi_56.2.2.2.2.drop 0).all (x_ck1 xi_56) = true := by decide +kernel
set_option maxRecDepth 100000 in
theorem xc_57 : (x_tb (1030 / 1000))[1030 % 1000]? = some (.code xi_57.1 xi_57.2.1 xi_57.2.2.1 xi_57.2.2.2.1) := rfl
set_option maxRecDepth 100000 in
theorem xk_57 : (xi_57.2.2.2.2.drop 0).all (x_ck1 xi_57) = true := by decide +kernel
set_option maxRecDepth 100000 in
theorem xc_58 : (x_tb (4004 / 1000))[4004 % 1000]? = some (.code xi_58.1 xi_58.2.1 xi_58.2.2.1 xi_58.2.2.2.1) := rfl
set_option maxRecDepth 100000 in
theorem xk_58_0 : x_chk xi_58 0 40 = true := by decide +kernel
set_option maxRecDepth 100000 in
theorem xk_58_40 : x_chk xi_58 40 40 = true := by decide +kernel
set_option maxRecDepth 100000 in
theorem xk_58 : (xi_58.2.2.2.2.drop 0).all (x_ck1 xi_58) = true := x_chk_app (k := 0) xk_58_0 (x_chk_app (k := 0) xk_58_40 (rfl))
set_option maxRecDepth 100000 in
theorem xc_59 : (x_tb (2218 / 1000))[2218 % 1000]? = some (.code xi_59.1 xi_59.2.1 xi_59.2.2.1 xi_59.2.2.2.1) := rfl
set_option maxRecDepth 100000 in
theorem xk_59 : (xi_59.2.2.2.2.drop 0).all (x_ck1 xi_59) = true := by decide +kernel
set_option maxRecDepth 100000 in
theorem xc_60 : (x_tb (3072 / 1000))[3072 % 1000]? = some (.code xi_60.1 xi_60.2.1 xi_60.2.2.1 xi_60.2.2.2.1) := rfl
set_option maxRecDepth 100000 in
theorem xk_60 : (xi_60.2.2.2.2.drop 0).all (x_ck1 xi_60) = true := by decide +kernel
set_option maxRecDepth 100000 in
theorem xc_61 : (x_tb (3076 / 1000))[3076 % 1000]? = some (.code xi_61.1 xi_61.2.1 xi_61.2.2.1 xi_61.2.2.2.1) := rfl
set_option maxRecDepth 100000 in
theorem xk_61 : (xi_61.2.2.2.2.drop 0).all (x_ck1 xi_61) = true := by decide +kernel
set_option maxRecDepth 100000 in
theorem xc_62 : (x_tb (1022 / 1000))[1022 % 1000]? = some (.code xi_62.1 xi_62.2.1 xi_62.2.2.1 xi_62.2.2.2.1) := rfl
set_option maxRecDepth 100000 in
theorem xk_62 : (xi_62.2.2.2.2.drop 0).all (x_ck1 xi_62) = true := by decide +kernel
set_option maxRecDepth 100000 in
theorem xc_63 : (x_tb (2023 / 1000))[2023 % 1000]? = some (.code xi_63.1 xi_63.2.1 xi_63.2.2.1 xi_63.2.2.2.1) := rfl
set_option maxRecDepth 100000 in
theorem xk_63 : (xi_63.2.2.2.2.drop 0).all (x_ck1 xi_63) = true := by decide +kernel
set_option maxRecDepth 100000 in
theorem xc_64 : (x_tb (2030 / 1000))[2030 % 1000]? = some (.code xi_64.1 xi_64.2.1 xi_64.2.2.1 xi_64.2.2.2.1) := rfl
set_option maxRecDepth 100000 in
theorem xk_64 : (xi_64.2.2.2.2.drop 0).all (x_ck1 xi_64) = true := by decide +kernel
set_option maxRecDepth 100000 in
theorem xc_65 : (x_tb (2206 / 1000))[2206 % 1000]? = some (.code xi_65.1 xi_65.2.1 xi_65.2.2.1 xi_65.2.2.2.1) := rfl
set_option maxRecDepth 100000 in
theorem xk_65 : (xi_65.2.2.2.2.drop 0).all (x_ck1 xi_65) = true := by decide +kernel
set_option maxRecDepth 100000 in
theorem xc_66 : (x_tb (2214 / 1000))[2214 % 1000]? = some (.code xi_66.1 xi_66.2.1 xi_66.2.2.1 xi_66.2.2.2.1) := rfl
set_option maxRecDepth 100000 in
theorem xk_66_0 : x_chk xi_66 0 40 = true := by decide +kernel
set_option maxRecDepth 100000 in
theorem xk_66_40 : x_chk xi_66 40 40 = true := by decide +kernel
set_option maxRecDepth 100000 in
theorem xk_66 : (xi_66.2.2.2.2.drop 0).all (x_ck1 xi_66) = true := x_chk_app (k := 0) xk_66_0 (x_chk_app (k := 0) xk_66_40 (rfl))
set_option maxRecDepth 100000 in
theorem xc_67 : (x_tb (3023 / 1000))[3023 % 1000]? = some (.code xi_67.1 xi_67.2.1 xi_67.2.2.1 xi_67.2.2.2.1) := rfl
set_option maxRecDepth 100000 in
theorem xk_67 : (xi_67.2.2.2.2.drop 0).all (x_ck1 xi_67) = true := by decide +kernel
set_option maxRecDepth 100000 in
theorem xc_68 : (x_tb (3027 / 1000))[3027 % 1000]? = some (.code xi_68.1 xi_68.2.1 xi_68.2.2.1 xi_68.2.2.2.1) := rfl
set_option maxRecDepth 100000 in
theorem xk_68 : (xi_68.2.2.2.2.drop 0).all (x_ck1 xi_68) = true := by decide +kernel
set_option maxRecDepth 100000 in
theorem xc_69 : (x_tb (3031 / 1000))[3031 % 1000]? = some (.code xi_69.1 xi_69.2.1 xi_69.2.2.1 xi_69.2.2.2.1) := rfl
set_option maxRecDepth 100000 in
theorem xk_69 : (xi_69.2.2.2.2.drop 0).all (x_ck1 xi_69) = true := by decide +kernel
set_option maxRecDepth 100000 in
theorem xc_70 : (x_tb (3035 / 1000))[3035 % 1000]? = some (.code xi_70.1 xi_70.2.1 xi_70.2.2.1 xi_70.2.2.2.1) := rfl
set_option maxRecDepth 100000 in
theorem xk_70 : (xi_70.2.2.2.2.drop 0).all (x_ck1 xi_70) = true := by decide +kernel
set_option maxRecDepth 100000 in
theorem xc_71 : (x_tb (3039 / 1000))[3039 % 1000]? = some (.code xi_71.1 xi_71.2.1 xi_71.2.2.1 xi_71.2.2.2.1) := rfl
set_option maxRecDepth 100000 in
theorem xk_71 : (xi_71.2.2.2.2.drop 0).all (x_ck1 xi_71) = true := by decide +kernel
set_option maxRecDepth 100000 in
theorem xc_72 : (x_tb (3047 / 1000))[3047 % 1000]? = some (.code xi_72.1 xi_72.2.1 xi_72.2.2.1 xi_72.2.2.2.1) := rfl
set_option maxRecDepth 100000 in
theorem xk_72 : (xi_72.2.2.2.2.drop 0).all (x_ck1 xi_72) = true := by decide +kernel
set_option maxRecDepth 100000 in
theorem xc_73 : (x_tb (3084 / 1000))[3084 % 1000]? = some (.code xi_73.1 xi_73.2.1 xi_73.2.2.1 xi_73.2.2.2.1) := rfl
set_option maxRecDepth 100000 in
theorem xk_73 : (xi_73.2.2.2.2.drop 0).all (x_ck1 xi_73) = true := by decide +kernel
set_option maxRecDepth 100000 in
theorem xc_74 : (x_tb (3088 / 1000))[3088 % 1000]? = some (.code xi_74.1 xi_74.2.1 xi_74.2.2.1 xi_74.2.2.2.1) := rfl
set_option maxRecDepth 100000 in
theorem xk_74 : (xi_74.2.2.2.2.drop 0).all (x_ck1 xi_74) = true := by decide +kernel
set_option maxRecDepth 100000 in
theorem xc_75 : (x_tb (3092 / 1000))[3092 % 1000]? = some (.code xi_75.1 xi_75.2.1 xi_75.2.2.1 xi_75.2.2.2.1) := rfl
set_option maxRecDepth 100000 in
theorem xk_75 : (xi_75.2.2.2.2.drop 0).all (x_ck1 xi_75) = true := by decide +kernel
set_option maxRecDepth 100000 in
theorem xc_76 : (x_tb (3096 / 1000))[3096 % 1000]? = some (.code xi_76.1 xi_76.2.1 xi_76.2.2.1 xi_76.2.2.2.1) := rfl
set_option maxRecDepth 100000 in
theorem xk_76 : (xi_76.2.2.2.2.drop 0).all (x_ck1 xi_76) = true := by decide +kernel
set_option maxRecDepth 100000 in
theorem xc_77 : (x_tb (3123 / 1000))[3123 % 1000]? = some (.code xi_77.1 xi_77.2.1 xi_77.2.2.1 xi_77.2.2.2.1) := rfl
set_option maxRecDepth 100000 in
theorem xk_77 : (xi_77.2.2.2.2.drop 0).all (x_ck1 xi_77) = true := by decide +kernel
set_option maxRecDepth 100000 in
theorem xc_78 : (x_tb (3131 / 1000))[3131 % 1000]? = some (.code xi_78.1 xi_78.2.1 xi_78.2.2.1 xi_78.2.2.2.1) := rfl
set_option maxRecDepth 100000 in
theorem xk_78_0 : x_chk xi_78 0 40 = true := by decide +kernel
set_option maxRecDepth 100000 in
theorem xk_78_40 : x_chk xi_78 40 40 = true := by decide +kernel
set_option maxRecDepth 100000 in
theorem xk_78_80 : x_chk xi_78 80 40 = true := by decide +kernel
set_option maxRecDepth 100000 in
theorem xk_78 : (xi_78.2.2.2.2.drop 0).all (x_ck1 xi_78) = true := x_chk_app (k := 0) xk_78_0 (x_chk_app (k := 0) xk_78_40 (x_chk_app (k := 0) xk_78_80 (rfl)))
set_option maxRecDepth 100000 in
theorem xc_79 : (x_tb (3139 / 1000))[3139 % 1000]? = some (.code xi_79.1 xi_79.2.1 xi_79.2.2.1 xi_79.2.2.2.1) := rfl
set_option maxRecDepth 100000 in
theorem xk_79 : (xi_79.2.2.2.2.drop 0).all (x_ck1 xi_79) = true := by decide +kernel
set_option maxRecDepth 100000 in
theorem xc_80 : (x_tb (3151 / 1000))[3151 % 1000]? = some (.code xi_80.1 xi_80.2.1 xi_80.2.2.1 xi_80.2.2.2.1) := rfl
set_option maxRecDepth 100000 in
theorem xk_80 : (xi_80.2.2.2.2.drop 0).all (x_ck1 xi_80) = true := by decide +kernel
set_option maxRecDepth 100000 in
theorem xc_81 : (x_tb (3172 / 1000))[3172 % 1000]? = some (.code xi_81.1 xi_81.2.1 xi_81.2.2.1 xi_81.2.2.2.1) := rfl
set_option maxRecDepth 100000 in
theorem xk_81 : (xi_81.2.2.2.2.drop 0).all (x_ck1 xi_81) = true := by decide +kernel
set_option maxRecDepth 100000 in
theorem xc_82 : (x_tb (3176 / 1000))[3176 % 1000]? = some (.code xi_82.1 xi_82.2.1 xi_82.2.2.1 xi_82.2.2.2.1) := rfl
set_option maxRecDepth 100000 in
theorem xk_82 : (xi_82.2.2.2.2.drop 0).all (x_ck1 xi_82) = true := by decide +kernel
set_option maxRecDepth 100000 in
theorem xc_83 : (x_tb (3184 / 1000))[3184 % 1000]? = some (.code xi_83.1 xi_83.2.1 xi_83.2.2.1 xi_83.2.2.2.1) := rfl
set_option maxRecDepth 100000 in
theorem xk_83 : (xi_83.2.2.2.2.drop 0).all (x_ck1 xi_83) = true := by decide +kernel
set_option maxRecDepth 100000 in
theorem xc_84 : (x_tb (3188 / 1000))[3188 % 1000]? = some (.code xi_84.1 xi_84.2.1 xi_84.2.2.1 xi_84.2.2.2.1) := rfl
set_option maxRecDepth 100000 in
theorem xk_84 : (xi_84.2.2.2.2.drop 0).all (x_ck1 xi_84) = true := by decide +kernel
set_option maxRecDepth 100000 in
theorem xc_85 : (x_tb (3192 / 1000))[3192 % 1000]? = some (.code xi_85.1 xi_85.2.1 xi_85.2.2.1 xi_85.2.2.2.1) := rfl
set_option maxRecDepth 100000 in
theorem xk_85 : (xi_85.2.2.2.2.drop 0).all (x_ck1 xi_85) = true := by decide +kernel
set_option maxRecDepth 100000 in
theorem xc_86 : (x_tb (3200 / 1000))[3200 % 1000]? = some (.code xi_86.1 xi_86.2.1 xi_86.2.2.1 xi_86.2.2.2.1) := rfl
set_option maxRecDepth 100000 in
theorem xk_86 : (xi_86.2.2.2.2.drop 0).all (x_ck1 xi_86) = true := by decide +kernel
set_option maxRecDepth 100000 in
theorem xc_87 : (x_tb (3204 / 1000))[3204 % 1000]? = some (.code xi_87.1 xi_87.2.1 xi_87.2.2.1 xi_87.2.2.2.1) := rfl
set_option maxRecDepth 100000 in
theorem xk_87 : (xi_87.2.2.2.2.drop 0).all (x_ck1 xi_87) = true := by decide +kernel
set_option maxRecDepth 100000 in
theorem xc_88 : (x_tb (3208 / 1000))[3208 % 1000]? = some (.code xi_88.1 xi_88.2.1 xi_88.2.2.1 xi_88.2.2.2.1) := rfl
set_option maxRecDepth 100000 in
theorem xk_88 : (xi_88.2.2.2.2.drop 0).all (x_ck1 xi_88) = true := by decide +kernel
set_option maxRecDepth 100000 in
theorem xc_89 : (x_tb (3230 / 1000))[3230 % 1000]? = some (.code xi_89.1 xi_89.2.1 xi_89.2.2.1 xi_89.2.2.2.1) := rfl
set_option maxRecDepth 100000 in
theorem xk_89 : (xi_89.2.2.2.2.drop 0).all (x_ck1 xi_89) = true := by decide +kernel
set_option maxRecDepth 100000 in
theorem xc_90 : (x_tb (3234 / 1000))[3234 % 1000]? = some (.code xi_90.1 xi_90.2.1 xi_90.2.2.1 xi_90.2.2.2.1) := rfl
set_option maxRecDepth 100000 in
theorem xk_90 : (xi_90.2.2.2.2.drop 0).all (x_ck1 xi_90) = true := by decide +kernel
set_option maxRecDepth 100000 in
theorem xc_91 : (x_tb (4000 / 1000))[4000 % 1000]? = some (.code xi_91.1 xi_91.2.1 xi_91.2.2.1 xi_91.2.2.2.1) := rfl
set_option maxRecDepth 100000 in
theorem xk_91 : (xi_91.2.2.2.2.drop 0).all (x_ck1 xi_91) = true := by decide +kernel
set_option maxRecDepth 100000 in
theorem xc_92 : (x_tb (4016 / 1000))[4016 % 1000]? = some (.code xi_92.1 xi_92.2.1 xi_92.2.2.1 xi_92.2.2.2.1) := rfl
set_option maxRecDepth 100000 in
theorem xk_92 : (xi_92.2.2.2.2.drop 0).all (x_ck1 xi_92) = true := by decide +kernel
set_option maxRecDepth 100000 in
theorem xc_93 : (x_tb (4020 / 1000))[4020 % 1000]? = some (.code xi_93.1 xi_93.2.1 xi_93.2.2.1 xi_93.2.2.2.1) := rfl
set_option maxRecDepth 100000 in
theorem xk_93 : (xi_93.2.2.2.2.drop 0).all (x_ck1 xi_93) = true := by decide +kernel
set_option maxRecDepth 100000 in
theorem xc_94 : (x_tb (2026 / 1000))[2026 % 1000]? = some (.code xi_94.1 xi_94.2.1 xi_94.2.2.1 xi_94.2.2.2.1) := rfl
set_option maxRecDepth 100000 in
theorem xk_94 : (xi_94.2.2.2.2.drop 0).all (x_ck1 xi_94) = true := by decide +kernel
set_option maxRecDepth 100000 in
theorem xc_95 : (x_tb (3180 / 1000))[3180 % 1000]? = some (.code xi_95.1 xi_95.2.1 xi_95.2.2.1 xi_95.2.2.2.1) := rfl
set_option maxRecDepth 100000 in
theorem xk_95 : (xi_95.2.2.2.2.drop 0).all (x_ck1 xi_95) = true := by decide +kernel
set_option maxRecDepth 100000 in
theorem xc_96 : (x_tb (3060 / 1000))[3060 % 1000]? = some (.code xi_96.1 xi_96.2.1 xi_96.2.2.1 xi_96.2.2.2.1) := rfl
set_option maxRecDepth 100000 in
theorem xk_96 : (xi_96.2.2.2.2.drop 0).all (x_ck1 xi_96) = true := by decide +kernel
set_option maxRecDepth 100000 in
theorem xc_97 : (x_tb (3051 / 1000))[3051 % 1000]? = some (.code xi_97.1 xi_97.2.1 xi_97.2.2.1 xi_97.2.2.2.1) := rfl
set_option maxRecDepth 100000 in
theorem xk_97 : (xi_97.2.2.2.2.drop 0).all (x_ck1 xi_97) = true := by decide +kernel
set_option maxRecDepth 100000 in
theorem xc_98 : (x_tb (3135 / 1000))[3135 % 1000]? = some (.code xi_98.1 xi_98.2.1 xi_98.2.2.1 xi_98.2.2.2.1) := rfl
set_option maxRecDepth 100000 in
theorem xk_98 : (xi_98.2.2.2.2.drop 0).all (x_ck1 xi_98) = true := by decide +kernel
set_option maxRecDepth 100000 in
theorem xc_99 : (x_tb (3080 / 1000))[3080 % 1000]? = some (.code xi_99.1 xi_99.2.1 xi_99.2.2.1 xi_99.2.2.2.1) := rfl
set_option maxRecDepth 100000 in
theorem xk_99 : (xi_99.2.2.2.2.drop 0).all (x_ck1 xi_99) = true := by decide +kernel
set_option maxRecDepth 100000 in
theorem xc_100 : (x_tb (3007 / 1000))[3007 % 1000]? = some (.code xi_100.1 xi_100.2.1 xi_100.2.2.1 xi_100.2.2.2.1) := rfl
set_option maxRecDepth 100000 in
theorem xk_100 : (xi_100.2.2.2.2.drop 0).all (x_ck1 xi_100) = true := by decide +kernel
set_option maxRecDepth 100000 in
theorem xc_101 : (x_tb (3018 / 1000))[3018 % 1000]? = some (.code xi_101.1 xi_101.2.1 xi_101.2.2.1 xi_101.2.2.2.1) := rfl
set_option maxRecDepth 100000 in
theorem xk_101 : (xi_101.2.2.2.2.drop 0).all (x_ck1 xi_101) = true := by decide +kernel
set_option maxRecDepth 100000 in
theorem xc_102 : (x_tb (3127 / 1000))[3127 % 1000]? = some (.code xi_102.1 xi_102.2.1 xi_102.2.2.1 xi_102.2.2.2.1) := rfl
set_option maxRecDepth 100000 in
theorem xk_102 : (xi_102.2.2.2.2.drop 0).all (x_ck1 xi_102) = true := by decide +kernel
set_option maxRecDepth 100000 in
theorem xc_103 : (x_tb (3155 / 1000))[3155 % 1000]? = some (.code xi_103.1 xi_103.2.1 xi_103.2.2.1 xi_103.2.2.2.1) := rfl
set_option maxRecDepth 100000 in
theorem xk_103 : (xi_103.2.2.2.2.drop 0).all (x_ck1 xi_103) = true := by decide +kernel
set_option maxRecDepth 100000 in
theorem xc_104 : (x_tb (3159 / 1000))[3159 % 1000]? = some (.code xi_104.1 xi_104.2.1 xi_104.2.2.1 xi_104.2.2.2.1) := rfl
set_option maxRecDepth 100000 in
theorem xk_104 : (xi_104.2.2.2.2.drop 0).all (x_ck1 xi_104) = true := by decide +kernel
set_option maxRecDepth 100000 in
theorem xc_105 : (x_tb (3164 / 1000))[3164 % 1000]? = some (.code xi_105.1 xi_105.2.1 xi_105.2.2.1 xi_105.2.2.2.1) := rfl
set_option maxRecDepth 100000 in
theorem xk_105 : (xi_105.2.2.2.2.drop 0).all (x_ck1 xi_105) = true := by decide +kernel
set_option maxRecDepth 100000 in
theorem xc_106 : (x_tb (3168 / 1000))[3168 % 1000]? = some (.code xi_106.1 xi_106.2.1 xi_106.2.2.1 xi_106.2.2.2.1) := rfl
set_option maxRecDepth 100000 in
theorem xk_106 : (xi_106.2.2.2.2.drop 0).all (x_ck1 xi_106) = true := by decide +kernel
set_option maxRecDepth 100000 in
theorem xc_107 : (x_tb (3196 / 1000))[3196 % 1000]? = some (.code xi_107.1 xi_107.2.1 xi_107.2.2.1 xi_107.2.2.2.1) := rfl
set_option maxRecDepth 100000 in
theorem xk_107_0 : x_chk xi_107 0 40 = true := by decide +kernel
set_option maxRecDepth 100000 in
theorem xk_107_40 : x_chk xi_107 40 40 = true := by decide +kernel
set_option maxRecDepth 100000 in
theorem xk_107 : (xi_107.2.2.2.2.drop 0).all (x_ck1 xi_107) = true := x_chk_app (k := 0) xk_107_0 (x_chk_app (k := 0) xk_107_40 (rfl))
set_option maxRecDepth 100000 in
theorem xc_108 : (x_tb (4025 / 1000))[4025 % 1000]? = some (.code xi_108.1 xi_108.2.1 xi_108.2.2.1 xi_108.2.2.2.1) := rfl
set_option maxRecDepth 100000 in
theorem xk_108 : (xi_108.2.2.2.2.drop 0).all (x_ck1 xi_108) = true := by decide +kernel
set_option maxRecDepth 100000 in
theorem xc_109 : (x_tb (4094 / 1000))[4094 % 1000]? = some (.code xi_109.1 xi_109.2.1 xi_109.2.2.1 xi_109.2.2.2.1) := rfl
set_option maxRecDepth 100000 in
theorem xk_109 : (xi_109.2.2.2.2.drop 0).all (x_ck1 xi_109) = true := by decide +kernel
set_option maxRecDepth 100000 in
theorem xc_110 : (x_tb (4169 / 1000))[4169 % 1000]? = some (.code xi_110.1 xi_110.2.1 xi_110.2.2.1 xi_110.2.2.2.1) := rfl
set_option maxRecDepth 100000 in
theorem xk_110 : (xi_110.2.2.2.2.drop 0).all (x_ck1 xi_110) = true := by decide +kernel
set_option maxRecDepth 100000 in
theorem xc_111 : (x_tb (5024 / 1000))[5024 % 1000]? = some (.code xi_111.1 xi_111.2.1 xi_111.2.2.1 xi_111.2.2.2.1) := rfl
set_option maxRecDepth 100000 in
theorem xk_111 : (xi_111.2.2.2.2.drop 0).all (x_ck1 xi_111) = true := by decide +kernel
set_option maxRecDepth 100000 in
theorem xc_112 : (x_tb (4201 / 1000))[4201 % 1000]? = some (.code xi_112.1 xi_112.2.1 xi_112.2.2.1 xi_112.2.2.2.1) := rfl
set_option maxRecDepth 100000 in
theorem xk_112 : (xi_112.2.2.2.2.drop 0).all (x_ck1 xi_112) = true := by decide +kernel
set_option maxRecDepth 100000 in
theorem xc_113 : (x_tb (4205 / 1000))[4205 % 1000]? = some (.code xi_113.1 xi_113.2.1 xi_113.2.2.1 xi_113.2.2.2.1) := rfl
set_option maxRecDepth 100000 in
theorem xk_113 : (xi_113.2.2.2.2.drop 0).all (x_ck1 xi_113) = true := by decide +kernel
set_option maxRecDepth 100000 in
theorem xc_114 : (x_tb (4091 / 1000))[4091 % 1000]? = some (.code xi_114.1 xi_114.2.1 xi_114.2.2.1 xi_114.2.2.2.1) := rfl
set_option maxRecDepth 100000 in
theorem xk_114 : (xi_114.2.2.2.2.drop 0).all (x_ck1 xi_114) = true := by decide +kernel
set_option maxRecDepth 100000 in
theorem xc_115 : (x_tb (4106 / 1000))[4106 % 1000]? = some (.code xi_115.1 xi_115.2.1 xi_115.2.2.1 xi_115.2.2.2.1) := rfl
set_option maxRecDepth 100000 in
theorem xk_115 : (xi_115.2.2.2.2.drop 0).all (x_ck1 xi_115) = true := by decide +kernel
set_option maxRecDepth 100000 in
theorem xc_116 : (x_tb (4121 / 1000))[4121 % 1000]? = some (.code xi_116.1 xi_116.2.1 xi_116.2.2.1 xi_116.2.2.2.1) := rfl
set_option maxRecDepth 100000 in
theorem xk_116 : (xi_116.2.2.2.2.drop 0).all (x_ck1 xi_116) = true := by decide +kernel
set_option maxRecDepth 100000 in
theorem xc_117 : (x_tb (4115 / 1000))[4115 % 1000]? = some (.code xi_117.1 xi_117.2.1 xi_117.2.2.1 xi_117.2.2.2.1) := rfl
set_option maxRecDepth 100000 in
theorem xk_117 : (xi_117.2.2.2.2.drop 0).all (x_ck1 xi_117) = true := by decide +kernel
set_option maxRecDepth 100000 in
theorem xc_118 : (x_tb (4125 / 1000))[4125 % 1000]? = some (.code xi_118.1 xi_118.2.1 xi_118.2.2.1 xi_118.2.2.2.1) := rfl
set_option maxRecDepth 100000 in
theorem xk_118 : (xi_118.2.2.2.2.drop 0).all (x_ck1 xi_118) = true := by decide +kernel
set_option maxRecDepth 100000 in
theorem xc_119 : (x_tb (4155 / 1000))[4155 % 1000]? = some (.code xi_119.1 xi_119.2.1 xi_119.2.2.1 xi_119.2.2.2.1) := rfl
set_option maxRecDepth 100000 in
theorem xk_119 : (xi_119.2.2.2.2.drop 0).all (x_ck1 xi_119) = true := by decide +kernel
set_option maxRecDepth 100000 in
theorem xc_120 : (x_tb (4150 / 1000))[4150 % 1000]? = some (.code xi_120.1 xi_120.2.1 xi_120.2.2.1 xi_120.2.2.2.1) := rfl
set_option maxRecDepth 100000 in
theorem xk_120 : (xi_120.2.2.2.2.drop 0).all (x_ck1 xi_120) = true := by decide +kernel
set_option maxRecDepth 100000 in
theorem xc_121 : (x_tb (4146 / 1000))[4146 % 1000]? = some (.code xi_121.1 xi_121.2.1 xi_121.2.2.1 xi_121.2.2.2.1) := rfl
set_option maxRecDepth 100000 in
theorem xk_121_0 : x_chk xi_121 0 40 = true := by decide +kernel
set_option maxRecDepth 100000 in
theorem xk_121_40 : x_chk xi_121 40 40 = true := by decide +kernel
set_option maxRecDepth 100000 in
theorem xk_121_80 : x_chk xi_121 80 40 = true := by decide +kernel
set_option maxRecDepth 100000 in
theorem xk_121 : (xi_121.2.2.2.2.drop 0).all (x_ck1 xi_121) = true := x_chk_app (k := 0) xk_121_0 (x_chk_app (k := 0) xk_121_40 (x_chk_app (k := 0) xk_121_80 (rfl)))
set_option maxRecDepth 100000 in
theorem xc_122 : (x_tb (4142 / 1000))[4142 % 1000]? = some (.code xi_122.1 xi_122.2.1 xi_122.2.2.1 xi_122.2.2.2.1) := rfl
set_option maxRecDepth 100000 in
theorem xk_122 : (xi_122.2.2.2.2.drop 0).all (x_ck1 xi_122) = true := by decide +kernel
set_option maxRecDepth 100000 in
theorem xc_123 : (x_tb (4138 / 1000))[4138 % 1000]? = some (.code xi_123.1 xi_123.2.1 xi_123.2.2.1 xi_123.2.2.2.1) := rfl
set_option maxRecDepth 100000 in
theorem xk_123 : (xi_123.2.2.2.2.drop 0).all (x_ck1 xi_123) = true := by decide +kernel
set_option maxRecDepth 100000 in
theorem xc_124 : (x_tb (4134 / 1000))[4134 % 1000]? = some (.code xi_124.1 xi_124.2.1 xi_124.2.2.1 xi_124.2.2.2.1) := rfl
set_option maxRecDepth 100000 in
theorem xk_124 : (xi_124.2.2.2.2.drop 0).all (x_ck1 xi_124) = true := by decide +kernel
set_option maxRecDepth 100000 in
theorem xc_125 : (x_tb (4111 / 1000))[4111 % 1000]? = some (.code xi_125.1 xi_125.2.1 xi_125.2.2.1 xi_125.2.2.2.1) := rfl
set_option maxRecDepth 100000 in
theorem xk_125 : (xi_125.2.2.2.2.drop 0).all (x_ck1 xi_125) = true := by decide +kernel
set_option maxRecDepth 100000 in
theorem xc_126 : (x_tb (4129 / 1000))[4129 % 1000]? = some (.code xi_126.1 xi_126.2.1 xi_126.2.2.1 xi_126.2.2.2.1) := rfl
set_option maxRecDepth 100000 in
theorem xk_126 : (xi_126.2.2.2.2.drop 0).all (x_ck1 xi_126) = true := by decide +kernel
set_option maxRecDepth 100000 in
theorem xc_127 : (x_tb (4102 / 1000))[4102 % 1000]? = some (.code xi_127.1 xi_127.2.1 xi_127.2.2.1 xi_127.2.2.2.1) := rfl
set_option maxRecDepth 100000 in
theorem xk_127 : (xi_127.2.2.2.2.drop 0).all (x_ck1 xi_127) = true := by decide +kernel
set_option maxRecDepth 100000 in
theorem xc_128 : (x_tb (4098 / 1000))[4098 % 1000]? = some (.code xi_128.1 xi_128.2.1 xi_128.2.2.1 xi_128.2.2.2.1) := rfl
set_option maxRecDepth 100000 in
theorem xk_128_0 : x_chk xi_128 0 40 = true := by decide +kernel
set_option maxRecDepth 100000 in
theorem xk_128_40 : x_chk xi_128 40 40 = true := by decide +kernel
set_option maxRecDepth 100000 in
theorem xk_128_80 : x_chk xi_128 80 40 = true := by decide +kernel
set_option maxRecDepth 100000 in
theorem xk_128 : (xi_128.2.2.2.2.drop 0).all (x_ck1 xi_128) = true := x_chk_app (k := 0) xk_128_0 (x_chk_app (k := 0) xk_128_40 (x_chk_app (k := 0) xk_128_80 (rfl)))
set_option maxRecDepth 100000 in
theorem xc_129 : (x_tb (4185 / 1000))[4185 % 1000]? = some (.code xi_129.1 xi_129.2.1 xi_129.2.2.1 xi_129.2.2.2.1) := rfl
set_option maxRecDepth 100000 in
theorem xk_129 : (xi_129.2.2.2.2.drop 0).all (x_ck1 xi_129) = true := by decide +kernel
set_option maxRecDepth 100000 in
theorem xc_130 : (x_tb (4181 / 1000))[4181 % 1000]? = some (.code xi_130.1 xi_130.2.1 xi_130.2.2.1 xi_130.2.2.2.1) := rfl
set_option maxRecDepth 100000 in
theorem xk_130 : (xi_130.2.2.2.2.drop 0).all (x_ck1 xi_130) = true := by decide +kernel
set_option maxRecDepth 100000 in
theorem xc_131 : (x_tb (4178 / 1000))[4178 % 1000]? = some (.code xi_131.1 xi_131.2.1 xi_131.2.2.1 xi_131.2.2.2.1) := rfl
set_option maxRecDepth 100000 in
theorem xk_131_0 : x_chk xi_131 0 40 = true := by decide +kernel
set_option maxRecDepth 100000 in
theorem xk_131_40 : x_chk xi_131 40 40 = true := by decide +kernel
set_option maxRecDepth 100000 in
theorem xk_131_80 : x_chk xi_131 80 40 = true := by decide +kernel
set_option maxRecDepth 100000 in
theorem xk_131_120 : x_chk xi_131 120 40 = true := by decide +kernel
set_option maxRecDepth 100000 in
theorem xk_131_160 : x_chk xi_131 160 40 = true := by decide +kernel
set_option maxRecDepth 100000 in
theorem xk_131_200 : x_chk xi_131 200 40 = true := by decide +kernel
set_option maxRecDepth 100000 in
theorem xk_131 : (xi_131.2.2.2.2.drop 0).all (x_ck1 xi_131) = true := x_chk_app (k := 0) xk_131_0 (x_chk_app (k := 0) xk_131_40 (x_chk_app (k := 0) xk_131_80 (x_chk_app (k := 0) xk_131_120 (x_chk_app (k := 0) xk_131_160 (x_chk_app (k := 0) xk_131_200 (rfl))))))
set_option maxRecDepth 100000 in
theorem xc_132 : (x_tb (4174 / 1000))[4174 % 1000]? = some (.code xi_132.1 xi_132.2.1 xi_132.2.2.1 xi_132.2.2.2.1) := rfl
set_option maxRecDepth 100000 in
theorem xk_132_0 : x_chk xi_132 0 40 = true := by decide +kernel
set_option maxRecDepth 100000 in
theorem xk_132_40 : x_chk xi_132 40 40 = true := by decide +kernel
set_option maxRecDepth 100000 in
theorem xk_132_80 : x_chk xi_132 80 40 = true := by decide +kernel
set_option maxRecDepth 100000 in
theorem xk_132 : (xi_132.2.2.2.2.drop 0).all (x_ck1 xi_132) = true := x_chk_app (k := 0) xk_132_0 (x_chk_app (k := 0) xk_132_40 (x_chk_app (k := 0) xk_132_80 (rfl)))
set_option maxRecDepth 100000 in
theorem xc_133 : (x_tb (4233 / 1000))[4233 % 1000]? = some (.code xi_133.1 xi_133.2.1 xi_133.2.2.1 xi_133.2.2.2.1) := rfl
set_option maxRecDepth 100000 in
theorem xk_133 : (xi_133.2.2.2.2.drop 0).all (x_ck1 xi_133) = true := by decide +kernel
set_option maxRecDepth 100000 in
theorem xc_134 : (x_tb (4193 / 1000))[4193 % 1000]? = some (.code xi_134.1 xi_134.2.1 xi_134.2.2.1 xi_134.2.2.2.1) := rfl
set_option maxRecDepth 100000 in
theorem xk_134 : (xi_134.2.2.2.2.drop 0).all (x_ck1 xi_134) = true := by decide +kernel
set_option maxRecDepth 100000 in
theorem xc_135 : (x_tb (4189 / 1000))[4189 % 1000]? = some (.code xi_135.1 xi_135.2.1 xi_135.2.2.1 xi_135.2.2.2.1) := rfl
set_option maxRecDepth 100000 in
theorem xk_135 : (xi_135.2.2.2.2.drop 0).all (x_ck1 xi_135) = true := by decide +kernel
set_option maxRecDepth 100000 in
theorem xc_136 : (x_tb (4197 / 1000))[4197 % 1000]? = some (.code xi_136.1 xi_136.2.1 xi_136.2.2.1 xi_136.2.2.2.1) := rfl
set_option maxRecDepth 100000 in
theorem xk_136 : (xi_136.2.2.2.2.drop 0).all (x_ck1 xi_136) = true := by decide +kernel
set_option maxRecDepth 100000 in
theorem xc_137 : (x_tb (4213 / 1000))[4213 % 1000]? = some (.code xi_137.1 xi_137.2.1 xi_137.2.2.1 xi_137.2.2.2.1) := rfl
set_option maxRecDepth 100000 in
theorem xk_137 : (xi_137.2.2.2.2.drop 0).all (x_ck1 xi_137) = true := by decide +kernel
set_option maxRecDepth 100000 in
theorem xc_138 : (x_tb (4161 / 1000))[4161 % 1000]? = some (.code xi_138.1 xi_138.2.1 xi_138.2.2.1 xi_138.2.2.2.1) := rfl
set_option maxRecDepth 100000 in
theorem xk_138_0 : x_chk xi_138 0 40 = true := by decide +kernel
set_option maxRecDepth 100000 in
theorem xk_138_40 : x_chk xi_138 40 40 = true := by decide +kernel
set_option maxRecDepth 100000 in
theorem xk_138_80 : x_chk xi_138 80 40 = true := by decide +kernel
set_option maxRecDepth 100000 in
theorem xk_138 : (xi_138.2.2.2.2.drop 0).all (x_ck1 xi_138) = true := x_chk_app (k := 0) xk_138_0 (x_chk_app (k := 0) xk_138_40 (x_chk_app (k := 0) xk_138_80 (rfl)))
set_option maxRecDepth 100000 in
theorem xc_139 : (x_tb (4165 / 1000))[4165 % 1000]? = some (.code xi_139.1 xi_139.2.1 xi_139.2.2.1 xi_139.2.2.2.1) := rfl
set_option maxRecDepth 100000 in
theorem xk_139_0 : x_chk xi_139 0 40 = true := by decide +kernel
set_option maxRecDepth 100000 in
theorem xk_139_40 : x_chk xi_139 40 40 = true := by decide +kernel
set_option maxRecDepth 100000 in
theorem xk_139 : (xi_139.2.2.2.2.drop 0).all (x_ck1 xi_139) = true := x_chk_app (k := 0) xk_139_0 (x_chk_app (k := 0) xk_139_40 (rfl))
set_option maxRecDepth 100000 in
theorem xc_140 : (x_tb (4209 / 1000))[4209 % 1000]? = some (.code xi_140.1 xi_140.2.1 xi_140.2.2.1 xi_140.2.2.2.1) := rfl
set_option maxRecDepth 100000 in
theorem xk_140 : (xi_140.2.2.2.2.drop 0).all (x_ck1 xi_140) = true := by decide +kernel
set_option maxRecDepth 100000 in
theorem xc_141 : (x_tb (4217 / 1000))[4217 % 1000]? = some (.code xi_141.1 xi_141.2.1 xi_141.2.2.1 xi_141.2.2.2.1) := rfl
set_option maxRecDepth 100000 in
theorem xk_141 : (xi_141.2.2.2.2.drop 0).all (x_ck1 xi_141) = true := by decide +kernel
set_option maxRecDepth 100000 in
theorem xc_142 : (x_tb (4221 / 1000))[4221 % 1000]? = some (.code xi_142.1 xi_142.2.1 xi_142.2.2.1 xi_142.2.2.2.1) := rfl
set_option maxRecDepth 100000 in
theorem xk_142 : (xi_142.2.2.2.2.drop 0).all (x_ck1 xi_142) = true := by decide +kernel
set_option maxRecDepth 100000 in
theorem xc_143 : (x_tb (4225 / 1000))[4225 % 1000]? = some (.code xi_143.1 xi_143.2.1 xi_143.2.2.1 xi_143.2.2.2.1) := rfl
set_option maxRecDepth 100000 in
theorem xk_143 : (xi_143.2.2.2.2.drop 0).all (x_ck1 xi_143) = true := by decide +kernel
set_option maxRecDepth 100000 in
theorem xc_144 : (x_tb (4229 / 1000))[4229 % 1000]? = some (.code xi_144.1 xi_144.2.1 xi_144.2.2.1 xi_144.2.2.2.1) := rfl
set_option maxRecDepth 100000 in
theorem xk_144 : (xi_144.2.2.2.2.drop 0).all (x_ck1 xi_144) = true := by decide +kernel
set_option maxRecDepth 100000 in
theorem xc_145 : (x_tb (5001 / 1000))[5001 % 1000]? = some (.code xi_145.1 xi_145.2.1 xi_145.2.2.1 xi_145.2.2.2.1) := rfl
set_option maxRecDepth 100000 in
theorem xk_145 : (xi_145.2.2.2.2.drop 0).all (x_ck1 xi_145) = true := by decide +kernel
set_option maxRecDepth 100000 in
theorem xc_146 : (x_tb (5005 / 1000))[5005 % 1000]? = some (.code xi_146.1 xi_146.2.1 xi_146.2.2.1 xi_146.2.2.2.1) := rfl
set_option maxRecDepth 100000 in
theorem xk_146 : (xi_146.2.2.2.2.drop 0).all (x_ck1 xi_146) = true := by decide +kernel
set_option maxRecDepth 100000 in
theorem xc_147 : (x_tb (4237 / 1000))[4237 % 1000]? = some (.code xi_147.1 xi_147.2.1 xi_147.2.2.1 xi_147.2.2.2.1) := rfl
set_option maxRecDepth 100000 in
theorem xk_147 : (xi_147.2.2.2.2.drop 0).all (x_ck1 xi_147) = true := by decide +kernel
set_option maxRecDepth 100000 in
theorem xc_148 : (x_tb (5021 / 1000))[5021 % 1000]? = some (.code xi_148.1 xi_148.2.1 xi_148.2.2.1 xi_148.2.2.2.1) := rfl
set_option maxRecDepth 100000 in
theorem xk_148_0 : x_chk xi_148 0 40 = true := by decide +kernel
set_option maxRecDepth 100000 in
theorem xk_148_40 : x_chk xi_148 40 40 = true := by decide +kernel
set_option maxRecDepth 100000 in
theorem xk_148_80 : x_chk xi_148 80 40 = true := by decide +kernel
set_option maxRecDepth 100000 in
theorem xk_148 : (xi_148.2.2.2.2.drop 0).all (x_ck1 xi_148) = true := x_chk_app (k := 0) xk_148_0 (x_chk_app (k := 0) xk_148_40 (x_chk_app (k := 0) xk_148_80 (rfl)))
set_option maxRecDepth 100000 in
theorem xc_149 : (x_tb (5017 / 1000))[5017 % 1000]? = some (.code xi_149.1 xi_149.2.1 xi_149.2.2.1 xi_149.2.2.2.1) := rfl
set_option maxRecDepth 100000 in
theorem xk_149 : (xi_149.2.2.2.2.drop 0).all (x_ck1 xi_149) = true := by decide +kernel
set_option maxRecDepth 100000 in
theorem xc_150 : (x_tb (5013 / 1000))[5013 % 1000]? = some (.code xi_150.1 xi_150.2.1 xi_150.2.2.1 xi_150.2.2.2.1) := rfl
set_option maxRecDepth 100000 in
theorem xk_150 : (xi_150.2.2.2.2.drop 0).all (x_ck1 xi_150) = true := by decide +kernel
set_option maxRecDepth 100000 in
theorem xc_151 : (x_tb (5036 / 1000))[5036 % 1000]? = some (.code xi_151.1 xi_151.2.1 xi_151.2.2.1 xi_151.2.2.2.1) := rfl
set_option maxRecDepth 100000 in
theorem xk_151 : (xi_151.2.2.2.2.drop 0).all (x_ck1 xi_151) = true := by decide +kernel
set_option maxRecDepth 100000 in
theorem xc_152 : (x_tb (5009 / 1000))[5009 % 1000]? = some (.code xi_152.1 xi_152.2.1 xi_152.2.2.1 xi_152.2.2.2.1) := rfl
set_option maxRecDepth 100000 in
theorem xk_152 : (xi_152.2.2.2.2.drop 0).all (x_ck1 xi_152) = true := by decide +kernel
set_option maxRecDepth 100000 in
theorem xc_153 : (x_tb (5028 / 1000))[5028 % 1000]? = some (.code xi_153.1 xi_153.2.1 xi_153.2.2.1 xi_153.2.2.2.1) := rfl
set_option maxRecDepth 100000 in
theorem xk_153 : (xi_153.2.2.2.2.drop 0).all (x_ck1 xi_153) = true := by decide +kernel
set_option maxRecDepth 100000 in
theorem xc_154 : (x_tb (5032 / 1000))[5032 % 1000]? = some (.code xi_154.1 xi_154.2.1 xi_154.2.2.1 xi_154.2.2.2.1) := rfl
set_option maxRecDepth 100000 in
theorem xk_154 : (xi_154.2.2.2.2.drop 0).all (x_ck1 xi_154) = true := by decide +kernel
set_option maxRecDepth 100000 in
theorem xc_155 : (x_tb (5053 / 1000))[5053 % 1000]? = some (.code xi_155.1 xi_155.2.1 xi_155.2.2.1 xi_155.2.2.2.1) := rfl
set_option maxRecDepth 100000 in
theorem xk_155 : (xi_155.2.2.2.2.drop 0).all (x_ck1 xi_155) = true := by decide +kernel
set_option maxRecDepth 100000 in
theorem xc_156 : (x_tb (5049 / 1000))[5049 % 1000]? = some (.code xi_156.1 xi_156.2.1 xi_156.2.2.1 xi_156.2.2.2.1) := rfl
set_option maxRecDepth 100000 in
theorem xk_156_0 : x_chk xi_156 0 40 = true := by decide +kernel
set_option maxRecDepth 100000 in
theorem xk_156_40 : x_chk xi_156 40 40 = true := by decide +kernel
set_option maxRecDepth 100000 in
theorem xk_156_80 : x_chk xi_156 80 40 = true := by decide +kernel
set_option maxRecDepth 100000 in
theorem xk_156 : (xi_156.2.2.2.2.drop 0).all (x_ck1 xi_156) = true := x_chk_app (k := 0) xk_156_0 (x_chk_app (k := 0) xk_156_40 (x_chk_app (k := 0) xk_156_80 (rfl)))
set_option maxRecDepth 100000 in
theorem xc_157 : (x_tb (5044 / 1000))[5044 % 1000]? = some (.code xi_157.1 xi_157.2.1 xi_157.2.2.1 xi_157.2.2.2.1) := rfl
set_option maxRecDepth 100000 in
theorem xk_157 : (xi_157.2.2.2.2.drop 0).all (x_ck1 xi_157) = true := by decide +kernel
set_option maxRecDepth 100000 in
theorem xc_158 : (x_tb (5040 / 1000))[5040 % 1000]? = some (.code xi_158.1 xi_158.2.1 xi_158.2.2.1 xi_158.2.2.2.1) := rfl
set_option maxRecDepth 100000 in
theorem xk_158 : (xi_158.2.2.2.2.drop 0).all (x_ck1 xi_158) = true := by decide +kernel
set_option maxRecDepth 100000 in
theorem xc_159 : (x_tb (5061 / 1000))[5061 % 1000]? = some (.code xi_159.1 xi_159.2.1 xi_159.2.2.1 xi_159.2.2.2.1) := rfl
set_option maxRecDepth 100000 in
theorem xk_159_0 : x_chk xi_159 0 40 = true := by decide +kernel
set_option maxRecDepth 100000 in
theorem xk_159_40 : x_chk xi_159 40 40 = true := by decide +kernel
set_option maxRecDepth 100000 in
theorem xk_159 : (xi_159.2.2.2.2.drop 0).all (x_ck1 xi_159) = true := x_chk_app (k := 0) xk_159_0 (x_chk_app (k := 0) xk_159_40 (rfl))
set_option maxRecDepth 100000 in
theorem xc_160 : (x_tb (5057 / 1000))[5057 % 1000]? = some (.code xi_160.1 xi_160.2.1 xi_160.2.2.1 xi_160.2.2.2.1) := rfl
set_option maxRecDepth 100000 in
theorem xk_160 : (xi_160.2.2.2.2.drop 0).all (x_ck1 xi_160) = true := by decide +kernel
set_option maxRecDepth 100000 in
theorem xc_161 : (x_tb (5069 / 1000))[5069 % 1000]? = some (.code xi_161.1 xi_161.2.1 xi_161.2.2.1 xi_161.2.2.2.1) := rfl
set_option maxRecDepth 100000 in
theorem xk_161 : (xi_161.2.2.2.2.drop 0).all (x_ck1 xi_161) = true := by decide +kernel
set_option maxRecDepth 100000 in
theorem xc_162 : (x_tb (5065 / 1000))[5065 % 1000]? = some (.code xi_162.1 xi_162.2.1 xi_162.2.2.1 xi_162.2.2.2.1) := rfl
set_option maxRecDepth 100000 in
theorem xk_162_0 : x_chk xi_162 0 40 = true := by decide +kernel
set_option maxRecDepth 100000 in
theorem xk_162_40 : x_chk xi_162 40 40 = true := by decide +kernel
set_option maxRecDepth 100000 in
theorem xk_162 : (xi_162.2.2.2.2.drop 0).all (x_ck1 xi_162) = true := x_chk_app (k := 0) xk_162_0 (x_chk_app (k := 0) xk_162_40 (rfl))
set_option maxRecDepth 100000 in
theorem xc_163 : (x_tb (5073 / 1000))[5073 % 1000]? = some (.code xi_163.1 xi_163.2.1 xi_163.2.2.1 xi_163.2.2.2.1) := rfl
set_option maxRecDepth 100000 in
theorem xk_163_0 : x_chk xi_163 0 40 = true := by decide +kernel
set_option maxRecDepth 100000 in
theorem xk_163_40 : x_chk xi_163 40 40 = true := by decide +kernel
set_option maxRecDepth 100000 in
theorem xk_163 : (xi_163.2.2.2.2.drop 0).all (x_ck1 xi_163) = true := x_chk_app (k := 0) xk_163_0 (x_chk_app (k := 0) xk_163_40 (rfl))
set_option maxRecDepth 100000 in
theorem xc_164 : (x_tb (5089 / 1000))[5089 % 1000]? = some (.code xi_164.1 xi_164.2.1 xi_164.2.2.1 xi_164.2.2.2.1) := rfl
set_option maxRecDepth 100000 in
theorem xk_164 : (xi_164.2.2.2.2.drop 0).all (x_ck1 xi_164) = true := by decide +kernel
set_option maxRecDepth 100000 in
theorem xc_165 : (x_tb (5085 / 1000))[5085 % 1000]? = some (.code xi_165.1 xi_165.2.1 xi_165.2.2.1 xi_165.2.2.2.1) := rfl
set_option maxRecDepth 100000 in
theorem xk_165 : (xi_165.2.2.2.2.drop 0).all (x_ck1 xi_165) = true := by decide +kernel
set_option maxRecDepth 100000 in
theorem xc_166 : (x_tb (5081 / 1000))[5081 % 1000]? = some (.code xi_166.1 xi_166.2.1 xi_166.2.2.1 xi_166.2.2.2.1) := rfl
set_option maxRecDepth 100000 in
theorem xk_166 : (xi_166.2.2.2.2.drop 0).all (x_ck1 xi_166) = true := by decide +kernel
set_option maxRecDepth 100000 in
theorem xc_167 : (x_tb (5077 / 1000))[5077 % 1000]? = some (.code xi_167.1 xi_167.2.1 xi_167.2.2.1 xi_167.2.2.2.1) := rfl
set_option maxRecDepth 100000 in
theorem xk_167 : (xi_167.2.2.2.2.drop 0).all (x_ck1 xi_167) = true := by decide +kernel
set_option maxRecDepth 100000 in
theorem xc_168 : (x_tb (5093 / 1000))[5093 % 1000]? = some (.code xi_168.1 xi_168.2.1 xi_168.2.2.1 xi_168.2.2.2.1) := rfl
set_option maxRecDepth 100000 in
theorem xk_168 : (xi_168.2.2.2.2.drop 0).all (x_ck1 xi_168) = true := by decide +kernel
set_option maxRecDepth 100000 in
theorem xc_169 : (x_tb (5102 / 1000))[5102 % 1000]? = some (.code xi_169.1 xi_169.2.1 xi_169.2.2.1 xi_169.2.2.2.1) := rfl
set_option maxRecDepth 100000 in
theorem xk_169 : (xi_169.2.2.2.2.drop 0).all (x_ck1 xi_169) = true := by decide +kernel
set_option maxRecDepth 100000 in
theorem xc_170 : (x_tb (5097 / 1000))[5097 % 1000]? = some (.code xi_170.1 xi_170.2.1 xi_170.2.2.1 xi_170.2.2.2.1) := rfl
set_option maxRecDepth 100000 in
theorem xk_170_0 : x_chk xi_170 0 40 = true := by decide +kernel
set_option maxRecDepth 100000 in
theorem xk_170_40 : x_chk xi_170 40 40 = true := by decide +kernel
set_option maxRecDepth 100000 in
theorem xk_170 : (xi_170.2.2.2.2.drop 0).all (x_ck1 xi_170) = true := x_chk_app (k := 0) xk_170_0 (x_chk_app (k := 0) xk_170_40 (rfl))
set_option maxRecDepth 100000 in
theorem xc_171 : (x_tb (5106 / 1000))[5106 % 1000]? = some (.code xi_171.1 xi_171.2.1 xi_171.2.2.1 xi_171.2.2.2.1) := rfl
set_option maxRecDepth 100000 in
theorem xk_171_0 : x_chk xi_171 0 40 = true := by decide +kernel
set_option maxRecDepth 100000 in
theorem xk_171_40 : x_chk xi_171 40 40 = true := by decide +kernel
set_option maxRecDepth 100000 in
theorem xk_171 : (xi_171.2.2.2.2.drop 0).all (x_ck1 xi_171) = true := x_chk_app (k := 0) xk_171_0 (x_chk_app (k := 0) xk_171_40 (rfl))
set_option maxRecDepth 100000 in
theorem xc_172 : (x_tb (5110 / 1000))[5110 % 1000]? = some (.code xi_172.1 xi_172.2.1 xi_172.2.2.1 xi_172.2.2.2.1) := rfl
set_option maxRecDepth 100000 in
theorem xk_172_0 : x_chk xi_172 0 40 = true := by decide +kernel
set_option maxRecDepth 100000 in
theorem xk_172_40 : x_chk xi_172 40 40 = true := by decide +kernel
set_option maxRecDepth 100000 in
theorem xk_172 : (xi_172.2.2.2.2.drop 0).all (x_ck1 xi_172) = true := x_chk_app (k := 0) xk_172_0 (x_chk_app (k := 0) xk_172_40 (rfl))
set_option maxRecDepth 100000 in
theorem xc_173 : (x_tb (5118 / 1000))[5118 % 1000]? = some (.code xi_173.1 xi_173.2.1 xi_173.2.2.1 xi_173.2.2.2.1) := rfl
set_option maxRecDepth 100000 in
theorem xk_173 : (xi_173.2.2.2.2.drop 0).all (x_ck1 xi_173) = true := by decide +kernel
set_option maxRecDepth 100000 in
theorem xc_174 : (x_tb (5122 / 1000))[5122 % 1000]? = some (.code xi_174.1 xi_174.2.1 xi_174.2.2.1 xi_174.2.2.2.1) := rfl
set_option maxRecDepth 100000 in
theorem xk_174 : (xi_174.2.2.2.2.drop 0).all (x_ck1 xi_174) = true := by decide +kernel
set_option maxRecDepth 100000 in
theorem xc_175 : (x_tb (5114 / 1000))[5114 % 1000]? = some (.code xi_175.1 xi_175.2.1 xi_175.2.2.1 xi_175.2.2.2.1) := rfl
set_option maxRecDepth 100000 in
theorem xk_175 : (xi_175.2.2.2.2.drop 0).all (x_ck1 xi_175) = true := by decide +kernel
set_option maxRecDepth 100000 in
theorem xc_176 : (x_tb (5126 / 1000))[5126 % 1000]? = some (.code xi_176.1 xi_176.2.1 xi_176.2.2.1 xi_176.2.2.2.1) := rfl
set_option maxRecDepth 100000 in
theorem xk_176_0 : x_chk xi_176 0 40 = true := by decide +kernel
set_option maxRecDepth 100000 in
theorem xk_176_40 : x_chk xi_176 40 40 = true := by decide +kernel
set_option maxRecDepth 100000 in
theorem xk_176 : (xi_176.2.2.2.2.drop 0).all (x_ck1 xi_176) = true := x_chk_app (k := 0) xk_176_0 (x_chk_app (k := 0) xk_176_40 (rfl))
set_option maxRecDepth 100000 in
theorem xc_177 : (x_tb (5130 / 1000))[5130 % 1000]? = some (.code xi_177.1 xi_177.2.1 xi_177.2.2.1 xi_177.2.2.2.1) := rfl
set_option maxRecDepth 100000 in
theorem xk_177 : (xi_177.2.2.2.2.drop 0).all (x_ck1 xi_177) = true := by decide +kernel
set_option maxRecDepth 100000 in
theorem xc_178 : (x_tb (5145 / 1000))[5145 % 1000]? = some (.code xi_178.1 xi_178.2.1 xi_178.2.2.1 xi_178.2.2.2.1) := rfl
set_option maxRecDepth 100000 in
theorem xk_178 : (xi_178.2.2.2.2.drop 0).all (x_ck1 xi_178) = true := by decide +kernel
set_option maxRecDepth 100000 in
theorem xc_179 : (x_tb (5141 / 1000))[5141 % 1000]? = some (.code xi_179.1 xi_179.2.1 xi_179.2.2.1 xi_179.2.2.2.1) := rfl
set_option maxRecDepth 100000 in
theorem xk_179 : (xi_179.2.2.2.2.drop 0).all (x_ck1 xi_179) = true := by decide +kernel
set_option maxRecDepth 100000 in
theorem xc_180 : (x_tb (5149 / 1000))[5149 % 1000]? = some (.code xi_180.1 xi_180.2.1 xi_180.2.2.1 xi_180.2.2.2.1) := rfl
set_option maxRecDepth 100000 in
theorem xk_180 : (xi_180.2.2.2.2.drop 0).all (x_ck1 xi_180) = true := by decide +kernel
set_option maxRecDepth 100000 in
theorem xc_181 : (x_tb (5138 / 1000))[5138 % 1000]? = some (.code xi_181.1 xi_181.2.1 xi_181.2.2.1 xi_181.2.2.2.1) := rfl
set_option maxRecDepth 100000 in
theorem xk_181 : (xi_181.2.2.2.2.drop 0).all (x_ck1 xi_181) = true := by decide +kernel
set_option maxRecDepth 100000 in
theorem xc_182 : (x_tb (5157 / 1000))[5157 % 1000]? = some (.code xi_182.1 xi_182.2.1 xi_182.2.2.1 xi_182.2.2.2.1) := rfl
set_option maxRecDepth 100000 in
theorem xk_182 : (xi_182.2.2.2.2.drop 0).all (x_ck1 xi_182) = true := by decide +kernel
set_option maxRecDepth 100000 in
theorem xc_183 : (x_tb (5153 / 1000))[5153 % 1000]? = some (.code xi_183.1 xi_183.2.1 xi_183.2.2.1 xi_183.2.2.2.1) := rfl
set_option maxRecDepth 100000 in
theorem xk_183 : (xi_183.2.2.2.2.drop 0).all (x_ck1 xi_183) = true := by decide +kernel
set_option maxRecDepth 100000 in
theorem xc_184 : (x_tb (5165 / 1000))[5165 % 1000]? = some (.code xi_184.1 xi_184.2.1 xi_184.2.2.1 xi_184.2.2.2.1) := rfl
set_option maxRecDepth 100000 in
theorem xk_184 : (xi_184.2.2.2.2.drop 0).all (x_ck1 xi_184) = true := by decide +kernel
set_option maxRecDepth 100000 in
theorem xc_185 : (x_tb (5161 / 1000))[5161 % 1000]? = some (.code xi_185.1 xi_185.2.1 xi_185.2.2.1 xi_185.2.2.2.1) := rfl
set_option maxRecDepth 100000 in
theorem xk_185 : (xi_185.2.2.2.2.drop 0).all (x_ck1 xi_185) = true := by decide +kernel
set_option maxRecDepth 100000 in
theorem xc_186 : (x_tb (5134 / 1000))[5134 % 1000]? = some (.code xi_186.1 xi_186.2.1 xi_186.2.2.1 xi_186.2.2.2.1) := rfl
set_option maxRecDepth 100000 in
theorem xk_186 : (xi_186.2.2.2.2.drop 0).all (x_ck1 xi_186) = true := by decide +kernel
set_option maxRecDepth 100000 in
theorem xc_187 : (x_tb (5169 / 1000))[5169 % 1000]? = some (.code xi_187.1 xi_187.2.1 xi_187.2.2.1 xi_187.2.2.2.1) := rfl
set_option maxRecDepth 100000 in
theorem xk_187 : (xi_187.2.2.2.2.drop 0).all (x_ck1 xi_187) = true := by decide +kernel
set_option maxRecDepth 100000 in
theorem xc_188 : (x_tb (5173 / 1000))[5173 % 1000]? = some (.code xi_188.1 xi_188.2.1 xi_188.2.2.1 xi_188.2.2.2.1) := rfl
set_option maxRecDepth 100000 in
theorem xk_188 : (xi_188.2.2.2.2.drop 0).all (x_ck1 xi_188) = true := by decide +kernel
set_option maxRecDepth 100000 in
theorem xc_189 : (x_tb (5177 / 1000))[5177 % 1000]? = some (.code xi_189.1 xi_189.2.1 xi_189.2.2.1 xi_189.2.2.2.1) := rfl
set_option maxRecDepth 100000 in
theorem xk_189 : (xi_189.2.2.2.2.drop 0).all (x_ck1 xi_189) = true := by decide +kernel
set_option maxRecDepth 100000 in
theorem xc_190 : (x_tb (5181 / 1000))[5181 % 1000]? = some (.code xi_190.1 xi_190.2.1 xi_190.2.2.1 xi_190.2.2.2.1) := rfl
set_option maxRecDepth 100000 in
theorem xk_190 : (xi_190.2.2.2.2.drop 0).all (x_ck1 xi_190) = true := by decide +kernel
set_option maxRecDepth 100000 in
theorem xc_191 : (x_tb (5185 / 1000))[5185 % 1000]? = some (.code xi_191.1 xi_191.2.1 xi_191.2.2.1 xi_191.2.2.2.1) := rfl
set_option maxRecDepth 100000 in
theorem xk_191 : (xi_191.2.2.2.2.drop 0).all (x_ck1 xi_191) = true := by decide +kernel
end
section
/-! ===== the calculus: a method's run over a memory of numbered cells ===== -/
abbrev XM := List (Nat × Nat) × (Nat → Nat → Value) × (Nat → Nat → Int32)
abbrev XE := Nat × (Nat → Int32)
def x_jk : Value := .float 0
def x_cv (ex : Nat → Value) (base : Nat) : Value → Value
  | .ref i => if i < 64 then ex i else .ref (base + (i - 64))
  | v => v
def x_tyt (c : Nat) : Nat → FieldType := match c with
  | 0 => tyX0
  | 1 => tyX1
  | 2 => tyX2
  | 3 => tyX3
  | 4 => tyX4
  | 5 => tyX5
  | 6 => tyX6
  | 7 => tyX7
  | _ => tyX8
def x_ty (c k : Nat) : FieldType := x_tyt c k
def x_isR (c k : Nat) : Bool := match x_ty c k with
  | .object _ => true
  | .array _ => true
  | _ => false
/-- what stands at place k of the cell with the number i, of kind q.1 and length q.2 -/
def x_v (ex : Nat → Value) (base : Nat) (M : XM) (q : Nat × Nat) (i k : Nat) : Value :=
  if q.1 = 103 ∨ (q.1 < 100 ∧ x_isR q.1 k = true) then x_cv ex base (M.2.1 i k) else .int (M.2.2 i k)
def x_at (D : va_G) (T : Nat → ClassId) (ex : Nat → Value) (base : Nat) (M : XM) (H : Heap) (j : Nat) (q : Nat × Nat) : Prop :=
  if q.1 < 100 then ∃ r : vw_C, vwCl[q.1]? = some r ∧ q.2 = r.2.2 ∧ t_OB (base + j) (D.1 q.1) q.2 (D.2 q.1) H (x_v ex base M q (64 + j))
  else H[base + j]? = some (arrV (T q.1) q.2 (x_v ex base M q (64 + j)))
def x_World (D : va_G) (T : Nat → ClassId) (ex : Nat → Value) (base : Nat) (M : XM) (H : Heap) : Prop :=
  H.size = base + M.1.length ∧ ∀ (j : Nat) (q : Nat × Nat), M.1[j]? = some q → x_at D T ex base M H j q
def x_tys (T : Nat → ClassId) : List (ClassId × FieldType) := [(T 100, .int), (T 101, .byte), (T 102, .boolean), (T 103, .object "StarchedCollars$Man")]
def x_tab (l : List Int32) : Nat × (Nat → Int32) := (l.length, fun j => l.getD j 0)
/-- the arrays outside: four tables, the script, the Strings' bytes -/
def x_Ar (E : XE) (e : Nat) : Option (FieldType × Nat × (Nat → Int32)) := match e with
  | 0 => some (.int, x_tab [0, 0, 0, 0, 1, 2, 3])
  | 1 => some (.int, x_tab [1, 11, 1, 1, 11, 51, 1])
  | 2 => some (.int, x_tab [2, 2, 21, 2, 2, 21, 61])
  | 3 => some (.int, x_tab [3, 3, 3, 31, 41, 3, 31])
  | 4 => some (.int, E)
  | 24 => some (.byte, x_tab [117, 114, 115, 116, 32])
  | 25 => some (.byte, x_tab [97, 114, 99, 104, 32])
  | 26 => some (.byte, x_tab [111, 102, 116, 101, 110, 32])
  | 27 => some (.byte, x_tab [112, 107, 118, 99, 104, 119])
  | 28 => some (.byte, x_tab [60, 61, 62])
  | 29 => some (.byte, x_tab [98, 117, 114, 115, 116, 32])
  | 30 => some (.byte, x_tab [115, 116, 97, 114, 99, 104, 32])
  | 31 => some (.byte, x_tab [115, 111, 102, 116, 101, 110, 32])
  | _ => none
def x_exr (ex : Nat → Value) : Prop := ∀ e, e < 64 → ex e = .null ∨ ∃ t : Nat, ex e = .ref t
def x_Ext (E : XE) (ex : Nat → Value) (A : Nat → Prop) (U : State) (H : Heap) : Prop :=
  x_exr ex ∧ (∀ e ty N f, x_Ar E e = some (ty, N, f) → ∃ t : Nat, ex e = .ref t ∧ va_T ty t N (fun j => .int (f j)) A U H) ∧
  (∀ e C n d, e < 6 → x_ext e = some (C, n, d) → va_Z C n d (ex e) A U H) ∧
  va_Z "java/lang/String" "COMPACT_STRINGS" "Z" (.int 1) A U H ∧
  (∀ j, j < 8 → ∃ t : Nat, ex (8 + j) = .ref t ∧ va_O "java/lang/String" t A U H ∧ va_OF "java/lang/String" "coder" "B" (.int 0) t A U H ∧ va_OF "java/lang/String" "value" "[B" (ex (24 + j)) t A U H) ∧
  (∀ own idx j tx, Jvm.Cond.stringRef own idx tx ∈ lw_tbl → x_strs[j]? = some tx → ∃ t : Nat, ex (8 + j) = .ref t ∧ vk_R own idx tx t U) ∧
  (∀ own idx y host, Jvm.Cond.methodLinkNest own idx y host ∈ lw_tbl → va_Nw (.methodLinkNest own idx y host) U) ∧ va_AO "StarchedCollars$Man" U
def x_A (base : Nat) : Nat → Prop := fun q => base ≤ q
def x_In (E : XE) (D : va_G) (T : Nat → ClassId) (ex : Nat → Value) (base : Nat) (M : XM) (U : State) : Prop :=
  base ≤ U.heap.size ∧ x_World D T ex base M U.heap ∧ va_K D vwCl (x_tys T) U ∧ x_Ext E ex (x_A base) U U.heap
def x_Qc (D : va_G) (T : Nat → ClassId) (ex : Nat → Value) (base : Nat) (Q : Option Value → XM → Prop) : Array Value → State → Outcome → State → Prop :=
  fun _ st oc t => (∃ (v : Option Value) (M' : XM), oc = .returned (v.map (x_cv ex base)) ∧ Q v M' ∧ x_World D T ex base M' t.heap) ∧ va_F (x_A base) st t
/-- the words that go along with every call -/
def x_gt : List Jvm.Cond := lw_tbl.filter goodWord
def x_ws (mi : Nat) : List Jvm.Cond := Jvm.Cond.code (x_m mi).1 (x_m mi).2.1 (x_m mi).2.2.1 (x_m mi).2.2.2.1 :: x_gt
def x_rm (d mc ms : Nat) : Room := { frames := d, cells := mc, slots := ms, locals := 64 * d }
/-- a method's contract: at memory M with these arguments it returns, with Q -/
def x_C (E : XE) (d mi : Nat) (args : List Value) (M : XM) (mc ms : Nat) (Q : Option Value → XM → Prop) : Prop :=
  ∀ (l : Launch) (D : va_G) (T : Nat → ClassId) (ex : Nat → Value) (base : Nat), Met l (x_m mi).1 (x_ws mi) (x_rm d mc ms) (va_Pc (args.map (x_cv ex base)) (x_In E D T ex base M)) (x_Qc D T ex base Q) mc ms (x_A base)
def x_L (ex : Nat → Value) (base : Nat) (ls : Array Slot) (nL : Nat) (L : List Value) : Prop :=
  ls.size = nL ∧ lv_wf ls ∧ L.length = nL ∧ ∀ (k : Nat) (v : Value), L[k]? = some v → v ≠ x_jk → ls[k]? = some (.val (x_cv ex base v))
/-- the machine stands in method mi, at memory M, with locals L -/
def x_Mh (E : XE) (d mi : Nat) (L : List Value) (M : XM) (mc ms : Nat) (p : Program) (R : Room) (s : State) (m : MethodId) (args : Array Value) (meth : Method) (c : Code) (H : Heap) (locs : List Loc) (ls : Array Slot) (D : va_G) (T : Nat → ClassId) (ex : Nat → Value) (base : Nat) : Prop :=
  (p.tables.exec = Jvm.exec ∧ c.code = (x_m mi).2.1 ∧ c.maxLocals = (x_m mi).2.2.1 ∧ s.vm.findClass (x_m mi).1.cls = some m.cls ∧ (∀ w ∈ x_gt, w.before args s = true)) ∧
  (meth.sig.returnType = (x_m mi).2.2.2.1 ∧ meth.locks = false ∧ meth.name = (x_m mi).1.name ∧ d ≤ R.frames ∧ 64 * d ≤ R.locals ∧ mc ≤ R.cells ∧ ms ≤ R.slots) ∧
  (base ≤ s.heap.size ∧ va_K D vwCl (x_tys T) s ∧ x_Ext E ex (x_A base) s s.heap) ∧ x_World D T ex base M H ∧ va_S (x_A base) s.heap H locs ∧ x_L ex base ls (x_m mi).2.2.1 L
def x_WP (E : XE) (d mi i : Nat) (L S : List Value) (M : XM) (k n mc ms : Nat) (Q : Option Value → XM → Prop) : Prop :=
  ∀ (p : Program) (l : Launch) (e : Env) (R : Room) (s : State) (m : MethodId) (args : Array Value) (below : List Frame) (meth : Method) (c : Code) (H : Heap) (locs : List Loc) (ls : Array Slot) (D : va_G) (T : Nat → ClassId) (ex : Nat → Value) (base : Nat),
    x_Mh E d mi L M mc ms p R s m args meth c H locs ls D T ex base →
    W p l e R s m args below meth c H locs k n (MQ below (x_Qc D T ex base Q) args s mc ms (x_A base)) (F0 m (x_pc mi i) ls (S.map (x_cv ex base)))
/-! ===== what the checks say ===== -/
set_option maxRecDepth 100000 in
theorem x_ms_all : ∀ X ∈ x_ms, x_ckM X = true := by
  unfold x_ms
  simp only [List.forall_mem_cons, List.not_mem_nil, false_imp_iff, implies_true, and_true]
  exact ⟨xk_0, xk_1, xk_2, xk_3, xk_4, xk_5, xk_6, xk_7, xk_8, xk_9, xk_10, xk_11, xk_12, xk_13, xk_14, xk_15, xk_16, xk_17, xk_18, xk_19, xk_20, xk_21, xk_22, xk_23, xk_24, xk_25, xk_26, xk_27, xk_28, xk_29, xk_30, xk_31, xk_32, xk_33, xk_34, xk_35, xk_36, xk_37, xk_38, xk_39, xk_40, xk_41, xk_42, xk_43, xk_44, xk_45, xk_46, xk_47, xk_48, xk_49, xk_50, xk_51, xk_52, xk_53, xk_54, xk_55, xk_56, xk_57, xk_58, xk_59, xk_60, xk_61, xk_62, xk_63, xk_64, xk_65, xk_66, xk_67, xk_68, xk_69, xk_70, xk_71, xk_72, xk_73, xk_74, xk_75, xk_76, xk_77, xk_78, xk_79, xk_80, xk_81, xk_82, xk_83, xk_84, xk_85, xk_86, xk_87, xk_88, xk_89, xk_90, xk_91, xk_92, xk_93, xk_94, xk_95, xk_96, xk_97, xk_98, xk_99, xk_100, xk_101, xk_102, xk_103, xk_104, xk_105, xk_106, xk_107, xk_108, xk_109, xk_110, xk_111, xk_112, xk_113, xk_114, xk_115, xk_116, xk_117, xk_118, xk_119, xk_120, xk_121, xk_122, xk_123, xk_124, xk_125, xk_126, xk_127, xk_128, xk_129, xk_130, xk_131, xk_132, xk_133, xk_134, xk_135, xk_136, xk_137, xk_138, xk_139, xk_140, xk_141, xk_142, xk_143, xk_144, xk_145, xk_146, xk_147, xk_148, xk_149, xk_150, xk_151, xk_152, xk_153, xk_154, xk_155, xk_156, xk_157, xk_158, xk_159, xk_160, xk_161, xk_162, xk_163, xk_164, xk_165, xk_166, xk_167, xk_168, xk_169, xk_170, xk_171, xk_172, xk_173, xk_174, xk_175, xk_176, xk_177, xk_178, xk_179, xk_180, xk_181, xk_182, xk_183, xk_184, xk_185, xk_186, xk_187, xk_188, xk_189, xk_190, xk_191⟩
theorem x_ck {mi i : Nat} {o : XO} (h : x_op mi i = some o) : x_ck1 (x_m mi) o = true := by
  have hm : x_ckM (x_m mi) = true := by
    by_cases hi : mi < x_ms.length
    · refine x_ms_all _ ?_
      unfold x_m
      rw [List.getD_eq_getElem?_getD, List.getElem?_eq_getElem hi]
      exact List.getElem_mem hi
    · unfold x_m
      rw [List.getD_eq_getElem?_getD, List.getElem?_eq_none (by omega)]
      exact xk_0
  exact List.all_eq_true.mp hm o (List.mem_of_getElem? h)
theorem x_dc {mi i pc ln nx a b : Nat} {ins : Jvm.ClassFile.Instr} {ps : List Nat} (h : x_op mi i = some (pc, ln, ins, nx, a, b, ps)) :
    decode (x_m mi).2.1 pc = .ok (ins, ln) ∧ x_pc mi i = pc ∧ (x_term ins = false → x_pc mi nx = pc + ln) ∧ x_ckI (x_m mi).1.cls (x_m mi).2.2.2.2 pc ins a b ps = true := by
  have h1 := x_ck h
  simp only [x_ck1, Bool.and_eq_true, decide_eq_true_eq, Bool.or_eq_true] at h1
  obtain ⟨⟨h2, h3⟩, h4⟩ := h1
  refine ⟨h2, ?_, fun ht => ?_, h4⟩
  · have h5 : (x_m mi).2.2.2.2[i]? = some (pc, ln, ins, nx, a, b, ps) := h
    simp [x_pc, x_pco, h5]
  · rcases h3 with h3 | h3
    · rw [ht] at h3; cases h3
    · unfold x_pc x_pco
      split at h3
      · rename_i o' ho'
        exact eq_of_beq h3
      · cases h3
theorem x_w_tbl {p : Nat} {w : Jvm.Cond} (h : x_w p w = true) : w ∈ lw_tbl := by
  unfold x_w at h
  have h1 := List.mem_of_getElem? (of_decide_eq_true h)
  unfold lw_tbl
  unfold x_tb at h1
  refine List.mem_append.mpr ?_
  split at h1
  · exact Or.inl h1
  all_goals (refine Or.inr ?_; unfold tables_1; simp only [List.mem_append]; simp only [h1, true_or, or_true])
theorem x_w_in {p : Nat} {w : Jvm.Cond} (h : x_w p w = true) (hg : goodWord w = true := by rfl) : w ∈ x_gt := List.mem_filter.mpr ⟨x_w_tbl h, hg⟩
/-! ===== small facts ===== -/
theorem x_cv_int {ex : Nat → Value} {base : Nat} {x : Int32} : x_cv ex base (.int x) = .int x := rfl
theorem x_cv_ref {ex : Nat → Value} {base : Nat} (h : x_exr ex) (r : Nat) : (∃ t : Nat, x_cv ex base (.ref r) = .ref t) ∨ x_cv ex base (.ref r) = .null := by
  by_cases hr : r < 64
  · rcases h r hr with e | ⟨t, e⟩
    · exact Or.inr (by simp [x_cv, hr, e])
    · exact Or.inl ⟨t, by simp [x_cv, hr, e]⟩
  · exact Or.inl ⟨base + (r - 64), by simp [x_cv, hr]⟩
theorem x_cv_cat {ex : Nat → Value} {base : Nat} (hx : x_exr ex) {v : Value} (h : v.category = 1) : (x_cv ex base v).category = 1 := by
  cases v with
  | ref r => rcases x_cv_ref (base := base) hx r with ⟨t, e⟩ | e <;> rw [e] <;> rfl
  | _ => exact h
theorem x_cv_cat2 {ex : Nat → Value} {base : Nat} (hx : x_exr ex) (v : Value) : (x_cv ex base v).category = v.category := by
  cases v with
  | ref r => rcases x_cv_ref (base := base) hx r with ⟨t, e⟩ | e <;> rw [e] <;> rfl
  | _ => rfl
theorem x_L_at' {ex : Nat → Value} {base nL : Nat} {ls : Array Slot} {L : List Value} (h : x_L ex base ls nL L) {j : Nat} {v : Value} (hl : L[j]? = some v) (hv : v ≠ x_jk) : ls[j]? = some (.val (x_cv ex base v)) := h.2.2.2 j v hl hv
def x_la (ex : Nat → Value) (base nL : Nat) (L : List Value) : List (Nat × Value) := (List.range nL).filterMap (fun k => match L[k]? with
  | some v => if v = x_jk then none else some (k, x_cv ex base v)
  | none => none)
theorem x_la_mem {ex : Nat → Value} {base nL : Nat} {L : List Value} (hn : L.length = nL) {q : Nat × Value} : q ∈ x_la ex base nL L ↔ ∃ v, L[q.1]? = some v ∧ v ≠ x_jk ∧ q.2 = x_cv ex base v := by
  unfold x_la
  rw [List.mem_filterMap]
  constructor
  · rintro ⟨k, -, h⟩
    split at h
    · rename_i v hv
      split at h
      · cases h
      · rename_i hne
        cases h
        exact ⟨v, hv, hne, rfl⟩
    · cases h
  · rintro ⟨v, h1, h2, h3⟩
    refine ⟨q.1, List.mem_range.mpr ?_, ?_⟩
    · have := (List.getElem?_eq_some_iff.mp h1).1
      omega
    · simp only [h1, if_neg h2, ← h3]
theorem x_L_has {ex : Nat → Value} {base nL : Nat} {ls : Array Slot} {L : List Value} (h : x_L ex base ls nL L) : lv_has ls nL (x_la ex base nL L) := by
  refine ⟨h.1, h.2.1, fun q hq => ?_⟩
  obtain ⟨v, h1, h2, h3⟩ := (x_la_mem h.2.2.1).mp hq
  rw [h3]
  exact h.2.2.2 _ _ h1 h2
def x_okst (L : List Value) (j : Nat) : Bool := j == 0 || (match L[j - 1]? with
  | some (.long _) => false
  | some (.double _) => false
  | _ => true)
theorem x_okst_c {ex : Nat → Value} {base : Nat} (hx : x_exr ex) {L : List Value} {j k : Nat} (h : x_okst L j = true) {v : Value} (hv : L[k]? = some v) (hk : k + 1 = j) : ¬ (x_cv ex base v).category = 2 := by
  rw [x_cv_cat2 hx]
  subst hk
  simp only [x_okst, Nat.add_sub_cancel, hv] at h
  cases v <;> simp_all [Value.category]
theorem x_L_st1 {ex : Nat → Value} {base nL j : Nat} {ls' : Array Slot} {L : List Value} (hx : x_exr ex) (hn : L.length = nL) (hj : j < nL) (ho : x_okst L j = true) {w : Value}
    (h : lv_has ls' nL ((j, x_cv ex base w) :: (x_la ex base nL L).filter (fun q => !(q.1 == j) && !(q.1 + 1 == j && q.2.category == 2)))) : x_L ex base ls' nL (L.set j w) := by
  refine ⟨h.1, h.2.1, by rw [List.length_set]; exact hn, fun k v hk hv => ?_⟩
  by_cases hkj : k = j
  · subst hkj
    rw [List.getElem?_set_self (by omega)] at hk
    cases hk
    exact h.2.2 _ List.mem_cons_self
  · rw [List.getElem?_set_ne (Ne.symm hkj)] at hk
    refine h.2.2 (k, x_cv ex base v) (List.mem_cons_of_mem _ (List.mem_filter.mpr ⟨(x_la_mem hn).mpr ⟨v, hk, hv, rfl⟩, ?_⟩))
    simp only [Bool.and_eq_true, Bool.not_eq_true', beq_eq_false_iff_ne, ne_eq, Bool.and_eq_false_iff]
    refine ⟨hkj, ?_⟩
    by_cases hk1 : k + 1 = j
    · exact Or.inr (by simpa using x_okst_c hx ho hk hk1)
    · exact Or.inl hk1
theorem x_L_st2 {ex : Nat → Value} {base nL j : Nat} {ls' : Array Slot} {L : List Value} (hx : x_exr ex) (hn : L.length = nL) (hj : j + 1 < nL) (ho : x_okst L j = true) {w : Value}
    (h : lv_has ls' nL ((j, x_cv ex base w) :: (x_la ex base nL L).filter (fun q => !(q.1 == j) && (!(q.1 == j + 1) && !(q.1 + 1 == j && q.2.category == 2))))) : x_L ex base ls' nL ((L.set j w).set (j + 1) x_jk) := by
  refine ⟨h.1, h.2.1, by rw [List.length_set, List.length_set]; exact hn, fun k v hk hv => ?_⟩
  by_cases hk1 : k = j + 1
  · subst hk1
    rw [List.getElem?_set_self (by rw [List.length_set]; omega)] at hk
    cases hk
    exact absurd rfl hv
  rw [List.getElem?_set_ne (Ne.symm hk1)] at hk
  by_cases hkj : k = j
  · subst hkj
    rw [List.getElem?_set_self (by omega)] at hk
    cases hk
    exact h.2.2 _ List.mem_cons_self
  · rw [List.getElem?_set_ne (Ne.symm hkj)] at hk
    refine h.2.2 (k, x_cv ex base v) (List.mem_cons_of_mem _ (List.mem_filter.mpr ⟨(x_la_mem hn).mpr ⟨v, hk, hv, rfl⟩, ?_⟩))
    simp only [Bool.and_eq_true, Bool.not_eq_true', beq_eq_false_iff_ne, ne_eq, Bool.and_eq_false_iff]
    refine ⟨hkj, hk1, ?_⟩
    by_cases hk2 : k + 1 = j
    · exact Or.inr (by simpa using x_okst_c hx ho hk hk2)
    · exact Or.inl hk2
/-! ===== one instruction ===== -/
section XW
variable {E : XE} {d mi i k n mc ms nx a b pc : Nat} {ps : List Nat} {L S : List Value} {M : XM} {Q : Option Value → XM → Prop}
theorem x_WP.mono {Q' : Option Value → XM → Prop} (h : x_WP E d mi i L S M k n mc ms Q') (hq : ∀ v M', Q' v M' → Q v M') : x_WP E d mi i L S M k n mc ms Q := by
  intro p l e R s m args below meth c H locs ls D T ex base hh
  intro T0 hT X
  obtain ⟨t, h1, o, h2, h3, ⟨⟨v, M', h4, h5, h6⟩, h7⟩, h8⟩ := h p l e R s m args below meth c H locs ls D T ex base hh T0 hT X
  exact ⟨t, h1, o, h2, h3, ⟨⟨v, M', h4, hq _ _ h5, h6⟩, h7⟩, h8⟩
/-- a step that touches the stack alone -/
theorem x_stk {ln : Nat} {ins : Jvm.ClassFile.Instr} {S' : List Value} (ho : x_op mi i = some (pc, ln, ins, nx, a, b, ps)) (ht : x_term ins = false)
    (hs : ∀ (p : Program) (l : Launch) (e : Env) (R : Room) (s : State) (m : MethodId) (args : Array Value) (below : List Frame) (meth : Method) (c : Code) (H : Heap) (locs : List Loc) (ls : Array Slot) (D : va_G) (T : Nat → ClassId) (ex : Nat → Value) (base : Nat) (Z : State → Prop),
      x_Mh E d mi L M mc ms p R s m args meth c H locs ls D T ex base → p.tables.exec = Jvm.exec → c.code = (x_m mi).2.1 → decode (x_m mi).2.1 pc = .ok (ins, ln) →
      W p l e R s m args below meth c H locs k n Z (F0 m (pc + ln) ls (S'.map (x_cv ex base))) → W p l e R s m args below meth c H locs k n Z (F0 m pc ls (S.map (x_cv ex base))))
    (kk : x_WP E d mi nx L S' M k n mc ms Q) : x_WP E d mi i L S M k n mc ms Q := by
  intro p l e R s m args below meth c H locs ls D T ex base h
  obtain ⟨hd, hp, hn, -⟩ := x_dc ho
  have k1 := kk p l e R s m args below meth c H locs ls D T ex base h
  rw [hn ht] at k1
  rw [hp]
  exact hs p l e R s m args below meth c H locs ls D T ex base _ h h.1.1 h.1.2.1 hd k1
theorem wp_iadd {x y : Int32} (ho : x_op mi i = some (pc, 1, .iadd, nx, a, b, ps))  (kk : x_WP E d mi nx L (.int (x + y) :: S) M k n mc ms Q) : x_WP E d mi i L (.int y :: .int x :: S) M k n mc ms Q :=
  x_stk (S' := .int (x + y) :: S) ho rfl (fun p l e R s m args below meth c H locs ls D T ex base Z h hx hb hd k1 => lv_iadd hx hb hd k1) kk
theorem wp_isub {x y : Int32} (ho : x_op mi i = some (pc, 1, .isub, nx, a, b, ps))  (kk : x_WP E d mi nx L (.int (x - y) :: S) M k n mc ms Q) : x_WP E d mi i L (.int y :: .int x :: S) M k n mc ms Q :=
  x_stk (S' := .int (x - y) :: S) ho rfl (fun p l e R s m args below meth c H locs ls D T ex base Z h hx hb hd k1 => lv_isub hx hb hd k1) kk
theorem wp_imul {x y : Int32} (ho : x_op mi i = some (pc, 1, .imul, nx, a, b, ps))  (kk : x_WP E d mi nx L (.int (x * y) :: S) M k n mc ms Q) : x_WP E d mi i L (.int y :: .int x :: S) M k n mc ms Q :=
  x_stk (S' := .int (x * y) :: S) ho rfl (fun p l e R s m args below meth c H locs ls D T ex base Z h hx hb hd k1 => lv_imul hx hb hd k1) kk
theorem wp_iand {x y : Int32} (ho : x_op mi i = some (pc, 1, .iand, nx, a, b, ps))  (kk : x_WP E d mi nx L (.int (x &&& y) :: S) M k n mc ms Q) : x_WP E d mi i L (.int y :: .int x :: S) M k n mc ms Q :=
  x_stk (S' := .int (x &&& y) :: S) ho rfl (fun p l e R s m args below meth c H locs ls D T ex base Z h hx hb hd k1 => lv_iand hx hb hd k1) kk
theorem wp_ior {x y : Int32} (ho : x_op mi i = some (pc, 1, .ior, nx, a, b, ps))  (kk : x_WP E d mi nx L (.int (x ||| y) :: S) M k n mc ms Q) : x_WP E d mi i L (.int y :: .int x :: S) M k n mc ms Q :=
  x_stk (S' := .int (x ||| y) :: S) ho rfl (fun p l e R s m args below meth c H locs ls D T ex base Z h hx hb hd k1 => lv_ior hx hb hd k1) kk
theorem wp_ixor {x y : Int32} (ho : x_op mi i = some (pc, 1, .ixor, nx, a, b, ps))  (kk : x_WP E d mi nx L (.int (x ^^^ y) :: S) M k n mc ms Q) : x_WP E d mi i L (.int y :: .int x :: S) M k n mc ms Q :=
  x_stk (S' := .int (x ^^^ y) :: S) ho rfl (fun p l e R s m args below meth c H locs ls D T ex base Z h hx hb hd k1 => lv_ixor hx hb hd k1) kk
theorem wp_ishl {x y : Int32} (ho : x_op mi i = some (pc, 1, .ishl, nx, a, b, ps))  (kk : x_WP E d mi nx L (.int (x <<< (y &&& 31)) :: S) M k n mc ms Q) : x_WP E d mi i L (.int y :: .int x :: S) M k n mc ms Q :=
  x_stk (S' := .int (x <<< (y &&& 31)) :: S) ho rfl (fun p l e R s m args below meth c H locs ls D T ex base Z h hx hb hd k1 => lv_ishl hx hb hd k1) kk
theorem wp_ishr {x y : Int32} (ho : x_op mi i = some (pc, 1, .ishr, nx, a, b, ps))  (kk : x_WP E d mi nx L (.int (x >>> (y &&& 31)) :: S) M k n mc ms Q) : x_WP E d mi i L (.int y :: .int x :: S) M k n mc ms Q :=
  x_stk (S' := .int (x >>> (y &&& 31)) :: S) ho rfl (fun p l e R s m args below meth c H locs ls D T ex base Z h hx hb hd k1 => lv_ishr hx hb hd k1) kk
theorem wp_idiv {x y : Int32} (ho : x_op mi i = some (pc, 1, .idiv, nx, a, b, ps)) (h0 : ¬ y = 0) (kk : x_WP E d mi nx L (.int (x / y) :: S) M k n mc ms Q) : x_WP E d mi i L (.int y :: .int x :: S) M k n mc ms Q :=
  x_stk (S' := .int (x / y) :: S) ho rfl (fun p l e R s m args below meth c H locs ls D T ex base Z h hx hb hd k1 => lv_idiv hx hb hd h0 k1) kk
theorem wp_irem {x y : Int32} (ho : x_op mi i = some (pc, 1, .irem, nx, a, b, ps)) (h0 : ¬ y = 0) (kk : x_WP E d mi nx L (.int (x - x / y * y) :: S) M k n mc ms Q) : x_WP E d mi i L (.int y :: .int x :: S) M k n mc ms Q :=
  x_stk (S' := .int (x - x / y * y) :: S) ho rfl (fun p l e R s m args below meth c H locs ls D T ex base Z h hx hb hd k1 => lv_irem hx hb hd h0 k1) kk
theorem wp_ineg {x : Int32} (ho : x_op mi i = some (pc, 1, .ineg, nx, a, b, ps))  (kk : x_WP E d mi nx L (.int (-x) :: S) M k n mc ms Q) : x_WP E d mi i L (.int x :: S) M k n mc ms Q :=
  x_stk (S' := .int (-x) :: S) ho rfl (fun p l e R s m args below meth c H locs ls D T ex base Z h hx hb hd k1 => lv_ineg hx hb hd k1) kk
theorem wp_iushr {x y : Int32} (ho : x_op mi i = some (pc, 1, .iushr, nx, a, b, ps))  (kk : x_WP E d mi nx L (.int ((x.toUInt32 >>> (y.toUInt32 &&& Int32.toUInt32 31)).toInt32) :: S) M k n mc ms Q) : x_WP E d mi i L (.int y :: .int x :: S) M k n mc ms Q :=
  x_stk (S' := .int ((x.toUInt32 >>> (y.toUInt32 &&& Int32.toUInt32 31)).toInt32) :: S) ho rfl (fun p l e R s m args below meth c H locs ls D T ex base Z h hx hb hd k1 => lv_iushr hx hb hd rfl k1) kk
theorem wp_ladd {x y : Int64} (ho : x_op mi i = some (pc, 1, .ladd, nx, a, b, ps))  (kk : x_WP E d mi nx L (.long (x + y) :: S) M k n mc ms Q) : x_WP E d mi i L (.long y :: .long x :: S) M k n mc ms Q :=
  x_stk (S' := .long (x + y) :: S) ho rfl (fun p l e R s m args below meth c H locs ls D T ex base Z h hx hb hd k1 => lv_ladd hx hb hd k1) kk
theorem wp_land {x y : Int64} (ho : x_op mi i = some (pc, 1, .land, nx, a, b, ps))  (kk : x_WP E d mi nx L (.long (x &&& y) :: S) M k n mc ms Q) : x_WP E d mi i L (.long y :: .long x :: S) M k n mc ms Q :=
  x_stk (S' := .long (x &&& y) :: S) ho rfl (fun p l e R s m args below meth c H locs ls D T ex base Z h hx hb hd k1 => lv_land hx hb hd k1) kk
theorem wp_lor {x y : Int64} (ho : x_op mi i = some (pc, 1, .lor, nx, a, b, ps))  (kk : x_WP E d mi nx L (.long (x ||| y) :: S) M k n mc ms Q) : x_WP E d mi i L (.long y :: .long x :: S) M k n mc ms Q :=
  x_stk (S' := .long (x ||| y) :: S) ho rfl (fun p l e R s m args below meth c H locs ls D T ex base Z h hx hb hd k1 => lv_lor hx hb hd k1) kk
theorem wp_lxor {x y : Int64} (ho : x_op mi i = some (pc, 1, .lxor, nx, a, b, ps))  (kk : x_WP E d mi nx L (.long (x ^^^ y) :: S) M k n mc ms Q) : x_WP E d mi i L (.long y :: .long x :: S) M k n mc ms Q :=
  x_stk (S' := .long (x ^^^ y) :: S) ho rfl (fun p l e R s m args below meth c H locs ls D T ex base Z h hx hb hd k1 => lv_lxor hx hb hd k1) kk
theorem wp_ldiv {x y : Int64} (ho : x_op mi i = some (pc, 1, .ldiv, nx, a, b, ps)) (h0 : ¬ y = 0) (kk : x_WP E d mi nx L (.long (x / y) :: S) M k n mc ms Q) : x_WP E d mi i L (.long y :: .long x :: S) M k n mc ms Q :=
  x_stk (S' := .long (x / y) :: S) ho rfl (fun p l e R s m args below meth c H locs ls D T ex base Z h hx hb hd k1 => lv_ldiv hx hb hd h0 k1) kk
theorem wp_lrem {x y : Int64} (ho : x_op mi i = some (pc, 1, .lrem, nx, a, b, ps)) (h0 : ¬ y = 0) (kk : x_WP E d mi nx L (.long (x - x / y * y) :: S) M k n mc ms Q) : x_WP E d mi i L (.long y :: .long x :: S) M k n mc ms Q :=
  x_stk (S' := .long (x - x / y * y) :: S) ho rfl (fun p l e R s m args below meth c H locs ls D T ex base Z h hx hb hd k1 => lv_lrem hx hb hd h0 k1) kk
theorem wp_lneg {x : Int64} (ho : x_op mi i = some (pc, 1, .lneg, nx, a, b, ps))  (kk : x_WP E d mi nx L (.long (-x) :: S) M k n mc ms Q) : x_WP E d mi i L (.long x :: S) M k n mc ms Q :=
  x_stk (S' := .long (-x) :: S) ho rfl (fun p l e R s m args below meth c H locs ls D T ex base Z h hx hb hd k1 => lv_lneg hx hb hd k1) kk
theorem wp_lshl {x : Int64} {y : Int32} (ho : x_op mi i = some (pc, 1, .lshl, nx, a, b, ps))  (kk : x_WP E d mi nx L (.long (x <<< (y.toInt64 &&& 63)) :: S) M k n mc ms Q) : x_WP E d mi i L (.int y :: .long x :: S) M k n mc ms Q :=
  x_stk (S' := .long (x <<< (y.toInt64 &&& 63)) :: S) ho rfl (fun p l e R s m args below meth c H locs ls D T ex base Z h hx hb hd k1 => lv_lshl hx hb hd rfl k1) kk
theorem wp_lshr {x : Int64} {y : Int32} (ho : x_op mi i = some (pc, 1, .lshr, nx, a, b, ps))  (kk : x_WP E d mi nx L (.long (x >>> (y.toInt64 &&& 63)) :: S) M k n mc ms Q) : x_WP E d mi i L (.int y :: .long x :: S) M k n mc ms Q :=
  x_stk (S' := .long (x >>> (y.toInt64 &&& 63)) :: S) ho rfl (fun p l e R s m args below meth c H locs ls D T ex base Z h hx hb hd k1 => lv_lshr hx hb hd rfl k1) kk
theorem wp_lcmp {x y : Int64} (ho : x_op mi i = some (pc, 1, .lcmp, nx, a, b, ps))  (kk : x_WP E d mi nx L (.int (lg_cmp x y) :: S) M k n mc ms Q) : x_WP E d mi i L (.long y :: .long x :: S) M k n mc ms Q :=
  x_stk (S' := .int (lg_cmp x y) :: S) ho rfl (fun p l e R s m args below meth c H locs ls D T ex base Z h hx hb hd k1 => W.lcmp hx hb hd k1) kk
theorem wp_i2l {x : Int32} (ho : x_op mi i = some (pc, 1, .i2l, nx, a, b, ps))  (kk : x_WP E d mi nx L (.long (x.toInt64) :: S) M k n mc ms Q) : x_WP E d mi i L (.int x :: S) M k n mc ms Q :=
  x_stk (S' := .long (x.toInt64) :: S) ho rfl (fun p l e R s m args below meth c H locs ls D T ex base Z h hx hb hd k1 => lv_i2l hx hb hd rfl k1) kk
theorem wp_i2b {x : Int32} (ho : x_op mi i = some (pc, 1, .i2b, nx, a, b, ps))  (kk : x_WP E d mi nx L (.int (x.toInt8.toInt32) :: S) M k n mc ms Q) : x_WP E d mi i L (.int x :: S) M k n mc ms Q :=
  x_stk (S' := .int (x.toInt8.toInt32) :: S) ho rfl (fun p l e R s m args below meth c H locs ls D T ex base Z h hx hb hd k1 => lv_i2b hx hb hd rfl k1) kk
theorem wp_i2c {x : Int32} (ho : x_op mi i = some (pc, 1, .i2c, nx, a, b, ps))  (kk : x_WP E d mi nx L (.int ((x.toUInt32 % 65536).toInt32) :: S) M k n mc ms Q) : x_WP E d mi i L (.int x :: S) M k n mc ms Q :=
  x_stk (S' := .int ((x.toUInt32 % 65536).toInt32) :: S) ho rfl (fun p l e R s m args below meth c H locs ls D T ex base Z h hx hb hd k1 => lv_i2c hx hb hd rfl k1) kk
theorem wp_iconst {z : Int} {v : Int32} (ho : x_op mi i = some (pc, 1, .iconst z, nx, a, b, ps)) (hv : Int32.ofInt z = v) (kk : x_WP E d mi nx L (.int v :: S) M k n mc ms Q) : x_WP E d mi i L (S) M k n mc ms Q :=
  x_stk (S' := .int v :: S) ho rfl (fun p l e R s m args below meth c H locs ls D T ex base Z h hx hb hd k1 => lv_iconst hx hb hd hv k1) kk
theorem wp_bipush {z : Int} {v : Int32} (ho : x_op mi i = some (pc, 2, .bipush z, nx, a, b, ps)) (hv : (Int8.ofInt z).toInt32 = v) (kk : x_WP E d mi nx L (.int v :: S) M k n mc ms Q) : x_WP E d mi i L (S) M k n mc ms Q :=
  x_stk (S' := .int v :: S) ho rfl (fun p l e R s m args below meth c H locs ls D T ex base Z h hx hb hd k1 => lv_bipush hx hb hd hv k1) kk
theorem wp_sipush {z : Int} {v : Int32} (ho : x_op mi i = some (pc, 3, .sipush z, nx, a, b, ps)) (hv : (Int16.ofInt z).toInt32 = v) (kk : x_WP E d mi nx L (.int v :: S) M k n mc ms Q) : x_WP E d mi i L (S) M k n mc ms Q :=
  x_stk (S' := .int v :: S) ho rfl (fun p l e R s m args below meth c H locs ls D T ex base Z h hx hb hd k1 => lv_sipush hx hb hd hv k1) kk
theorem wp_lconst {z : Fin 2} {v : Int64} (ho : x_op mi i = some (pc, 1, .lconst z, nx, a, b, ps)) (hv : Int64.ofNat (z : Nat) = v) (kk : x_WP E d mi nx L (.long v :: S) M k n mc ms Q) : x_WP E d mi i L (S) M k n mc ms Q :=
  x_stk (S' := .long v :: S) ho rfl (fun p l e R s m args below meth c H locs ls D T ex base Z h hx hb hd k1 => lv_lconst hx hb hd hv k1) kk
theorem wp_null  (ho : x_op mi i = some (pc, 1, .aconst_null, nx, a, b, ps))  (kk : x_WP E d mi nx L (.null :: S) M k n mc ms Q) : x_WP E d mi i L (S) M k n mc ms Q :=
  x_stk (S' := .null :: S) ho rfl (fun p l e R s m args below meth c H locs ls D T ex base Z h hx hb hd k1 => lv_null hx hb hd k1) kk
theorem wp_dup {v : Value} (ho : x_op mi i = some (pc, 1, .dup, nx, a, b, ps)) (hv : v.category = 1) (kk : x_WP E d mi nx L (v :: v :: S) M k n mc ms Q) : x_WP E d mi i L (v :: S) M k n mc ms Q :=
  x_stk (S' := v :: v :: S) ho rfl (fun p l e R s m args below meth c H locs ls D T ex base Z h hx hb hd k1 => lv_dup hx hb hd (x_cv_cat h.2.2.1.2.2.1 hv) k1) kk
theorem wp_pop {v : Value} (ho : x_op mi i = some (pc, 1, .pop, nx, a, b, ps)) (hv : v.category = 1) (kk : x_WP E d mi nx L (S) M k n mc ms Q) : x_WP E d mi i L (v :: S) M k n mc ms Q :=
  x_stk (S' := S) ho rfl (fun p l e R s m args below meth c H locs ls D T ex base Z h hx hb hd k1 => lv_pop hx hb hd (x_cv_cat h.2.2.1.2.2.1 hv) k1) kk
theorem wp_dup2 {v w : Value} (ho : x_op mi i = some (pc, 1, .dup2, nx, a, b, ps)) (hv : v.category = 1) (hw : w.category = 1) (kk : x_WP E d mi nx L (v :: w :: v :: w :: S) M k n mc ms Q) : x_WP E d mi i L (v :: w :: S) M k n mc ms Q :=
  x_stk (S' := v :: w :: v :: w :: S) ho rfl (fun p l e R s m args below meth c H locs ls D T ex base Z h hx hb hd k1 => lv_dup2_11 hx hb hd (x_cv_cat h.2.2.1.2.2.1 hv) (x_cv_cat h.2.2.1.2.2.1 hw) k1) kk
theorem wp_iload_n {j : Fin 4} {j0 : Nat} {x : Int32} (ho : x_op mi i = some (pc, 1, .iload_n j, nx, a, b, ps)) (hj : (j : Nat) = j0) (hl : L[j0]? = some (.int x)) (kk : x_WP E d mi nx L (.int x :: S) M k n mc ms Q) : x_WP E d mi i L (S) M k n mc ms Q :=
  x_stk (S' := .int x :: S) ho rfl (fun p l e R s m args below meth c H locs ls D T ex base Z h hx hb hd k1 => lv_iload_n hx hb hd hj (x_L_at' h.2.2.2.2.2 hl (fun e => by cases e)) k1) kk
theorem wp_lload_n {j : Fin 4} {j0 : Nat} {x : Int64} (ho : x_op mi i = some (pc, 1, .lload_n j, nx, a, b, ps)) (hj : (j : Nat) = j0) (hl : L[j0]? = some (.long x)) (kk : x_WP E d mi nx L (.long x :: S) M k n mc ms Q) : x_WP E d mi i L (S) M k n mc ms Q :=
  x_stk (S' := .long x :: S) ho rfl (fun p l e R s m args below meth c H locs ls D T ex base Z h hx hb hd k1 => lv_lload_n hx hb hd hj (x_L_at' h.2.2.2.2.2 hl (fun e => by cases e)) k1) kk
theorem wp_aload_nN {j : Fin 4} {j0 : Nat} (ho : x_op mi i = some (pc, 1, .aload_n j, nx, a, b, ps)) (hj : (j : Nat) = j0) (hl : L[j0]? = some .null) (kk : x_WP E d mi nx L (.null :: S) M k n mc ms Q) : x_WP E d mi i L (S) M k n mc ms Q :=
  x_stk (S' := .null :: S) ho rfl (fun p l e R s m args below meth c H locs ls D T ex base Z h hx hb hd k1 => lv_aload_nN hx hb hd hj (x_L_at' h.2.2.2.2.2 hl (fun e => by cases e)) k1) kk
theorem wp_aload_n {j : Fin 4} {j0 : Nat} {r : Nat} (ho : x_op mi i = some (pc, 1, .aload_n j, nx, a, b, ps)) (hj : (j : Nat) = j0) (hl : L[j0]? = some (.ref r)) (kk : x_WP E d mi nx L (.ref r :: S) M k n mc ms Q) : x_WP E d mi i L S M k n mc ms Q :=
  x_stk ho rfl (fun p l e R s m args below meth c H locs ls D T ex base Z h hx hb hd k1 => by
    have hl1 := x_L_at' h.2.2.2.2.2 hl (fun e => by cases e)
    rcases x_cv_ref h.2.2.1.2.2.1 r with ⟨t, e1⟩ | e1
    · rw [List.map_cons, e1] at k1
      rw [e1] at hl1
      exact lv_aload_n hx hb hd hj hl1 k1
    · rw [List.map_cons, e1] at k1
      rw [e1] at hl1
      exact lv_aload_nN hx hb hd hj hl1 k1) kk
theorem wp_iload {j0 : Nat} {x : Int32} (ho : x_op mi i = some (pc, 2, .iload j0, nx, a, b, ps))  (hl : L[j0]? = some (.int x)) (kk : x_WP E d mi nx L (.int x :: S) M k n mc ms Q) : x_WP E d mi i L (S) M k n mc ms Q :=
  x_stk (S' := .int x :: S) ho rfl (fun p l e R s m args below meth c H locs ls D T ex base Z h hx hb hd k1 => lv_iload hx hb hd (x_L_at' h.2.2.2.2.2 hl (fun e => by cases e)) k1) kk
theorem wp_lload {j0 : Nat} {x : Int64} (ho : x_op mi i = some (pc, 2, .lload j0, nx, a, b, ps))  (hl : L[j0]? = some (.long x)) (kk : x_WP E d mi nx L (.long x :: S) M k n mc ms Q) : x_WP E d mi i L (S) M k n mc ms Q :=
  x_stk (S' := .long x :: S) ho rfl (fun p l e R s m args below meth c H locs ls D T ex base Z h hx hb hd k1 => lv_lload hx hb hd (x_L_at' h.2.2.2.2.2 hl (fun e => by cases e)) k1) kk
theorem wp_aloadN {j0 : Nat} (ho : x_op mi i = some (pc, 2, .aload j0, nx, a, b, ps))  (hl : L[j0]? = some .null) (kk : x_WP E d mi nx L (.null :: S) M k n mc ms Q) : x_WP E d mi i L (S) M k n mc ms Q :=
  x_stk (S' := .null :: S) ho rfl (fun p l e R s m args below meth c H locs ls D T ex base Z h hx hb hd k1 => lv_aloadN hx hb hd (x_L_at' h.2.2.2.2.2 hl (fun e => by cases e)) k1) kk
theorem wp_aload {j0 : Nat} {r : Nat} (ho : x_op mi i = some (pc, 2, .aload j0, nx, a, b, ps))  (hl : L[j0]? = some (.ref r)) (kk : x_WP E d mi nx L (.ref r :: S) M k n mc ms Q) : x_WP E d mi i L S M k n mc ms Q :=
  x_stk ho rfl (fun p l e R s m args below meth c H locs ls D T ex base Z h hx hb hd k1 => by
    have hl1 := x_L_at' h.2.2.2.2.2 hl (fun e => by cases e)
    rcases x_cv_ref h.2.2.1.2.2.1 r with ⟨t, e1⟩ | e1
    · rw [List.map_cons, e1] at k1
      rw [e1] at hl1
      exact lv_aload hx hb hd hl1 k1
    · rw [List.map_cons, e1] at k1
      rw [e1] at hl1
      exact lv_aloadN hx hb hd hl1 k1) kk
end XW
end
section
/-! ===== branches, stores, memory ===== -/
theorem x_cv_m {ex : Nat → Value} {base r : Nat} (hr : ¬ r < 64) : x_cv ex base (.ref r) = .ref (base + (r - 64)) := by
  simp only [x_cv, if_neg hr]
section XB
variable {E : XE} {d mi i k n mc ms nx a b pc : Nat} {ps : List Nat} {L S : List Value} {M : XM} {Q : Option Value → XM → Prop}
theorem wp_goto {off : Int} (ho : x_op mi i = some (pc, 3, .goto off, nx, a, b, ps)) (kk : x_WP E d mi a L S M k n mc ms Q) : x_WP E d mi i L S M k n mc ms Q := by
  intro p l e R s m args below meth c H locs ls D T ex base h
  obtain ⟨hd, hp, -, hI⟩ := x_dc ho
  have k1 := kk p l e R s m args below meth c H locs ls D T ex base h
  rw [hp]
  exact lv_goto (tgt := x_pc mi a) h.1.1 h.1.2.1 hd (of_decide_eq_true hI) k1
theorem x_br {ln : Nat} {ins : Jvm.ClassFile.Instr} {S' : List Value} {c1 c2 : Prop} (ho : x_op mi i = some (pc, 3, ins, nx, a, b, ps)) (ht : x_term ins = false) {off : Int} (hI0 : x_ckI (x_m mi).1.cls (x_m mi).2.2.2.2 pc ins a b ps = true → (pc : Int) + off = (x_pc mi a : Int))
    (hs : ∀ (p : Program) (l : Launch) (e : Env) (R : Room) (s : State) (m : MethodId) (args : Array Value) (below : List Frame) (meth : Method) (c : Code) (H : Heap) (locs : List Loc) (ls : Array Slot) (D : va_G) (T : Nat → ClassId) (ex : Nat → Value) (base : Nat) (Z : State → Prop) (tgt : Nat),
      x_Mh E d mi L M mc ms p R s m args meth c H locs ls D T ex base → p.tables.exec = Jvm.exec → c.code = (x_m mi).2.1 → decode (x_m mi).2.1 pc = .ok (ins, 3) → (pc : Int) + off = (tgt : Int) →
      (c1 → W p l e R s m args below meth c H locs k n Z (F0 m tgt ls (S'.map (x_cv ex base)))) → (c2 → W p l e R s m args below meth c H locs k n Z (F0 m (pc + 3) ls (S'.map (x_cv ex base)))) → W p l e R s m args below meth c H locs k n Z (F0 m pc ls (S.map (x_cv ex base))))
    (kt : c1 → x_WP E d mi a L S' M k n mc ms Q) (kf : c2 → x_WP E d mi nx L S' M k n mc ms Q) : x_WP E d mi i L S M k n mc ms Q := by
  intro p l e R s m args below meth c H locs ls D T ex base h
  obtain ⟨hd, hp, hn, hI⟩ := x_dc ho
  rw [hp]
  refine hs p l e R s m args below meth c H locs ls D T ex base _ (x_pc mi a) h h.1.1 h.1.2.1 hd (hI0 hI) (fun q => kt q p l e R s m args below meth c H locs ls D T ex base h) (fun q => ?_)
  have k1 := kf q p l e R s m args below meth c H locs ls D T ex base h
  rw [hn ht] at k1
  exact k1
theorem wp_icmp_eq {x y : Int32} {off : Int} (ho : x_op mi i = some (pc, 3, .if_icmp .eq off, nx, a, b, ps)) (kt : x = y → x_WP E d mi a L S M k n mc ms Q) (kf : ¬ x = y → x_WP E d mi nx L S M k n mc ms Q) : x_WP E d mi i L (.int y :: .int x :: S) M k n mc ms Q :=
  x_br (ln := 3) ho rfl (fun hI => of_decide_eq_true hI) (fun p l e R s m args below meth c H locs ls D T ex base Z tgt h hx hb hd ht k1 k2 => lv_icmp_eq hx hb hd ht k1 k2) kt kf
theorem wp_icmp_ne {x y : Int32} {off : Int} (ho : x_op mi i = some (pc, 3, .if_icmp .ne off, nx, a, b, ps)) (kt : ¬ x = y → x_WP E d mi a L S M k n mc ms Q) (kf : x = y → x_WP E d mi nx L S M k n mc ms Q) : x_WP E d mi i L (.int y :: .int x :: S) M k n mc ms Q :=
  x_br (ln := 3) ho rfl (fun hI => of_decide_eq_true hI) (fun p l e R s m args below meth c H locs ls D T ex base Z tgt h hx hb hd ht k1 k2 => lv_icmp_ne hx hb hd ht k1 k2) kt kf
theorem wp_icmp_lt {x y : Int32} {off : Int} (ho : x_op mi i = some (pc, 3, .if_icmp .lt off, nx, a, b, ps)) (kt : x < y → x_WP E d mi a L S M k n mc ms Q) (kf : ¬ x < y → x_WP E d mi nx L S M k n mc ms Q) : x_WP E d mi i L (.int y :: .int x :: S) M k n mc ms Q :=
  x_br (ln := 3) ho rfl (fun hI => of_decide_eq_true hI) (fun p l e R s m args below meth c H locs ls D T ex base Z tgt h hx hb hd ht k1 k2 => lv_icmp_lt hx hb hd ht k1 k2) kt kf
theorem wp_icmp_ge {x y : Int32} {off : Int} (ho : x_op mi i = some (pc, 3, .if_icmp .ge off, nx, a, b, ps)) (kt : y ≤ x → x_WP E d mi a L S M k n mc ms Q) (kf : ¬ y ≤ x → x_WP E d mi nx L S M k n mc ms Q) : x_WP E d mi i L (.int y :: .int x :: S) M k n mc ms Q :=
  x_br (ln := 3) ho rfl (fun hI => of_decide_eq_true hI) (fun p l e R s m args below meth c H locs ls D T ex base Z tgt h hx hb hd ht k1 k2 => lv_icmp_ge hx hb hd ht k1 k2) kt kf
theorem wp_icmp_gt {x y : Int32} {off : Int} (ho : x_op mi i = some (pc, 3, .if_icmp .gt off, nx, a, b, ps)) (kt : y < x → x_WP E d mi a L S M k n mc ms Q) (kf : ¬ y < x → x_WP E d mi nx L S M k n mc ms Q) : x_WP E d mi i L (.int y :: .int x :: S) M k n mc ms Q :=
  x_br (ln := 3) ho rfl (fun hI => of_decide_eq_true hI) (fun p l e R s m args below meth c H locs ls D T ex base Z tgt h hx hb hd ht k1 k2 => lv_icmp_gt hx hb hd ht k1 k2) kt kf
theorem wp_icmp_le {x y : Int32} {off : Int} (ho : x_op mi i = some (pc, 3, .if_icmp .le off, nx, a, b, ps)) (kt : x ≤ y → x_WP E d mi a L S M k n mc ms Q) (kf : ¬ x ≤ y → x_WP E d mi nx L S M k n mc ms Q) : x_WP E d mi i L (.int y :: .int x :: S) M k n mc ms Q :=
  x_br (ln := 3) ho rfl (fun hI => of_decide_eq_true hI) (fun p l e R s m args below meth c H locs ls D T ex base Z tgt h hx hb hd ht k1 k2 => lv_icmp_le hx hb hd ht k1 k2) kt kf
theorem wp_if_eq {x : Int32} {off : Int} (ho : x_op mi i = some (pc, 3, .ifCond .eq off, nx, a, b, ps)) (kt : x = 0 → x_WP E d mi a L S M k n mc ms Q) (kf : ¬ x = 0 → x_WP E d mi nx L S M k n mc ms Q) : x_WP E d mi i L (.int x :: S) M k n mc ms Q :=
  x_br (ln := 3) ho rfl (fun hI => of_decide_eq_true hI) (fun p l e R s m args below meth c H locs ls D T ex base Z tgt h hx hb hd ht k1 k2 => lv_if_eq hx hb hd ht k1 k2) kt kf
theorem wp_if_ne {x : Int32} {off : Int} (ho : x_op mi i = some (pc, 3, .ifCond .ne off, nx, a, b, ps)) (kt : ¬ x = 0 → x_WP E d mi a L S M k n mc ms Q) (kf : x = 0 → x_WP E d mi nx L S M k n mc ms Q) : x_WP E d mi i L (.int x :: S) M k n mc ms Q :=
  x_br (ln := 3) ho rfl (fun hI => of_decide_eq_true hI) (fun p l e R s m args below meth c H locs ls D T ex base Z tgt h hx hb hd ht k1 k2 => lv_if_ne hx hb hd ht k1 k2) kt kf
theorem wp_if_lt {x : Int32} {off : Int} (ho : x_op mi i = some (pc, 3, .ifCond .lt off, nx, a, b, ps)) (kt : x < 0 → x_WP E d mi a L S M k n mc ms Q) (kf : ¬ x < 0 → x_WP E d mi nx L S M k n mc ms Q) : x_WP E d mi i L (.int x :: S) M k n mc ms Q :=
  x_br (ln := 3) ho rfl (fun hI => of_decide_eq_true hI) (fun p l e R s m args below meth c H locs ls D T ex base Z tgt h hx hb hd ht k1 k2 => lv_if_lt hx hb hd ht k1 k2) kt kf
theorem wp_if_ge {x : Int32} {off : Int} (ho : x_op mi i = some (pc, 3, .ifCond .ge off, nx, a, b, ps)) (kt : 0 ≤ x → x_WP E d mi a L S M k n mc ms Q) (kf : ¬ 0 ≤ x → x_WP E d mi nx L S M k n mc ms Q) : x_WP E d mi i L (.int x :: S) M k n mc ms Q :=
  x_br (ln := 3) ho rfl (fun hI => of_decide_eq_true hI) (fun p l e R s m args below meth c H locs ls D T ex base Z tgt h hx hb hd ht k1 k2 => lv_if_ge hx hb hd ht k1 k2) kt kf
theorem wp_if_gt {x : Int32} {off : Int} (ho : x_op mi i = some (pc, 3, .ifCond .gt off, nx, a, b, ps)) (kt : 0 < x → x_WP E d mi a L S M k n mc ms Q) (kf : ¬ 0 < x → x_WP E d mi nx L S M k n mc ms Q) : x_WP E d mi i L (.int x :: S) M k n mc ms Q :=
  x_br (ln := 3) ho rfl (fun hI => of_decide_eq_true hI) (fun p l e R s m args below meth c H locs ls D T ex base Z tgt h hx hb hd ht k1 k2 => lv_if_gt hx hb hd ht k1 k2) kt kf
theorem wp_if_le {x : Int32} {off : Int} (ho : x_op mi i = some (pc, 3, .ifCond .le off, nx, a, b, ps)) (kt : x ≤ 0 → x_WP E d mi a L S M k n mc ms Q) (kf : ¬ x ≤ 0 → x_WP E d mi nx L S M k n mc ms Q) : x_WP E d mi i L (.int x :: S) M k n mc ms Q :=
  x_br (ln := 3) ho rfl (fun hI => of_decide_eq_true hI) (fun p l e R s m args below meth c H locs ls D T ex base Z tgt h hx hb hd ht k1 k2 => lv_if_le hx hb hd ht k1 k2) kt kf
theorem wp_ifnull {r : Nat} {off : Int} (ho : x_op mi i = some (pc, 3, .ifnull off, nx, a, b, ps)) (hr : ¬ r < 64) (kk : x_WP E d mi nx L S M k n mc ms Q) : x_WP E d mi i L (.ref r :: S) M k n mc ms Q :=
  x_stk ho rfl (fun p l e R s m args below meth c H locs ls D T ex base Z h hx hb hd k1 => by
    rw [List.map_cons, x_cv_m hr]
    exact lv_ifnull hx hb hd k1) kk
theorem wp_ifnullN {off : Int} (ho : x_op mi i = some (pc, 3, .ifnull off, nx, a, b, ps)) (kk : x_WP E d mi a L S M k n mc ms Q) : x_WP E d mi i L (.null :: S) M k n mc ms Q := by
  intro p l e R s m args below meth c H locs ls D T ex base h
  obtain ⟨hd, hp, -, hI⟩ := x_dc ho
  have k1 := kk p l e R s m args below meth c H locs ls D T ex base h
  rw [hp]
  exact lv_ifnullN (tgt := x_pc mi a) h.1.1 h.1.2.1 hd (of_decide_eq_true hI) k1
theorem wp_ifnonnull {r : Nat} {off : Int} (ho : x_op mi i = some (pc, 3, .ifnonnull off, nx, a, b, ps)) (hr : ¬ r < 64) (kk : x_WP E d mi a L S M k n mc ms Q) : x_WP E d mi i L (.ref r :: S) M k n mc ms Q := by
  intro p l e R s m args below meth c H locs ls D T ex base h
  obtain ⟨hd, hp, -, hI⟩ := x_dc ho
  have k1 := kk p l e R s m args below meth c H locs ls D T ex base h
  rw [hp, List.map_cons, x_cv_m hr]
  exact lv_ifnonnull (tgt := x_pc mi a) h.1.1 h.1.2.1 hd (of_decide_eq_true hI) k1
theorem wp_ifnonnullN {off : Int} (ho : x_op mi i = some (pc, 3, .ifnonnull off, nx, a, b, ps)) (kk : x_WP E d mi nx L S M k n mc ms Q) : x_WP E d mi i L (.null :: S) M k n mc ms Q :=
  x_stk ho rfl (fun p l e R s m args below meth c H locs ls D T ex base Z h hx hb hd k1 => lv_ifnonnullN hx hb hd k1) kk
theorem wp_tswOut {ln : Nat} {d0 lo hi : Int} {offs : Array Int} {x : Int32} {t : Nat} {ts : List Nat} (ho : x_op mi i = some (pc, ln, .tableswitch d0 lo hi offs, nx, a, b, t :: ts)) (hx0 : x.toInt < lo ∨ hi < x.toInt) (kk : x_WP E d mi t L S M k n mc ms Q) : x_WP E d mi i L (.int x :: S) M k n mc ms Q := by
  intro p l e R s m args below meth c H locs ls D T ex base h
  obtain ⟨hd, hp, -, hI⟩ := x_dc ho
  have k1 := kk p l e R s m args below meth c H locs ls D T ex base h
  simp only [x_ckI, Bool.and_eq_true, decide_eq_true_eq] at hI
  rw [hp]
  exact lv_tableOut (tgt := x_pc mi t) h.1.1 h.1.2.1 hd hx0 hI.1.1.1 k1
theorem wp_tswIn {ln : Nat} {d0 lo hi : Int} {offs : Array Int} {x : Int32} {t j u : Nat} {ts : List Nat} (ho : x_op mi i = some (pc, ln, .tableswitch d0 lo hi offs, nx, a, b, t :: ts)) (hj : ts[j]? = some u) (hx0 : x.toInt = lo + j) (kk : x_WP E d mi u L S M k n mc ms Q) : x_WP E d mi i L (.int x :: S) M k n mc ms Q := by
  intro p l e R s m args below meth c H locs ls D T ex base h
  obtain ⟨hd, hp, -, hI⟩ := x_dc ho
  have k1 := kk p l e R s m args below meth c H locs ls D T ex base h
  simp only [x_ckI, Bool.and_eq_true, decide_eq_true_eq] at hI
  obtain ⟨⟨⟨-, h2⟩, h3⟩, h4⟩ := hI
  have hlt := (List.getElem?_eq_some_iff.mp hj).1
  have ho1 : offs.toList[j]? = some offs.toList[j] := List.getElem?_eq_getElem (by rw [Array.length_toList]; omega)
  have hz : (ts.zip offs.toList)[j]? = some (u, offs.toList[j]) := by
    rw [List.getElem?_zip_eq_some]
    exact ⟨hj, ho1⟩
  have h5 := of_decide_eq_true (List.all_eq_true.mp h4 _ (List.mem_of_getElem? hz))
  rw [hp]
  refine lv_tableIn (tgt := x_pc mi u) (off := offs.toList[j]) h.1.1 h.1.2.1 hd (by omega) (by omega) ?_ h5 k1
  rw [show (x.toInt - lo).toNat = j by omega, ← Array.getElem?_toList]
  exact ho1
theorem wp_lsw {ln : Nat} {d0 : Int} {prs : Array (Int × Int)} {x : Int32} {v off : Int} {t u : Nat} {ts : List Nat} (ho : x_op mi i = some (pc, ln, .lookupswitch d0 prs, nx, a, b, t :: ts)) (hv : x.toInt = v) (hf : Op.lookupswitch.offset prs.toList d0 v = off) (ht : (pc : Int) + off = (x_pc mi u : Int)) (kk : x_WP E d mi u L S M k n mc ms Q) : x_WP E d mi i L (.int x :: S) M k n mc ms Q := by
  intro p l e R s m args below meth c H locs ls D T ex base h
  obtain ⟨hd, hp, -, hI⟩ := x_dc ho
  have k1 := kk p l e R s m args below meth c H locs ls D T ex base h
  simp only [x_ckI, Bool.and_eq_true, decide_eq_true_eq] at hI
  rw [hp]
  subst hv
  exact lv_lookup (tgt := x_pc mi u) h.1.1 h.1.2.1 hd hI.2 hf ht k1
/-! stores into locals -/
theorem x_sto {ln : Nat} {ins : Jvm.ClassFile.Instr} {w : Value} {j0 : Nat} {L' : List Value} (ho : x_op mi i = some (pc, ln, ins, nx, a, b, ps)) (ht : x_term ins = false) (hj0 : j0 < (x_m mi).2.2.1) (hk : x_okst L j0 = true) (hL' : L.set j0 w = L')
    (hs : ∀ (p : Program) (l : Launch) (e : Env) (R : Room) (s : State) (m : MethodId) (args : Array Value) (below : List Frame) (meth : Method) (c : Code) (H : Heap) (locs : List Loc) (ls : Array Slot) (ex : Nat → Value) (base : Nat) (Z : State → Prop), p.tables.exec = Jvm.exec → c.code = (x_m mi).2.1 → decode (x_m mi).2.1 pc = .ok (ins, ln) → x_exr ex → lv_has ls (x_m mi).2.2.1 (x_la ex base (x_m mi).2.2.1 L) →
      (∀ ls', lv_has ls' (x_m mi).2.2.1 ((j0, x_cv ex base w) :: (x_la ex base (x_m mi).2.2.1 L).filter (fun q => !(q.1 == j0) && !(q.1 + 1 == j0 && q.2.category == 2))) → W p l e R s m args below meth c H locs k n Z (F0 m (pc + ln) ls' (S.map (x_cv ex base)))) →
      W p l e R s m args below meth c H locs k n Z (F0 m pc ls ((w :: S).map (x_cv ex base))))
    (kk : x_WP E d mi nx L' S M k n mc ms Q) : x_WP E d mi i L (w :: S) M k n mc ms Q := by
  intro p l e R s m args below meth c H locs ls D T ex base h
  obtain ⟨hd, hp, hn, -⟩ := x_dc ho
  rw [hp]
  refine hs p l e R s m args below meth c H locs ls ex base _ h.1.1 h.1.2.1 hd h.2.2.1.2.2.1 (x_L_has h.2.2.2.2.2) (fun ls' hl' => ?_)
  have hL2 := x_L_st1 h.2.2.1.2.2.1 h.2.2.2.2.2.2.2.1 hj0 hk hl'
  subst hL'
  have k1 := kk p l e R s m args below meth c H locs ls' D T ex base ⟨h.1, h.2.1, h.2.2.1, h.2.2.2.1, h.2.2.2.2.1, hL2⟩
  rw [hn ht] at k1
  exact k1
theorem wp_istore_n {j : Fin 4} {j0 : Nat} {x : Int32} {L' : List Value} (ho : x_op mi i = some (pc, 1, .istore_n j, nx, a, b, ps)) (hj : (j : Nat) = j0) (hj0 : j0 < (x_m mi).2.2.1) (hk : x_okst L j0 = true) (hL : L.set j0 (.int x) = L') (kk : x_WP E d mi nx L' S M k n mc ms Q) : x_WP E d mi i L (.int x :: S) M k n mc ms Q :=
  x_sto ho rfl hj0 hk hL (fun p l e R s m args below meth c H locs ls ex base Z hx hb hd hr h kk => lv_istore_n hx hb hd hj h hj0 rfl kk) kk
theorem wp_astore_nN {j : Fin 4} {j0 : Nat} {L' : List Value} (ho : x_op mi i = some (pc, 1, .astore_n j, nx, a, b, ps)) (hj : (j : Nat) = j0) (hj0 : j0 < (x_m mi).2.2.1) (hk : x_okst L j0 = true) (hL : L.set j0 .null = L') (kk : x_WP E d mi nx L' S M k n mc ms Q) : x_WP E d mi i L (.null :: S) M k n mc ms Q :=
  x_sto ho rfl hj0 hk hL (fun p l e R s m args below meth c H locs ls ex base Z hx hb hd hr h kk => lv_astore_nN hx hb hd hj h hj0 rfl kk) kk
theorem wp_astore_n {j : Fin 4} {j0 : Nat} {r : Nat} {L' : List Value} (ho : x_op mi i = some (pc, 1, .astore_n j, nx, a, b, ps)) (hj : (j : Nat) = j0) (hj0 : j0 < (x_m mi).2.2.1) (hk : x_okst L j0 = true) (hL : L.set j0 (.ref r) = L') (kk : x_WP E d mi nx L' S M k n mc ms Q) : x_WP E d mi i L (.ref r :: S) M k n mc ms Q :=
  x_sto ho rfl hj0 hk hL (fun p l e R s m args below meth c H locs ls ex base Z hx hb hd hr h kk => by
    rw [List.map_cons]
    rcases x_cv_ref (base := base) hr r with ⟨t, e1⟩ | e1
    · rw [e1] at kk ⊢
      exact lv_astore_n hx hb hd hj h hj0 rfl kk
    · rw [e1] at kk ⊢
      exact lv_astore_nN hx hb hd hj h hj0 rfl kk) kk
theorem wp_lstore_n {j : Fin 4} {j0 : Nat} {x : Int64} {L' : List Value} (ho : x_op mi i = some (pc, 1, .lstore_n j, nx, a, b, ps)) (hj : (j : Nat) = j0) (hj0 : j0 + 1 < (x_m mi).2.2.1) (hk : x_okst L j0 = true) (hL : (L.set j0 (.long x)).set (j0 + 1) x_jk = L') (kk : x_WP E d mi nx L' S M k n mc ms Q) : x_WP E d mi i L (.long x :: S) M k n mc ms Q := by
  intro p l e R s m args below meth c H locs ls D T ex base h
  obtain ⟨hd, hp, hn, -⟩ := x_dc ho
  rw [hp]
  refine lv_lstore_n h.1.1 h.1.2.1 hd hj (x_L_has h.2.2.2.2.2) hj0 rfl (fun ls' hl' => ?_)
  have hL2 := x_L_st2 (w := .long x) h.2.2.1.2.2.1 h.2.2.2.2.2.2.2.1 hj0 hk hl'
  subst hL
  have k1 := kk p l e R s m args below meth c H locs ls' D T ex base ⟨h.1, h.2.1, h.2.2.1, h.2.2.2.1, h.2.2.2.2.1, hL2⟩
  rw [hn rfl] at k1
  exact k1
theorem wp_istore {j0 : Nat} {x : Int32} {L' : List Value} (ho : x_op mi i = some (pc, 2, .istore j0, nx, a, b, ps))  (hj0 : j0 < (x_m mi).2.2.1) (hk : x_okst L j0 = true) (hL : L.set j0 (.int x) = L') (kk : x_WP E d mi nx L' S M k n mc ms Q) : x_WP E d mi i L (.int x :: S) M k n mc ms Q :=
  x_sto ho rfl hj0 hk hL (fun p l e R s m args below meth c H locs ls ex base Z hx hb hd hr h kk => lv_istore hx hb hd h hj0 rfl kk) kk
theorem wp_astoreN {j0 : Nat} {L' : List Value} (ho : x_op mi i = some (pc, 2, .astore j0, nx, a, b, ps))  (hj0 : j0 < (x_m mi).2.2.1) (hk : x_okst L j0 = true) (hL : L.set j0 .null = L') (kk : x_WP E d mi nx L' S M k n mc ms Q) : x_WP E d mi i L (.null :: S) M k n mc ms Q :=
  x_sto ho rfl hj0 hk hL (fun p l e R s m args below meth c H locs ls ex base Z hx hb hd hr h kk => lv_astoreN hx hb hd h hj0 rfl kk) kk
theorem wp_astore {j0 : Nat} {r : Nat} {L' : List Value} (ho : x_op mi i = some (pc, 2, .astore j0, nx, a, b, ps))  (hj0 : j0 < (x_m mi).2.2.1) (hk : x_okst L j0 = true) (hL : L.set j0 (.ref r) = L') (kk : x_WP E d mi nx L' S M k n mc ms Q) : x_WP E d mi i L (.ref r :: S) M k n mc ms Q :=
  x_sto ho rfl hj0 hk hL (fun p l e R s m args below meth c H locs ls ex base Z hx hb hd hr h kk => by
    rw [List.map_cons]
    rcases x_cv_ref (base := base) hr r with ⟨t, e1⟩ | e1
    · rw [e1] at kk ⊢
      exact lv_astore hx hb hd h hj0 rfl kk
    · rw [e1] at kk ⊢
      exact lv_astoreN hx hb hd h hj0 rfl kk) kk
theorem wp_lstore {j0 : Nat} {x : Int64} {L' : List Value} (ho : x_op mi i = some (pc, 2, .lstore j0, nx, a, b, ps))  (hj0 : j0 + 1 < (x_m mi).2.2.1) (hk : x_okst L j0 = true) (hL : (L.set j0 (.long x)).set (j0 + 1) x_jk = L') (kk : x_WP E d mi nx L' S M k n mc ms Q) : x_WP E d mi i L (.long x :: S) M k n mc ms Q := by
  intro p l e R s m args below meth c H locs ls D T ex base h
  obtain ⟨hd, hp, hn, -⟩ := x_dc ho
  rw [hp]
  refine lv_lstore h.1.1 h.1.2.1 hd (x_L_has h.2.2.2.2.2) hj0 rfl (fun ls' hl' => ?_)
  have hL2 := x_L_st2 (w := .long x) h.2.2.1.2.2.1 h.2.2.2.2.2.2.2.1 hj0 hk hl'
  subst hL
  have k1 := kk p l e R s m args below meth c H locs ls' D T ex base ⟨h.1, h.2.1, h.2.2.1, h.2.2.2.1, h.2.2.2.2.1, hL2⟩
  rw [hn rfl] at k1
  exact k1
theorem wp_iinc {j0 : Nat} {z : Int} {x v : Int32} {L' : List Value} (ho : x_op mi i = some (pc, 3, .iinc j0 z, nx, a, b, ps)) (hl : L[j0]? = some (.int x)) (hv : x + Int32.ofInt z = v) (hk : x_okst L j0 = true) (hL : L.set j0 (.int v) = L') (kk : x_WP E d mi nx L' S M k n mc ms Q) : x_WP E d mi i L S M k n mc ms Q := by
  intro p l e R s m args below meth c H locs ls D T ex base h
  obtain ⟨hd, hp, hn, -⟩ := x_dc ho
  rw [hp]
  have hln := h.2.2.2.2.2.2.2.1
  have hj0 : j0 < (x_m mi).2.2.1 := by
    have := (List.getElem?_eq_some_iff.mp hl).1
    omega
  have hm : (j0, Value.int x) ∈ x_la ex base (x_m mi).2.2.1 L := (x_la_mem hln).mpr ⟨.int x, hl, (fun e => by cases e), rfl⟩
  obtain ⟨k0, hk0⟩ := List.getElem?_of_mem hm
  refine lv_iinc h.1.1 h.1.2.1 hd (x_L_has h.2.2.2.2.2) hk0 hv hj0 rfl (fun ls' hl' => ?_)
  have hL2 := x_L_st1 (w := .int v) h.2.2.1.2.2.1 hln hj0 hk hl'
  subst hL
  have k1 := kk p l e R s m args below meth c H locs ls' D T ex base ⟨h.1, h.2.1, h.2.2.1, h.2.2.2.1, h.2.2.2.2.1, hL2⟩
  rw [hn rfl] at k1
  exact k1
end XB
end
section
/-! ===== memory ===== -/
def x_kd (M : XM) (q : Nat) : Option (Nat × Nat) := if q < 64 then none else M.1[q - 64]?
def x_up {α : Type} (f : Nat → Nat → α) (q k : Nat) (x : α) : Nat → Nat → α := fun i j => if i = q ∧ j = k then x else f i j
def x_fin (a b : Nat) : Bool := match vwCl[a]? with
  | some r => (r.2.1 b).2.2.2
  | none => true
theorem x_inG {ws : List Jvm.Cond} (h : ∀ w ∈ ws, w ∈ lw_tbl) (hg : ws.all goodWord = true) : ∀ w ∈ ws, w ∈ x_gt := fun w hw => List.mem_filter.mpr ⟨h w hw, List.all_eq_true.mp hg w hw⟩
theorem x_inA {a : Nat} {r : vw_C} (h : vwCl[a]? = some r) : ∀ w ∈ u_ws r.1 r.2.1 r.2.2, w ∈ x_gt := by
  match a, h with
  | 0, h => cases h; exact x_inG x_in0 (by decide +kernel)
  | 1, h => cases h; exact x_inG x_in1 (by decide +kernel)
  | 2, h => cases h; exact x_inG x_in2 (by decide +kernel)
  | 3, h => cases h; exact x_inG x_in3 (by decide +kernel)
  | 4, h => cases h; exact x_inG x_in4 (by decide +kernel)
  | 5, h => cases h; exact x_inG x_in5 (by decide +kernel)
  | 6, h => cases h; exact x_inG x_in6 (by decide +kernel)
  | 7, h => cases h; exact x_inG x_in7 (by decide +kernel)
  | 8, h => cases h; exact x_inG x_in8 (by decide +kernel)
  | a + 9, h => simp [vwCl] at h
theorem x_tyA {a : Nat} {r : vw_C} (h : vwCl[a]? = some r) : ∀ k, k < r.2.2 → parseFieldDescriptor (r.2.1 k).2.2.1 = some (x_tyt a k) := by
  match a, h with
  | 0, h => cases h; exact tyX0_ok
  | 1, h => cases h; exact tyX1_ok
  | 2, h => cases h; exact tyX2_ok
  | 3, h => cases h; exact tyX3_ok
  | 4, h => cases h; exact tyX4_ok
  | 5, h => cases h; exact tyX5_ok
  | 6, h => cases h; exact tyX6_ok
  | 7, h => cases h; exact tyX7_ok
  | 8, h => cases h; exact tyX8_ok
  | a + 9, h => simp [vwCl] at h
theorem x_nmA {a : Nat} {r : vw_C} (h : vwCl[a]? = some r) : ∀ x, x < r.2.2 → ∀ y, y < r.2.2 → x ≠ y → (r.2.1 x).2.1 ≠ (r.2.1 y).2.1 := by
  match a, h with
  | 0, h => cases h; exact nmX0
  | 1, h => cases h; exact nmX1
  | 2, h => cases h; exact nmX2
  | 3, h => cases h; exact nmX3
  | 4, h => cases h; exact nmX4
  | 5, h => cases h; exact nmX5
  | 6, h => cases h; exact nmX6
  | 7, h => cases h; exact nmX7
  | 8, h => cases h; exact nmX8
  | a + 9, h => simp [vwCl] at h
theorem x_ckF_spec {own : String} {idx a b : Nat} {ps : List Nat} {C : String} {T : u_T} {N : Nat} (h : x_ckF own idx a b ps = true) (hr : vwCl[a]? = some (C, T, N)) :
    b < N ∧ Jvm.Cond.fieldLink own idx C (T b).2.1 (T b).2.2.1 ∈ x_gt ∧ (T b).1 = C := by
  unfold x_ckF at h
  rw [hr] at h
  split at h
  · rename_i C' T' N' p heq
    cases heq
    simp only [Bool.and_eq_true, decide_eq_true_eq] at h
    exact ⟨h.1.1, x_w_in h.1.2, h.2⟩
  · cases h
section XM1
variable {D : va_G} {T : Nat → ClassId} {ex : Nat → Value} {base : Nat} {M M' : XM} {H H' : Heap}
theorem x_kd_lt {q : Nat} {p : Nat × Nat} (h : x_kd M q = some p) : ¬ q < 64 ∧ M.1[q - 64]? = some p := by
  unfold x_kd at h
  split at h
  · cases h
  · exact ⟨by assumption, h⟩
theorem x_obj {q a N : Nat} (hW : x_World D T ex base M H) (hq : x_kd M q = some (a, N)) (ha : a < 9) :
    ∃ r : vw_C, vwCl[a]? = some r ∧ N = r.2.2 ∧ t_OB (base + (q - 64)) (D.1 a) N (D.2 a) H (x_v ex base M (a, N) q) := by
  obtain ⟨h1, h2⟩ := x_kd_lt hq
  have h3 := hW.2 _ _ h2
  unfold x_at at h3
  rw [if_pos (by show a < 100; omega), show 64 + (q - 64) = q by omega] at h3
  exact h3
theorem x_arr {q a N : Nat} (hW : x_World D T ex base M H) (hq : x_kd M q = some (a, N)) (ha : 100 ≤ a) : H[base + (q - 64)]? = some (arrV (T a) N (x_v ex base M (a, N) q)) := by
  obtain ⟨h1, h2⟩ := x_kd_lt hq
  have h3 := hW.2 _ _ h2
  unfold x_at at h3
  rw [if_neg (by show ¬ a < 100; omega), show 64 + (q - 64) = q by omega] at h3
  exact h3
theorem x_at_kept {j : Nat} {p : Nat × Nat} (h : x_at D T ex base M H j p) (hH : H'[base + j]? = H[base + j]?) (hv : ∀ k, x_v ex base M' p (64 + j) k = x_v ex base M p (64 + j) k) : x_at D T ex base M' H' j p := by
  have e : x_v ex base M' p (64 + j) = x_v ex base M p (64 + j) := funext hv
  unfold x_at at h ⊢
  rw [e]
  split at h
  · rename_i hlt
    rw [if_pos hlt]
    obtain ⟨r, h1, h2, h3⟩ := h
    exact ⟨r, h1, h2, h3.kept hH⟩
  · rename_i hlt
    rw [if_neg hlt, hH]
    exact h
theorem x_World_put {q : Nat} {p : Nat × Nat} (hW : x_World D T ex base M H) (hq : x_kd M q = some p) (hG : M'.1 = M.1) (hsz : H'.size = H.size) (ho : ∀ z : Nat, z ≠ base + (q - 64) → H'[z]? = H[z]?)
    (hv : ∀ p' i k, i ≠ q → x_v ex base M' p' i k = x_v ex base M p' i k) (hat : x_at D T ex base M' H' (q - 64) p) : x_World D T ex base M' H' := by
  obtain ⟨h1, h2⟩ := x_kd_lt hq
  refine ⟨by rw [hsz, hG]; exact hW.1, fun j p' hj => ?_⟩
  rw [hG] at hj
  by_cases hjq : j = q - 64
  · subst hjq
    cases h2.symm.trans hj
    exact hat
  · exact x_at_kept (hW.2 j p' hj) (ho _ (by omega)) (fun k => hv p' _ k (by omega))
theorem x_vI {q k0 : Nat} {x : Int32} {p : Nat × Nat} {i k : Nat} (h : ¬ (i = q ∧ k = k0)) : x_v ex base (M.1, M.2.1, x_up M.2.2 q k0 x) p i k = x_v ex base M p i k := by
  unfold x_v x_up
  simp only [if_neg h]
theorem x_vR {q k0 : Nat} {x : Value} {p : Nat × Nat} {i k : Nat} (h : ¬ (i = q ∧ k = k0)) : x_v ex base (M.1, x_up M.2.1 q k0 x, M.2.2) p i k = x_v ex base M p i k := by
  unfold x_v x_up
  simp only [if_neg h]
end XM1
def x_fit (ty : FieldType) (x : Int32) : Prop := narrow ty (.int x) = .int x ∧ fits ty (.int x) = true
theorem x_fit_int (x : Int32) : x_fit .int x := ⟨rfl, rfl⟩
theorem x_fit_b0 : x_fit .boolean 0 := ⟨rfl, rfl⟩
theorem x_fit_b1 : x_fit .boolean 1 := ⟨rfl, rfl⟩
section XO1
variable {E : XE} {d mi i k n mc ms nx a b pc : Nat} {ps : List Nat} {L S : List Value} {M : XM} {Q : Option Value → XM → Prop}
theorem x_getf {idx q N : Nat} (ho : x_op mi i = some (pc, 3, .getfield idx, nx, a, b, ps)) (ha : a < 9) (hq : x_kd M q = some (a, N))
    {v : Value} (hv : ∀ ex base, x_v ex base M (a, N) q b = x_cv ex base v) (kk : x_WP E d mi nx L (v :: S) M k n mc ms Q) : x_WP E d mi i L (.ref q :: S) M k n mc ms Q := by
  intro p l e R s m args below meth c H locs ls D T ex base h
  obtain ⟨hd, hp, hn, hI⟩ := x_dc ho
  have k1 := kk p l e R s m args below meth c H locs ls D T ex base h
  rw [hn rfl] at k1
  rw [hp, List.map_cons, x_cv_m (x_kd_lt hq).1]
  obtain ⟨⟨hx, hb, hml, hown, hts⟩, -, ⟨hbs, hK, hE⟩, hW, hS, hL⟩ := h
  obtain ⟨⟨C, TF, N0⟩, hr, hN, cell, q1, q2, q3, q4⟩ := x_obj hW hq ha
  dsimp only at hN
  subst hN
  have hI2 : x_ckF (x_m mi).1.cls idx a b ps = true := by
    simp only [x_ckI, if_pos ha] at hI
    exact hI
  obtain ⟨hbN, hlink, hown2⟩ := x_ckF_spec hI2 hr
  obtain ⟨hSl, hfc, kC, hkC, hkind⟩ := hK.1 a _ hr
  obtain ⟨cf, kf, fi, f, hi, hsl⟩ := hSl b hbN
  have hst := (u_facts hfc hkC (u_lays hts (x_inA hr) hbN) hi).1
  dsimp only at hi
  rw [hown2] at hi
  refine W.getf (v := x_cv ex base v) hx hb hown (hts _ hlink) hi hst q1 (by rw [q3]; exact fun h => by cases h) ?_ rfl rfl hd k1
  rw [hsl, q4 b hbN, hv]
theorem wp_getI {idx q N : Nat} (ho : x_op mi i = some (pc, 3, .getfield idx, nx, a, b, ps)) (ha : a < 9) (hq : x_kd M q = some (a, N)) (hR : x_isR a b = false) (kk : x_WP E d mi nx L (.int (M.2.2 q b) :: S) M k n mc ms Q) : x_WP E d mi i L (.ref q :: S) M k n mc ms Q :=
  x_getf ho ha hq (v := .int (M.2.2 q b)) (fun ex base => by
    unfold x_v
    rw [if_neg (by show ¬ (a = 103 ∨ (a < 100 ∧ x_isR a b = true)); rw [hR]; rintro (h | ⟨-, h⟩); (· omega); (· cases h))]
    rfl) kk
theorem wp_getR {idx q N : Nat} {v : Value} (ho : x_op mi i = some (pc, 3, .getfield idx, nx, a, b, ps)) (ha : a < 9) (hq : x_kd M q = some (a, N)) (hR : x_isR a b = true) (hv : M.2.1 q b = v) (kk : x_WP E d mi nx L (v :: S) M k n mc ms Q) : x_WP E d mi i L (.ref q :: S) M k n mc ms Q :=
  x_getf ho ha hq (fun ex base => by
    unfold x_v
    rw [if_pos (by show a = 103 ∨ (a < 100 ∧ x_isR a b = true); exact Or.inr ⟨by omega, hR⟩), hv]) kk
/-- putfield, at the level of the heap -/
theorem x_putf {idx q N : Nat} {v : Value} {M' : XM} (ho : x_op mi i = some (pc, 3, .putfield idx, nx, a, b, ps)) (ha : a < 9) (hq : x_kd M q = some (a, N)) (hfin : x_fin a b = false ∨ ((x_m mi).1.name = "<init>" ∧ (vwCl[a]?).map (fun r => r.1) = some (x_m mi).1.cls))
    (hfit : ∀ ex base, x_exr ex → narrow (x_ty a b) (x_cv ex base v) = x_cv ex base v ∧ fits (x_ty a b) (x_cv ex base v) = true)
    (hG : M'.1 = M.1) (hv1 : ∀ ex base, x_v ex base M' (a, N) q b = x_cv ex base v) (hv2 : ∀ ex base p' i' k', ¬ (i' = q ∧ k' = b) → x_v ex base M' p' i' k' = x_v ex base M p' i' k')
    (kk : x_WP E d mi nx L S M' k n mc ms Q) : x_WP E d mi i L (v :: .ref q :: S) M k n mc ms Q := by
  intro p l e R s m args below meth c H locs ls D T ex base h
  obtain ⟨hd, hp, hn, hI⟩ := x_dc ho
  rw [hp, List.map_cons, List.map_cons, x_cv_m (x_kd_lt hq).1]
  have h0 := h
  obtain ⟨⟨hx, hb, hml, hown, hts⟩, ⟨-, -, hnm, -⟩, ⟨hbs, hK, hE⟩, hW, hS, hL⟩ := h
  obtain ⟨⟨C, TF, N0⟩, hr, hN, cell, q1, q2, q3, q4⟩ := x_obj hW hq ha
  dsimp only at hN
  subst hN
  have hI2 : x_ckF (x_m mi).1.cls idx a b ps = true := hI
  obtain ⟨hbN, hlink, hown2⟩ := x_ckF_spec hI2 hr
  have hKa := hK.1 a _ hr
  obtain ⟨hSl, hfc, kC, hkC, hkind⟩ := hKa
  obtain ⟨cf, kf, fi, f, hi, hsl⟩ := hSl b hbN
  have hlays := u_lays hts (x_inA hr) hbN
  have hst := (u_facts hfc hkC hlays hi).1
  obtain ⟨hft1, hft2⟩ := hfit ex base hE.1
  have hty := x_tyA hr b hbN
  have hlay := hts _ (x_inA hr _ (u_in_lay hbN))
  dsimp only at hlay hty hi hlays hSl
  have hap := va_apart (own := (x_m mi).1.cls) hts (x_inA hr) (x_tyt a) (x_tyA hr) (x_nmA hr) hK hr
  have hi' := hi
  rw [hown2] at hi'
  have hend : ∀ (H' : Heap) (locs1 : List Loc), H'[base + (q - 64)]? = some (cell.setSlot f.slot (x_cv ex base v)) → H'.size = H.size → (∀ z, z ≠ base + (q - 64) → H'[z]? = H[z]?) → locs1 = locs ++ [⟨base + (q - 64), f.slot⟩] →
      W p l e R s m args below meth c H' locs1 k n (MQ below (x_Qc D T ex base Q) args s mc ms (x_A base)) (F0 m (pc + 3) ls (List.map (x_cv ex base) S)) := by
    intro H' locs1 e1 e2 e3 e4
    have hW' : x_World D T ex base M' H' := by
      refine x_World_put hW hq hG e2 e3 (fun p' i' k' hne => hv2 ex base p' i' k' (fun z => hne z.1)) ?_
      unfold x_at
      rw [if_pos (by show a < 100; omega), show 64 + (q - 64) = q by have := (x_kd_lt hq).1; omega]
      refine ⟨_, hr, rfl, t_OB.to (V := updV (x_v ex base M (a, N) q) b (x_cv ex base v)) ⟨_, e1, q2, q3, ?_⟩ (fun j hj => ?_)⟩
      · rw [hsl]
        exact t_set q4 hap hbN _
      · by_cases hjb : j = b
        · subst hjb
          rw [hv1]
          simp [updV]
        · rw [hv2 ex base _ _ _ (fun z => hjb z.2)]
          simp [updV, hjb]
    have k1 := kk p l e R s m args below meth c H' locs1 ls D T ex base ⟨h0.1, h0.2.1, h0.2.2.1, hW', by rw [e4]; exact hS.put e2 e3 (by show base ≤ _; omega), hL⟩
    rw [hn rfl] at k1
    exact k1
  unfold u_lay at hlay
  by_cases hf : (TF b).2.2.2 = true
  · have hinit : (x_m mi).1.name = "<init>" ∧ (vwCl[a]?).map (fun r => r.1) = some (x_m mi).1.cls := by
      rcases hfin with hfin | hfin
      · unfold x_fin at hfin
        rw [hr] at hfin
        dsimp only at hfin
        rw [hf] at hfin
        cases hfin
      · exact hfin
    rw [if_pos hf] at hlay
    have hcf : m.cls = cf := by
      obtain ⟨c0, _, c', _, _, _, g1, -, hf', -, -, -, hown3, -⟩ := Cond.laysFinal_spec hlay
      have e1 : c' = cf := by have := hi.symm.trans hf'; simp at this; exact this.1.symm
      rw [hown2] at hown3
      have hco : C = (x_m mi).1.cls := by
        have := hinit.2
        rw [hr] at this
        exact Option.some.inj this
      rw [hco] at hown3
      rw [← e1]; exact Option.some.inj (hown.symm.trans hown3)
    have h6 := u_fits hfc hkC hkind (Or.inr hlay) hi hty hft1 hft2
    exact W.putFinK hx hb hown (hts _ hlink) hi' hst hcf (hnm.trans hinit.1) (by rw [q2]; exact h6) q1 q3 (by rw [hsl]; exact k2_hasslot (q4 b hbN)) rfl rfl hd (fun H' e1 e2 e3 => hend H' _ e1 e2 e3 rfl)
  · rw [if_neg hf] at hlay
    have h6 := u_store hfc hkC hkind hlay hi hty hft1 hft2
    exact W.putK hx hb (f := f) ⟨hown, hts _ hlink, ⟨_, _, _, hi'⟩, hst⟩ (by rw [q2]; exact h6) q1 q3 (by rw [hsl]; exact k2_hasslot (q4 b hbN)) rfl rfl hd (fun H' e1 e2 e3 => hend H' _ e1 e2 e3 rfl)
theorem wp_putI {idx q N : Nat} {x : Int32} (ho : x_op mi i = some (pc, 3, .putfield idx, nx, a, b, ps)) (ha : a < 9) (hq : x_kd M q = some (a, N)) (hR : x_isR a b = false) (hfin : x_fin a b = false) (hfit : x_fit (x_ty a b) x)
    (kk : x_WP E d mi nx L S (M.1, M.2.1, x_up M.2.2 q b x) k n mc ms Q) : x_WP E d mi i L (.int x :: .ref q :: S) M k n mc ms Q :=
  x_putf (v := .int x) (M' := (M.1, M.2.1, x_up M.2.2 q b x)) ho ha hq (Or.inl hfin) (fun ex base _ => hfit) rfl (fun ex base => by
    unfold x_v
    rw [if_neg (by show ¬ (a = 103 ∨ (a < 100 ∧ x_isR a b = true)); rw [hR]; rintro (h | ⟨-, h⟩); (· omega); (· cases h))]
    simp [x_up, x_cv]) (fun ex base p' i' k' h => x_vI h) kk
theorem wp_putR {idx q N r : Nat} (ho : x_op mi i = some (pc, 3, .putfield idx, nx, a, b, ps)) (ha : a < 9) (hq : x_kd M q = some (a, N)) (hr : ¬ r < 64) (hR : x_isR a b = true) (hfin : x_fin a b = false ∨ ((x_m mi).1.name = "<init>" ∧ (vwCl[a]?).map (fun r => r.1) = some (x_m mi).1.cls))
    (kk : x_WP E d mi nx L S (M.1, x_up M.2.1 q b (.ref r), M.2.2) k n mc ms Q) : x_WP E d mi i L (.ref r :: .ref q :: S) M k n mc ms Q :=
  x_putf (v := .ref r) (M' := (M.1, x_up M.2.1 q b (.ref r), M.2.2)) ho ha hq hfin (fun ex base _ => by
    rw [x_cv_m hr]
    unfold x_isR at hR
    cases hty : x_ty a b <;> rw [hty] at hR <;> first | exact ⟨rfl, rfl⟩ | cases hR) rfl (fun ex base => by
    unfold x_v
    rw [if_pos (by show a = 103 ∨ (a < 100 ∧ x_isR a b = true); exact Or.inr ⟨by omega, hR⟩)]
    simp [x_up]) (fun ex base p' i' k' h => x_vR h) kk
/-! arrays -/
theorem x_arrT {E : XE} {p : Program} {R : Room} {s : State} {m : MethodId} {args : Array Value} {meth : Method} {c : Code} {H : Heap} {locs : List Loc} {ls : Array Slot} {D : va_G} {T : Nat → ClassId} {ex : Nat → Value} {base : Nat}
    (h : x_Mh E d mi L M mc ms p R s m args meth c H locs ls D T ex base) : ArrOfT s (T 100) .int ∧ ArrOfT s (T 101) .byte ∧ ArrOfT s (T 102) .boolean ∧ ArrOfT s (T 103) (.object "StarchedCollars$Man") :=
  have hK := h.2.2.1.2.1
  ⟨(hK.2 0 _ rfl).1, (hK.2 1 _ rfl).1, (hK.2 2 _ rfl).1, (hK.2 3 _ rfl).1⟩
theorem x_vi {ex : Nat → Value} {base : Nat} {kd N q k0 : Nat} (h : 100 ≤ kd) (h2 : ¬ kd = 103) : x_v ex base M (kd, N) q k0 = .int (M.2.2 q k0) := by
  unfold x_v
  rw [if_neg]
  rintro (h3 | ⟨h3, -⟩)
  · exact h2 h3
  · exact absurd h3 (by show ¬ kd < 100; omega)
theorem wp_iald {q N : Nat} {j : Int32} (ho : x_op mi i = some (pc, 1, .iaload, nx, a, b, ps)) (hq : x_kd M q = some (100, N)) (hin : vp_in j N) (kk : x_WP E d mi nx L (.int (M.2.2 q j.toNatClampNeg) :: S) M k n mc ms Q) : x_WP E d mi i L (.int j :: .ref q :: S) M k n mc ms Q :=
  x_stk (S' := .int (M.2.2 q j.toNatClampNeg) :: S) ho rfl (fun p l e R s m args below meth c H locs ls D T ex base Z h hx hb hd k1 => by
    rw [List.map_cons, List.map_cons, x_cv_m (x_kd_lt hq).1]
    have hlt : j.toNatClampNeg < N := Nat.not_le.mp fun z => hin (Or.inr z)
    refine W.iald (v := .int (M.2.2 q j.toNatClampNeg)) hx hb (x_arr h.2.2.2.1 hq (Nat.le_refl _)) ((x_arrT h).1 _ _) (fun z => by cases z) (by rw [arrV_size]; exact hin) ?_ rfl rfl hd k1
    rw [arrV_read _ _ hlt, x_vi (Nat.le_refl _) (by decide)]) kk
theorem wp_bald {q N : Nat} {j : Int32} (ho : x_op mi i = some (pc, 1, .baload, nx, a, b, ps)) (hq : x_kd M q = some (101, N)) (hin : vp_in j N) (kk : x_WP E d mi nx L (.int (M.2.2 q j.toNatClampNeg) :: S) M k n mc ms Q) : x_WP E d mi i L (.int j :: .ref q :: S) M k n mc ms Q :=
  x_stk (S' := .int (M.2.2 q j.toNatClampNeg) :: S) ho rfl (fun p l e R s m args below meth c H locs ls D T ex base Z h hx hb hd k1 => by
    rw [List.map_cons, List.map_cons, x_cv_m (x_kd_lt hq).1]
    have hlt : j.toNatClampNeg < N := Nat.not_le.mp fun z => hin (Or.inr z)
    refine W.bald (v := .int (M.2.2 q j.toNatClampNeg)) hx hb (x_arr h.2.2.2.1 hq (by decide)) ((x_arrT h).2.1 _ _) (fun z => by cases z) (by rw [arrV_size]; exact hin) ?_ rfl rfl hd k1
    rw [arrV_read _ _ hlt, x_vi (by decide) (by decide)]) kk
theorem wp_zald {q N : Nat} {j : Int32} (ho : x_op mi i = some (pc, 1, .baload, nx, a, b, ps)) (hq : x_kd M q = some (102, N)) (hin : vp_in j N) (kk : x_WP E d mi nx L (.int (M.2.2 q j.toNatClampNeg) :: S) M k n mc ms Q) : x_WP E d mi i L (.int j :: .ref q :: S) M k n mc ms Q :=
  x_stk (S' := .int (M.2.2 q j.toNatClampNeg) :: S) ho rfl (fun p l e R s m args below meth c H locs ls D T ex base Z h hx hb hd k1 => by
    rw [List.map_cons, List.map_cons, x_cv_m (x_kd_lt hq).1]
    have hlt : j.toNatClampNeg < N := Nat.not_le.mp fun z => hin (Or.inr z)
    refine W.zald (v := .int (M.2.2 q j.toNatClampNeg)) hx hb (x_arr h.2.2.2.1 hq (by decide)) ((x_arrT h).2.2.1 _ _) (fun z => by cases z) (by rw [arrV_size]; exact hin) ?_ rfl rfl hd k1
    rw [arrV_read _ _ hlt, x_vi (by decide) (by decide)]) kk
theorem wp_aald {q N : Nat} {j : Int32} {v : Value} (ho : x_op mi i = some (pc, 1, .aaload, nx, a, b, ps)) (hq : x_kd M q = some (103, N)) (hin : vp_in j N) (hv : M.2.1 q j.toNatClampNeg = v) (kk : x_WP E d mi nx L (v :: S) M k n mc ms Q) : x_WP E d mi i L (.int j :: .ref q :: S) M k n mc ms Q :=
  x_stk (S' := v :: S) ho rfl (fun p l e R s m args below meth c H locs ls D T ex base Z h hx hb hd k1 => by
    rw [List.map_cons, List.map_cons, x_cv_m (x_kd_lt hq).1]
    have hlt : j.toNatClampNeg < N := Nat.not_le.mp fun z => hin (Or.inr z)
    refine W.aald (v := x_cv ex base v) (ty := .object "StarchedCollars$Man") hx hb (x_arr h.2.2.2.1 hq (by decide)) ((x_arrT h).2.2.2 _ _) rfl (fun z => by cases z) (by rw [arrV_size]; exact hin) ?_ rfl rfl hd k1
    rw [arrV_read _ _ hlt]
    unfold x_v
    rw [if_pos (Or.inl rfl), hv]) kk
theorem wp_alen {q kd N : Nat} {v : Int32} (ho : x_op mi i = some (pc, 1, .arraylength, nx, a, b, ps)) (hq : x_kd M q = some (kd, N)) (hkd : 100 ≤ kd ∧ kd ≤ 103) (hv : Int32.ofNat N = v) (kk : x_WP E d mi nx L (.int v :: S) M k n mc ms Q) : x_WP E d mi i L (.ref q :: S) M k n mc ms Q :=
  x_stk (S' := .int v :: S) ho rfl (fun p l e R s m args below meth c H locs ls D T ex base Z h hx hb hd k1 => by
    rw [List.map_cons, x_cv_m (x_kd_lt hq).1]
    obtain ⟨h0, h1, h2, h3⟩ := x_arrT h
    have hA : ∃ ty, ArrOfT s (T kd) ty := by
      rcases (show kd = 100 ∨ kd = 101 ∨ kd = 102 ∨ kd = 103 by omega) with rfl | rfl | rfl | rfl
      · exact ⟨_, h0⟩
      · exact ⟨_, h1⟩
      · exact ⟨_, h2⟩
      · exact ⟨_, h3⟩
    obtain ⟨ty, hA⟩ := hA
    exact W.alen (n := v) hx hb (x_arr h.2.2.2.1 hq hkd.1) (hA _ _) (by rw [arrV_size]; exact hv) rfl rfl hd k1) kk
/-- a store into an array, at the level of the heap -/
theorem x_ast {ins : Jvm.ClassFile.Instr} {q kd N : Nat} {j : Int32} {v w : Value} {M' : XM} (ho : x_op mi i = some (pc, 1, ins, nx, a, b, ps)) (ht : x_term ins = false) (hq : x_kd M q = some (kd, N)) (hkd : 100 ≤ kd) (hin : vp_in j N)
    (hG : M'.1 = M.1) (hv1 : ∀ ex base, x_v ex base M' (kd, N) q j.toNatClampNeg = x_cv ex base w) (hv2 : ∀ ex base p' i' k', ¬ (i' = q ∧ k' = j.toNatClampNeg) → x_v ex base M' p' i' k' = x_v ex base M p' i' k')
    (hs : ∀ (p : Program) (l : Launch) (e : Env) (R : Room) (s : State) (m : MethodId) (args : Array Value) (below : List Frame) (meth : Method) (c : Code) (H : Heap) (locs : List Loc) (ls : Array Slot) (D : va_G) (T : Nat → ClassId) (ex : Nat → Value) (base : Nat) (Z : State → Prop),
      x_Mh E d mi L M mc ms p R s m args meth c H locs ls D T ex base → p.tables.exec = Jvm.exec → c.code = (x_m mi).2.1 → decode (x_m mi).2.1 pc = .ok (ins, 1) → H[base + (q - 64)]? = some (arrV (T kd) N (x_v ex base M (kd, N) q)) →
      (∀ H' : Heap, H'[base + (q - 64)]? = some ((arrV (T kd) N (x_v ex base M (kd, N) q)).setSlot j.toNatClampNeg (x_cv ex base w)) → H'.size = H.size → (∀ z, z ≠ base + (q - 64) → H'[z]? = H[z]?) → W p l e R s m args below meth c H' (locs ++ [⟨base + (q - 64), j.toNatClampNeg⟩]) k n Z (F0 m (pc + 1) ls (S.map (x_cv ex base)))) →
      W p l e R s m args below meth c H locs k n Z (F0 m pc ls (x_cv ex base v :: .int j :: .ref (base + (q - 64)) :: S.map (x_cv ex base))))
    (kk : x_WP E d mi nx L S M' k n mc ms Q) : x_WP E d mi i L (v :: .int j :: .ref q :: S) M k n mc ms Q := by
  intro p l e R s m args below meth c H locs ls D T ex base h
  obtain ⟨hd, hp, hn, -⟩ := x_dc ho
  rw [hp, List.map_cons, List.map_cons, List.map_cons, x_cv_m (x_kd_lt hq).1]
  refine hs p l e R s m args below meth c H locs ls D T ex base _ h h.1.1 h.1.2.1 hd (x_arr h.2.2.2.1 hq hkd) (fun H' e1 e2 e3 => ?_)
  have hW' : x_World D T ex base M' H' := by
    refine x_World_put h.2.2.2.1 hq hG e2 e3 (fun p' i' k' hne => hv2 ex base p' i' k' (fun z => hne z.1)) ?_
    unfold x_at
    rw [if_neg (by show ¬ kd < 100; omega), show 64 + (q - 64) = q by have := (x_kd_lt hq).1; omega, e1, arrV_store]
    congr 2
    funext z
    by_cases hz : z = j.toNatClampNeg
    · subst hz
      rw [hv1]
      simp [updV]
    · rw [hv2 ex base _ _ _ (fun y => hz y.2)]
      simp [updV, hz]
  have k1 := kk p l e R s m args below meth c H' _ ls D T ex base ⟨h.1, h.2.1, h.2.2.1, hW', h.2.2.2.2.1.put (k := j.toNatClampNeg) e2 e3 (by show base ≤ _; omega), h.2.2.2.2.2⟩
  rw [hn ht] at k1
  exact k1
theorem x_vi1 {ex : Nat → Value} {base : Nat} {kd N q k0 : Nat} {x : Int32} (h : 100 ≤ kd) (h2 : ¬ kd = 103) : x_v ex base (M.1, M.2.1, x_up M.2.2 q k0 x) (kd, N) q k0 = .int x := by
  rw [x_vi h h2]
  simp [x_up]
theorem wp_iast {q N : Nat} {j x : Int32} (ho : x_op mi i = some (pc, 1, .iastore, nx, a, b, ps)) (hq : x_kd M q = some (100, N)) (hin : vp_in j N) (kk : x_WP E d mi nx L S (M.1, M.2.1, x_up M.2.2 q j.toNatClampNeg x) k n mc ms Q) : x_WP E d mi i L (.int x :: .int j :: .ref q :: S) M k n mc ms Q :=
  x_ast (w := .int x) (M' := (M.1, M.2.1, x_up M.2.2 q j.toNatClampNeg x)) ho rfl hq (by decide) hin rfl (fun ex base => x_vi1 (by decide) (by decide)) (fun ex base p' i' k' h => x_vI h) (fun p l e R s m args below meth c H locs ls D T ex base Z h hx hb hd hc k1 =>
    W.iast hx hb hc ((x_arrT h).1 _ _) (fun z => by cases z) (by rw [arrV_size]; exact hin) rfl rfl hd k1) kk
theorem wp_bast {q N : Nat} {j x : Int32} (ho : x_op mi i = some (pc, 1, .bastore, nx, a, b, ps)) (hq : x_kd M q = some (101, N)) (hin : vp_in j N) (kk : x_WP E d mi nx L S (M.1, M.2.1, x_up M.2.2 q j.toNatClampNeg x.toInt8.toInt32) k n mc ms Q) : x_WP E d mi i L (.int x :: .int j :: .ref q :: S) M k n mc ms Q :=
  x_ast (w := .int x.toInt8.toInt32) (M' := (M.1, M.2.1, x_up M.2.2 q j.toNatClampNeg x.toInt8.toInt32)) ho rfl hq (by decide) hin rfl (fun ex base => x_vi1 (by decide) (by decide)) (fun ex base p' i' k' h => x_vI h) (fun p l e R s m args below meth c H locs ls D T ex base Z h hx hb hd hc k1 =>
    W.bast hx hb hc ((x_arrT h).2.1 _ _) (fun z => by cases z) (by rw [arrV_size]; exact hin) rfl rfl hd k1) kk
theorem wp_zast {q N : Nat} {j x : Int32} (ho : x_op mi i = some (pc, 1, .bastore, nx, a, b, ps)) (hq : x_kd M q = some (102, N)) (hin : vp_in j N) (hx1 : narrow .boolean (.int x) = .int x) (kk : x_WP E d mi nx L S (M.1, M.2.1, x_up M.2.2 q j.toNatClampNeg x) k n mc ms Q) : x_WP E d mi i L (.int x :: .int j :: .ref q :: S) M k n mc ms Q :=
  x_ast (w := .int x) (M' := (M.1, M.2.1, x_up M.2.2 q j.toNatClampNeg x)) ho rfl hq (by decide) hin rfl (fun ex base => x_vi1 (by decide) (by decide)) (fun ex base p' i' k' h => x_vI h) (fun p l e R s m args below meth c H locs ls D T ex base Z h hx hb hd hc k1 =>
    W.zast hx hb hc ((x_arrT h).2.2.1 _ _) (fun z => by cases z) (by rw [arrV_size]; exact hin) rfl rfl hd (fun H' e1 => k1 H' (by rw [e1, hx1]; rfl))) kk
theorem wp_aast {q N r : Nat} {j : Int32} (ho : x_op mi i = some (pc, 1, .aastore, nx, a, b, ps)) (hq : x_kd M q = some (103, N)) (hr : x_kd M r = some (1, 9)) (hin : vp_in j N) (kk : x_WP E d mi nx L S (M.1, x_up M.2.1 q j.toNatClampNeg (.ref r), M.2.2) k n mc ms Q) : x_WP E d mi i L (.ref r :: .int j :: .ref q :: S) M k n mc ms Q :=
  x_ast (w := .ref r) (M' := (M.1, x_up M.2.1 q j.toNatClampNeg (.ref r), M.2.2)) ho rfl hq (by decide) hin rfl (fun ex base => by
    unfold x_v
    rw [if_pos (Or.inl rfl)]
    simp [x_up]) (fun ex base p' i' k' h => x_vR h) (fun p l e R s m args below meth c H locs ls D T ex base Z h hx hb hd hc k1 => by
    have hlt : j.toNatClampNeg < N := Nat.not_le.mp fun z => hin (Or.inr z)
    have h0 : ¬ j < 0 := fun z => hin (Or.inl z)
    obtain ⟨r1, hr1, hN, cellV, g1, g2, g3, -⟩ := x_obj h.2.2.2.1 hr (by decide)
    have hK := h.2.2.1.2.1
    have hcls := (hK.1 1 r1 hr1).2
    obtain ⟨kA, comp, k1', k2', k3', -⟩ := (hK.2 3 _ rfl).2
    have hr1' : r1 = (RX1, TX1, 9) := by cases hr1; rfl
    subst hr1'
    have hcomp : comp = D.1 1 := Option.some.inj (k3'.symm.trans hcls.1)
    subst hcomp
    obtain ⟨kC, hkC, hkk⟩ := hcls.2
    rw [x_cv_m (x_kd_lt hr).1] at k1 ⊢
    exact W.aast hx hb hc (fun z e => by cases e) (fun e => by cases e) k1' k2' rfl hkC ⟨h0, by rw [arrV_size]; exact hlt⟩ g1 (fun z e => by rw [g3] at e; cases e) (by rw [g2]; exact hkC) (by rw [g2]; exact va_assign hcls) rfl rfl hd k1) kk
/-! what lies outside -/
theorem wp_gets {idx : Nat} {C n0 d0 : String} (ho : x_op mi i = some (pc, 3, .getstatic idx, nx, a, b, ps)) (ha : a < 6) (he : x_ext a = some (C, n0, d0)) (hp1 : ps = [ps.headD 0]) (kk : x_WP E d mi nx L (.ref a :: S) M k n mc ms Q) : x_WP E d mi i L S M k n mc ms Q := by
  have hI := (x_dc ho).2.2.2
  refine x_stk (S' := .ref a :: S) ho rfl (fun p l e R s m args below meth c H locs ls D T ex base Z h hx hb hd k1 => ?_) kk
  rw [hp1] at hI
  simp only [x_ckI, he] at hI
  have hcv : x_cv ex base (.ref a) = ex a := by simp [x_cv, show a < 64 by omega]
  rw [List.map_cons, hcv] at k1
  exact va_gets hx hb (h.2.2.1.2.2.2.2.1 a C n0 d0 ha he) h.2.2.2.2.1 h.1.2.2.2.1 (h.1.2.2.2.2 _ (x_w_in hI)) (fun x hx => hx) hd k1
theorem wp_getsC {idx : Nat} (ho : x_op mi i = some (pc, 3, .getstatic idx, nx, 902, b, ps)) (hp1 : ps = [ps.headD 0]) (kk : x_WP E d mi nx L (.int 1 :: S) M k n mc ms Q) : x_WP E d mi i L S M k n mc ms Q := by
  have hI := (x_dc ho).2.2.2
  refine x_stk (S' := .int 1 :: S) ho rfl (fun p l e R s m args below meth c H locs ls D T ex base Z h hx hb hd k1 => ?_) kk
  rw [hp1] at hI
  exact va_gets hx hb h.2.2.1.2.2.2.2.2.1 h.2.2.2.2.1 h.1.2.2.2.1 (h.1.2.2.2.2 _ (x_w_in hI)) (fun x hx => hx) hd k1
theorem x_arX {E : XE} {p : Program} {R : Room} {s : State} {m : MethodId} {args : Array Value} {meth : Method} {c : Code} {H : Heap} {locs : List Loc} {ls : Array Slot} {D : va_G} {T : Nat → ClassId} {ex : Nat → Value} {base : Nat}
    (h : x_Mh E d mi L M mc ms p R s m args meth c H locs ls D T ex base) {e0 N : Nat} {ty : FieldType} {f : Nat → Int32} (he : x_Ar E e0 = some (ty, N, f)) : ∃ t : Nat, x_cv ex base (.ref e0) = .ref t ∧ va_T ty t N (fun j => .int (f j)) (x_A base) s s.heap := by
  obtain ⟨t, h1, h2⟩ := h.2.2.1.2.2.2.1 e0 ty N f he
  have hlt : e0 < 64 := by
    by_cases h9 : e0 < 32
    · omega
    · exfalso
      unfold x_Ar at he
      split at he <;> first | omega | cases he
  exact ⟨t, by simp [x_cv, hlt, h1], h2⟩
theorem wp_ialdX {e0 N : Nat} {f : Nat → Int32} {j : Int32} (ho : x_op mi i = some (pc, 1, .iaload, nx, a, b, ps)) (he : x_Ar E e0 = some (.int, N, f)) (hin : vp_in j N) (kk : x_WP E d mi nx L (.int (f j.toNatClampNeg) :: S) M k n mc ms Q) : x_WP E d mi i L (.int j :: .ref e0 :: S) M k n mc ms Q :=
  x_stk (S' := .int (f j.toNatClampNeg) :: S) ho rfl (fun p l e R s m args below meth c H locs ls D T ex base Z h hx hb hd k1 => by
    obtain ⟨t, h1, h2⟩ := x_arX h he
    rw [List.map_cons, List.map_cons, h1]
    exact va_ti hx hb h2 h.2.2.2.2.1 hin rfl hd k1) kk
theorem wp_baldX {e0 N : Nat} {f : Nat → Int32} {j : Int32} (ho : x_op mi i = some (pc, 1, .baload, nx, a, b, ps)) (he : x_Ar E e0 = some (.byte, N, f)) (hin : vp_in j N) (kk : x_WP E d mi nx L (.int (f j.toNatClampNeg) :: S) M k n mc ms Q) : x_WP E d mi i L (.int j :: .ref e0 :: S) M k n mc ms Q :=
  x_stk (S' := .int (f j.toNatClampNeg) :: S) ho rfl (fun p l e R s m args below meth c H locs ls D T ex base Z h hx hb hd k1 => by
    obtain ⟨t, h1, h2⟩ := x_arX h he
    rw [List.map_cons, List.map_cons, h1]
    exact va_tb hx hb h2 h.2.2.2.2.1 hin rfl hd k1) kk
theorem wp_alenX {e0 N : Nat} {ty : FieldType} {f : Nat → Int32} {v : Int32} (ho : x_op mi i = some (pc, 1, .arraylength, nx, a, b, ps)) (he : x_Ar E e0 = some (ty, N, f)) (hv : Int32.ofNat N = v) (kk : x_WP E d mi nx L (.int v :: S) M k n mc ms Q) : x_WP E d mi i L (.ref e0 :: S) M k n mc ms Q :=
  x_stk (S' := .int v :: S) ho rfl (fun p l e R s m args below meth c H locs ls D T ex base Z h hx hb hd k1 => by
    obtain ⟨t, h1, h2⟩ := x_arX h he
    rw [List.map_cons, h1]
    exact va_tlen hx hb h2 h.2.2.2.2.1 hv hd k1) kk
/-- a String's fields: its bytes, its coder -/
theorem wp_getSv {idx e0 : Nat} (ho : x_op mi i = some (pc, 3, .getfield idx, nx, 900, b, ps)) (hp1 : ps = [ps.headD 0]) (he : e0 < 8) (kk : x_WP E d mi nx L (.ref (24 + e0) :: S) M k n mc ms Q) : x_WP E d mi i L (.ref (8 + e0) :: S) M k n mc ms Q := by
  have hI := (x_dc ho).2.2.2
  refine x_stk (S' := .ref (24 + e0) :: S) ho rfl (fun p l e R s m args below meth c H locs ls D T ex base Z h hx hb hd k1 => ?_) kk
  rw [hp1] at hI
  obtain ⟨t, h1, -, -, h2⟩ := h.2.2.1.2.2.2.2.2.2.1 e0 he
  have hcv : x_cv ex base (.ref (24 + e0)) = ex (24 + e0) := by simp [x_cv, show 24 + e0 < 64 by omega]
  have hcv2 : x_cv ex base (.ref (8 + e0)) = .ref t := by simp [x_cv, show 8 + e0 < 64 by omega, h1]
  rw [List.map_cons, hcv] at k1
  rw [List.map_cons, hcv2]
  exact vk_getf hx hb h2 h.2.2.2.2.1 h.1.2.2.2.1 (h.1.2.2.2.2 _ (x_w_in hI)) (fun x hx => hx) hd k1
theorem wp_getSc {idx e0 : Nat} (ho : x_op mi i = some (pc, 3, .getfield idx, nx, 901, b, ps)) (hp1 : ps = [ps.headD 0]) (he : e0 < 8) (kk : x_WP E d mi nx L (.int 0 :: S) M k n mc ms Q) : x_WP E d mi i L (.ref (8 + e0) :: S) M k n mc ms Q := by
  have hI := (x_dc ho).2.2.2
  refine x_stk (S' := .int 0 :: S) ho rfl (fun p l e R s m args below meth c H locs ls D T ex base Z h hx hb hd k1 => ?_) kk
  rw [hp1] at hI
  obtain ⟨t, h1, -, h2, -⟩ := h.2.2.1.2.2.2.2.2.2.1 e0 he
  have hcv2 : x_cv ex base (.ref (8 + e0)) = .ref t := by simp [x_cv, show 8 + e0 < 64 by omega, h1]
  rw [List.map_cons, hcv2]
  exact vk_getf hx hb h2 h.2.2.2.2.1 h.1.2.2.2.1 (h.1.2.2.2.2 _ (x_w_in hI)) (fun x hx => hx) hd k1
/-! constants of the pool -/
theorem wp_ldcS {idx j0 : Nat} {tx : String} (ho : x_op mi i = some (pc, 2, .ldc idx, nx, 8 + j0, 1, ps)) (hp1 : ps = [ps.headD 0]) (hs : x_strs[j0]? = some tx) (hj : j0 < 8) (kk : x_WP E d mi nx L (.ref (8 + j0) :: S) M k n mc ms Q) : x_WP E d mi i L S M k n mc ms Q := by
  have hI := (x_dc ho).2.2.2
  refine x_stk (S' := .ref (8 + j0) :: S) ho rfl (fun p l e R s m args below meth c H locs ls D T ex base Z h hx hb hd k1 => ?_) kk
  rw [hp1] at hI
  simp only [x_ckI, Nat.add_sub_cancel_left, hs, if_neg (show ¬ 8 + j0 = 999 by omega), Bool.and_eq_true, if_true] at hI
  obtain ⟨t, h1, h2⟩ := h.2.2.1.2.2.2.2.2.2.2.1 _ idx j0 tx (x_w_tbl hI.1) hs
  have hcv : x_cv ex base (.ref (8 + j0)) = .ref t := by simp [x_cv, show 8 + j0 < 64 by omega, h1]
  rw [List.map_cons, hcv] at k1
  exact va_ldcS hx hb h.1.2.2.2.1 h2 hd k1
theorem wp_ldc {idx : Nat} {v : Int32 × Int64} (ho : x_op mi i = some (pc, 2, .ldc idx, nx, a, 2, ps)) (hp1 : ps = [ps.headD 0]) (ha : a < 999) (hv : x_kv[a]? = some v) (kk : x_WP E d mi nx L (.int v.1 :: S) M k n mc ms Q) : x_WP E d mi i L S M k n mc ms Q := by
  have hI := (x_dc ho).2.2.2
  refine x_stk (S' := .int v.1 :: S) ho rfl (fun p l e R s m args below meth c H locs ls D T ex base Z h hx hb hd k1 => ?_) kk
  rw [hp1] at hI
  simp only [x_ckI, hv, if_neg (show ¬ a = 999 by omega)] at hI
  rw [if_neg (by decide)] at hI
  exact lv_ldc hx hb h.1.2.2.2.1 (h.1.2.2.2.2 _ (x_w_in hI)) hd k1
theorem wp_ldcw {idx : Nat} {v : Int32 × Int64} (ho : x_op mi i = some (pc, 3, .ldc_w idx, nx, a, b, ps)) (hp1 : ps = [ps.headD 0]) (ha : a < 999) (hv : x_kv[a]? = some v) (kk : x_WP E d mi nx L (.int v.1 :: S) M k n mc ms Q) : x_WP E d mi i L S M k n mc ms Q := by
  have hI := (x_dc ho).2.2.2
  refine x_stk (S' := .int v.1 :: S) ho rfl (fun p l e R s m args below meth c H locs ls D T ex base Z h hx hb hd k1 => ?_) kk
  rw [hp1] at hI
  simp only [x_ckI, hv, if_neg (show ¬ a = 999 by omega)] at hI
  exact lv_ldcw hx hb h.1.2.2.2.1 (h.1.2.2.2.2 _ (x_w_in hI)) hd k1
theorem wp_ldc2 {idx : Nat} {v : Int32 × Int64} (ho : x_op mi i = some (pc, 3, .ldc2_w idx, nx, a, b, ps)) (hp1 : ps = [ps.headD 0]) (hv : x_kv[a]? = some v) (kk : x_WP E d mi nx L (.long v.2 :: S) M k n mc ms Q) : x_WP E d mi i L S M k n mc ms Q := by
  have hI := (x_dc ho).2.2.2
  refine x_stk (S' := .long v.2 :: S) ho rfl (fun p l e R s m args below meth c H locs ls D T ex base Z h hx hb hd k1 => ?_) kk
  rw [hp1] at hI
  simp only [x_ckI, hv] at hI
  exact lv_ldc2 hx hb h.1.2.2.2.1 (h.1.2.2.2.2 _ (x_w_in hI)) hd k1
end XO1
end
section
/-! ===== returns, calls, making, contracts ===== -/
theorem x_good {ws : List Jvm.Cond} (h : ∀ w ∈ ws, w ∈ x_gt) : GoodIn x_gt ws := fun w hw => ⟨h w hw, good_of_word (List.mem_filter.mp (h w hw)).2⟩
theorem x_tb_in {c i : Nat} {w : Jvm.Cond} (h : (x_tb c)[i]? = some w) (hg : goodWord w = true := by rfl) : w ∈ x_gt := by
  refine List.mem_filter.mpr ⟨?_, hg⟩
  have h1 := List.mem_of_getElem? h
  unfold lw_tbl
  unfold x_tb at h1
  refine List.mem_append.mpr ?_
  split at h1
  · exact Or.inl h1
  all_goals (refine Or.inr ?_; unfold tables_1; simp only [List.mem_append]; simp only [h1, true_or, or_true])
def x_codeW (X : XI) : Jvm.Cond := Jvm.Cond.code X.1 X.2.1 X.2.2.1 X.2.2.2.1
set_option maxRecDepth 100000 in
theorem x_codes_all : ∀ X ∈ x_ms.drop 1, x_codeW X ∈ x_gt := by
  show ∀ X ∈ [xi_1, xi_2, xi_3, xi_4, xi_5, xi_6, xi_7, xi_8, xi_9, xi_10, xi_11, xi_12, xi_13, xi_14, xi_15, xi_16, xi_17, xi_18, xi_19, xi_20, xi_21, xi_22, xi_23, xi_24, xi_25, xi_26, xi_27, xi_28, xi_29, xi_30, xi_31, xi_32, xi_33, xi_34, xi_35, xi_36, xi_37, xi_38, xi_39, xi_40, xi_41, xi_42, xi_43, xi_44, xi_45, xi_46, xi_47, xi_48, xi_49, xi_50, xi_51, xi_52, xi_53, xi_54, xi_55, xi_56, xi_57, xi_58, xi_59, xi_60, xi_61, xi_62, xi_63, xi_64, xi_65, xi_66, xi_67, xi_68, xi_69, xi_70, xi_71, xi_72, xi_73, xi_74, xi_75, xi_76, xi_77, xi_78, xi_79, xi_80, xi_81, xi_82, xi_83, xi_84, xi_85, xi_86, xi_87, xi_88, xi_89, xi_90, xi_91, xi_92, xi_93, xi_94, xi_95, xi_96, xi_97, xi_98, xi_99, xi_100, xi_101, xi_102, xi_103, xi_104, xi_105, xi_106, xi_107, xi_108, xi_109, xi_110, xi_111, xi_112, xi_113, xi_114, xi_115, xi_116, xi_117, xi_118, xi_119, xi_120, xi_121, xi_122, xi_123, xi_124, xi_125, xi_126, xi_127, xi_128, xi_129, xi_130, xi_131, xi_132, xi_133, xi_134, xi_135, xi_136, xi_137, xi_138, xi_139, xi_140, xi_141, xi_142, xi_143, xi_144, xi_145, xi_146, xi_147, xi_148, xi_149, xi_150, xi_151, xi_152, xi_153, xi_154, xi_155, xi_156, xi_157, xi_158, xi_159, xi_160, xi_161, xi_162, xi_163, xi_164, xi_165, xi_166, xi_167, xi_168, xi_169, xi_170, xi_171, xi_172, xi_173, xi_174, xi_175, xi_176, xi_177, xi_178, xi_179, xi_180, xi_181, xi_182, xi_183, xi_184, xi_185, xi_186, xi_187, xi_188, xi_189, xi_190, xi_191], x_codeW X ∈ x_gt
  simp only [List.forall_mem_cons, List.not_mem_nil, false_imp_iff, implies_true, and_true]
  exact ⟨x_tb_in xc_1, x_tb_in xc_2, x_tb_in xc_3, x_tb_in xc_4, x_tb_in xc_5, x_tb_in xc_6, x_tb_in xc_7, x_tb_in xc_8, x_tb_in xc_9, x_tb_in xc_10, x_tb_in xc_11, x_tb_in xc_12, x_tb_in xc_13, x_tb_in xc_14, x_tb_in xc_15, x_tb_in xc_16, x_tb_in xc_17, x_tb_in xc_18, x_tb_in xc_19, x_tb_in xc_20, x_tb_in xc_21, x_tb_in xc_22, x_tb_in xc_23, x_tb_in xc_24, x_tb_in xc_25, x_tb_in xc_26, x_tb_in xc_27, x_tb_in xc_28, x_tb_in xc_29, x_tb_in xc_30, x_tb_in xc_31, x_tb_in xc_32, x_tb_in xc_33, x_tb_in xc_34, x_tb_in xc_35, x_tb_in xc_36, x_tb_in xc_37, x_tb_in xc_38, x_tb_in xc_39, x_tb_in xc_40, x_tb_in xc_41, x_tb_in xc_42, x_tb_in xc_43, x_tb_in xc_44, x_tb_in xc_45, x_tb_in xc_46, x_tb_in xc_47, x_tb_in xc_48, x_tb_in xc_49, x_tb_in xc_50, x_tb_in xc_51, x_tb_in xc_52, x_tb_in xc_53, x_tb_in xc_54, x_tb_in xc_55, x_tb_in xc_56, x_tb_in xc_57, x_tb_in xc_58, x_tb_in xc_59, x_tb_in xc_60, x_tb_in xc_61, x_tb_in xc_62, x_tb_in xc_63, x_tb_in xc_64, x_tb_in xc_65, x_tb_in xc_66, x_tb_in xc_67, x_tb_in xc_68, x_tb_in xc_69, x_tb_in xc_70, x_tb_in xc_71, x_tb_in xc_72, x_tb_in xc_73, x_tb_in xc_74, x_tb_in xc_75, x_tb_in xc_76, x_tb_in xc_77, x_tb_in xc_78, x_tb_in xc_79, x_tb_in xc_80, x_tb_in xc_81, x_tb_in xc_82, x_tb_in xc_83, x_tb_in xc_84, x_tb_in xc_85, x_tb_in xc_86, x_tb_in xc_87, x_tb_in xc_88, x_tb_in xc_89, x_tb_in xc_90, x_tb_in xc_91, x_tb_in xc_92, x_tb_in xc_93, x_tb_in xc_94, x_tb_in xc_95, x_tb_in xc_96, x_tb_in xc_97, x_tb_in xc_98, x_tb_in xc_99, x_tb_in xc_100, x_tb_in xc_101, x_tb_in xc_102, x_tb_in xc_103, x_tb_in xc_104, x_tb_in xc_105, x_tb_in xc_106, x_tb_in xc_107, x_tb_in xc_108, x_tb_in xc_109, x_tb_in xc_110, x_tb_in xc_111, x_tb_in xc_112, x_tb_in xc_113, x_tb_in xc_114, x_tb_in xc_115, x_tb_in xc_116, x_tb_in xc_117, x_tb_in xc_118, x_tb_in xc_119, x_tb_in xc_120, x_tb_in xc_121, x_tb_in xc_122, x_tb_in xc_123, x_tb_in xc_124, x_tb_in xc_125, x_tb_in xc_126, x_tb_in xc_127, x_tb_in xc_128, x_tb_in xc_129, x_tb_in xc_130, x_tb_in xc_131, x_tb_in xc_132, x_tb_in xc_133, x_tb_in xc_134, x_tb_in xc_135, x_tb_in xc_136, x_tb_in xc_137, x_tb_in xc_138, x_tb_in xc_139, x_tb_in xc_140, x_tb_in xc_141, x_tb_in xc_142, x_tb_in xc_143, x_tb_in xc_144, x_tb_in xc_145, x_tb_in xc_146, x_tb_in xc_147, x_tb_in xc_148, x_tb_in xc_149, x_tb_in xc_150, x_tb_in xc_151, x_tb_in xc_152, x_tb_in xc_153, x_tb_in xc_154, x_tb_in xc_155, x_tb_in xc_156, x_tb_in xc_157, x_tb_in xc_158, x_tb_in xc_159, x_tb_in xc_160, x_tb_in xc_161, x_tb_in xc_162, x_tb_in xc_163, x_tb_in xc_164, x_tb_in xc_165, x_tb_in xc_166, x_tb_in xc_167, x_tb_in xc_168, x_tb_in xc_169, x_tb_in xc_170, x_tb_in xc_171, x_tb_in xc_172, x_tb_in xc_173, x_tb_in xc_174, x_tb_in xc_175, x_tb_in xc_176, x_tb_in xc_177, x_tb_in xc_178, x_tb_in xc_179, x_tb_in xc_180, x_tb_in xc_181, x_tb_in xc_182, x_tb_in xc_183, x_tb_in xc_184, x_tb_in xc_185, x_tb_in xc_186, x_tb_in xc_187, x_tb_in xc_188, x_tb_in xc_189, x_tb_in xc_190, x_tb_in xc_191⟩
set_option maxRecDepth 100000 in
theorem x_plain_all : ∀ X ∈ x_ms, X.1.cls = "java/lang/Math" ∨ Jvm.plainName X.1.cls = true := by
  have h : x_ms.all (fun X => decide (X.1.cls = "java/lang/Math") || Jvm.plainName X.1.cls) = true := by decide +kernel
  intro X hX
  have h1 := List.all_eq_true.mp h X hX
  rw [Bool.or_eq_true, decide_eq_true_eq] at h1
  exact h1
theorem x_m_in {a : Nat} (h : a < 192) : x_m a ∈ x_ms := by
  unfold x_m
  have hl : x_ms.length = 192 := rfl
  rw [List.getD_eq_getElem?_getD, List.getElem?_eq_getElem (by omega)]
  exact List.getElem_mem (by omega)
theorem x_code_in {a : Nat} (h0 : 0 < a) (h : a < 192) : x_codeW (x_m a) ∈ x_gt := by
  refine x_codes_all _ ?_
  have hl : x_ms.length = 192 := rfl
  have : (x_ms.drop 1)[a - 1]? = some (x_m a) := by
    rw [List.getElem?_drop, show 1 + (a - 1) = a by omega, List.getElem?_eq_getElem (by omega)]
    unfold x_m
    rw [List.getD_eq_getElem?_getD, List.getElem?_eq_getElem (by omega)]
    rfl
  exact List.mem_of_getElem? this
theorem x_ws_good {a : Nat} (h0 : 0 < a) (h : a < 192) : ∀ w ∈ x_ws a, w ∈ x_gt := by
  intro w hw
  rcases List.mem_cons.mp hw with rfl | hw
  · exact x_code_in h0 h
  · exact hw
/-! how what lies outside stays -/
theorem x_Ext.kept {E : XE} {ex : Nat → Value} {A : Nat → Prop} {U : State} {H H1 : Heap} (h : x_Ext E ex A U H) (hq : ∀ a : Nat, a < H.size → ¬ A a → H1[a]? = H[a]?) : x_Ext E ex A U H1 := by
  obtain ⟨h0, h1, h2, h3, h4, h5⟩ := h
  refine ⟨h0, fun e ty N f he => ?_, fun e C n d he hx => (h2 e C n d he hx).kept hq, h3.kept hq, fun j hj => ?_, h5⟩
  · obtain ⟨t, g1, g2⟩ := h1 e ty N f he
    exact ⟨t, g1, g2.kept hq⟩
  · obtain ⟨t, g1, g2, g3, g4⟩ := h4 j hj
    exact ⟨t, g1, g2.kept hq, g3.kept hq, g4.kept hq⟩
theorem x_Ext.moved {E : XE} {ex : Nat → Value} {A : Nat → Prop} {u U : State} {H : Heap} (hvm : u.vm.Alike U.vm) (hR : ∀ own k tx a, vk_R own k tx a u → vk_R own k tx a U) (hN : ∀ own idx y host, va_Nw (.methodLinkNest own idx y host) u → va_Nw (.methodLinkNest own idx y host) U) (h : x_Ext E ex A u H) : x_Ext E ex A U H := by
  obtain ⟨h0, h1, h2, h3, h4, h5, h6, h7⟩ := h
  refine ⟨h0, fun e ty N f he => ?_, fun e C n d he hx => va_Z.moved hvm (h2 e C n d he hx), va_Z.moved hvm h3, fun j hj => ?_, fun own idx j tx hw hs => ?_, fun own idx y host hw => hN _ _ _ _ (h6 own idx y host hw), va_AO.moved hvm h7⟩
  · obtain ⟨t, g1, g2⟩ := h1 e ty N f he
    exact ⟨t, g1, va_T.moved hvm g2⟩
  · obtain ⟨t, g1, g2, g3, g4⟩ := h4 j hj
    exact ⟨t, g1, va_O.moved hvm g2, va_OF.moved hvm g3, va_OF.moved hvm g4⟩
  · obtain ⟨t, g1, g2⟩ := h5 own idx j tx hw hs
    exact ⟨t, g1, hR _ _ _ _ g2⟩
theorem x_In_blind {E : XE} {D : va_G} {T : Nat → ClassId} {ex : Nat → Value} {base : Nat} {M : XM} {av : List Value} : FrameBlind (va_Pc av (x_In E D T ex base M)) := by
  intro a U g mk q
  obtain ⟨h1, h2, h3, h4, h5⟩ := q
  exact ⟨h1, h2, h3, va_K.moved (u := U) (U := U.calling g mk a) (Vm.Alike.refl U.vm) h4, x_Ext.moved (u := U) (U := U.calling g mk a) (Vm.Alike.refl U.vm) (fun _ _ _ _ q => vk_R.same rfl q) (fun _ _ _ _ q => va_Nw.same rfl rfl q) h5⟩
theorem x_In_of {E : XE} {d mi mc ms : Nat} {L : List Value} {M : XM} {p : Program} {R : Room} {s : State} {m : MethodId} {args : Array Value} {meth : Method} {c : Code} {H : Heap} {locs : List Loc} {ls : Array Slot} {D : va_G} {T : Nat → ClassId} {ex : Nat → Value} {base : Nat}
    (h : x_Mh E d mi L M mc ms p R s m args meth c H locs ls D T ex base) {U : State} (hU : U.heap = H) (hW : s.WarmedH U.vm) : x_In E D T ex base M U := by
  obtain ⟨-, -, ⟨hbs, hK, hE⟩, hWo, hS, -⟩ := h
  refine ⟨by rw [hU, hWo.1]; omega, by rw [hU]; exact hWo, va_K.moved hW.alike hK, ?_⟩
  rw [hU]
  exact x_Ext.moved hW.alike (fun _ _ _ _ q => vk_R.warm hW q) (fun _ _ _ _ q => va_Nw.warmM hW q) (hE.kept hS.2.1)
theorem x_In.of_vm {E : XE} {D : va_G} {T : Nat → ClassId} {ex : Nat → Value} {base : Nat} {M : XM} {U : State} (h : x_In E D T ex base M U) : True := trivial
section XC1
variable {E : XE} {d mi i k n mc ms nx a b pc : Nat} {ps : List Nat} {L S : List Value} {M : XM} {Q : Option Value → XM → Prop}
/-- the end of a method: at the level of the machine -/
theorem x_fin_q {p : Program} {R : Room} {s : State} {m : MethodId} {args : Array Value} {meth : Method} {c : Code} {H : Heap} {locs : List Loc} {ls : Array Slot} {D : va_G} {T : Nat → ClassId} {ex : Nat → Value} {base : Nat} {v : Option Value}
    (h : x_Mh E d mi L M mc ms p R s m args meth c H locs ls D T ex base) (hQ : Q v M) : ∀ t : State, t.heap = H → s.WarmedH t.vm → x_Qc D T ex base Q args s (.returned (v.map (x_cv ex base))) t := by
  intro t ht hW
  exact ⟨⟨v, M, rfl, hQ, by rw [ht]; exact h.2.2.2.1⟩, h.2.2.2.2.1.F ht⟩
theorem wp_iret {x : Int32} {ty : FieldType} (ho : x_op mi i = some (pc, 1, .ireturn, nx, a, b, ps)) (hr : (x_m mi).2.2.2.1 = some ty) (hn : narrow ty (.int x) = .int x) (hk : k ≤ mc) (hm : n ≤ ms) (hQ : Q (some (.int x)) M) : x_WP E d mi i L [.int x] M k n mc ms Q := by
  intro p l e R s m args below meth c H locs ls D T ex base h
  obtain ⟨hd, hp, -, -⟩ := x_dc ho
  rw [hp]
  refine W.widen hk hm ?_
  exact W.zret h.1.1 h.1.2.1 (h.2.1.1.trans hr) hn (x_fin_q (v := some (.int x)) h hQ) h.2.2.2.2.1.2.2 hd h.2.1.2.1
theorem wp_lret {x : Int64} (ho : x_op mi i = some (pc, 1, .lreturn, nx, a, b, ps)) (hr : (x_m mi).2.2.2.1 = some .long) (hk : k ≤ mc) (hm : n ≤ ms) (hQ : Q (some (.long x)) M) : x_WP E d mi i L [.long x] M k n mc ms Q := by
  intro p l e R s m args below meth c H locs ls D T ex base h
  obtain ⟨hd, hp, -, -⟩ := x_dc ho
  rw [hp]
  refine W.widen hk hm ?_
  exact W.lret h.1.1 h.1.2.1 (h.2.1.1.trans hr) (x_fin_q (v := some (.long x)) h hQ) h.2.2.2.2.1.2.2 hd h.2.1.2.1
theorem wp_vret (ho : x_op mi i = some (pc, 1, .return_, nx, a, b, ps)) (hr : (x_m mi).2.2.2.1 = none) (hk : k ≤ mc) (hm : n ≤ ms) (hQ : Q none M) : x_WP E d mi i L [] M k n mc ms Q := by
  intro p l e R s m args below meth c H locs ls D T ex base h
  obtain ⟨hd, hp, -, -⟩ := x_dc ho
  rw [hp]
  refine W.widen hk hm ?_
  exact W.vret h.1.1 h.1.2.1 (h.2.1.1.trans hr) (x_fin_q (v := none) h hQ) h.2.2.2.2.1.2.2 hd h.2.1.2.1
theorem wp_aret {v : Value} {C : String} (ho : x_op mi i = some (pc, 1, .areturn, nx, a, b, ps)) (hr : (x_m mi).2.2.2.1 = some (.object C)) (hv : v = .null ∨ ∃ r, v = .ref r) (hk : k ≤ mc) (hm : n ≤ ms) (hQ : Q (some v) M) : x_WP E d mi i L [v] M k n mc ms Q := by
  intro p l e R s m args below meth c H locs ls D T ex base h
  obtain ⟨hd, hp, -, -⟩ := x_dc ho
  rw [hp]
  refine W.widen hk hm ?_
  refine W.aret h.1.1 h.1.2.1 (h.2.1.1.trans hr) (Or.inl ⟨C, rfl⟩) ?_ (x_fin_q (v := some v) h hQ) h.2.2.2.2.1.2.2 hd h.2.1.2.1
  rcases hv with rfl | ⟨r, rfl⟩
  · exact Or.inl rfl
  · rcases x_cv_ref (base := base) h.2.2.1.2.2.1 r with ⟨t, e1⟩ | e1
    · exact Or.inr ⟨t, e1⟩
    · exact Or.inl e1
/-- behind a call -/
theorem x_callW {p : Program} {l : Launch} {e : Env} {R : Room} {s : State} {m : MethodId} {args : Array Value} {below : List Frame} {meth : Method} {c : Code} {H : Heap} {locs : List Loc} {ls : Array Slot} {D : va_G} {T : Nat → ClassId} {ex : Nat → Value} {base : Nat}
    {st0 rest : List Value} {ar : Array Value} {mc1 ms1 : Nat} {Q1 : Option Value → XM → Prop} {Z : State → Prop}
    (hr : va_Run p l e R s m args below meth c H locs k n mc1 ms1 (F0 m pc ls st0) rest (x_Qc D T ex base Q1 ar) (x_A base)) (hS : va_S (x_A base) s.heap H locs)
    (kk : ∀ (v : Option Value) (M' : XM) (H1 : Heap) (locs1 : List Loc), Q1 v M' → x_World D T ex base M' H1 → va_S (x_A base) s.heap H1 locs1 → W p l e R s m args below meth c H1 locs1 (k + mc1) (n + ms1) Z (F0 m (pc + 3) ls ((v.map (x_cv ex base)).toList ++ rest))) :
    W p l e R s m args below meth c H locs k n Z (F0 m pc ls st0) := by
  intro T0 hT X
  obtain ⟨v, st₀, t, T', L0, h0, X', hL, e1, e2, ⟨⟨v1, M1, hv, hq, hw⟩, hz, hk⟩, st⟩ := hr T0 hT X
  cases hv
  rw [h0] at hz hk
  obtain ⟨t2, a1, b1⟩ := kk v1 M1 T'.heap (locs ++ L0) hq (by rw [e1]; exact hw) ⟨Nat.le_trans hS.1 (by rw [e1]; exact hz), fun q h1 h2 => by rw [e1, hk q (Nat.lt_of_lt_of_le h1 hS.1) h2]; exact hS.2.1 q h1 h2, fun q hq => by
      rcases List.mem_append.mp hq with h | h
      · exact hS.2.2 q h
      · exact hL q h⟩ T' rfl X'
  exact ⟨t2, st t2 a1, b1⟩
theorem x_cat_sum {ex : Nat → Value} {base : Nat} (hx : x_exr ex) (S : List Value) : ((S.map (x_cv ex base)).map fun v => v.category).sum = (S.map fun v => v.category).sum := by
  rw [List.map_map]
  congr 1
  apply List.map_congr_left
  intro v _
  exact x_cv_cat2 hx v
theorem x_okc_spec {C : String} (h : x_okc C = true) : C ≠ "java/lang/invoke/MethodHandle" ∧ C ≠ "java/lang/invoke/VarHandle" := of_decide_eq_true h
/-- invokevirtual of a method of a's -/
theorem x_invV {idx q : Nat} {As S0 : List Value} {d1 mc1 ms1 : Nat} {Q1 : Option Value → XM → Prop} (ho : x_op mi i = some (pc, 3, .invokevirtual idx, nx, a, b, ps)) (ha : 0 < a ∧ a < 192) (hp1 : ps = [ps.getD 0 0, ps.getD 1 0, ps.getD 2 0, ps.getD 3 0, ps.getD 4 0]) (hb1 : As.length = b) (hst : S0 = As.reverse ++ .ref q :: S) (hcat : (S.map fun v => v.category).sum ≤ 8) (hd1 : d1 + 1 ≤ d) (hkm : k + mc1 ≤ mc) (hnm : n + ms1 ≤ ms)
    (hrecv : ∀ (s : State) (H : Heap) (D : va_G) (T : Nat → ClassId) (ex : Nat → Value) (base : Nat), va_K D vwCl (x_tys T) s → x_Ext E ex (x_A base) s H → x_World D T ex base M H → ∃ (t : Nat) (cellB : Cell), x_cv ex base (.ref q) = .ref t ∧ H[t]? = some cellB ∧ cellB.vm.isStatics = false ∧ s.vm.findClass (x_m a).1.cls = some cellB.cls)
    (hC : x_C E d1 a (.ref q :: As) M mc1 ms1 Q1) (kk : ∀ v M', Q1 v M' → x_WP E d mi nx L (v.toList ++ S) M' (k + mc1) (n + ms1) mc ms Q) : x_WP E d mi i L S0 M k n mc ms Q := by
  intro p l e R s m args below meth c H locs ls D T ex base h
  obtain ⟨hd, hp, hn, hI⟩ := x_dc ho
  rw [hp, hst]
  rw [hp1] at hI
  simp only [x_ckI, if_pos ha.2, Bool.and_eq_true] at hI
  obtain ⟨⟨⟨hI1, hI2⟩, hI3⟩, hI4⟩ := hI
  simp only [x_ckY, Bool.and_eq_true, decide_eq_true_eq] at hI4
  obtain ⟨⟨⟨hY1, hY2⟩, hY3⟩, hY4⟩ := hI4
  have hok := x_okc_spec hY3
  have h0 := h
  obtain ⟨⟨hx, hb, hml, hown, hts⟩, ⟨hr, hlk, hnm', hdR, hlR, hcR, hsR⟩, ⟨hbs, hK, hE⟩, hW, hS, hL⟩ := h
  obtain ⟨t, cellB, g1, g2, g3, g4⟩ := hrecv s H D T ex base hK (hE.kept hS.2.1) hW
  have hM := hC l D T ex base
  have hcw : CallW R s args (x_m mi).1.cls (x_m a).1.cls idx (x_m a).1 (x_m a).2.1 (x_m a).2.2.1 (x_m a).2.2.2.1 (x_ws a) (x_rm d1 mc1 ms1) mc1 ms1 b := by
    refine ⟨callB_of (Ts := x_gt) b hts (x_good (x_ws_good ha.1 ha.2)) rfl rfl rfl (hts _ (x_w_in hY1)) (hts _ (x_w_in hI1)) ⟨hok.1, hok.2, hY2⟩ ⟨by show d1 + 1 ≤ R.frames; omega, by show 8 + (_ + 11) + 64 * d1 ≤ R.locals; omega⟩, hts _ (x_w_in hI2), hts _ (x_w_in hI3)⟩
  have e1 : (As.reverse ++ Value.ref q :: S).map (x_cv ex base) = (As.map (x_cv ex base)).reverse ++ Value.ref t :: S.map (x_cv ex base) := by
    rw [List.map_append, List.map_cons, g1, List.map_reverse]
  rw [e1]
  refine x_callW (rest := S.map (x_cv ex base)) (va_runV (C := (x_m a).1.cls) (b := t) (As := As.map (x_cv ex base)) ⟨hx, hb, hml, hown, hts⟩ hM hcw ⟨x_In_blind, ⟨cellB, g2, g3, g4⟩, fun U hU hWU => ⟨by rw [List.map_cons, g1], x_In_of h0 hU hWU⟩⟩ rfl (by rw [List.length_map]; exact hb1) hL.1 rfl (by show 2 * 0 + _ ≤ 8; rw [x_cat_sum hE.1]; omega) hd ⟨by omega, by omega⟩) hS (fun v M' H1 locs1 hq hw hS1 => ?_)
  have k1 := kk v M' hq p l e R s m args below meth c H1 locs1 ls D T ex base ⟨h0.1, h0.2.1, h0.2.2.1, hw, hS1, hL⟩
  rw [hn rfl, List.map_append] at k1
  cases v <;> exact k1
/-- invokevirtual on an object of the memory -/
theorem wp_invV {idx q c1 N : Nat} {r1 : vw_C} {As S0 : List Value} {d1 mc1 ms1 : Nat} {Q1 : Option Value → XM → Prop} (ho : x_op mi i = some (pc, 3, .invokevirtual idx, nx, a, b, ps)) (ha : 0 < a ∧ a < 192) (hp1 : ps = [ps.getD 0 0, ps.getD 1 0, ps.getD 2 0, ps.getD 3 0, ps.getD 4 0]) (hb1 : As.length = b) (hst : S0 = As.reverse ++ .ref q :: S) (hcat : (S.map fun v => v.category).sum ≤ 8) (hd1 : d1 + 1 ≤ d) (hkm : k + mc1 ≤ mc) (hnm : n + ms1 ≤ ms)
    (hq : x_kd M q = some (c1, N)) (hc9 : c1 < 9) (hr1 : vwCl[c1]? = some r1) (hcls : r1.1 = (x_m a).1.cls)
    (hC : x_C E d1 a (.ref q :: As) M mc1 ms1 Q1) (kk : ∀ v M', Q1 v M' → x_WP E d mi nx L (v.toList ++ S) M' (k + mc1) (n + ms1) mc ms Q) : x_WP E d mi i L S0 M k n mc ms Q :=
  x_invV ho ha hp1 hb1 hst hcat hd1 hkm hnm (fun s H D T ex base hK hE hW => by
    obtain ⟨r, h1, -, cell, g1, g2, g3, -⟩ := x_obj hW hq hc9
    cases hr1.symm.trans h1
    refine ⟨base + (q - 64), cell, x_cv_m (x_kd_lt hq).1, g1, by rw [g3]; rfl, ?_⟩
    rw [g2, ← hcls]
    exact (hK.1 c1 r1 h1).2.1) hC kk
/-- invokevirtual on a String constant -/
theorem wp_invS {idx e0 : Nat} {As S0 : List Value} {d1 mc1 ms1 : Nat} {Q1 : Option Value → XM → Prop} (ho : x_op mi i = some (pc, 3, .invokevirtual idx, nx, a, b, ps)) (ha : 0 < a ∧ a < 192) (hp1 : ps = [ps.getD 0 0, ps.getD 1 0, ps.getD 2 0, ps.getD 3 0, ps.getD 4 0]) (hb1 : As.length = b) (hst : S0 = As.reverse ++ .ref (8 + e0) :: S) (hcat : (S.map fun v => v.category).sum ≤ 8) (hd1 : d1 + 1 ≤ d) (hkm : k + mc1 ≤ mc) (hnm : n + ms1 ≤ ms)
    (he : e0 < 8) (hcls : (x_m a).1.cls = "java/lang/String")
    (hC : x_C E d1 a (.ref (8 + e0) :: As) M mc1 ms1 Q1) (kk : ∀ v M', Q1 v M' → x_WP E d mi nx L (v.toList ++ S) M' (k + mc1) (n + ms1) mc ms Q) : x_WP E d mi i L S0 M k n mc ms Q :=
  x_invV ho ha hp1 hb1 hst hcat hd1 hkm hnm (fun s H D T ex base hK hE hW => by
    obtain ⟨t, h1, ⟨cell, g1, g2, g3, -⟩, -⟩ := hE.2.2.2.2.1 e0 he
    exact ⟨t, cell, by simp [x_cv, show 8 + e0 < 64 by omega, h1], g1, g2, by rw [hcls]; exact g3⟩) hC kk
theorem wp_invSt {idx : Nat} {As S0 : List Value} {d1 mc1 ms1 : Nat} {Q1 : Option Value → XM → Prop} (ho : x_op mi i = some (pc, 3, .invokestatic idx, nx, a, b, ps)) (ha : 0 < a ∧ a < 192) (hp1 : ps = [ps.getD 0 0, ps.getD 1 0, ps.getD 2 0, ps.getD 3 0]) (hb1 : As.length = b) (hst : S0 = As.reverse ++ S) (hcat : (S.map fun v => v.category).sum ≤ 8) (hd1 : d1 + 1 ≤ d) (hkm : k + mc1 ≤ mc) (hnm : n + ms1 ≤ ms)
    (hC : x_C E d1 a As M mc1 ms1 Q1) (kk : ∀ v M', Q1 v M' → x_WP E d mi nx L (v.toList ++ S) M' (k + mc1) (n + ms1) mc ms Q) : x_WP E d mi i L S0 M k n mc ms Q := by
  intro p l e R s m args below meth c H locs ls D T ex base h
  obtain ⟨hd, hp, hn, hI⟩ := x_dc ho
  rw [hp, hst]
  rw [hp1] at hI
  simp only [x_ckI, if_pos ha.2, Bool.and_eq_true] at hI
  obtain ⟨⟨hI1, hI2⟩, hI4⟩ := hI
  simp only [x_ckY, Bool.and_eq_true, decide_eq_true_eq] at hI4
  obtain ⟨⟨⟨hY1, hY2⟩, hY3⟩, hY4⟩ := hI4
  have hok := x_okc_spec hY3
  have h0 := h
  obtain ⟨⟨hx, hb, hml, hown, hts⟩, ⟨hr, hlk, hnm', hdR, hlR, hcR, hsR⟩, ⟨hbs, hK, hE⟩, hW, hS, hL⟩ := h
  have hM := hC l D T ex base
  have hcw : CallB R s args (x_m mi).1.cls idx (x_m a).1 (x_m a).2.1 (x_m a).2.2.1 (x_m a).2.2.2.1 (x_ws a) (x_rm d1 mc1 ms1) mc1 ms1 b ∧ (Jvm.Cond.static (x_m a).1).before args s = true := by
    refine ⟨callB_of (Ts := x_gt) b hts (x_good (x_ws_good ha.1 ha.2)) rfl rfl rfl (hts _ (x_w_in hY1)) (hts _ (x_w_in hI1)) ⟨hok.1, hok.2, hY2⟩ ⟨by show d1 + 1 ≤ R.frames; omega, by show 8 + (_ + 11) + 64 * d1 ≤ R.locals; omega⟩, hts _ (x_w_in hI2)⟩
  rw [List.map_append, List.map_reverse]
  refine x_callW (rest := S.map (x_cv ex base)) (va_runS (As := As.map (x_cv ex base)) ⟨hx, hb, hml, hown, hts⟩ hM hcw ⟨x_In_blind, fun U hU hWU => ⟨rfl, x_In_of h0 hU hWU⟩⟩ rfl (by rw [List.length_map]; exact hb1) hL.1 rfl (by show 2 * 0 + _ ≤ 8; rw [x_cat_sum hE.1]; omega) hd ⟨by omega, by omega⟩) hS (fun v M' H1 locs1 hq hw hS1 => ?_)
  have k1 := kk v M' hq p l e R s m args below meth c H1 locs1 ls D T ex base ⟨h0.1, h0.2.1, h0.2.2.1, hw, hS1, hL⟩
  rw [hn rfl, List.map_append] at k1
  cases v <;> exact k1
/-- a constructor's call: by methodLink, or of a nest mate -/
theorem wp_invI {idx q : Nat} {d1 mc1 ms1 : Nat} {Q1 : Option Value → XM → Prop} (ho : x_op mi i = some (pc, 3, .invokespecial idx, nx, a, 0, ps)) (ha : 0 < a ∧ a < 192) (hp1 : ps = [ps.getD 0 0, ps.getD 1 0, ps.getD 2 0, ps.getD 3 0]) (hq : ¬ q < 64) (hcat : (S.map fun v => v.category).sum ≤ 8) (hd1 : d1 + 1 ≤ d) (hkm : k + mc1 ≤ mc) (hnm : n + ms1 ≤ ms)
    (hC : x_C E d1 a [.ref q] M mc1 ms1 Q1) (kk : ∀ v M', Q1 v M' → x_WP E d mi nx L (v.toList ++ S) M' (k + mc1) (n + ms1) mc ms Q) : x_WP E d mi i L (.ref q :: S) M k n mc ms Q := by
  intro p l e R s m args below meth c H locs ls D T ex base h
  obtain ⟨hd, hp, hn, hI⟩ := x_dc ho
  rw [hp]
  rw [hp1] at hI
  simp only [x_ckI, if_pos ha.2, Bool.and_eq_true, decide_eq_true_eq] at hI
  obtain ⟨⟨⟨⟨hI1, hI2⟩, hI4⟩, hI5⟩, hI6⟩ := hI
  simp only [x_ckY, Bool.and_eq_true, decide_eq_true_eq] at hI4
  obtain ⟨⟨⟨hY1, hY2⟩, hY3⟩, hY4⟩ := hI4
  have hok := x_okc_spec hY3
  have h0 := h
  obtain ⟨⟨hx, hb, hml, hown, hts⟩, ⟨hr, hlk, hnm', hdR, hlR, hcR, hsR⟩, ⟨hbs, hK, hE⟩, hW, hS, hL⟩ := h
  have hM := hC l D T ex base
  have hcw := cwI (R := R) (s := s) (args := args) (Ts := x_gt) (own := (x_m mi).1.cls) (index := idx) (y := (x_m a).1) (bytes := (x_m a).2.1) (maxL := (x_m a).2.2.1) (ws := x_ws a) (rm := x_rm d1 mc1 ms1) (mc := mc1) (ms := ms1) 0 hts (x_good (x_ws_good ha.1 ha.2)) (by unfold x_ws; rw [hI6]) rfl rfl (hts _ (x_w_in hY1)) (hts _ (x_w_in hI1)) (hts _ (x_w_in hI2)) hI5 ⟨hok.1, hok.2, hY2⟩ ⟨by show d1 + 1 ≤ R.frames; omega, by show 8 + (_ + 11) + 64 * d1 ≤ R.locals; omega⟩
  rw [List.map_cons, x_cv_m hq]
  refine x_callW (rest := S.map (x_cv ex base)) (va_runI (b := base + (q - 64)) (As := []) ⟨hx, hb, hml, hown, hts⟩ hM hcw ⟨x_In_blind, fun U hU hWU => ⟨by rw [List.map_cons, x_cv_m hq]; rfl, x_In_of h0 hU hWU⟩⟩ rfl rfl hL.1 rfl (by show 2 * 0 + _ ≤ 8; rw [x_cat_sum hE.1]; omega) hd ⟨by omega, by omega⟩) hS (fun v M' H1 locs1 hq hw hS1 => ?_)
  have k1 := kk v M' hq p l e R s m args below meth c H1 locs1 ls D T ex base ⟨h0.1, h0.2.1, h0.2.2.1, hw, hS1, hL⟩
  rw [hn rfl, List.map_append] at k1
  cases v <;> exact k1
theorem wp_invIN {idx q : Nat} {d1 mc1 ms1 : Nat} {Q1 : Option Value → XM → Prop} (ho : x_op mi i = some (pc, 3, .invokespecial idx, nx, a, 0, ps)) (ha : 0 < a ∧ a < 192) (hp1 : ps = [ps.getD 0 0, ps.getD 1 0, ps.getD 2 0, ps.getD 3 0, ps.getD 4 0]) (hq : ¬ q < 64) (hcat : (S.map fun v => v.category).sum ≤ 8) (hd1 : d1 + 1 ≤ d) (hkm : k + mc1 ≤ mc) (hnm : n + ms1 ≤ ms)
    (hC : x_C E d1 a [.ref q] M mc1 ms1 Q1) (kk : ∀ v M', Q1 v M' → x_WP E d mi nx L (v.toList ++ S) M' (k + mc1) (n + ms1) mc ms Q) : x_WP E d mi i L (.ref q :: S) M k n mc ms Q := by
  intro p l e R s m args below meth c H locs ls D T ex base h
  obtain ⟨hd, hp, hn, hI⟩ := x_dc ho
  rw [hp]
  rw [hp1] at hI
  simp only [x_ckI, if_pos ha.2, Bool.and_eq_true, decide_eq_true_eq] at hI
  obtain ⟨⟨⟨⟨hI1, hI2⟩, hI4⟩, hI5⟩, hI6⟩ := hI
  simp only [x_ckY, Bool.and_eq_true, decide_eq_true_eq] at hI4
  obtain ⟨⟨⟨hY1, hY2⟩, hY3⟩, hY4⟩ := hI4
  have hok := x_okc_spec hY3
  have h0 := h
  obtain ⟨⟨hx, hb, hml, hown, hts⟩, ⟨hr, hlk, hnm', hdR, hlR, hcR, hsR⟩, ⟨hbs, hK, hE⟩, hW, hS, hL⟩ := h
  have hM := hC l D T ex base
  have hcw := va_cnB (R := R) (s := s) (args := args) (Ts := x_gt) (own := (x_m mi).1.cls) (host := "StarchedCollars") (index := idx) (y := (x_m a).1) (bytes := (x_m a).2.1) (maxL := (x_m a).2.2.1) (ret := none) (ws := x_ws a) (rm := x_rm d1 mc1 ms1) (mc := mc1) (ms := ms1) 0 hts (x_good (x_ws_good ha.1 ha.2)) (by unfold x_ws; rw [hI6]) rfl rfl (hE.2.2.2.2.2.2.1 _ _ _ _ (x_w_tbl hI1)) (hts _ (x_w_in hY1)) ⟨hok.1, hok.2, hY2⟩ ⟨by show d1 + 1 ≤ R.frames; omega, by show 8 + (_ + 11) + 64 * d1 ≤ R.locals; omega⟩
  rw [List.map_cons, x_cv_m hq]
  refine x_callW (rest := S.map (x_cv ex base)) (va_runIN (b := base + (q - 64)) (As := []) ⟨hx, hb, hml, hown, hts⟩ hM ⟨hcw, hI5, hts _ (x_w_in hI2)⟩ ⟨x_In_blind, fun U hU hWU => ⟨by rw [List.map_cons, x_cv_m hq]; rfl, x_In_of h0 hU hWU⟩⟩ rfl rfl hL.1 rfl (by show 2 * 0 + _ ≤ 8; rw [x_cat_sum hE.1]; omega) hd ⟨by omega, by omega⟩) hS (fun v M' H1 locs1 hq hw hS1 => ?_)
  have k1 := kk v M' hq p l e R s m args below meth c H1 locs1 ls D T ex base ⟨h0.1, h0.2.1, h0.2.2.1, hw, hS1, hL⟩
  rw [hn rfl, List.map_append] at k1
  cases v <;> exact k1
theorem wp_objI {idx q : Nat} (ho : x_op mi i = some (pc, 3, .invokespecial idx, nx, 1000, b, ps)) (hp1 : ps = [ps.getD 0 0, ps.getD 1 0, ps.getD 2 0]) (hq : ¬ q < 64) (hcat : (S.map fun v => v.category).sum ≤ 8) (hd1 : 1 ≤ d) (kk : x_WP E d mi nx L S M k n mc ms Q) : x_WP E d mi i L (.ref q :: S) M k n mc ms Q := by
  have hI := (x_dc ho).2.2.2
  refine x_stk (S' := S) ho rfl (fun p l e R s m args below meth c H locs ls D T ex base Z h hx hb hd k1 => ?_) kk
  rw [hp1] at hI
  simp only [x_ckI, if_neg (show ¬ 1000 < 192 by decide), if_true, Bool.and_eq_true] at hI
  have hts := h.1.2.2.2.2
  rw [List.map_cons, x_cv_m hq]
  exact W.objInit hx hb h.1.2.2.2.1 (hts _ (x_w_in hI.1.1)) (hts _ (x_w_in hI.1.2)) (hts _ (x_w_in hI.2)) rfl (h.2.2.2.2.2.1.trans h.1.2.2.1.symm) rfl hd (by have := h.2.1.2.2.2.1; omega) (by show 2 * 0 + _ + 12 ≤ _; rw [x_cat_sum h.2.2.1.2.2.1]; have := h.2.1.2.2.2.2.1; omega) k1
/-! Math.max, min, abs: numbers 4, 5, 3 -/
theorem wp_mmax {idx : Nat} {x y : Int32} (ho : x_op mi i = some (pc, 3, .invokestatic idx, nx, 4, b, ps)) (hp1 : ps = [ps.getD 0 0, ps.getD 1 0, ps.getD 2 0, ps.getD 3 0]) (hcat : (S.map fun v => v.category).sum ≤ 8) (hd1 : 1 ≤ d) (hk : k ≤ mc) (hm : n ≤ ms) (kk : x_WP E d mi nx L (.int (if x < y then y else x) :: S) M k n mc ms Q) : x_WP E d mi i L (.int y :: .int x :: S) M k n mc ms Q := by
  have hI := (x_dc ho).2.2.2
  refine x_stk (S' := .int (if x < y then y else x) :: S) ho rfl (fun p l e R s m args below meth c H locs ls D T ex base Z h hx hb hd k1 => ?_) kk
  rw [hp1] at hI
  simp only [x_ckI, if_pos (show 4 < 192 by decide), Bool.and_eq_true, x_ckY] at hI
  have hts := h.1.2.2.2.2
  obtain ⟨-, -, -, hdR, hlR, hcR, hsR⟩ := h.2.1
  exact va_mmax hx hb (h.1.2.2.1.trans h.2.2.2.2.2.1.symm) h.1.2.2.2.1 (hts _ (x_w_in hI.1.1)) (hts _ (x_w_in hI.1.2)) (hts _ (x_w_in hI.2.1.1.1)) (hts _ (x_code_in (a := 4) (by decide) (by decide))) (by omega) (by show (((S.map (x_cv ex base)).map fun v => v.category).sum) + 13 ≤ _; rw [x_cat_sum h.2.2.1.2.2.1]; omega) (by omega) (by omega) hd k1
theorem wp_mmin {idx : Nat} {x y : Int32} (ho : x_op mi i = some (pc, 3, .invokestatic idx, nx, 5, b, ps)) (hp1 : ps = [ps.getD 0 0, ps.getD 1 0, ps.getD 2 0, ps.getD 3 0]) (hcat : (S.map fun v => v.category).sum ≤ 8) (hd1 : 1 ≤ d) (hk : k ≤ mc) (hm : n ≤ ms) (kk : x_WP E d mi nx L (.int (if y < x then y else x) :: S) M k n mc ms Q) : x_WP E d mi i L (.int y :: .int x :: S) M k n mc ms Q := by
  have hI := (x_dc ho).2.2.2
  refine x_stk (S' := .int (if y < x then y else x) :: S) ho rfl (fun p l e R s m args below meth c H locs ls D T ex base Z h hx hb hd k1 => ?_) kk
  rw [hp1] at hI
  simp only [x_ckI, if_pos (show 5 < 192 by decide), Bool.and_eq_true, x_ckY] at hI
  have hts := h.1.2.2.2.2
  obtain ⟨-, -, -, hdR, hlR, hcR, hsR⟩ := h.2.1
  exact va_mmin hx hb (h.1.2.2.1.trans h.2.2.2.2.2.1.symm) h.1.2.2.2.1 (hts _ (x_w_in hI.1.1)) (hts _ (x_w_in hI.1.2)) (hts _ (x_w_in hI.2.1.1.1)) (hts _ (x_code_in (a := 5) (by decide) (by decide))) (by omega) (by show (((S.map (x_cv ex base)).map fun v => v.category).sum) + 13 ≤ _; rw [x_cat_sum h.2.2.1.2.2.1]; omega) (by omega) (by omega) hd k1
theorem wp_mabs {idx : Nat} {x : Int32} (ho : x_op mi i = some (pc, 3, .invokestatic idx, nx, 3, b, ps)) (hp1 : ps = [ps.getD 0 0, ps.getD 1 0, ps.getD 2 0, ps.getD 3 0]) (hcat : (S.map fun v => v.category).sum ≤ 8) (hd1 : 1 ≤ d) (hk : k ≤ mc) (hm : n ≤ ms) (kk : x_WP E d mi nx L (.int (if 0 ≤ x then x else 0 - x) :: S) M k n mc ms Q) : x_WP E d mi i L (.int x :: S) M k n mc ms Q := by
  have hI := (x_dc ho).2.2.2
  refine x_stk (S' := .int (if 0 ≤ x then x else 0 - x) :: S) ho rfl (fun p l e R s m args below meth c H locs ls D T ex base Z h hx hb hd k1 => ?_) kk
  rw [hp1] at hI
  simp only [x_ckI, if_pos (show 3 < 192 by decide), Bool.and_eq_true, x_ckY] at hI
  have hts := h.1.2.2.2.2
  obtain ⟨-, -, -, hdR, hlR, hcR, hsR⟩ := h.2.1
  exact va_mabs hx hb (h.1.2.2.1.trans h.2.2.2.2.2.1.symm) h.1.2.2.2.1 (hts _ (x_w_in hI.1.1)) (hts _ (x_w_in hI.1.2)) (hts _ (x_w_in hI.2.1.1.1)) (hts _ (x_code_in (a := 3) (by decide) (by decide))) (by omega) (by show (((S.map (x_cv ex base)).map fun v => v.category).sum) + 13 ≤ _; rw [x_cat_sum h.2.2.1.2.2.1]; omega) (by omega) (by omega) hd k1
/-! a method's entry -/
def x_ent (nL : Nat) (As : List Value) : List Value := (As.flatMap fun v => if v.category = 2 then [v, x_jk] else [v]) ++ List.replicate (nL - (As.flatMap fun v => if v.category = 2 then [v, x_jk] else [v]).length) x_jk
theorem x_ent_la {ex : Nat → Value} {base : Nat} (hx : x_exr ex) : ∀ (As : List Value) (j k : Nat) (v : Value), (As.flatMap fun v => if v.category = 2 then [v, x_jk] else [v])[k]? = some v → v ≠ x_jk → (j + k, x_cv ex base v) ∈ lv_args j (As.map (x_cv ex base)) := by
  intro As
  induction As with
  | nil => intro j k v h; simp at h
  | cons w As ih =>
    intro j k v h hv
    rw [List.map_cons, lv_args]
    rw [List.flatMap_cons] at h
    by_cases hc : w.category = 2
    · rw [if_pos hc] at h
      rw [x_cv_cat2 hx, if_pos hc]
      match k, h with
      | 0, h => cases h; exact List.mem_cons_self
      | 1, h => cases h; exact absurd rfl hv
      | k + 2, h =>
        have := ih (j + 2) k v h hv
        rw [show j + (k + 2) = j + 2 + k by omega]
        exact List.mem_cons_of_mem _ this
    · rw [if_neg hc] at h
      rw [x_cv_cat2 hx, if_neg hc]
      match k, h with
      | 0, h => cases h; exact List.mem_cons_self
      | k + 1, h =>
        have := ih (j + 1) k v h hv
        rw [show j + (k + 1) = j + 1 + k by omega]
        exact List.mem_cons_of_mem _ this
theorem x_ent_len {ex : Nat → Value} {base : Nat} (hx : x_exr ex) (As : List Value) : (lg_sl (As.map (x_cv ex base))).length = (As.flatMap fun v => if v.category = 2 then [v, x_jk] else [v]).length := by
  unfold lg_sl
  induction As with
  | nil => rfl
  | cons w As ih =>
    rw [List.map_cons, List.flatMap_cons, List.flatMap_cons, List.length_append, List.length_append, ih, x_cv_cat2 hx]
    by_cases hc : w.category = 2
    · rw [if_pos hc, if_pos hc]; rfl
    · rw [if_neg hc, if_neg hc]; rfl
set_option maxHeartbeats 4000000 in
/-- a contract out of a run from the entry -/
theorem x_C.of {As L : List Value} (ha : 0 < mi ∧ mi < 192) (hM : ¬ (x_m mi).1.cls = "java/lang/Math") (hL : x_ent (x_m mi).2.2.1 As = L) (hl : L.length = (x_m mi).2.2.1) (h : x_WP E d mi 0 L [] M 0 0 mc ms Q) (hpc : x_pc mi 0 = 0) : x_C E d mi As M mc ms Q := by
  intro l D T ex base
  refine Met.ofW (cc := (x_m mi).2.1) (maxL := (x_m mi).2.2.1) (ret := (x_m mi).2.2.2.1) ?_ rfl ?_
  · rcases x_plain_all _ (x_m_in ha.2) with h1 | h1
    · exact absurd h1 hM
    · exact h1
  intro p e s m args below meth c s₁ B hml hv
  obtain ⟨rfl, hbs, hW, hK, hE⟩ := hv
  have hts : ∀ w ∈ x_ws mi, w.before _ s = true := atoms_spec (ws := x_ws mi) B.pre
  have hle : (lg_sl (As.map (x_cv ex base))).length ≤ (x_m mi).2.2.1 := by
    rw [x_ent_len hE.1]
    have h1 := hl
    rw [← hL] at h1
    unfold x_ent at h1
    rw [List.length_append] at h1
    omega
  have hle2 := lv_entry (As.map (x_cv ex base)) (n := (x_m mi).2.2.1) hle
  rw [lg_entry_eq]
  have hLx : x_L ex base (lg_sl (As.map (x_cv ex base)) ++ List.replicate ((x_m mi).2.2.1 - (lg_sl (As.map (x_cv ex base))).length) Slot.unset).toArray (x_m mi).2.2.1 L := by
    refine ⟨hle2.1, hle2.2.1, hl, fun k v hk hv => ?_⟩
    rw [← hL] at hk
    unfold x_ent at hk
    by_cases hlt : k < (As.flatMap fun v => if v.category = 2 then [v, x_jk] else [v]).length
    · rw [List.getElem?_append_left hlt] at hk
      have := x_ent_la (base := base) hE.1 As 0 k v hk hv
      rw [Nat.zero_add] at this
      exact hle2.2.2 _ this
    · rw [List.getElem?_append_right (by omega)] at hk
      exact absurd (List.eq_of_mem_replicate (List.mem_of_getElem? hk)) hv
  have hR : (headSpec (x_ws mi) (x_rm d mc ms)).room = x_rm d mc ms := rfl
  have k1 := h p l e (x_rm d mc ms) s m (As.map (x_cv ex base)).toArray below meth c s.heap [] _ D T ex base ⟨⟨B.exec, B.bytes, hml, findClass_of_methodNamed B.named, fun w hw => hts w (List.mem_cons_of_mem _ hw)⟩, ⟨B.returns, B.notSynchronized, (name_of_methodNamed B.named B.method).1, Nat.le_refl _, Nat.le_refl _, Nat.le_refl _, Nat.le_refl _⟩, ⟨hbs, hK, hE⟩, hW, va_S.rf, hLx⟩
  rw [hpc] at k1
  exact k1
theorem x_C.mono {As : List Value} {Q' : Option Value → XM → Prop} (h : x_C E d mi As M mc ms Q') (hq : ∀ v M', Q' v M' → Q v M') : x_C E d mi As M mc ms Q := by
  intro l D T ex base
  have h1 := h l D T ex base
  intro p e ha hc hk s m args below hf happ hP hK
  obtain ⟨n0, o, a1, a2, a3, ⟨⟨v, M', b1, b2, b3⟩, b4⟩, b5⟩ := h1 p e ha hc hk s m args below hf happ hP hK
  exact ⟨n0, o, a1, a2, a3, ⟨⟨v, M', b1, hq _ _ b2, b3⟩, b4⟩, b5⟩
end XC1
end
section
/-! ===== making cells; copying arrays ===== -/
def x_new (M : XM) (kd N : Nat) : XM := (M.1 ++ [(kd, N)], fun i j => if i = 64 + M.1.length then .null else M.2.1 i j, fun i j => if i = 64 + M.1.length then 0 else M.2.2 i j)
theorem x_dfl {a : Nat} (ha : a < 9) (k : Nat) : defaultValue (x_tyt a k) = if x_isR a k = true then .null else .int 0 := by
  unfold x_isR x_ty
  match a, ha with
  | 0, _ => show defaultValue (tyX0 k) = if (match tyX0 k with | .object _ => true | .array _ => true | _ => false) = true then _ else _; unfold tyX0; split <;> rfl
  | 1, _ => show defaultValue (tyX1 k) = if (match tyX1 k with | .object _ => true | .array _ => true | _ => false) = true then _ else _; unfold tyX1; split <;> rfl
  | 2, _ => show defaultValue (tyX2 k) = if (match tyX2 k with | .object _ => true | .array _ => true | _ => false) = true then _ else _; unfold tyX2; split <;> rfl
  | 3, _ => show defaultValue (tyX3 k) = if (match tyX3 k with | .object _ => true | .array _ => true | _ => false) = true then _ else _; unfold tyX3; split <;> rfl
  | 4, _ => show defaultValue (tyX4 k) = if (match tyX4 k with | .object _ => true | .array _ => true | _ => false) = true then _ else _; unfold tyX4; split <;> rfl
  | 5, _ => show defaultValue (tyX5 k) = if (match tyX5 k with | .object _ => true | .array _ => true | _ => false) = true then _ else _; unfold tyX5; split <;> rfl
  | 6, _ => show defaultValue (tyX6 k) = if (match tyX6 k with | .object _ => true | .array _ => true | _ => false) = true then _ else _; unfold tyX6; split <;> rfl
  | 7, _ => show defaultValue (tyX7 k) = if (match tyX7 k with | .object _ => true | .array _ => true | _ => false) = true then _ else _; unfold tyX7; split <;> rfl
  | 8, _ => show defaultValue (tyX8 k) = if (match tyX8 k with | .object _ => true | .array _ => true | _ => false) = true then _ else _; unfold tyX8; split <;> rfl
section XN
variable {E : XE} {d mi i k n mc ms nx a b pc : Nat} {ps : List Nat} {L S : List Value} {M : XM} {Q : Option Value → XM → Prop}
theorem x_new_v {ex : Nat → Value} {base kd N : Nat} {p : Nat × Nat} {i0 k0 : Nat} (h : ¬ i0 = 64 + M.1.length) : x_v ex base (x_new M kd N) p i0 k0 = x_v ex base M p i0 k0 := by
  unfold x_v x_new
  simp only [if_neg h]
theorem x_new_v0 {ex : Nat → Value} {base kd N : Nat} {p : Nat × Nat} {k0 : Nat} : x_v ex base (x_new M kd N) p (64 + M.1.length) k0 = if p.1 = 103 ∨ (p.1 < 100 ∧ x_isR p.1 k0 = true) then .null else .int 0 := by
  unfold x_v x_new
  simp only [if_true]
  rfl
theorem x_new_World {D : va_G} {T : Nat → ClassId} {ex : Nat → Value} {base kd N : Nat} {H H' : Heap} (hW : x_World D T ex base M H) (hz : H'.size = H.size + 1) (ho : ∀ q, q < H.size → H'[q]? = H[q]?) (hat : x_at D T ex base (x_new M kd N) H' M.1.length (kd, N)) : x_World D T ex base (x_new M kd N) H' := by
  have hl : (x_new M kd N).1.length = M.1.length + 1 := by simp [x_new]
  refine ⟨by rw [hz, hW.1, hl]; omega, fun j p hj => ?_⟩
  by_cases hlt : j < M.1.length
  · have hj' : M.1[j]? = some p := by
      rw [← hj]
      exact (List.getElem?_append_left hlt).symm
    exact x_at_kept (hW.2 j p hj') (ho _ (by rw [hW.1]; omega)) (fun k => x_new_v (by omega))
  · have hj2 : j = M.1.length := by
      have := (List.getElem?_eq_some_iff.mp hj).1
      omega
    subst hj2
    have hp : p = (kd, N) := by
      have : (x_new M kd N).1[M.1.length]? = some (kd, N) := by
        show (M.1 ++ [(kd, N)])[M.1.length]? = _
        rw [List.getElem?_append_right (Nat.le_refl _), Nat.sub_self]
        rfl
      exact Option.some.inj (hj.symm.trans this)
    subst hp
    exact hat
theorem x_S_new {base : Nat} {H0 H H' : Heap} {locs : List Loc} (hS : va_S (x_A base) H0 H locs) (hz : H'.size = H.size + 1) (ho : ∀ q, q < H.size → H'[q]? = H[q]?) : va_S (x_A base) H0 H' locs :=
  ⟨by rw [hz]; exact Nat.le_succ_of_le hS.1, fun q h1 h2 => (ho q (Nat.lt_of_lt_of_le h1 hS.1)).trans (hS.2.1 q h1 h2), hS.2.2⟩
theorem x_cv_new {ex : Nat → Value} {base : Nat} : x_cv ex base (.ref (64 + M.1.length)) = .ref (base + M.1.length) := by
  rw [x_cv_m (by omega)]
  congr 2
  omega
theorem wp_new {idx N : Nat} {r : vw_C} (ho : x_op mi i = some (pc, 3, .new idx, nx, a, b, ps)) (ha : a < 9) (hp1 : ps = [ps.getD 0 0, ps.getD 1 0, ps.getD 2 0]) (hr : vwCl[a]? = some r) (hN : r.2.2 = N) (hk : k + 1 ≤ mc) (hm : n + N ≤ ms)
    (kk : x_WP E d mi nx L (.ref (64 + M.1.length) :: S) (x_new M a N) (k + 1) (n + N) mc ms Q) : x_WP E d mi i L S M k n mc ms Q := by
  intro p l e R s m args below meth c H locs ls D T ex base h
  obtain ⟨hd, hp, hn, hI⟩ := x_dc ho
  rw [hp]
  rw [hp1] at hI
  subst hN
  obtain ⟨C, TF, N⟩ := r
  simp only [x_ckI, if_neg (show ¬ a = 999 by omega), hr, Bool.and_eq_true] at hI
  have h0 := h
  obtain ⟨⟨hx, hb, hml, hown, hts⟩, ⟨-, -, -, -, -, hcR, hsR⟩, ⟨hbs, hK, hE⟩, hW, hS, hL⟩ := h
  obtain ⟨hSl, hfc, hkk⟩ := hK.1 a _ hr
  refine W.newcK hx hb hown (hts _ (x_w_in hI.1.1)) (hts _ (x_w_in hI.1.2)) (hts _ (x_w_in hI.2)) rfl hd (by omega) (by show n + N ≤ _; exact Nat.le_trans hm hsR) hfc hW.1 (fun H1 kC hkC e1 z1 o1 => ?_)
  have hW' : x_World D T ex base (x_new M a N) H1 := by
    refine x_new_World hW (by rw [z1, hW.1]) (fun q hq => o1 q (by rw [← hW.1]; exact hq)) ?_
    unfold x_at
    rw [if_pos (by show a < 100; omega)]
    refine ⟨_, hr, rfl, (u_born (x_tyt a) hts (x_inA hr) ⟨hSl, hfc, hkk⟩ hkC e1 (x_tyA hr)).to (fun j hj => ?_)⟩
    rw [x_new_v0, x_dfl ha]
    by_cases hR : x_isR a j = true
    · rw [if_pos hR, if_pos (Or.inr ⟨by show a < 100; omega, hR⟩)]
    · rw [if_neg hR, if_neg (by rintro (h | ⟨-, h⟩); (· exact absurd h (by show ¬ a = 103; omega)); (· exact hR h))]
  have k1 := kk p l e R s m args below meth c H1 locs ls D T ex base ⟨h0.1, h0.2.1, h0.2.2.1, hW', x_S_new hS (by rw [z1, hW.1]) (fun q hq => o1 q (by rw [← hW.1]; exact hq)), hL⟩
  rw [hn rfl, List.map_cons, x_cv_new] at k1
  exact k1
theorem wp_newa {t : ArrayType} {z : Int32} {N : Nat} (ho : x_op mi i = some (pc, 2, .newarray t, nx, a, b, ps)) (hp1 : ps = [ps.headD 0]) (hz : ¬ z < 0) (hN : z.toNatClampNeg = N) (hN2 : N ≤ 1000) (hk : k + 1 ≤ mc) (hm : n + N ≤ ms)
    (kk : x_WP E d mi nx L (.ref (64 + M.1.length) :: S) (x_new M a N) (k + 1) (n + N) mc ms Q) : x_WP E d mi i L (.int z :: S) M k n mc ms Q := by
  intro p l e R s m args below meth c H locs ls D T ex base h
  obtain ⟨hd, hp, hn, hI⟩ := x_dc ho
  rw [hp]
  rw [hp1] at hI
  simp only [x_ckI, Bool.and_eq_true, decide_eq_true_eq] at hI
  obtain ⟨⟨hI1, hI2⟩, hI3⟩ := hI
  have h0 := h
  obtain ⟨⟨hx, hb, hml, hown, hts⟩, ⟨-, -, -, -, -, hcR, hsR⟩, ⟨hbs, hK, hE⟩, hW, hS, hL⟩ := h
  refine va_newaK hx hb (by rw [hI2]; exact hts _ (x_w_in hI1)) rfl hd rfl hz hN (by
    rw [hI2]
    have : componentBytes (x_kty a) ≤ 8 := by unfold x_kty; split <;> (try split) <;> decide
    have := Nat.mul_le_mul hN2 this
    omega) (by omega) (by omega) hW.1 (fun H1 cA e1 z1 o1 hAr hNm => ?_)
  rw [hI2] at e1 hNm
  have hcA : cA = T a := by
    rcases (show a = 100 ∨ a = 101 ∨ a = 102 by omega) with rfl | rfl | rfl
    · exact Option.some.inj (hNm.symm.trans (hK.2 0 _ rfl).2)
    · exact Option.some.inj (hNm.symm.trans (hK.2 1 _ rfl).2)
    · exact Option.some.inj (hNm.symm.trans (hK.2 2 _ rfl).2)
  subst hcA
  have hW' : x_World D T ex base (x_new M a N) H1 := by
    refine x_new_World hW (by rw [z1, hW.1]) (fun q hq => o1 q (by rw [← hW.1]; exact hq)) ?_
    unfold x_at
    rw [if_neg (by show ¬ a < 100; omega), e1]
    congr 2
    funext j
    rw [x_new_v0, if_neg (by rintro (h | ⟨h, -⟩); (· exact absurd h (by show ¬ a = 103; omega)); (· exact absurd h (by show ¬ a < 100; omega)))]
    unfold x_kty
    split
    · rfl
    · split <;> rfl
  have k1 := kk p l e R s m args below meth c H1 locs ls D T ex base ⟨h0.1, h0.2.1, h0.2.2.1, hW', x_S_new hS (by rw [z1, hW.1]) (fun q hq => o1 q (by rw [← hW.1]; exact hq)), hL⟩
  rw [hn rfl, List.map_cons, x_cv_new] at k1
  exact k1
theorem wp_anew {idx : Nat} {z : Int32} {N : Nat} (ho : x_op mi i = some (pc, 3, .anewarray idx, nx, a, b, ps)) (hp1 : ps = [ps.getD 0 0, ps.getD 1 0]) (hz : ¬ z < 0) (hN : z.toNatClampNeg = N) (hN2 : N ≤ 1000) (hk : k + 1 ≤ mc) (hm : n + N ≤ ms)
    (kk : x_WP E d mi nx L (.ref (64 + M.1.length) :: S) (x_new M 103 N) (k + 1) (n + N) mc ms Q) : x_WP E d mi i L (.int z :: S) M k n mc ms Q := by
  intro p l e R s m args below meth c H locs ls D T ex base h
  obtain ⟨hd, hp, hn, hI⟩ := x_dc ho
  rw [hp]
  rw [hp1] at hI
  simp only [x_ckI, Bool.and_eq_true] at hI
  have h0 := h
  obtain ⟨⟨hx, hb, hml, hown, hts⟩, ⟨-, -, -, -, -, hcR, hsR⟩, ⟨hbs, hK, hE⟩, hW, hS, hL⟩ := h
  subst hN
  refine W.anew hx hb hown (hts _ (x_w_in hI.1)) (va_AO.use hE.2.2.2.2.2.2.2) rfl hd rfl hz (by omega) (by omega) (by omega) (fun cA kA comp f1 f2 f3 f4 => ?_)
  have hcA : cA = T 103 := by
    obtain ⟨kA', comp', g1, g2, g3, g4⟩ := (hK.2 3 _ rfl).2
    exact Option.some.inj (f1.symm.trans g4)
  subst hcA
  rw [arrV_new]
  have z1 : (H.push (arrV (T 103) z.toNatClampNeg (fun _ => Value.null))).size = H.size + 1 := by simp
  have o1 : ∀ q, q < H.size → (H.push (arrV (T 103) z.toNatClampNeg (fun _ => Value.null)))[q]? = H[q]? := fun q hq => by rw [Array.getElem?_push, if_neg (Nat.ne_of_lt hq)]
  have hW' : x_World D T ex base (x_new M 103 z.toNatClampNeg) (H.push (arrV (T 103) z.toNatClampNeg (fun _ => Value.null))) := by
    refine x_new_World hW z1 o1 ?_
    unfold x_at
    rw [if_neg (by show ¬ 103 < 100; omega), ← hW.1, Array.getElem?_push, if_pos rfl]
    congr 2
    funext j
    rw [x_new_v0, if_pos (Or.inl rfl)]
  have k1 := kk p l e R s m args below meth c _ locs ls D T ex base ⟨h0.1, h0.2.1, h0.2.2.1, hW', x_S_new hS z1 o1, hL⟩
  rw [hn rfl, List.map_cons, x_cv_new, ← hW.1] at k1
  exact k1
def x_cpy (M : XM) (qs qd : Nat) (sp dp n : Nat) : XM := (M.1, M.2.1, fun i j => if i = qd then va_cpy (M.2.2 qs) (M.2.2 qd) sp dp n j else M.2.2 i j)
theorem wp_copy {idx qs qd kd N1 N2 : Nat} {sp dp n0 : Int32} (ho : x_op mi i = some (pc, 3, .invokestatic idx, nx, 1001, b, ps)) (hp1 : ps = [ps.getD 0 0, ps.getD 1 0, ps.getD 2 0, ps.getD 3 0]) (hs1 : x_kd M qs = some (kd, N1)) (hs2 : x_kd M qd = some (kd, N2)) (hkd : kd = 100 ∨ kd = 101)
    (h1 : ¬ sp < 0) (h2 : ¬ dp < 0) (h3 : ¬ n0 < 0) (h4 : sp.toNatClampNeg + n0.toNatClampNeg ≤ N1) (h5 : dp.toNatClampNeg + n0.toNatClampNeg ≤ N2) (hfit : kd = 101 → ∀ j, j < N1 → fits .byte (.int (M.2.2 qs j)) = true) (hcat : (S.map fun v => v.category).sum ≤ 8) (hd1 : 1 ≤ d)
    (kk : x_WP E d mi nx L S (x_cpy M qs qd sp.toNatClampNeg dp.toNatClampNeg n0.toNatClampNeg) k n mc ms Q) : x_WP E d mi i L (.int n0 :: .int dp :: .ref qd :: .int sp :: .ref qs :: S) M k n mc ms Q := by
  intro p l e R s m args below meth c H locs ls D T ex base h
  obtain ⟨hd, hp, hn, hI⟩ := x_dc ho
  rw [hp, List.map_cons, List.map_cons, List.map_cons, List.map_cons, List.map_cons, x_cv_m (x_kd_lt hs1).1, x_cv_m (x_kd_lt hs2).1]
  rw [hp1] at hI
  simp only [x_ckI, if_neg (show ¬ 1001 < 192 by decide), if_true, Bool.and_eq_true] at hI
  obtain ⟨⟨⟨hI1, hI2⟩, hI3⟩, hI4⟩ := hI
  have h0 := h
  obtain ⟨⟨hx, hb, hml, hown, hts⟩, ⟨-, -, -, hdR, hlR, hcR, hsR⟩, ⟨hbs, hK, hE⟩, hW, hS, hL⟩ := h
  have hAT := x_arrT h0
  have hkd2 : 100 ≤ kd := by omega
  have hkd3 : ¬ kd = 103 := by omega
  obtain ⟨ty, hty, hprim, hfit2⟩ : ∃ ty, ArrOfT s (T kd) ty ∧ refKind ty = false ∧ ∀ j, j < N1 → fits ty (.int (M.2.2 qs j)) = true := by
    rcases hkd with rfl | rfl
    · exact ⟨.int, hAT.1, rfl, fun _ _ => rfl⟩
    · exact ⟨.byte, hAT.2.1, rfl, hfit rfl⟩
  have ev : ∀ q N, (fun j => Value.int (M.2.2 q j)) = x_v ex base M (kd, N) q := fun q N => funext fun j => (x_vi hkd2 hkd3).symm
  have hc0 : H[base + (qs - 64)]? = some (arrV (T kd) N1 (fun j => Value.int (M.2.2 qs j))) := by rw [ev qs N1]; exact x_arr hW hs1 hkd2
  have hc1 : H[base + (qd - 64)]? = some (arrV (T kd) N2 (fun j => Value.int (M.2.2 qd j))) := by rw [ev qd N2]; exact x_arr hW hs2 hkd2
  have nn : ∀ z : Int32, ¬ z < 0 → z.toInt = (z.toNatClampNeg : Int) := by
    intro z hz
    have hz0 : (0 : Int) ≤ z.toInt := by
      have := Int32.not_lt.mp hz
      simpa using Int32.le_iff_toInt_le.mp this
    show z.toInt = ((z.toInt.toNat : Nat) : Int)
    omega
  intro T0 hT X
  obtain ⟨-, k0, hk0, cm0, hkk0⟩ := hty N1 (fun j => .int (M.2.2 qs j))
  obtain ⟨-, k1', hk1, cm1, hkk1⟩ := hty N2 (fun j => .int (M.2.2 qd j))
  obtain ⟨vm', X', step⟩ := X.arraycopy hx hown (hts _ (x_w_in hI1)) (hts _ (x_w_in hI2)) (hts _ (x_w_in hI3)) (hts _ (x_w_in hI4)) (src := base + (qs - 64)) (dst := base + (qd - 64)) (cs := arrV (T kd) N1 (fun j => Value.int (M.2.2 qs j))) (cd := arrV (T kd) N2 (fun j => Value.int (M.2.2 qd j))) (srcPos := sp) (destPos := dp) (n := n0) (by rw [hT]; exact hc0) (by rw [hT]; exact hc1)
    (fun _ h => by cases h) (fun _ h => by cases h) (fun h => by cases h) (fun h => by cases h) hk0 hk1 hkk0 hkk1 (by simp [hprim]) h1 h2 h3
    (by rw [nn sp h1, nn n0 h3, arrV_size]; omega)
    (by rw [nn dp h2, nn n0 h3, arrV_size]; omega)
    (fun vm₁ _ j hj => by
      have e : (arrV (T kd) N1 (fun j => Value.int (M.2.2 qs j))).slots.getD (sp.toNatClampNeg + j) .null = .int (M.2.2 qs (sp.toNatClampNeg + j)) := by
        rw [Array.getD_eq_getD_getElem?, arrV_read _ _ (by omega)]
        rfl
      refine ⟨?_, ?_⟩
      · rw [e]
        exact hfit2 _ (by omega)
      · rw [e]
        exact trivial)
    (g := F0 m pc ls (.int n0 :: .int dp :: .ref (base + (qd - 64)) :: .int sp :: .ref (base + (qs - 64)) :: S.map (x_cv ex base))) rfl (by show ls.size = _; rw [hL.1, hml]) (rest := S.map (x_cv ex base)) rfl (by rw [hb]; exact hd) (by omega)
    (by show 2 * 0 + _ + _ ≤ _; rw [x_cat_sum hE.1]; have : nativeFrameWords "java/lang/System" "arraycopy" 5 = 7 := rfl; omega)
  have e1 : copied (arrV (T kd) N1 (fun j => Value.int (M.2.2 qs j))) (arrV (T kd) N2 (fun j => Value.int (M.2.2 qd j))) sp dp n0 = arrV (T kd) N2 (fun j => Value.int (va_cpy (M.2.2 qs) (M.2.2 qd) sp.toNatClampNeg dp.toNatClampNeg n0.toNatClampNeg j)) := va_copied (fun z => .int z) (T kd) (T kd) (M.2.2 qs) (M.2.2 qd) h4
  rw [e1] at X' step
  have hl : base + (qd - 64) < H.size := (Array.getElem?_eq_some_iff.mp hc1).1
  have hheap : ((T0.setVm vm').setCell (base + (qd - 64)) (arrV (T kd) N2 (fun j => Value.int (va_cpy (M.2.2 qs) (M.2.2 qd) sp.toNatClampNeg dp.toNatClampNeg n0.toNatClampNeg j)))).heap = H.setIfInBounds (base + (qd - 64)) (arrV (T kd) N2 (fun j => Value.int (va_cpy (M.2.2 qs) (M.2.2 qd) sp.toNatClampNeg dp.toNatClampNeg n0.toNatClampNeg j))) := by rw [← hT]; rfl
  have oq : ∀ q : Nat, q ≠ base + (qd - 64) → (H.setIfInBounds (base + (qd - 64)) (arrV (T kd) N2 (fun j => Value.int (va_cpy (M.2.2 qs) (M.2.2 qd) sp.toNatClampNeg dp.toNatClampNeg n0.toNatClampNeg j))))[q]? = H[q]? := fun q hq => by simp [Array.getElem?_setIfInBounds, Ne.symm hq]
  have hv2 : ∀ p' i' k', i' ≠ qd → x_v ex base (x_cpy M qs qd sp.toNatClampNeg dp.toNatClampNeg n0.toNatClampNeg) p' i' k' = x_v ex base M p' i' k' := by
    intro p' i' k' hne
    unfold x_v x_cpy
    simp only [if_neg hne]
  have hW' : x_World D T ex base (x_cpy M qs qd sp.toNatClampNeg dp.toNatClampNeg n0.toNatClampNeg) (H.setIfInBounds (base + (qd - 64)) (arrV (T kd) N2 (fun j => Value.int (va_cpy (M.2.2 qs) (M.2.2 qd) sp.toNatClampNeg dp.toNatClampNeg n0.toNatClampNeg j)))) := by
    refine x_World_put hW hs2 rfl (by simp) oq hv2 ?_
    unfold x_at
    rw [if_neg (by show ¬ kd < 100; omega), show 64 + (qd - 64) = qd by have := (x_kd_lt hs2).1; omega]
    rw [Array.getElem?_setIfInBounds, if_pos rfl, if_pos hl]
    congr 2
    funext j
    rw [x_vi hkd2 hkd3]
    simp [x_cpy]
  have k1 := fun locs1 hS1 => kk p l e R s m args below meth c _ locs1 ls D T ex base ⟨h0.1, h0.2.1, h0.2.2.1, hW', hS1, hL⟩
  rw [hn rfl] at k1
  have k2 := fun hS1 => k1 _ hS1 _ hheap X'
  obtain ⟨t, a1, b1⟩ := k2 ⟨by simp; exact hS.1, fun q g1 g2 => by
      rw [oq q (fun e => g2 (by rw [e]; show base ≤ _; omega))]
      exact hS.2.1 q g1 g2, fun q hq => by
      rcases List.mem_append.mp hq with h | h
      · exact hS.2.2 q h
      · obtain ⟨z, -, hz⟩ := List.mem_map.mp h
        rw [← hz]
        show base ≤ base + (qd - 64)
        omega⟩
  exact ⟨t, step t a1, b1⟩
end XN
end
section
/-! ===== the cells behind the constructors: their shape and references never change after ===== -/
def xG : List (Nat × Nat) := [(7, 7), (6, 10), (103, 6), (101, 100), (5, 7), (100, 10), (100, 10), (100, 100), (100, 6), (4, 4), (100, 8), (100, 8), (100, 8), (4, 4), (100, 8), (100, 8), (100, 8), (4, 4), (100, 8), (100, 8), (100, 8), (1, 9), (100, 4), (1, 9), (100, 4), (1, 9), (100, 4), (1, 9), (100, 4), (1, 9), (100, 4), (1, 9), (100, 4), (6, 10), (103, 6), (101, 100), (5, 7), (100, 10), (100, 10), (100, 100), (100, 6), (4, 4), (100, 8), (100, 8), (100, 8), (4, 4), (100, 8), (100, 8), (100, 8), (4, 4), (100, 8), (100, 8), (100, 8), (1, 9), (100, 4), (1, 9), (100, 4), (1, 9), (100, 4), (1, 9), (100, 4), (1, 9), (100, 4), (1, 9), (100, 4), (1, 9), (100, 4), (3, 5), (5, 7), (100, 10), (100, 10), (100, 100), (100, 6), (101, 100), (0, 2), (100, 20), (2, 1), (100, 64), (8, 20), (100, 931), (100, 931), (100, 31), (100, 6), (102, 64), (100, 6), (100, 6), (100, 20)]
def xRt : List (List Value) := [[.ref 65, .ref 97, .null, .ref 129, .ref 131, .ref 138, .ref 140], [.ref 66, .null, .null, .ref 67, .null, .ref 68, .null, .ref 73, .ref 77, .ref 81], [.ref 85, .ref 87, .ref 89, .ref 91, .ref 93, .ref 95], [], [.null, .null, .ref 69, .ref 70, .ref 71, .null, .ref 72], [], [], [], [], [.ref 74, .ref 75, .ref 76], [], [], [], [.ref 78, .ref 79, .ref 80], [], [], [], [.ref 82, .ref 83, .ref 84], [], [], [], [.null, .null, .null, .null, .null, .null, .null, .null, .ref 86], [], [.null, .null, .null, .null, .null, .null, .null, .null, .ref 88], [], [.null, .null, .null, .null, .null, .null, .null, .null, .ref 90], [], [.null, .null, .null, .null, .null, .null, .null, .null, .ref 92], [], [.null, .null, .null, .null, .null, .null, .null, .null, .ref 94], [], [.null, .null, .null, .null, .null, .null, .null, .null, .ref 96], [], [.ref 98, .null, .null, .ref 99, .null, .ref 100, .null, .ref 105, .ref 109, .ref 113], [.ref 117, .ref 119, .ref 121, .ref 123, .ref 125, .ref 127], [], [.null, .null, .ref 101, .ref 102, .ref 103, .null, .ref 104], [], [], [], [], [.ref 106, .ref 107, .ref 108], [], [], [], [.ref 110, .ref 111, .ref 112], [], [], [], [.ref 114, .ref 115, .ref 116], [], [], [], [.null, .null, .null, .null, .null, .null, .null, .null, .ref 118], [], [.null, .null, .null, .null, .null, .null, .null, .null, .ref 120], [], [.null, .null, .null, .null, .null, .null, .null, .null, .ref 122], [], [.null, .null, .null, .null, .null, .null, .null, .null, .ref 124], [], [.null, .null, .null, .null, .null, .null, .null, .null, .ref 126], [], [.null, .null, .null, .null, .null, .null, .null, .null, .ref 128], [], [.null, .null, .null, .null, .null, .null, .null, .null, .ref 130], [], [.ref 132, .ref 137], [.null, .null, .ref 133, .ref 134, .ref 135, .null, .ref 136], [], [], [], [], [], [.ref 139], [], [.ref 141], [], [.null, .ref 143, .ref 144, .ref 145, .null, .null, .null, .null, .null, .null, .ref 146, .ref 147, .ref 148, .ref 149, .null, .ref 150], [], [], [], [], [], [], [], []]
def xR (q b : Nat) : Value := if q < 64 then .null else (xRt.getD (q - 64) []).getD b .null
abbrev x_mk (I : Nat → Nat → Int32) : XM := (xG, xR, I)
theorem kd_64 (I : Nat → Nat → Int32) : x_kd (x_mk I) 64 = some (7, 7) := rfl
theorem kd_65 (I : Nat → Nat → Int32) : x_kd (x_mk I) 65 = some (6, 10) := rfl
theorem kd_66 (I : Nat → Nat → Int32) : x_kd (x_mk I) 66 = some (103, 6) := rfl
theorem kd_67 (I : Nat → Nat → Int32) : x_kd (x_mk I) 67 = some (101, 100) := rfl
theorem kd_68 (I : Nat → Nat → Int32) : x_kd (x_mk I) 68 = some (5, 7) := rfl
theorem kd_69 (I : Nat → Nat → Int32) : x_kd (x_mk I) 69 = some (100, 10) := rfl
theorem kd_70 (I : Nat → Nat → Int32) : x_kd (x_mk I) 70 = some (100, 10) := rfl
theorem kd_71 (I : Nat → Nat → Int32) : x_kd (x_mk I) 71 = some (100, 100) := rfl
theorem kd_72 (I : Nat → Nat → Int32) : x_kd (x_mk I) 72 = some (100, 6) := rfl
theorem kd_73 (I : Nat → Nat → Int32) : x_kd (x_mk I) 73 = some (4, 4) := rfl
theorem kd_74 (I : Nat → Nat → Int32) : x_kd (x_mk I) 74 = some (100, 8) := rfl
theorem kd_75 (I : Nat → Nat → Int32) : x_kd (x_mk I) 75 = some (100, 8) := rfl
theorem kd_76 (I : Nat → Nat → Int32) : x_kd (x_mk I) 76 = some (100, 8) := rfl
theorem kd_77 (I : Nat → Nat → Int32) : x_kd (x_mk I) 77 = some (4, 4) := rfl
theorem kd_78 (I : Nat → Nat → Int32) : x_kd (x_mk I) 78 = some (100, 8) := rfl
theorem kd_79 (I : Nat → Nat → Int32) : x_kd (x_mk I) 79 = some (100, 8) := rfl
theorem kd_80 (I : Nat → Nat → Int32) : x_kd (x_mk I) 80 = some (100, 8) := rfl
theorem kd_81 (I : Nat → Nat → Int32) : x_kd (x_mk I) 81 = some (4, 4) := rfl
theorem kd_82 (I : Nat → Nat → Int32) : x_kd (x_mk I) 82 = some (100, 8) := rfl
theorem kd_83 (I : Nat → Nat → Int32) : x_kd (x_mk I) 83 = some (100, 8) := rfl
theorem kd_84 (I : Nat → Nat → Int32) : x_kd (x_mk I) 84 = some (100, 8) := rfl
theorem kd_85 (I : Nat → Nat → Int32) : x_kd (x_mk I) 85 = some (1, 9) := rfl
theorem kd_86 (I : Nat → Nat → Int32) : x_kd (x_mk I) 86 = some (100, 4) := rfl
theorem kd_87 (I : Nat → Nat → Int32) : x_kd (x_mk I) 87 = some (1, 9) := rfl
theorem kd_88 (I : Nat → Nat → Int32) : x_kd (x_mk I) 88 = some (100, 4) := rfl
theorem kd_89 (I : Nat → Nat → Int32) : x_kd (x_mk I) 89 = some (1, 9) := rfl
theorem kd_90 (I : Nat → Nat → Int32) : x_kd (x_mk I) 90 = some (100, 4) := rfl
theorem kd_91 (I : Nat → Nat → Int32) : x_kd (x_mk I) 91 = some (1, 9) := rfl
theorem kd_92 (I : Nat → Nat → Int32) : x_kd (x_mk I) 92 = some (100, 4) := rfl
theorem kd_93 (I : Nat → Nat → Int32) : x_kd (x_mk I) 93 = some (1, 9) := rfl
theorem kd_94 (I : Nat → Nat → Int32) : x_kd (x_mk I) 94 = some (100, 4) := rfl
theorem kd_95 (I : Nat → Nat → Int32) : x_kd (x_mk I) 95 = some (1, 9) := rfl
theorem kd_96 (I : Nat → Nat → Int32) : x_kd (x_mk I) 96 = some (100, 4) := rfl
theorem kd_97 (I : Nat → Nat → Int32) : x_kd (x_mk I) 97 = some (6, 10) := rfl
theorem kd_98 (I : Nat → Nat → Int32) : x_kd (x_mk I) 98 = some (103, 6) := rfl
theorem kd_99 (I : Nat → Nat → Int32) : x_kd (x_mk I) 99 = some (101, 100) := rfl
theorem kd_100 (I : Nat → Nat → Int32) : x_kd (x_mk I) 100 = some (5, 7) := rfl
theorem kd_101 (I : Nat → Nat → Int32) : x_kd (x_mk I) 101 = some (100, 10) := rfl
theorem kd_102 (I : Nat → Nat → Int32) : x_kd (x_mk I) 102 = some (100, 10) := rfl
theorem kd_103 (I : Nat → Nat → Int32) : x_kd (x_mk I) 103 = some (100, 100) := rfl
theorem kd_104 (I : Nat → Nat → Int32) : x_kd (x_mk I) 104 = some (100, 6) := rfl
theorem kd_105 (I : Nat → Nat → Int32) : x_kd (x_mk I) 105 = some (4, 4) := rfl
theorem kd_106 (I : Nat → Nat → Int32) : x_kd (x_mk I) 106 = some (100, 8) := rfl
theorem kd_107 (I : Nat → Nat → Int32) : x_kd (x_mk I) 107 = some (100, 8) := rfl
theorem kd_108 (I : Nat → Nat → Int32) : x_kd (x_mk I) 108 = some (100, 8) := rfl
theorem kd_109 (I : Nat → Nat → Int32) : x_kd (x_mk I) 109 = some (4, 4) := rfl
theorem kd_110 (I : Nat → Nat → Int32) : x_kd (x_mk I) 110 = some (100, 8) := rfl
theorem kd_111 (I : Nat → Nat → Int32) : x_kd (x_mk I) 111 = some (100, 8) := rfl
theorem kd_112 (I : Nat → Nat → Int32) : x_kd (x_mk I) 112 = some (100, 8) := rfl
theorem kd_113 (I : Nat → Nat → Int32) : x_kd (x_mk I) 113 = some (4, 4) := rfl
theorem kd_114 (I : Nat → Nat → Int32) : x_kd (x_mk I) 114 = some (100, 8) := rfl
theorem kd_115 (I : Nat → Nat → Int32) : x_kd (x_mk I) 115 = some (100, 8) := rfl
theorem kd_116 (I : Nat → Nat → Int32) : x_kd (x_mk I) 116 = some (100, 8) := rfl
theorem kd_117 (I : Nat → Nat → Int32) : x_kd (x_mk I) 117 = some (1, 9) := rfl
theorem kd_118 (I : Nat → Nat → Int32) : x_kd (x_mk I) 118 = some (100, 4) := rfl
theorem kd_119 (I : Nat → Nat → Int32) : x_kd (x_mk I) 119 = some (1, 9) := rfl
theorem kd_120 (I : Nat → Nat → Int32) : x_kd (x_mk I) 120 = some (100, 4) := rfl
theorem kd_121 (I : Nat → Nat → Int32) : x_kd (x_mk I) 121 = some (1, 9) := rfl
theorem kd_122 (I : Nat → Nat → Int32) : x_kd (x_mk I) 122 = some (100, 4) := rfl
theorem kd_123 (I : Nat → Nat → Int32) : x_kd (x_mk I) 123 = some (1, 9) := rfl
theorem kd_124 (I : Nat → Nat → Int32) : x_kd (x_mk I) 124 = some (100, 4) := rfl
theorem kd_125 (I : Nat → Nat → Int32) : x_kd (x_mk I) 125 = some (1, 9) := rfl
theorem kd_126 (I : Nat → Nat → Int32) : x_kd (x_mk I) 126 = some (100, 4) := rfl
theorem kd_127 (I : Nat → Nat → Int32) : x_kd (x_mk I) 127 = some (1, 9) := rfl
theorem kd_128 (I : Nat → Nat → Int32) : x_kd (x_mk I) 128 = some (100, 4) := rfl
theorem kd_129 (I : Nat → Nat → Int32) : x_kd (x_mk I) 129 = some (1, 9) := rfl
theorem kd_130 (I : Nat → Nat → Int32) : x_kd (x_mk I) 130 = some (100, 4) := rfl
theorem kd_131 (I : Nat → Nat → Int32) : x_kd (x_mk I) 131 = some (3, 5) := rfl
theorem kd_132 (I : Nat → Nat → Int32) : x_kd (x_mk I) 132 = some (5, 7) := rfl
theorem kd_133 (I : Nat → Nat → Int32) : x_kd (x_mk I) 133 = some (100, 10) := rfl
theorem kd_134 (I : Nat → Nat → Int32) : x_kd (x_mk I) 134 = some (100, 10) := rfl
theorem kd_135 (I : Nat → Nat → Int32) : x_kd (x_mk I) 135 = some (100, 100) := rfl
theorem kd_136 (I : Nat → Nat → Int32) : x_kd (x_mk I) 136 = some (100, 6) := rfl
theorem kd_137 (I : Nat → Nat → Int32) : x_kd (x_mk I) 137 = some (101, 100) := rfl
theorem kd_138 (I : Nat → Nat → Int32) : x_kd (x_mk I) 138 = some (0, 2) := rfl
theorem kd_139 (I : Nat → Nat → Int32) : x_kd (x_mk I) 139 = some (100, 20) := rfl
theorem kd_140 (I : Nat → Nat → Int32) : x_kd (x_mk I) 140 = some (2, 1) := rfl
theorem kd_141 (I : Nat → Nat → Int32) : x_kd (x_mk I) 141 = some (100, 64) := rfl
theorem kd_142 (I : Nat → Nat → Int32) : x_kd (x_mk I) 142 = some (8, 20) := rfl
theorem kd_143 (I : Nat → Nat → Int32) : x_kd (x_mk I) 143 = some (100, 931) := rfl
theorem kd_144 (I : Nat → Nat → Int32) : x_kd (x_mk I) 144 = some (100, 931) := rfl
theorem kd_145 (I : Nat → Nat → Int32) : x_kd (x_mk I) 145 = some (100, 31) := rfl
theorem kd_146 (I : Nat → Nat → Int32) : x_kd (x_mk I) 146 = some (100, 6) := rfl
theorem kd_147 (I : Nat → Nat → Int32) : x_kd (x_mk I) 147 = some (102, 64) := rfl
theorem kd_148 (I : Nat → Nat → Int32) : x_kd (x_mk I) 148 = some (100, 6) := rfl
theorem kd_149 (I : Nat → Nat → Int32) : x_kd (x_mk I) 149 = some (100, 6) := rfl
theorem kd_150 (I : Nat → Nat → Int32) : x_kd (x_mk I) 150 = some (100, 20) := rfl
theorem kr_64_0 (I : Nat → Nat → Int32) : (x_mk I).2.1 64 0 = .ref 65 := rfl
theorem kr_64_1 (I : Nat → Nat → Int32) : (x_mk I).2.1 64 1 = .ref 97 := rfl
theorem kr_64_3 (I : Nat → Nat → Int32) : (x_mk I).2.1 64 3 = .ref 129 := rfl
theorem kr_64_4 (I : Nat → Nat → Int32) : (x_mk I).2.1 64 4 = .ref 131 := rfl
theorem kr_64_5 (I : Nat → Nat → Int32) : (x_mk I).2.1 64 5 = .ref 138 := rfl
theorem kr_64_6 (I : Nat → Nat → Int32) : (x_mk I).2.1 64 6 = .ref 140 := rfl
theorem kr_65_0 (I : Nat → Nat → Int32) : (x_mk I).2.1 65 0 = .ref 66 := rfl
theorem kr_65_3 (I : Nat → Nat → Int32) : (x_mk I).2.1 65 3 = .ref 67 := rfl
theorem kr_65_5 (I : Nat → Nat → Int32) : (x_mk I).2.1 65 5 = .ref 68 := rfl
theorem kr_65_7 (I : Nat → Nat → Int32) : (x_mk I).2.1 65 7 = .ref 73 := rfl
theorem kr_65_8 (I : Nat → Nat → Int32) : (x_mk I).2.1 65 8 = .ref 77 := rfl
theorem kr_65_9 (I : Nat → Nat → Int32) : (x_mk I).2.1 65 9 = .ref 81 := rfl
theorem kr_66_0 (I : Nat → Nat → Int32) : (x_mk I).2.1 66 0 = .ref 85 := rfl
theorem kr_66_1 (I : Nat → Nat → Int32) : (x_mk I).2.1 66 1 = .ref 87 := rfl
theorem kr_66_2 (I : Nat → Nat → Int32) : (x_mk I).2.1 66 2 = .ref 89 := rfl
theorem kr_66_3 (I : Nat → Nat → Int32) : (x_mk I).2.1 66 3 = .ref 91 := rfl
theorem kr_66_4 (I : Nat → Nat → Int32) : (x_mk I).2.1 66 4 = .ref 93 := rfl
theorem kr_66_5 (I : Nat → Nat → Int32) : (x_mk I).2.1 66 5 = .ref 95 := rfl
theorem kr_68_2 (I : Nat → Nat → Int32) : (x_mk I).2.1 68 2 = .ref 69 := rfl
theorem kr_68_3 (I : Nat → Nat → Int32) : (x_mk I).2.1 68 3 = .ref 70 := rfl
theorem kr_68_4 (I : Nat → Nat → Int32) : (x_mk I).2.1 68 4 = .ref 71 := rfl
theorem kr_68_6 (I : Nat → Nat → Int32) : (x_mk I).2.1 68 6 = .ref 72 := rfl
theorem kr_73_0 (I : Nat → Nat → Int32) : (x_mk I).2.1 73 0 = .ref 74 := rfl
theorem kr_73_1 (I : Nat → Nat → Int32) : (x_mk I).2.1 73 1 = .ref 75 := rfl
theorem kr_73_2 (I : Nat → Nat → Int32) : (x_mk I).2.1 73 2 = .ref 76 := rfl
theorem kr_77_0 (I : Nat → Nat → Int32) : (x_mk I).2.1 77 0 = .ref 78 := rfl
theorem kr_77_1 (I : Nat → Nat → Int32) : (x_mk I).2.1 77 1 = .ref 79 := rfl
theorem kr_77_2 (I : Nat → Nat → Int32) : (x_mk I).2.1 77 2 = .ref 80 := rfl
theorem kr_81_0 (I : Nat → Nat → Int32) : (x_mk I).2.1 81 0 = .ref 82 := rfl
theorem kr_81_1 (I : Nat → Nat → Int32) : (x_mk I).2.1 81 1 = .ref 83 := rfl
theorem kr_81_2 (I : Nat → Nat → Int32) : (x_mk I).2.1 81 2 = .ref 84 := rfl
theorem kr_85_8 (I : Nat → Nat → Int32) : (x_mk I).2.1 85 8 = .ref 86 := rfl
theorem kr_87_8 (I : Nat → Nat → Int32) : (x_mk I).2.1 87 8 = .ref 88 := rfl
theorem kr_89_8 (I : Nat → Nat → Int32) : (x_mk I).2.1 89 8 = .ref 90 := rfl
theorem kr_91_8 (I : Nat → Nat → Int32) : (x_mk I).2.1 91 8 = .ref 92 := rfl
theorem kr_93_8 (I : Nat → Nat → Int32) : (x_mk I).2.1 93 8 = .ref 94 := rfl
theorem kr_95_8 (I : Nat → Nat → Int32) : (x_mk I).2.1 95 8 = .ref 96 := rfl
theorem kr_97_0 (I : Nat → Nat → Int32) : (x_mk I).2.1 97 0 = .ref 98 := rfl
theorem kr_97_3 (I : Nat → Nat → Int32) : (x_mk I).2.1 97 3 = .ref 99 := rfl
theorem kr_97_5 (I : Nat → Nat → Int32) : (x_mk I).2.1 97 5 = .ref 100 := rfl
theorem kr_97_7 (I : Nat → Nat → Int32) : (x_mk I).2.1 97 7 = .ref 105 := rfl
theorem kr_97_8 (I : Nat → Nat → Int32) : (x_mk I).2.1 97 8 = .ref 109 := rfl
theorem kr_97_9 (I : Nat → Nat → Int32) : (x_mk I).2.1 97 9 = .ref 113 := rfl
theorem kr_98_0 (I : Nat → Nat → Int32) : (x_mk I).2.1 98 0 = .ref 117 := rfl
theorem kr_98_1 (I : Nat → Nat → Int32) : (x_mk I).2.1 98 1 = .ref 119 := rfl
theorem kr_98_2 (I : Nat → Nat → Int32) : (x_mk I).2.1 98 2 = .ref 121 := rfl
theorem kr_98_3 (I : Nat → Nat → Int32) : (x_mk I).2.1 98 3 = .ref 123 := rfl
theorem kr_98_4 (I : Nat → Nat → Int32) : (x_mk I).2.1 98 4 = .ref 125 := rfl
theorem kr_98_5 (I : Nat → Nat → Int32) : (x_mk I).2.1 98 5 = .ref 127 := rfl
theorem kr_100_2 (I : Nat → Nat → Int32) : (x_mk I).2.1 100 2 = .ref 101 := rfl
theorem kr_100_3 (I : Nat → Nat → Int32) : (x_mk I).2.1 100 3 = .ref 102 := rfl
theorem kr_100_4 (I : Nat → Nat → Int32) : (x_mk I).2.1 100 4 = .ref 103 := rfl
theorem kr_100_6 (I : Nat → Nat → Int32) : (x_mk I).2.1 100 6 = .ref 104 := rfl
theorem kr_105_0 (I : Nat → Nat → Int32) : (x_mk I).2.1 105 0 = .ref 106 := rfl
theorem kr_105_1 (I : Nat → Nat → Int32) : (x_mk I).2.1 105 1 = .ref 107 := rfl
theorem kr_105_2 (I : Nat → Nat → Int32) : (x_mk I).2.1 105 2 = .ref 108 := rfl
theorem kr_109_0 (I : Nat → Nat → Int32) : (x_mk I).2.1 109 0 = .ref 110 := rfl
theorem kr_109_1 (I : Nat → Nat → Int32) : (x_mk I).2.1 109 1 = .ref 111 := rfl
theorem kr_109_2 (I : Nat → Nat → Int32) : (x_mk I).2.1 109 2 = .ref 112 := rfl
theorem kr_113_0 (I : Nat → Nat → Int32) : (x_mk I).2.1 113 0 = .ref 114 := rfl
theorem kr_113_1 (I : Nat → Nat → Int32) : (x_mk I).2.1 113 1 = .ref 115 := rfl
theorem kr_113_2 (I : Nat → Nat → Int32) : (x_mk I).2.1 113 2 = .ref 116 := rfl
theorem kr_117_8 (I : Nat → Nat → Int32) : (x_mk I).2.1 117 8 = .ref 118 := rfl
theorem kr_119_8 (I : Nat → Nat → Int32) : (x_mk I).2.1 119 8 = .ref 120 := rfl
theorem kr_121_8 (I : Nat → Nat → Int32) : (x_mk I).2.1 121 8 = .ref 122 := rfl
theorem kr_123_8 (I : Nat → Nat → Int32) : (x_mk I).2.1 123 8 = .ref 124 := rfl
theorem kr_125_8 (I : Nat → Nat → Int32) : (x_mk I).2.1 125 8 = .ref 126 := rfl
theorem kr_127_8 (I : Nat → Nat → Int32) : (x_mk I).2.1 127 8 = .ref 128 := rfl
theorem kr_129_8 (I : Nat → Nat → Int32) : (x_mk I).2.1 129 8 = .ref 130 := rfl
theorem kr_131_0 (I : Nat → Nat → Int32) : (x_mk I).2.1 131 0 = .ref 132 := rfl
theorem kr_131_1 (I : Nat → Nat → Int32) : (x_mk I).2.1 131 1 = .ref 137 := rfl
theorem kr_132_2 (I : Nat → Nat → Int32) : (x_mk I).2.1 132 2 = .ref 133 := rfl
theorem kr_132_3 (I : Nat → Nat → Int32) : (x_mk I).2.1 132 3 = .ref 134 := rfl
theorem kr_132_4 (I : Nat → Nat → Int32) : (x_mk I).2.1 132 4 = .ref 135 := rfl
theorem kr_132_6 (I : Nat → Nat → Int32) : (x_mk I).2.1 132 6 = .ref 136 := rfl
theorem kr_138_0 (I : Nat → Nat → Int32) : (x_mk I).2.1 138 0 = .ref 139 := rfl
theorem kr_140_0 (I : Nat → Nat → Int32) : (x_mk I).2.1 140 0 = .ref 141 := rfl
theorem kr_142_1 (I : Nat → Nat → Int32) : (x_mk I).2.1 142 1 = .ref 143 := rfl
theorem kr_142_2 (I : Nat → Nat → Int32) : (x_mk I).2.1 142 2 = .ref 144 := rfl
theorem kr_142_3 (I : Nat → Nat → Int32) : (x_mk I).2.1 142 3 = .ref 145 := rfl
theorem kr_142_10 (I : Nat → Nat → Int32) : (x_mk I).2.1 142 10 = .ref 146 := rfl
theorem kr_142_11 (I : Nat → Nat → Int32) : (x_mk I).2.1 142 11 = .ref 147 := rfl
theorem kr_142_12 (I : Nat → Nat → Int32) : (x_mk I).2.1 142 12 = .ref 148 := rfl
theorem kr_142_13 (I : Nat → Nat → Int32) : (x_mk I).2.1 142 13 = .ref 149 := rfl
theorem kr_142_15 (I : Nat → Nat → Int32) : (x_mk I).2.1 142 15 = .ref 150 := rfl
/-- r is the number of a man's cell -/
def x_man (r : Nat) : Prop := (∀ I, x_kd (x_mk I) r = some (1, 9)) ∧ xR r 8 = .ref (r + 1) ∧ (∀ I, x_kd (x_mk I) (r + 1) = some (100, 4)) ∧ ¬ r < 64
theorem x_man_now {j : Nat} (h : j < 6) : x_man (85 + 2 * j) ∧ xR 66 j = .ref (85 + 2 * j) := by
  match j, h with
  | 0, _ => exact ⟨⟨fun _ => rfl, rfl, fun _ => rfl, by decide⟩, rfl⟩
  | 1, _ => exact ⟨⟨fun _ => rfl, rfl, fun _ => rfl, by decide⟩, rfl⟩
  | 2, _ => exact ⟨⟨fun _ => rfl, rfl, fun _ => rfl, by decide⟩, rfl⟩
  | 3, _ => exact ⟨⟨fun _ => rfl, rfl, fun _ => rfl, by decide⟩, rfl⟩
  | 4, _ => exact ⟨⟨fun _ => rfl, rfl, fun _ => rfl, by decide⟩, rfl⟩
  | 5, _ => exact ⟨⟨fun _ => rfl, rfl, fun _ => rfl, by decide⟩, rfl⟩
theorem x_man_img {j : Nat} (h : j < 6) : x_man (117 + 2 * j) ∧ xR 98 j = .ref (117 + 2 * j) := by
  match j, h with
  | 0, _ => exact ⟨⟨fun _ => rfl, rfl, fun _ => rfl, by decide⟩, rfl⟩
  | 1, _ => exact ⟨⟨fun _ => rfl, rfl, fun _ => rfl, by decide⟩, rfl⟩
  | 2, _ => exact ⟨⟨fun _ => rfl, rfl, fun _ => rfl, by decide⟩, rfl⟩
  | 3, _ => exact ⟨⟨fun _ => rfl, rfl, fun _ => rfl, by decide⟩, rfl⟩
  | 4, _ => exact ⟨⟨fun _ => rfl, rfl, fun _ => rfl, by decide⟩, rfl⟩
  | 5, _ => exact ⟨⟨fun _ => rfl, rfl, fun _ => rfl, by decide⟩, rfl⟩
theorem x_man_129 : x_man 129 := ⟨fun _ => rfl, rfl, fun _ => rfl, by decide⟩
theorem x_in_lt {j : Int32} {N : Nat} (h : vp_in j N) : j.toNatClampNeg < N := Nat.not_le.mp fun z => h (Or.inr z)
/-! ===== the calculus over the ints alone: nothing is made ===== -/
abbrev x_Q (Q : Option Value → (Nat → Nat → Int32) → Prop) : Option Value → XM → Prop := fun v M => ∃ I, M = x_mk I ∧ Q v I
abbrev x_P (E : XE) (d mi i : Nat) (L S : List Value) (I : Nat → Nat → Int32) (Q : Option Value → (Nat → Nat → Int32) → Prop) : Prop := x_WP E d mi i L S (x_mk I) 0 0 0 0 (x_Q Q)
abbrev x_K (E : XE) (d mi : Nat) (As : List Value) (I : Nat → Nat → Int32) (Q : Option Value → (Nat → Nat → Int32) → Prop) : Prop := x_C E d mi As (x_mk I) 0 0 (x_Q Q)
/-- a truth as the machine has it -/
def x_bi (c : Prop) [Decidable c] : Int32 := if c then 1 else 0
theorem x_bi_t {c : Prop} [Decidable c] (h : c) : x_bi c = 1 := if_pos h
theorem x_bi_f {c : Prop} [Decidable c] (h : ¬ c) : x_bi c = 0 := if_neg h
theorem x_bi_c {c c' : Prop} [Decidable c] [Decidable c'] (h : c ↔ c') : x_bi c = x_bi c' := by
  by_cases hc : c
  · rw [x_bi_t hc, x_bi_t (h.mp hc)]
  · rw [x_bi_f hc, x_bi_f (fun z => hc (h.mpr z))]
theorem x_bi_nar {c : Prop} [Decidable c] : narrow .boolean (.int (x_bi c)) = .int (x_bi c) := by
  by_cases h : c
  · rw [x_bi_t h]; rfl
  · rw [x_bi_f h]; rfl
section XS
variable {E : XE} {d mi i nx a b pc : Nat} {ps : List Nat} {L S : List Value} {I : Nat → Nat → Int32} {Q : Option Value → (Nat → Nat → Int32) → Prop}
theorem x_P.mono {Q' : Option Value → (Nat → Nat → Int32) → Prop} (h : x_P E d mi i L S I Q') (hq : ∀ v I', Q' v I' → Q v I') : x_P E d mi i L S I Q :=
  x_WP.mono h (fun v M' ⟨I', h1, h2⟩ => ⟨I', h1, hq v I' h2⟩)
theorem x_K.mono {As : List Value} {Q' : Option Value → (Nat → Nat → Int32) → Prop} (h : x_K E d mi As I Q') (hq : ∀ v I', Q' v I' → Q v I') : x_K E d mi As I Q :=
  x_C.mono h (fun v M' ⟨I', h1, h2⟩ => ⟨I', h1, hq v I' h2⟩)
theorem x_K.of {As L : List Value} (ha : 0 < mi ∧ mi < 192) (hM : ¬ (x_m mi).1.cls = "java/lang/Math") (hL : x_ent (x_m mi).2.2.1 As = L) (hl : L.length = (x_m mi).2.2.1) (hpc : x_pc mi 0 = 0) (h : x_P E d mi 0 L [] I Q) : x_K E d mi As I Q :=
  x_C.of ha hM hL hl h hpc
theorem s_bi_ne {c : Prop} [Decidable c] {off : Int} (ho : x_op mi i = some (pc, 3, .ifCond .ne off, nx, a, b, ps)) (kt : c → x_P E d mi a L S I Q) (kf : ¬ c → x_P E d mi nx L S I Q) : x_P E d mi i L (.int (x_bi c) :: S) I Q :=
  wp_if_ne ho (fun h => kt (Decidable.byContradiction fun z => h (x_bi_f z))) (fun h => kf (fun z => by rw [x_bi_t z] at h; exact absurd h (by decide)))
theorem s_bi_eq {c : Prop} [Decidable c] {off : Int} (ho : x_op mi i = some (pc, 3, .ifCond .eq off, nx, a, b, ps)) (kt : ¬ c → x_P E d mi a L S I Q) (kf : c → x_P E d mi nx L S I Q) : x_P E d mi i L (.int (x_bi c) :: S) I Q :=
  wp_if_eq ho (fun h => kt (fun z => by rw [x_bi_t z] at h; exact absurd h (by decide))) (fun h => kf (Decidable.byContradiction fun z => h (x_bi_f z)))
theorem s_putI {idx q N : Nat} {x : Int32} (ho : x_op mi i = some (pc, 3, .putfield idx, nx, a, b, ps)) (ha : a < 9) (hq : x_kd (x_mk I) q = some (a, N)) (hR : x_isR a b = false) (hfin : x_fin a b = false) (hfit : x_fit (x_ty a b) x)
    (kk : x_P E d mi nx L S (x_up I q b x) Q) : x_P E d mi i L (.int x :: .ref q :: S) I Q := wp_putI ho ha hq hR hfin hfit kk
theorem s_iast {q N : Nat} {j x : Int32} (ho : x_op mi i = some (pc, 1, .iastore, nx, a, b, ps)) (hq : x_kd (x_mk I) q = some (100, N)) (hin : vp_in j N) (kk : x_P E d mi nx L S (x_up I q j.toNatClampNeg x) Q) : x_P E d mi i L (.int x :: .int j :: .ref q :: S) I Q := wp_iast ho hq hin kk
theorem s_bast {q N : Nat} {j x : Int32} (ho : x_op mi i = some (pc, 1, .bastore, nx, a, b, ps)) (hq : x_kd (x_mk I) q = some (101, N)) (hin : vp_in j N) (kk : x_P E d mi nx L S (x_up I q j.toNatClampNeg x.toInt8.toInt32) Q) : x_P E d mi i L (.int x :: .int j :: .ref q :: S) I Q := wp_bast ho hq hin kk
theorem s_zast {q N : Nat} {j x : Int32} (ho : x_op mi i = some (pc, 1, .bastore, nx, a, b, ps)) (hq : x_kd (x_mk I) q = some (102, N)) (hin : vp_in j N) (hx1 : narrow .boolean (.int x) = .int x) (kk : x_P E d mi nx L S (x_up I q j.toNatClampNeg x) Q) : x_P E d mi i L (.int x :: .int j :: .ref q :: S) I Q := wp_zast ho hq hin hx1 kk
/-- an array's first n taken from another -/
def x_cp (I : Nat → Nat → Int32) (qs qd n : Nat) : Nat → Nat → Int32 := fun i j => if i = qd ∧ j < n then I qs j else I i j
theorem s_copy {idx qs qd kd N1 N2 : Nat} {n0 : Int32} (ho : x_op mi i = some (pc, 3, .invokestatic idx, nx, 1001, b, ps)) (hp1 : ps = [ps.getD 0 0, ps.getD 1 0, ps.getD 2 0, ps.getD 3 0]) (hs1 : x_kd (x_mk I) qs = some (kd, N1)) (hs2 : x_kd (x_mk I) qd = some (kd, N2)) (hkd : kd = 100 ∨ kd = 101)
    (h3 : ¬ n0 < 0) (h4 : n0.toNatClampNeg ≤ N1) (h5 : n0.toNatClampNeg ≤ N2) (hfit : kd = 101 → ∀ j, j < N1 → fits .byte (.int (I qs j)) = true) (hcat : (S.map fun v => v.category).sum ≤ 8) (hd1 : 1 ≤ d)
    (kk : x_P E d mi nx L S (x_cp I qs qd n0.toNatClampNeg) Q) : x_P E d mi i L (.int n0 :: .int 0 :: .ref qd :: .int 0 :: .ref qs :: S) I Q := by
  refine wp_copy ho hp1 hs1 hs2 hkd (by decide) (by decide) h3 ?_ ?_ hfit hcat hd1 ?_
  · rw [show (0 : Int32).toNatClampNeg = 0 from rfl]; omega
  · rw [show (0 : Int32).toNatClampNeg = 0 from rfl]; omega
  · have e : x_cpy (x_mk I) qs qd (0 : Int32).toNatClampNeg (0 : Int32).toNatClampNeg n0.toNatClampNeg = x_mk (x_cp I qs qd n0.toNatClampNeg) := by
      unfold x_cpy x_cp va_cpy
      rw [show (0 : Int32).toNatClampNeg = 0 from rfl]
      refine Prod.ext rfl (Prod.ext rfl ?_)
      funext i' j'
      dsimp only
      by_cases h1 : i' = qd
      · subst h1
        by_cases h2 : j' < n0.toNatClampNeg <;> simp [h2]
      · simp [h1]
    rw [e]
    exact kk
theorem s_iret {x : Int32} {ty : FieldType} (ho : x_op mi i = some (pc, 1, .ireturn, nx, a, b, ps)) (hr : (x_m mi).2.2.2.1 = some ty) (hn : narrow ty (.int x) = .int x) (hQ : Q (some (.int x)) I) : x_P E d mi i L [.int x] I Q := wp_iret ho hr hn (Nat.le_refl 0) (Nat.le_refl 0) ⟨I, rfl, hQ⟩
theorem s_lret {x : Int64} (ho : x_op mi i = some (pc, 1, .lreturn, nx, a, b, ps)) (hr : (x_m mi).2.2.2.1 = some .long) (hQ : Q (some (.long x)) I) : x_P E d mi i L [.long x] I Q := wp_lret ho hr (Nat.le_refl 0) (Nat.le_refl 0) ⟨I, rfl, hQ⟩
theorem s_vret (ho : x_op mi i = some (pc, 1, .return_, nx, a, b, ps)) (hr : (x_m mi).2.2.2.1 = none) (hQ : Q none I) : x_P E d mi i L [] I Q := wp_vret ho hr (Nat.le_refl 0) (Nat.le_refl 0) ⟨I, rfl, hQ⟩
theorem s_aret {v : Value} {C : String} (ho : x_op mi i = some (pc, 1, .areturn, nx, a, b, ps)) (hr : (x_m mi).2.2.2.1 = some (.object C)) (hv : v = .null ∨ ∃ r, v = .ref r) (hQ : Q (some v) I) : x_P E d mi i L [v] I Q := wp_aret ho hr hv (Nat.le_refl 0) (Nat.le_refl 0) ⟨I, rfl, hQ⟩
theorem s_invV {idx q c1 N : Nat} {r1 : vw_C} {As S0 : List Value} {d1 : Nat} {Q1 : Option Value → (Nat → Nat → Int32) → Prop} (ho : x_op mi i = some (pc, 3, .invokevirtual idx, nx, a, b, ps)) (ha : 0 < a ∧ a < 192) (hp1 : ps = [ps.getD 0 0, ps.getD 1 0, ps.getD 2 0, ps.getD 3 0, ps.getD 4 0]) (hb1 : As.length = b) (hst : S0 = As.reverse ++ .ref q :: S) (hcat : (S.map fun v => v.category).sum ≤ 8) (hd1 : d1 + 1 ≤ d)
    (hq : x_kd (x_mk I) q = some (c1, N)) (hc9 : c1 < 9) (hr1 : vwCl[c1]? = some r1) (hcls : r1.1 = (x_m a).1.cls)
    (hC : x_K E d1 a (.ref q :: As) I Q1) (kk : ∀ v I', Q1 v I' → x_P E d mi nx L (v.toList ++ S) I' Q) : x_P E d mi i L S0 I Q :=
  wp_invV ho ha hp1 hb1 hst hcat hd1 (Nat.le_refl 0) (Nat.le_refl 0) hq hc9 hr1 hcls hC (fun v M' ⟨I', h1, h2⟩ => by subst h1; exact kk v I' h2)
theorem s_invS {idx e0 : Nat} {As S0 : List Value} {d1 : Nat} {Q1 : Option Value → (Nat → Nat → Int32) → Prop} (ho : x_op mi i = some (pc, 3, .invokevirtual idx, nx, a, b, ps)) (ha : 0 < a ∧ a < 192) (hp1 : ps = [ps.getD 0 0, ps.getD 1 0, ps.getD 2 0, ps.getD 3 0, ps.getD 4 0]) (hb1 : As.length = b) (hst : S0 = As.reverse ++ .ref (8 + e0) :: S) (hcat : (S.map fun v => v.category).sum ≤ 8) (hd1 : d1 + 1 ≤ d)
    (he : e0 < 8) (hcls : (x_m a).1.cls = "java/lang/String")
    (hC : x_K E d1 a (.ref (8 + e0) :: As) I Q1) (kk : ∀ v I', Q1 v I' → x_P E d mi nx L (v.toList ++ S) I' Q) : x_P E d mi i L S0 I Q :=
  wp_invS ho ha hp1 hb1 hst hcat hd1 (Nat.le_refl 0) (Nat.le_refl 0) he hcls hC (fun v M' ⟨I', h1, h2⟩ => by subst h1; exact kk v I' h2)
theorem s_invSt {idx : Nat} {As S0 : List Value} {d1 : Nat} {Q1 : Option Value → (Nat → Nat → Int32) → Prop} (ho : x_op mi i = some (pc, 3, .invokestatic idx, nx, a, b, ps)) (ha : 0 < a ∧ a < 192) (hp1 : ps = [ps.getD 0 0, ps.getD 1 0, ps.getD 2 0, ps.getD 3 0]) (hb1 : As.length = b) (hst : S0 = As.reverse ++ S) (hcat : (S.map fun v => v.category).sum ≤ 8) (hd1 : d1 + 1 ≤ d)
    (hC : x_K E d1 a As I Q1) (kk : ∀ v I', Q1 v I' → x_P E d mi nx L (v.toList ++ S) I' Q) : x_P E d mi i L S0 I Q :=
  wp_invSt ho ha hp1 hb1 hst hcat hd1 (Nat.le_refl 0) (Nat.le_refl 0) hC (fun v M' ⟨I', h1, h2⟩ => by subst h1; exact kk v I' h2)
theorem s_mmax {idx : Nat} {x y : Int32} (ho : x_op mi i = some (pc, 3, .invokestatic idx, nx, 4, b, ps)) (hp1 : ps = [ps.getD 0 0, ps.getD 1 0, ps.getD 2 0, ps.getD 3 0]) (hcat : (S.map fun v => v.category).sum ≤ 8) (hd1 : 1 ≤ d) (kk : x_P E d mi nx L (.int (if x < y then y else x) :: S) I Q) : x_P E d mi i L (.int y :: .int x :: S) I Q := wp_mmax ho hp1 hcat hd1 (Nat.le_refl 0) (Nat.le_refl 0) kk
theorem s_mmin {idx : Nat} {x y : Int32} (ho : x_op mi i = some (pc, 3, .invokestatic idx, nx, 5, b, ps)) (hp1 : ps = [ps.getD 0 0, ps.getD 1 0, ps.getD 2 0, ps.getD 3 0]) (hcat : (S.map fun v => v.category).sum ≤ 8) (hd1 : 1 ≤ d) (kk : x_P E d mi nx L (.int (if y < x then y else x) :: S) I Q) : x_P E d mi i L (.int y :: .int x :: S) I Q := wp_mmin ho hp1 hcat hd1 (Nat.le_refl 0) (Nat.le_refl 0) kk
theorem s_mabs {idx : Nat} {x : Int32} (ho : x_op mi i = some (pc, 3, .invokestatic idx, nx, 3, b, ps)) (hp1 : ps = [ps.getD 0 0, ps.getD 1 0, ps.getD 2 0, ps.getD 3 0]) (hcat : (S.map fun v => v.category).sum ≤ 8) (hd1 : 1 ≤ d) (kk : x_P E d mi nx L (.int (if 0 ≤ x then x else 0 - x) :: S) I Q) : x_P E d mi i L (.int x :: S) I Q := wp_mabs ho hp1 hcat hd1 (Nat.le_refl 0) (Nat.le_refl 0) kk
end XS
end
section
/-! ===== helps of the printed stretches ===== -/
def x_sub : List Value → List Value → Prop
  | [], [] => True
  | a :: l, b :: l' => (a = x_jk ∨ a = b) ∧ x_sub l l'
  | _, _ => False
theorem x_sub_at : ∀ (L L' : List Value), x_sub L L' → L.length = L'.length ∧ ∀ (k : Nat) (v : Value), L[k]? = some v → v ≠ x_jk → L'[k]? = some v
  | [], [], _ => ⟨rfl, fun k v h => by simp at h⟩
  | a :: l, b :: l', h => by
    obtain ⟨h1, h2⟩ := h
    obtain ⟨e, g⟩ := x_sub_at l l' h2
    refine ⟨by simp [e], fun k v hk hv => ?_⟩
    match k, hk with
    | 0, hk =>
      cases hk
      rcases h1 with h1 | h1
      · exact absurd h1 hv
      · rw [h1]; rfl
    | k + 1, hk => exact g k v hk hv
  | [], _ :: _, h => h.elim
  | _ :: _, [], h => h.elim
/-- fewer locals known is more -/
theorem x_P.weak {E : XE} {d mi i : Nat} {L L' S : List Value} {I : Nat → Nat → Int32} {Q : Option Value → (Nat → Nat → Int32) → Prop} (hL : x_sub L L') (h : x_P E d mi i L S I Q) : x_P E d mi i L' S I Q := by
  obtain ⟨e, g⟩ := x_sub_at L L' hL
  intro p l e0 R s m args below meth c H locs ls D T ex base hh
  exact h p l e0 R s m args below meth c H locs ls D T ex base ⟨hh.1, hh.2.1, hh.2.2.1, hh.2.2.2.1, hh.2.2.2.2.1, hh.2.2.2.2.2.1, hh.2.2.2.2.2.2.1, e.trans hh.2.2.2.2.2.2.2.1, fun k v hk hv => hh.2.2.2.2.2.2.2.2 k v (g k v hk hv) hv⟩
theorem x_tne {x y : Int32} {z : Int} (h : ¬ x = y) (hz : y.toInt = z) : ¬ x.toInt = z := by
  intro e
  exact h (Int32.toInt_inj.mp (e.trans hz.symm))
theorem x_fit_bi {c : Prop} [Decidable c] : x_fit .boolean (x_bi c) := by
  by_cases h : c
  · rw [x_bi_t h]; exact x_fit_b1
  · rw [x_bi_f h]; exact x_fit_b0
/-- r is the number of a Rows cell -/
def x_rows (r : Nat) : Prop := (∀ I, x_kd (x_mk I) r = some (4, 4)) ∧ (∀ b, b < 3 → xR r b = .ref (r + (b + 1)) ∧ ∀ I, x_kd (x_mk I) (r + (b + 1)) = some (100, 8)) ∧ ¬ r < 64
theorem x_rowsR {r : Nat} (h : x_rows r) (b : Nat) {I : Nat → Nat → Int32} (hb : b < 3 := by decide) : (x_mk I).2.1 r b = .ref (r + (b + 1)) := (h.2.1 b hb).1
theorem x_rowsA {r : Nat} (h : x_rows r) (b : Nat) (I : Nat → Nat → Int32) (hb : b < 3 := by decide) : x_kd (x_mk I) (r + (b + 1)) = some (100, 8) := (h.2.1 b hb).2 I
theorem x_rows_of {r : Nat} (h0 : ∀ I, x_kd (x_mk I) r = some (4, 4)) (h1 : xR r 0 = .ref (r + 1) ∧ ∀ I, x_kd (x_mk I) (r + 1) = some (100, 8)) (h2 : xR r 1 = .ref (r + 2) ∧ ∀ I, x_kd (x_mk I) (r + 2) = some (100, 8)) (h3 : xR r 2 = .ref (r + 3) ∧ ∀ I, x_kd (x_mk I) (r + 3) = some (100, 8)) (h4 : ¬ r < 64) : x_rows r := by
  refine ⟨h0, fun b hb => ?_, h4⟩
  match b, hb with
  | 0, _ => exact h1
  | 1, _ => exact h2
  | 2, _ => exact h3
theorem x_rows_73 : x_rows 73 := x_rows_of (fun _ => rfl) ⟨rfl, fun _ => rfl⟩ ⟨rfl, fun _ => rfl⟩ ⟨rfl, fun _ => rfl⟩ (by decide)
theorem x_rows_77 : x_rows 77 := x_rows_of (fun _ => rfl) ⟨rfl, fun _ => rfl⟩ ⟨rfl, fun _ => rfl⟩ ⟨rfl, fun _ => rfl⟩ (by decide)
theorem x_rows_81 : x_rows 81 := x_rows_of (fun _ => rfl) ⟨rfl, fun _ => rfl⟩ ⟨rfl, fun _ => rfl⟩ ⟨rfl, fun _ => rfl⟩ (by decide)
theorem x_rows_105 : x_rows 105 := x_rows_of (fun _ => rfl) ⟨rfl, fun _ => rfl⟩ ⟨rfl, fun _ => rfl⟩ ⟨rfl, fun _ => rfl⟩ (by decide)
theorem x_rows_109 : x_rows 109 := x_rows_of (fun _ => rfl) ⟨rfl, fun _ => rfl⟩ ⟨rfl, fun _ => rfl⟩ ⟨rfl, fun _ => rfl⟩ (by decide)
theorem x_rows_113 : x_rows 113 := x_rows_of (fun _ => rfl) ⟨rfl, fun _ => rfl⟩ ⟨rfl, fun _ => rfl⟩ ⟨rfl, fun _ => rfl⟩ (by decide)
/-- the Strings' signs -/
def x_sl (e : Nat) : List Int32 := match e with
  | 0 => [117, 114, 115, 116, 32]
  | 1 => [97, 114, 99, 104, 32]
  | 2 => [111, 102, 116, 101, 110, 32]
  | 3 => [112, 107, 118, 99, 104, 119]
  | 4 => [60, 61, 62]
  | 5 => [98, 117, 114, 115, 116, 32]
  | 6 => [115, 116, 97, 114, 99, 104, 32]
  | _ => [115, 111, 102, 116, 101, 110, 32]
theorem x_sl_ar {E : XE} {e : Nat} (h : e < 8) : x_Ar E (24 + e) = some (.byte, (x_sl e).length, fun j => (x_sl e).getD j 0) := by
  match e, h with
  | 0, _ => rfl
  | 1, _ => rfl
  | 2, _ => rfl
  | 3, _ => rfl
  | 4, _ => rfl
  | 5, _ => rfl
  | 6, _ => rfl
  | 7, _ => rfl
section XPU
variable {E : XE} {d mi i nx a b pc : Nat} {ps : List Nat} {L S : List Value} {I : Nat → Nat → Int32} {Q : Option Value → (Nat → Nat → Int32) → Prop}
/-- a callee that only answers -/
abbrev x_pu (w : Value) (I : Nat → Nat → Int32) : Option Value → (Nat → Nat → Int32) → Prop := fun v I' => v = some w ∧ I' = I
theorem s_invVP {idx q c1 N : Nat} {r1 : vw_C} {As S0 : List Value} {d1 : Nat} {w : Value} (ho : x_op mi i = some (pc, 3, .invokevirtual idx, nx, a, b, ps)) (ha : 0 < a ∧ a < 192) (hp1 : ps = [ps.getD 0 0, ps.getD 1 0, ps.getD 2 0, ps.getD 3 0, ps.getD 4 0]) (hb1 : As.length = b) (hst : S0 = As.reverse ++ .ref q :: S) (hcat : (S.map fun v => v.category).sum ≤ 8) (hd1 : d1 + 1 ≤ d)
    (hq : x_kd (x_mk I) q = some (c1, N)) (hc9 : c1 < 9) (hr1 : vwCl[c1]? = some r1) (hcls : r1.1 = (x_m a).1.cls)
    (hC : x_K E d1 a (.ref q :: As) I (x_pu w I)) (kk : x_P E d mi nx L (w :: S) I Q) : x_P E d mi i L S0 I Q :=
  s_invV ho ha hp1 hb1 hst hcat hd1 hq hc9 hr1 hcls hC (fun v I' ⟨h1, h2⟩ => by rw [h1, h2]; exact kk)
theorem s_invSP {idx e0 : Nat} {As S0 : List Value} {d1 : Nat} {w : Value} (ho : x_op mi i = some (pc, 3, .invokevirtual idx, nx, a, b, ps)) (ha : 0 < a ∧ a < 192) (hp1 : ps = [ps.getD 0 0, ps.getD 1 0, ps.getD 2 0, ps.getD 3 0, ps.getD 4 0]) (hb1 : As.length = b) (hst : S0 = As.reverse ++ .ref (8 + e0) :: S) (hcat : (S.map fun v => v.category).sum ≤ 8) (hd1 : d1 + 1 ≤ d)
    (he : e0 < 8) (hcls : (x_m a).1.cls = "java/lang/String")
    (hC : x_K E d1 a (.ref (8 + e0) :: As) I (x_pu w I)) (kk : x_P E d mi nx L (w :: S) I Q) : x_P E d mi i L S0 I Q :=
  s_invS ho ha hp1 hb1 hst hcat hd1 he hcls hC (fun v I' ⟨h1, h2⟩ => by rw [h1, h2]; exact kk)
theorem s_invStP {idx : Nat} {As S0 : List Value} {d1 : Nat} {w : Value} (ho : x_op mi i = some (pc, 3, .invokestatic idx, nx, a, b, ps)) (ha : 0 < a ∧ a < 192) (hp1 : ps = [ps.getD 0 0, ps.getD 1 0, ps.getD 2 0, ps.getD 3 0]) (hb1 : As.length = b) (hst : S0 = As.reverse ++ S) (hcat : (S.map fun v => v.category).sum ≤ 8) (hd1 : d1 + 1 ≤ d)
    (hC : x_K E d1 a As I (x_pu w I)) (kk : x_P E d mi nx L (w :: S) I Q) : x_P E d mi i L S0 I Q :=
  s_invSt ho ha hp1 hb1 hst hcat hd1 hC (fun v I' ⟨h1, h2⟩ => by rw [h1, h2]; exact kk)
end XPU
end
section
set_option maxRecDepth 20000 in
theorem r_C_isUpTo_0 {E : XE} {d : Nat} {I : Nat → Nat → Int32} {Q : Option Value → (Nat → Nat → Int32) → Prop} (hd : 1 ≤ d) (a0 : Int32) (a1 : Int32)
    (H : Q (some (.int (x_bi (¬ (a0 < 0) ∧ (¬ (a1 < a0)))))) I) :
    x_P E d 94 0 [.int a0, .int a1] [] I Q := by
  refine wp_iload_n rfl rfl rfl ?_
  have J : x_P E d 94 8 [.int a0, .int a1] [.int (x_bi (¬ (a0 < 0) ∧ (¬ (a1 < a0))))] I Q := by
    exact s_iret rfl rfl x_bi_nar H
  refine wp_if_lt rfl (fun c_1 => ?_) (fun c_1 => ?_)
  · refine wp_iconst (v := (0 : Int32)) rfl (by decide) ?_
    rw [show x_bi (¬ (a0 < 0) ∧ (¬ (a1 < a0))) = (0 : Int32) from x_bi_f (by simp only [c_1, not_true_eq_false, not_false_eq_true, and_true, true_and, and_false, false_and, or_true, true_or, or_false, false_or, if_true, if_false, and_self, or_self])] at J
    exact J
  · refine wp_iload_n rfl rfl rfl ?_
    refine wp_iload_n rfl rfl rfl ?_
    refine wp_icmp_gt rfl (fun c_2 => ?_) (fun c_2 => ?_)
    · refine wp_iconst (v := (0 : Int32)) rfl (by decide) ?_
      rw [show x_bi (¬ (a0 < 0) ∧ (¬ (a1 < a0))) = (0 : Int32) from x_bi_f (by simp only [c_1, c_2, not_true_eq_false, not_false_eq_true, and_true, true_and, and_false, false_and, or_true, true_or, or_false, false_or, if_true, if_false, and_self, or_self])] at J
      exact J
    · refine wp_iconst (v := (1 : Int32)) rfl (by decide) ?_
      refine wp_goto rfl ?_
      rw [show x_bi (¬ (a0 < 0) ∧ (¬ (a1 < a0))) = (1 : Int32) from x_bi_t (by simp only [c_1, c_2, not_true_eq_false, not_false_eq_true, and_true, true_and, and_false, false_and, or_true, true_or, or_false, false_or, if_true, if_false, and_self, or_self])] at J
      exact J
set_option maxRecDepth 20000 in
theorem r_M_in_0 {E : XE} {d : Nat} {I : Nat → Nat → Int32} {Q : Option Value → (Nat → Nat → Int32) → Prop} (hd : 1 ≤ d) (a0 : Int32) (a1 : Int32) (a2 : Int32)
    (H : Q (some (.int (x_bi (¬ (a0 < a1) ∧ (¬ (a2 < a0)))))) I) :
    x_P E d 109 0 [.int a0, .int a1, .int a2] [] I Q := by
  refine wp_iload_n rfl rfl rfl ?_
  refine wp_iload_n rfl rfl rfl ?_
  have J : x_P E d 109 9 [.int a0, .int a1, .int a2] [.int (x_bi (¬ (a0 < a1) ∧ (¬ (a2 < a0))))] I Q := by
    exact s_iret rfl rfl x_bi_nar H
  refine wp_icmp_lt rfl (fun c_1 => ?_) (fun c_1 => ?_)
  · refine wp_iconst (v := (0 : Int32)) rfl (by decide) ?_
    rw [show x_bi (¬ (a0 < a1) ∧ (¬ (a2 < a0))) = (0 : Int32) from x_bi_f (by simp only [c_1, not_true_eq_false, not_false_eq_true, and_true, true_and, and_false, false_and, or_true, true_or, or_false, false_or, if_true, if_false, and_self, or_self])] at J
    exact J
  · refine wp_iload_n rfl rfl rfl ?_
    refine wp_iload_n rfl rfl rfl ?_
    refine wp_icmp_gt rfl (fun c_2 => ?_) (fun c_2 => ?_)
    · refine wp_iconst (v := (0 : Int32)) rfl (by decide) ?_
      rw [show x_bi (¬ (a0 < a1) ∧ (¬ (a2 < a0))) = (0 : Int32) from x_bi_f (by simp only [c_1, c_2, not_true_eq_false, not_false_eq_true, and_true, true_and, and_false, false_and, or_true, true_or, or_false, false_or, if_true, if_false, and_self, or_self])] at J
      exact J
    · refine wp_iconst (v := (1 : Int32)) rfl (by decide) ?_
      refine wp_goto rfl ?_
      rw [show x_bi (¬ (a0 < a1) ∧ (¬ (a2 < a0))) = (1 : Int32) from x_bi_t (by simp only [c_1, c_2, not_true_eq_false, not_false_eq_true, and_true, true_and, and_false, false_and, or_true, true_or, or_false, false_or, if_true, if_false, and_self, or_self])] at J
      exact J
set_option maxRecDepth 20000 in
theorem r_JS_isLatin1_0 {E : XE} {d : Nat} {I : Nat → Nat → Int32} {Q : Option Value → (Nat → Nat → Int32) → Prop} (hd : 1 ≤ d) (e0 : Nat) (he : e0 < 8)
    (H : Q (some (.int (1 : Int32))) I) :
    x_P E d 11 0 [.ref (8 + e0)] [] I Q := by
  refine wp_getsC rfl rfl ?_
  refine wp_if_eq rfl (fun h => absurd h (by decide)) (fun _ => ?_)
  refine wp_aload_n rfl rfl rfl ?_
  refine wp_getSc (e0 := e0) rfl rfl he ?_
  refine wp_if_ne rfl (fun h => absurd h (by decide)) (fun _ => ?_)
  refine wp_iconst (v := (1 : Int32)) rfl (by decide) ?_
  refine wp_goto rfl ?_
  exact s_iret rfl rfl rfl H
set_option maxRecDepth 20000 in
theorem r_JS_coder_0 {E : XE} {d : Nat} {I : Nat → Nat → Int32} {Q : Option Value → (Nat → Nat → Int32) → Prop} (hd : 1 ≤ d) (e0 : Nat) (he : e0 < 8)
    (H : Q (some (.int (0 : Int32))) I) :
    x_P E d 10 0 [.ref (8 + e0)] [] I Q := by
  refine wp_getsC rfl rfl ?_
  refine wp_if_eq rfl (fun h => absurd h (by decide)) (fun _ => ?_)
  refine wp_aload_n rfl rfl rfl ?_
  refine wp_getSc (e0 := e0) rfl rfl he ?_
  refine wp_goto rfl ?_
  exact s_iret rfl rfl rfl H
end
section
section P1
variable {E : XE} {d : Nat} {I : Nat → Nat → Int32}
theorem p_isUpTo {x y : Int32} (hd : 1 ≤ d) : x_K E d 94 [.int x, .int y] I (x_pu (.int (x_bi (0 ≤ x ∧ x ≤ y))) I) :=
  x_K.of (by decide) (by decide) rfl rfl rfl (r_C_isUpTo_0 hd x y ⟨by rw [x_bi_c (by rw [Int32.not_lt, Int32.not_lt] : ¬ x < 0 ∧ ¬ y < x ↔ 0 ≤ x ∧ x ≤ y)], rfl⟩)
theorem p_in {x lo hi : Int32} (hd : 1 ≤ d) : x_K E d 109 [.int x, .int lo, .int hi] I (x_pu (.int (x_bi (lo ≤ x ∧ x ≤ hi))) I) :=
  x_K.of (by decide) (by decide) rfl rfl rfl (r_M_in_0 hd x lo hi ⟨by rw [x_bi_c (by rw [Int32.not_lt, Int32.not_lt] : ¬ x < lo ∧ ¬ hi < x ↔ lo ≤ x ∧ x ≤ hi)], rfl⟩)
theorem p_isLatin1 {e : Nat} (he : e < 8) (hd : 1 ≤ d) : x_K E d 11 [.ref (8 + e)] I (x_pu (.int 1) I) :=
  x_K.of (by decide) (by decide) rfl rfl rfl (r_JS_isLatin1_0 hd e he ⟨rfl, rfl⟩)
theorem p_coder {e : Nat} (he : e < 8) (hd : 1 ≤ d) : x_K E d 10 [.ref (8 + e)] I (x_pu (.int 0) I) :=
  x_K.of (by decide) (by decide) rfl rfl rfl (r_JS_coder_0 hd e he ⟨rfl, rfl⟩)
end P1
end
