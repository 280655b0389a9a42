-- ===== PART A: goes FIRST, ahead of the names: the tables' words, and 'selects' of the private methods out of them =====
/-- a private method of a class that the tables say can be made, by its rows of tables_1 -/
def lw_okq (q : MethodName × Nat) : Prop := (q.1.cls ≠ "java/lang/invoke/MethodHandle" ∧ q.1.cls ≠ "java/lang/invoke/VarHandle") ∧ Cond.instantiable q.1.cls q.2 ∈ tables_1 ∧ Cond.privateMethod q.1 ∈ tables_1 ∧ Cond.instanceMethod q.1 ∈ tables_1
theorem lw_p0 : lw_okq (⟨"WildLevels$Reader", "advance", "()V"⟩, 9) := ⟨⟨by decide +kernel, by decide +kernel⟩, List.mem_of_getElem? (i := 25) (by decide +kernel), List.mem_of_getElem? (i := 314) (by decide +kernel), List.mem_of_getElem? (i := 315) (by decide +kernel)⟩
theorem lw_p1 : lw_okq (⟨"WildLevels$Reader", "scanName", "()V"⟩, 9) := ⟨⟨by decide +kernel, by decide +kernel⟩, List.mem_of_getElem? (i := 25) (by decide +kernel), List.mem_of_getElem? (i := 325) (by decide +kernel), List.mem_of_getElem? (i := 326) (by decide +kernel)⟩
theorem lw_p2 : lw_okq (⟨"WildLevels$Reader", "scanNumber", "()V"⟩, 9) := ⟨⟨by decide +kernel, by decide +kernel⟩, List.mem_of_getElem? (i := 25) (by decide +kernel), List.mem_of_getElem? (i := 332) (by decide +kernel), List.mem_of_getElem? (i := 333) (by decide +kernel)⟩
theorem lw_p3 : lw_okq (⟨"WildLevels$Reader", "fail", "(I)V"⟩, 9) := ⟨⟨by decide +kernel, by decide +kernel⟩, List.mem_of_getElem? (i := 25) (by decide +kernel), List.mem_of_getElem? (i := 336) (by decide +kernel), List.mem_of_getElem? (i := 337) (by decide +kernel)⟩
theorem lw_p4 : lw_okq (⟨"WildLevels$Reader", "scanSign", "(I)V"⟩, 9) := ⟨⟨by decide +kernel, by decide +kernel⟩, List.mem_of_getElem? (i := 25) (by decide +kernel), List.mem_of_getElem? (i := 340) (by decide +kernel), List.mem_of_getElem? (i := 341) (by decide +kernel)⟩
theorem lw_p5 : lw_okq (⟨"WildLevels$Reader", "spells", "(Ljava/lang/String;)Z"⟩, 9) := ⟨⟨by decide +kernel, by decide +kernel⟩, List.mem_of_getElem? (i := 25) (by decide +kernel), List.mem_of_getElem? (i := 345) (by decide +kernel), List.mem_of_getElem? (i := 346) (by decide +kernel)⟩
theorem lw_p6 : lw_okq (⟨"WildLevels$Reader", "readSubscription", "()V"⟩, 9) := ⟨⟨by decide +kernel, by decide +kernel⟩, List.mem_of_getElem? (i := 25) (by decide +kernel), List.mem_of_getElem? (i := 397) (by decide +kernel), List.mem_of_getElem? (i := 398) (by decide +kernel)⟩
theorem lw_p7 : lw_okq (⟨"WildLevels$Reader", "takeNumber", "(II)I"⟩, 9) := ⟨⟨by decide +kernel, by decide +kernel⟩, List.mem_of_getElem? (i := 25) (by decide +kernel), List.mem_of_getElem? (i := 401) (by decide +kernel), List.mem_of_getElem? (i := 402) (by decide +kernel)⟩
theorem lw_p8 : lw_okq (⟨"WildLevels$Reader", "takePath", "(I)I"⟩, 9) := ⟨⟨by decide +kernel, by decide +kernel⟩, List.mem_of_getElem? (i := 25) (by decide +kernel), List.mem_of_getElem? (i := 406) (by decide +kernel), List.mem_of_getElem? (i := 407) (by decide +kernel)⟩
theorem lw_p9 : lw_okq (⟨"WildLevels$Reader", "levelAtHand", "()I"⟩, 9) := ⟨⟨by decide +kernel, by decide +kernel⟩, List.mem_of_getElem? (i := 25) (by decide +kernel), List.mem_of_getElem? (i := 410) (by decide +kernel), List.mem_of_getElem? (i := 411) (by decide +kernel)⟩
theorem lw_p10 : lw_okq (⟨"WildLevels$Reader", "isAtSemicolon", "()Z"⟩, 9) := ⟨⟨by decide +kernel, by decide +kernel⟩, List.mem_of_getElem? (i := 25) (by decide +kernel), List.mem_of_getElem? (i := 426) (by decide +kernel), List.mem_of_getElem? (i := 427) (by decide +kernel)⟩
theorem lw_p11 : lw_okq (⟨"WildLevels$Reader", "takeSemicolon", "()V"⟩, 9) := ⟨⟨by decide +kernel, by decide +kernel⟩, List.mem_of_getElem? (i := 25) (by decide +kernel), List.mem_of_getElem? (i := 458) (by decide +kernel), List.mem_of_getElem? (i := 459) (by decide +kernel)⟩
theorem lw_p12 : lw_okq (⟨"WildLevels$Reader", "readKept", "()V"⟩, 9) := ⟨⟨by decide +kernel, by decide +kernel⟩, List.mem_of_getElem? (i := 25) (by decide +kernel), List.mem_of_getElem? (i := 463) (by decide +kernel), List.mem_of_getElem? (i := 464) (by decide +kernel)⟩
theorem lw_p13 : lw_okq (⟨"WildLevels", "isAwake", "(I)Z"⟩, 7) := ⟨⟨by decide +kernel, by decide +kernel⟩, List.mem_of_getElem? (i := 17) (by decide +kernel), List.mem_of_getElem? (i := 530) (by decide +kernel), List.mem_of_getElem? (i := 531) (by decide +kernel)⟩
theorem lw_p14 : lw_okq (⟨"WildLevels$World", "endSession", "(LWildLevels$Client;)V"⟩, 5) := ⟨⟨by decide +kernel, by decide +kernel⟩, List.mem_of_getElem? (i := 46) (by decide +kernel), List.mem_of_getElem? (i := 538) (by decide +kernel), List.mem_of_getElem? (i := 539) (by decide +kernel)⟩
theorem lw_p15 : lw_okq (⟨"WildLevels$World", "hasMember", "(I)Z"⟩, 5) := ⟨⟨by decide +kernel, by decide +kernel⟩, List.mem_of_getElem? (i := 46) (by decide +kernel), List.mem_of_getElem? (i := 548) (by decide +kernel), List.mem_of_getElem? (i := 549) (by decide +kernel)⟩
def lw_privs_1 : List (MethodName × Nat) := [(⟨"WildLevels$Reader", "advance", "()V"⟩, 9), (⟨"WildLevels$Reader", "scanName", "()V"⟩, 9), (⟨"WildLevels$Reader", "scanNumber", "()V"⟩, 9), (⟨"WildLevels$Reader", "fail", "(I)V"⟩, 9), (⟨"WildLevels$Reader", "scanSign", "(I)V"⟩, 9), (⟨"WildLevels$Reader", "spells", "(Ljava/lang/String;)Z"⟩, 9), (⟨"WildLevels$Reader", "readSubscription", "()V"⟩, 9), (⟨"WildLevels$Reader", "takeNumber", "(II)I"⟩, 9), (⟨"WildLevels$Reader", "takePath", "(I)I"⟩, 9), (⟨"WildLevels$Reader", "levelAtHand", "()I"⟩, 9), (⟨"WildLevels$Reader", "isAtSemicolon", "()Z"⟩, 9), (⟨"WildLevels$Reader", "takeSemicolon", "()V"⟩, 9), (⟨"WildLevels$Reader", "readKept", "()V"⟩, 9), (⟨"WildLevels", "isAwake", "(I)Z"⟩, 7), (⟨"WildLevels$World", "endSession", "(LWildLevels$Client;)V"⟩, 5), (⟨"WildLevels$World", "hasMember", "(I)Z"⟩, 5)]
theorem lw_r1 : ∀ q ∈ lw_privs_1, lw_okq q := List.forall_mem_cons.mpr ⟨lw_p0, List.forall_mem_cons.mpr ⟨lw_p1, List.forall_mem_cons.mpr ⟨lw_p2, List.forall_mem_cons.mpr ⟨lw_p3, List.forall_mem_cons.mpr ⟨lw_p4, List.forall_mem_cons.mpr ⟨lw_p5, List.forall_mem_cons.mpr ⟨lw_p6, List.forall_mem_cons.mpr ⟨lw_p7, List.forall_mem_cons.mpr ⟨lw_p8, List.forall_mem_cons.mpr ⟨lw_p9, List.forall_mem_cons.mpr ⟨lw_p10, List.forall_mem_cons.mpr ⟨lw_p11, List.forall_mem_cons.mpr ⟨lw_p12, List.forall_mem_cons.mpr ⟨lw_p13, List.forall_mem_cons.mpr ⟨lw_p14, List.forall_mem_cons.mpr ⟨lw_p15, fun _ h => absurd h List.not_mem_nil⟩⟩⟩⟩⟩⟩⟩⟩⟩⟩⟩⟩⟩⟩⟩⟩
theorem lw_p16 : lw_okq (⟨"WildLevels$Client", "sendBare", "(LWildLevels$Rows;II)V"⟩, 17) := ⟨⟨by decide +kernel, by decide +kernel⟩, List.mem_of_getElem? (i := 78) (by decide +kernel), List.mem_of_getElem? (i := 571) (by decide +kernel), List.mem_of_getElem? (i := 572) (by decide +kernel)⟩
theorem lw_p17 : lw_okq (⟨"WildLevels$Client", "sendMail", "(I)V"⟩, 17) := ⟨⟨by decide +kernel, by decide +kernel⟩, List.mem_of_getElem? (i := 78) (by decide +kernel), List.mem_of_getElem? (i := 575) (by decide +kernel), List.mem_of_getElem? (i := 576) (by decide +kernel)⟩
theorem lw_p18 : lw_okq (⟨"WildLevels$Client", "launchQueued", "()V"⟩, 17) := ⟨⟨by decide +kernel, by decide +kernel⟩, List.mem_of_getElem? (i := 78) (by decide +kernel), List.mem_of_getElem? (i := 579) (by decide +kernel), List.mem_of_getElem? (i := 580) (by decide +kernel)⟩
theorem lw_p19 : lw_okq (⟨"WildLevels$World", "goToSessions", "(IIII)I"⟩, 5) := ⟨⟨by decide +kernel, by decide +kernel⟩, List.mem_of_getElem? (i := 46) (by decide +kernel), List.mem_of_getElem? (i := 613) (by decide +kernel), List.mem_of_getElem? (i := 614) (by decide +kernel)⟩
theorem lw_p20 : lw_okq (⟨"WildLevels$Client", "receiveAtMostOnce", "(IIZ)V"⟩, 17) := ⟨⟨by decide +kernel, by decide +kernel⟩, List.mem_of_getElem? (i := 78) (by decide +kernel), List.mem_of_getElem? (i := 630) (by decide +kernel), List.mem_of_getElem? (i := 631) (by decide +kernel)⟩
theorem lw_p21 : lw_okq (⟨"WildLevels$World", "goToShares", "(IIII)I"⟩, 5) := ⟨⟨by decide +kernel, by decide +kernel⟩, List.mem_of_getElem? (i := 46) (by decide +kernel), List.mem_of_getElem? (i := 641) (by decide +kernel), List.mem_of_getElem? (i := 642) (by decide +kernel)⟩
theorem lw_p22 : lw_okq (⟨"WildLevels$World", "shareBehind", "(I)I"⟩, 5) := ⟨⟨by decide +kernel, by decide +kernel⟩, List.mem_of_getElem? (i := 46) (by decide +kernel), List.mem_of_getElem? (i := 645) (by decide +kernel), List.mem_of_getElem? (i := 646) (by decide +kernel)⟩
theorem lw_p23 : lw_okq (⟨"WildLevels$World", "nextMember", "(I)LWildLevels$Client;"⟩, 5) := ⟨⟨by decide +kernel, by decide +kernel⟩, List.mem_of_getElem? (i := 46) (by decide +kernel), List.mem_of_getElem? (i := 654) (by decide +kernel), List.mem_of_getElem? (i := 655) (by decide +kernel)⟩
theorem lw_p24 : lw_okq (⟨"WildLevels$World", "memberBehind", "(II)I"⟩, 5) := ⟨⟨by decide +kernel, by decide +kernel⟩, List.mem_of_getElem? (i := 46) (by decide +kernel), List.mem_of_getElem? (i := 658) (by decide +kernel), List.mem_of_getElem? (i := 659) (by decide +kernel)⟩
theorem lw_p25 : lw_okq (⟨"WildLevels$Client", "carryUp", "(II)V"⟩, 17) := ⟨⟨by decide +kernel, by decide +kernel⟩, List.mem_of_getElem? (i := 78) (by decide +kernel), List.mem_of_getElem? (i := 726) (by decide +kernel), List.mem_of_getElem? (i := 727) (by decide +kernel)⟩
theorem lw_p26 : lw_okq (⟨"WildLevels$Client", "carryLetter", "(I)V"⟩, 17) := ⟨⟨by decide +kernel, by decide +kernel⟩, List.mem_of_getElem? (i := 78) (by decide +kernel), List.mem_of_getElem? (i := 732) (by decide +kernel), List.mem_of_getElem? (i := 733) (by decide +kernel)⟩
theorem lw_p27 : lw_okq (⟨"WildLevels$Client", "takeFirst", "()V"⟩, 17) := ⟨⟨by decide +kernel, by decide +kernel⟩, List.mem_of_getElem? (i := 78) (by decide +kernel), List.mem_of_getElem? (i := 736) (by decide +kernel), List.mem_of_getElem? (i := 737) (by decide +kernel)⟩
theorem lw_p28 : lw_okq (⟨"WildLevels", "countImages", "()I"⟩, 7) := ⟨⟨by decide +kernel, by decide +kernel⟩, List.mem_of_getElem? (i := 17) (by decide +kernel), List.mem_of_getElem? (i := 766) (by decide +kernel), List.mem_of_getElem? (i := 767) (by decide +kernel)⟩
theorem lw_p29 : lw_okq (⟨"WildLevels$Client", "countAliases", "()I"⟩, 17) := ⟨⟨by decide +kernel, by decide +kernel⟩, List.mem_of_getElem? (i := 78) (by decide +kernel), List.mem_of_getElem? (i := 783) (by decide +kernel), List.mem_of_getElem? (i := 784) (by decide +kernel)⟩
theorem lw_p30 : lw_okq (⟨"WildLevelsModel", "reads", "()V"⟩, 23) := ⟨⟨by decide +kernel, by decide +kernel⟩, List.mem_of_getElem? (i := 827) (by decide +kernel), List.mem_of_getElem? (i := 922) (by decide +kernel), List.mem_of_getElem? (i := 923) (by decide +kernel)⟩
theorem lw_p31 : lw_okq (⟨"WildLevelsModel", "byteAt", "(I)I"⟩, 23) := ⟨⟨by decide +kernel, by decide +kernel⟩, List.mem_of_getElem? (i := 827) (by decide +kernel), List.mem_of_getElem? (i := 926) (by decide +kernel), List.mem_of_getElem? (i := 927) (by decide +kernel)⟩
def lw_privs_2 : List (MethodName × Nat) := [(⟨"WildLevels$Client", "sendBare", "(LWildLevels$Rows;II)V"⟩, 17), (⟨"WildLevels$Client", "sendMail", "(I)V"⟩, 17), (⟨"WildLevels$Client", "launchQueued", "()V"⟩, 17), (⟨"WildLevels$World", "goToSessions", "(IIII)I"⟩, 5), (⟨"WildLevels$Client", "receiveAtMostOnce", "(IIZ)V"⟩, 17), (⟨"WildLevels$World", "goToShares", "(IIII)I"⟩, 5), (⟨"WildLevels$World", "shareBehind", "(I)I"⟩, 5), (⟨"WildLevels$World", "nextMember", "(I)LWildLevels$Client;"⟩, 5), (⟨"WildLevels$World", "memberBehind", "(II)I"⟩, 5), (⟨"WildLevels$Client", "carryUp", "(II)V"⟩, 17), (⟨"WildLevels$Client", "carryLetter", "(I)V"⟩, 17), (⟨"WildLevels$Client", "takeFirst", "()V"⟩, 17), (⟨"WildLevels", "countImages", "()I"⟩, 7), (⟨"WildLevels$Client", "countAliases", "()I"⟩, 17), (⟨"WildLevelsModel", "reads", "()V"⟩, 23), (⟨"WildLevelsModel", "byteAt", "(I)I"⟩, 23)]
theorem lw_r2 : ∀ q ∈ lw_privs_2, lw_okq q := List.forall_mem_cons.mpr ⟨lw_p16, List.forall_mem_cons.mpr ⟨lw_p17, List.forall_mem_cons.mpr ⟨lw_p18, List.forall_mem_cons.mpr ⟨lw_p19, List.forall_mem_cons.mpr ⟨lw_p20, List.forall_mem_cons.mpr ⟨lw_p21, List.forall_mem_cons.mpr ⟨lw_p22, List.forall_mem_cons.mpr ⟨lw_p23, List.forall_mem_cons.mpr ⟨lw_p24, List.forall_mem_cons.mpr ⟨lw_p25, List.forall_mem_cons.mpr ⟨lw_p26, List.forall_mem_cons.mpr ⟨lw_p27, List.forall_mem_cons.mpr ⟨lw_p28, List.forall_mem_cons.mpr ⟨lw_p29, List.forall_mem_cons.mpr ⟨lw_p30, List.forall_mem_cons.mpr ⟨lw_p31, fun _ h => absurd h List.not_mem_nil⟩⟩⟩⟩⟩⟩⟩⟩⟩⟩⟩⟩⟩⟩⟩⟩
theorem lw_p32 : lw_okq (⟨"WildLevelsModel", "must", "(ZI)V"⟩, 23) := ⟨⟨by decide +kernel, by decide +kernel⟩, List.mem_of_getElem? (i := 827) (by decide +kernel), List.mem_of_getElem? (i := 934) (by decide +kernel), List.mem_of_getElem? (i := 935) (by decide +kernel)⟩
theorem lw_p33 : lw_okq (⟨"WildLevelsModel", "readsLine", "()V"⟩, 23) := ⟨⟨by decide +kernel, by decide +kernel⟩, List.mem_of_getElem? (i := 827) (by decide +kernel), List.mem_of_getElem? (i := 938) (by decide +kernel), List.mem_of_getElem? (i := 939) (by decide +kernel)⟩
theorem lw_p34 : lw_okq (⟨"WildLevelsModel", "isSub", "()Z"⟩, 23) := ⟨⟨by decide +kernel, by decide +kernel⟩, List.mem_of_getElem? (i := 827) (by decide +kernel), List.mem_of_getElem? (i := 942) (by decide +kernel), List.mem_of_getElem? (i := 943) (by decide +kernel)⟩
theorem lw_p35 : lw_okq (⟨"WildLevelsModel", "isKeptNow", "()Z"⟩, 23) := ⟨⟨by decide +kernel, by decide +kernel⟩, List.mem_of_getElem? (i := 827) (by decide +kernel), List.mem_of_getElem? (i := 946) (by decide +kernel), List.mem_of_getElem? (i := 947) (by decide +kernel)⟩
theorem lw_p36 : lw_okq (⟨"WildLevelsModel", "readsSub", "()V"⟩, 23) := ⟨⟨by decide +kernel, by decide +kernel⟩, List.mem_of_getElem? (i := 827) (by decide +kernel), List.mem_of_getElem? (i := 950) (by decide +kernel), List.mem_of_getElem? (i := 951) (by decide +kernel)⟩
theorem lw_p37 : lw_okq (⟨"WildLevelsModel", "number", "(II)I"⟩, 23) := ⟨⟨by decide +kernel, by decide +kernel⟩, List.mem_of_getElem? (i := 827) (by decide +kernel), List.mem_of_getElem? (i := 954) (by decide +kernel), List.mem_of_getElem? (i := 955) (by decide +kernel)⟩
theorem lw_p38 : lw_okq (⟨"WildLevelsModel", "readsFilter", "(Z)V"⟩, 23) := ⟨⟨by decide +kernel, by decide +kernel⟩, List.mem_of_getElem? (i := 827) (by decide +kernel), List.mem_of_getElem? (i := 958) (by decide +kernel), List.mem_of_getElem? (i := 959) (by decide +kernel)⟩
theorem lw_p39 : lw_okq (⟨"WildLevelsModel", "readsLevel", "(Z)V"⟩, 23) := ⟨⟨by decide +kernel, by decide +kernel⟩, List.mem_of_getElem? (i := 827) (by decide +kernel), List.mem_of_getElem? (i := 962) (by decide +kernel), List.mem_of_getElem? (i := 963) (by decide +kernel)⟩
theorem lw_p40 : lw_okq (⟨"WildLevelsModel", "isSign", "(I)Z"⟩, 23) := ⟨⟨by decide +kernel, by decide +kernel⟩, List.mem_of_getElem? (i := 827) (by decide +kernel), List.mem_of_getElem? (i := 966) (by decide +kernel), List.mem_of_getElem? (i := 967) (by decide +kernel)⟩
theorem lw_p41 : lw_okq (⟨"WildLevelsModel", "readsKept", "()V"⟩, 23) := ⟨⟨by decide +kernel, by decide +kernel⟩, List.mem_of_getElem? (i := 827) (by decide +kernel), List.mem_of_getElem? (i := 982) (by decide +kernel), List.mem_of_getElem? (i := 983) (by decide +kernel)⟩
theorem lw_p42 : lw_okq (⟨"WildLevelsModel", "isAwake", "(I)Z"⟩, 23) := ⟨⟨by decide +kernel, by decide +kernel⟩, List.mem_of_getElem? (i := 827) (by decide +kernel), List.mem_of_getElem? (i := 1014) (by decide +kernel), List.mem_of_getElem? (i := 1015) (by decide +kernel)⟩
theorem lw_p43 : lw_okq (⟨"WildLevelsModel", "of", "(II)I"⟩, 23) := ⟨⟨by decide +kernel, by decide +kernel⟩, List.mem_of_getElem? (i := 827) (by decide +kernel), List.mem_of_getElem? (i := 1018) (by decide +kernel), List.mem_of_getElem? (i := 1019) (by decide +kernel)⟩
theorem lw_p44 : lw_okq (⟨"WildLevelsModel", "isNew", "(II)V"⟩, 23) := ⟨⟨by decide +kernel, by decide +kernel⟩, List.mem_of_getElem? (i := 827) (by decide +kernel), List.mem_of_getElem? (i := 1022) (by decide +kernel), List.mem_of_getElem? (i := 1023) (by decide +kernel)⟩
theorem lw_p45 : lw_okq (⟨"WildLevelsModel", "forgets", "()V"⟩, 23) := ⟨⟨by decide +kernel, by decide +kernel⟩, List.mem_of_getElem? (i := 827) (by decide +kernel), List.mem_of_getElem? (i := 1029) (by decide +kernel), List.mem_of_getElem? (i := 1030) (by decide +kernel)⟩
theorem lw_p46 : lw_okq (⟨"WildLevelsModel", "memberOf", "(I)I"⟩, 23) := ⟨⟨by decide +kernel, by decide +kernel⟩, List.mem_of_getElem? (i := 827) (by decide +kernel), List.mem_of_getElem? (i := 1033) (by decide +kernel), List.mem_of_getElem? (i := 1034) (by decide +kernel)⟩
theorem lw_p47 : lw_okq (⟨"WildLevelsModel", "sends", "(II)V"⟩, 23) := ⟨⟨by decide +kernel, by decide +kernel⟩, List.mem_of_getElem? (i := 827) (by decide +kernel), List.mem_of_getElem? (i := 1037) (by decide +kernel), List.mem_of_getElem? (i := 1038) (by decide +kernel)⟩
def lw_privs_3 : List (MethodName × Nat) := [(⟨"WildLevelsModel", "must", "(ZI)V"⟩, 23), (⟨"WildLevelsModel", "readsLine", "()V"⟩, 23), (⟨"WildLevelsModel", "isSub", "()Z"⟩, 23), (⟨"WildLevelsModel", "isKeptNow", "()Z"⟩, 23), (⟨"WildLevelsModel", "readsSub", "()V"⟩, 23), (⟨"WildLevelsModel", "number", "(II)I"⟩, 23), (⟨"WildLevelsModel", "readsFilter", "(Z)V"⟩, 23), (⟨"WildLevelsModel", "readsLevel", "(Z)V"⟩, 23), (⟨"WildLevelsModel", "isSign", "(I)Z"⟩, 23), (⟨"WildLevelsModel", "readsKept", "()V"⟩, 23), (⟨"WildLevelsModel", "isAwake", "(I)Z"⟩, 23), (⟨"WildLevelsModel", "of", "(II)I"⟩, 23), (⟨"WildLevelsModel", "isNew", "(II)V"⟩, 23), (⟨"WildLevelsModel", "forgets", "()V"⟩, 23), (⟨"WildLevelsModel", "memberOf", "(I)I"⟩, 23), (⟨"WildLevelsModel", "sends", "(II)V"⟩, 23)]
theorem lw_r3 : ∀ q ∈ lw_privs_3, lw_okq q := List.forall_mem_cons.mpr ⟨lw_p32, List.forall_mem_cons.mpr ⟨lw_p33, List.forall_mem_cons.mpr ⟨lw_p34, List.forall_mem_cons.mpr ⟨lw_p35, List.forall_mem_cons.mpr ⟨lw_p36, List.forall_mem_cons.mpr ⟨lw_p37, List.forall_mem_cons.mpr ⟨lw_p38, List.forall_mem_cons.mpr ⟨lw_p39, List.forall_mem_cons.mpr ⟨lw_p40, List.forall_mem_cons.mpr ⟨lw_p41, List.forall_mem_cons.mpr ⟨lw_p42, List.forall_mem_cons.mpr ⟨lw_p43, List.forall_mem_cons.mpr ⟨lw_p44, List.forall_mem_cons.mpr ⟨lw_p45, List.forall_mem_cons.mpr ⟨lw_p46, List.forall_mem_cons.mpr ⟨lw_p47, fun _ h => absurd h List.not_mem_nil⟩⟩⟩⟩⟩⟩⟩⟩⟩⟩⟩⟩⟩⟩⟩⟩
theorem lw_p48 : lw_okq (⟨"WildLevelsModel", "packetDown", "(IIIIIII)V"⟩, 23) := ⟨⟨by decide +kernel, by decide +kernel⟩, List.mem_of_getElem? (i := 827) (by decide +kernel), List.mem_of_getElem? (i := 1041) (by decide +kernel), List.mem_of_getElem? (i := 1042) (by decide +kernel)⟩
theorem lw_p49 : lw_okq (⟨"WildLevelsModel", "queueGoesOn", "(I)V"⟩, 23) := ⟨⟨by decide +kernel, by decide +kernel⟩, List.mem_of_getElem? (i := 827) (by decide +kernel), List.mem_of_getElem? (i := 1045) (by decide +kernel), List.mem_of_getElem? (i := 1046) (by decide +kernel)⟩
theorem lw_p50 : lw_okq (⟨"WildLevelsModel", "flies", "(IIIII)V"⟩, 23) := ⟨⟨by decide +kernel, by decide +kernel⟩, List.mem_of_getElem? (i := 827) (by decide +kernel), List.mem_of_getElem? (i := 1049) (by decide +kernel), List.mem_of_getElem? (i := 1050) (by decide +kernel)⟩
theorem lw_p51 : lw_okq (⟨"WildLevelsModel", "saysWill", "(I)I"⟩, 23) := ⟨⟨by decide +kernel, by decide +kernel⟩, List.mem_of_getElem? (i := 827) (by decide +kernel), List.mem_of_getElem? (i := 1063) (by decide +kernel), List.mem_of_getElem? (i := 1064) (by decide +kernel)⟩
theorem lw_p52 : lw_okq (⟨"WildLevelsModel", "says", "([IIII)I"⟩, 23) := ⟨⟨by decide +kernel, by decide +kernel⟩, List.mem_of_getElem? (i := 827) (by decide +kernel), List.mem_of_getElem? (i := 1067) (by decide +kernel), List.mem_of_getElem? (i := 1068) (by decide +kernel)⟩
theorem lw_p53 : lw_okq (⟨"WildLevelsModel", "keeps", "([IIII)V"⟩, 23) := ⟨⟨by decide +kernel, by decide +kernel⟩, List.mem_of_getElem? (i := 827) (by decide +kernel), List.mem_of_getElem? (i := 1071) (by decide +kernel), List.mem_of_getElem? (i := 1072) (by decide +kernel)⟩
theorem lw_p54 : lw_okq (⟨"WildLevelsModel", "keptGoes", "(I)V"⟩, 23) := ⟨⟨by decide +kernel, by decide +kernel⟩, List.mem_of_getElem? (i := 827) (by decide +kernel), List.mem_of_getElem? (i := 1075) (by decide +kernel), List.mem_of_getElem? (i := 1076) (by decide +kernel)⟩
theorem lw_p55 : lw_okq (⟨"WildLevelsModel", "widest", "(I[I)I"⟩, 23) := ⟨⟨by decide +kernel, by decide +kernel⟩, List.mem_of_getElem? (i := 827) (by decide +kernel), List.mem_of_getElem? (i := 1079) (by decide +kernel), List.mem_of_getElem? (i := 1080) (by decide +kernel)⟩
theorem lw_p56 : lw_okq (⟨"WildLevelsModel", "isMatching", "(I[I)Z"⟩, 23) := ⟨⟨by decide +kernel, by decide +kernel⟩, List.mem_of_getElem? (i := 827) (by decide +kernel), List.mem_of_getElem? (i := 1083) (by decide +kernel), List.mem_of_getElem? (i := 1084) (by decide +kernel)⟩
theorem lw_p57 : lw_okq (⟨"WildLevelsModel", "goes", "(IIIII)V"⟩, 23) := ⟨⟨by decide +kernel, by decide +kernel⟩, List.mem_of_getElem? (i := 827) (by decide +kernel), List.mem_of_getElem? (i := 1087) (by decide +kernel), List.mem_of_getElem? (i := 1088) (by decide +kernel)⟩
theorem lw_p58 : lw_okq (⟨"WildLevelsModel", "noShare", "()V"⟩, 23) := ⟨⟨by decide +kernel, by decide +kernel⟩, List.mem_of_getElem? (i := 827) (by decide +kernel), List.mem_of_getElem? (i := 1091) (by decide +kernel), List.mem_of_getElem? (i := 1092) (by decide +kernel)⟩
theorem lw_p59 : lw_okq (⟨"WildLevelsModel", "nextShare", "()Z"⟩, 23) := ⟨⟨by decide +kernel, by decide +kernel⟩, List.mem_of_getElem? (i := 827) (by decide +kernel), List.mem_of_getElem? (i := 1095) (by decide +kernel), List.mem_of_getElem? (i := 1096) (by decide +kernel)⟩
theorem lw_p60 : lw_okq (⟨"WildLevelsModel", "takesShare", "(II[I)V"⟩, 23) := ⟨⟨by decide +kernel, by decide +kernel⟩, List.mem_of_getElem? (i := 827) (by decide +kernel), List.mem_of_getElem? (i := 1099) (by decide +kernel), List.mem_of_getElem? (i := 1100) (by decide +kernel)⟩
theorem lw_p61 : lw_okq (⟨"WildLevelsModel", "isAhead", "([I[I)Z"⟩, 23) := ⟨⟨by decide +kernel, by decide +kernel⟩, List.mem_of_getElem? (i := 827) (by decide +kernel), List.mem_of_getElem? (i := 1103) (by decide +kernel), List.mem_of_getElem? (i := 1104) (by decide +kernel)⟩
theorem lw_p62 : lw_okq (⟨"WildLevelsModel", "isShareMatching", "([I)Z"⟩, 23) := ⟨⟨by decide +kernel, by decide +kernel⟩, List.mem_of_getElem? (i := 827) (by decide +kernel), List.mem_of_getElem? (i := 1107) (by decide +kernel), List.mem_of_getElem? (i := 1108) (by decide +kernel)⟩
theorem lw_p63 : lw_okq (⟨"WildLevelsModel", "sharesOut", "(III)V"⟩, 23) := ⟨⟨by decide +kernel, by decide +kernel⟩, List.mem_of_getElem? (i := 827) (by decide +kernel), List.mem_of_getElem? (i := 1111) (by decide +kernel), List.mem_of_getElem? (i := 1112) (by decide +kernel)⟩
def lw_privs_4 : List (MethodName × Nat) := [(⟨"WildLevelsModel", "packetDown", "(IIIIIII)V"⟩, 23), (⟨"WildLevelsModel", "queueGoesOn", "(I)V"⟩, 23), (⟨"WildLevelsModel", "flies", "(IIIII)V"⟩, 23), (⟨"WildLevelsModel", "saysWill", "(I)I"⟩, 23), (⟨"WildLevelsModel", "says", "([IIII)I"⟩, 23), (⟨"WildLevelsModel", "keeps", "([IIII)V"⟩, 23), (⟨"WildLevelsModel", "keptGoes", "(I)V"⟩, 23), (⟨"WildLevelsModel", "widest", "(I[I)I"⟩, 23), (⟨"WildLevelsModel", "isMatching", "(I[I)Z"⟩, 23), (⟨"WildLevelsModel", "goes", "(IIIII)V"⟩, 23), (⟨"WildLevelsModel", "noShare", "()V"⟩, 23), (⟨"WildLevelsModel", "nextShare", "()Z"⟩, 23), (⟨"WildLevelsModel", "takesShare", "(II[I)V"⟩, 23), (⟨"WildLevelsModel", "isAhead", "([I[I)Z"⟩, 23), (⟨"WildLevelsModel", "isShareMatching", "([I)Z"⟩, 23), (⟨"WildLevelsModel", "sharesOut", "(III)V"⟩, 23)]
theorem lw_r4 : ∀ q ∈ lw_privs_4, lw_okq q := List.forall_mem_cons.mpr ⟨lw_p48, List.forall_mem_cons.mpr ⟨lw_p49, List.forall_mem_cons.mpr ⟨lw_p50, List.forall_mem_cons.mpr ⟨lw_p51, List.forall_mem_cons.mpr ⟨lw_p52, List.forall_mem_cons.mpr ⟨lw_p53, List.forall_mem_cons.mpr ⟨lw_p54, List.forall_mem_cons.mpr ⟨lw_p55, List.forall_mem_cons.mpr ⟨lw_p56, List.forall_mem_cons.mpr ⟨lw_p57, List.forall_mem_cons.mpr ⟨lw_p58, List.forall_mem_cons.mpr ⟨lw_p59, List.forall_mem_cons.mpr ⟨lw_p60, List.forall_mem_cons.mpr ⟨lw_p61, List.forall_mem_cons.mpr ⟨lw_p62, List.forall_mem_cons.mpr ⟨lw_p63, fun _ h => absurd h List.not_mem_nil⟩⟩⟩⟩⟩⟩⟩⟩⟩⟩⟩⟩⟩⟩⟩⟩
theorem lw_p64 : lw_okq (⟨"WildLevelsModel", "hadOf", "()I"⟩, 23) := ⟨⟨by decide +kernel, by decide +kernel⟩, List.mem_of_getElem? (i := 827) (by decide +kernel), List.mem_of_getElem? (i := 1115) (by decide +kernel), List.mem_of_getElem? (i := 1116) (by decide +kernel)⟩
theorem lw_p65 : lw_okq (⟨"WildLevelsModel", "turnOf", "(II)I"⟩, 23) := ⟨⟨by decide +kernel, by decide +kernel⟩, List.mem_of_getElem? (i := 827) (by decide +kernel), List.mem_of_getElem? (i := 1119) (by decide +kernel), List.mem_of_getElem? (i := 1120) (by decide +kernel)⟩
theorem lw_p66 : lw_okq (⟨"WildLevelsModel", "isTopic", "()Z"⟩, 23) := ⟨⟨by decide +kernel, by decide +kernel⟩, List.mem_of_getElem? (i := 827) (by decide +kernel), List.mem_of_getElem? (i := 1129) (by decide +kernel), List.mem_of_getElem? (i := 1130) (by decide +kernel)⟩
theorem lw_p67 : lw_okq (⟨"WildLevelsModel", "keptGoTo", "(III)I"⟩, 23) := ⟨⟨by decide +kernel, by decide +kernel⟩, List.mem_of_getElem? (i := 827) (by decide +kernel), List.mem_of_getElem? (i := 1138) (by decide +kernel), List.mem_of_getElem? (i := 1139) (by decide +kernel)⟩
theorem lw_p68 : lw_okq (⟨"WildLevelsModel", "dropsFirst", "(II)V"⟩, 23) := ⟨⟨by decide +kernel, by decide +kernel⟩, List.mem_of_getElem? (i := 827) (by decide +kernel), List.mem_of_getElem? (i := 1159) (by decide +kernel), List.mem_of_getElem? (i := 1160) (by decide +kernel)⟩
theorem lw_p69 : lw_okq (⟨"WildLevelsModel", "carriedDown", "(IIIIIII)V"⟩, 23) := ⟨⟨by decide +kernel, by decide +kernel⟩, List.mem_of_getElem? (i := 827) (by decide +kernel), List.mem_of_getElem? (i := 1163) (by decide +kernel), List.mem_of_getElem? (i := 1164) (by decide +kernel)⟩
theorem lw_p70 : lw_okq (⟨"WildLevelsModel", "unknown", "(II)V"⟩, 23) := ⟨⟨by decide +kernel, by decide +kernel⟩, List.mem_of_getElem? (i := 827) (by decide +kernel), List.mem_of_getElem? (i := 1167) (by decide +kernel), List.mem_of_getElem? (i := 1168) (by decide +kernel)⟩
theorem lw_p71 : lw_okq (⟨"WildLevelsModel", "knownOf", "(II)I"⟩, 23) := ⟨⟨by decide +kernel, by decide +kernel⟩, List.mem_of_getElem? (i := 827) (by decide +kernel), List.mem_of_getElem? (i := 1171) (by decide +kernel), List.mem_of_getElem? (i := 1172) (by decide +kernel)⟩
theorem lw_p72 : lw_okq (⟨"WildLevelsModel", "packetUp", "(III)V"⟩, 23) := ⟨⟨by decide +kernel, by decide +kernel⟩, List.mem_of_getElem? (i := 827) (by decide +kernel), List.mem_of_getElem? (i := 1175) (by decide +kernel), List.mem_of_getElem? (i := 1176) (by decide +kernel)⟩
theorem lw_p73 : lw_okq (⟨"WildLevelsModel", "takes", "(IIIII)V"⟩, 23) := ⟨⟨by decide +kernel, by decide +kernel⟩, List.mem_of_getElem? (i := 827) (by decide +kernel), List.mem_of_getElem? (i := 1179) (by decide +kernel), List.mem_of_getElem? (i := 1180) (by decide +kernel)⟩
theorem lw_p74 : lw_okq (⟨"WildLevelsModel", "known", "(II)V"⟩, 23) := ⟨⟨by decide +kernel, by decide +kernel⟩, List.mem_of_getElem? (i := 827) (by decide +kernel), List.mem_of_getElem? (i := 1183) (by decide +kernel), List.mem_of_getElem? (i := 1184) (by decide +kernel)⟩
theorem lw_p75 : lw_okq (⟨"WildLevelsModel", "carriedUp", "(III)V"⟩, 23) := ⟨⟨by decide +kernel, by decide +kernel⟩, List.mem_of_getElem? (i := 827) (by decide +kernel), List.mem_of_getElem? (i := 1187) (by decide +kernel), List.mem_of_getElem? (i := 1188) (by decide +kernel)⟩
theorem lw_p76 : lw_okq (⟨"WildLevelsModel", "flightOf", "(III)I"⟩, 23) := ⟨⟨by decide +kernel, by decide +kernel⟩, List.mem_of_getElem? (i := 827) (by decide +kernel), List.mem_of_getElem? (i := 1191) (by decide +kernel), List.mem_of_getElem? (i := 1192) (by decide +kernel)⟩
theorem lw_p77 : lw_okq (⟨"WildLevelsModel", "off", "(II)V"⟩, 23) := ⟨⟨by decide +kernel, by decide +kernel⟩, List.mem_of_getElem? (i := 827) (by decide +kernel), List.mem_of_getElem? (i := 1195) (by decide +kernel), List.mem_of_getElem? (i := 1196) (by decide +kernel)⟩
theorem lw_p78 : lw_okq (⟨"WildLevelsModel", "shares", "()I"⟩, 23) := ⟨⟨by decide +kernel, by decide +kernel⟩, List.mem_of_getElem? (i := 827) (by decide +kernel), List.mem_of_getElem? (i := 1212) (by decide +kernel), List.mem_of_getElem? (i := 1213) (by decide +kernel)⟩
theorem lw_p79 : lw_okq (⟨"WildLevelsModel", "aliases", "(I)I"⟩, 23) := ⟨⟨by decide +kernel, by decide +kernel⟩, List.mem_of_getElem? (i := 827) (by decide +kernel), List.mem_of_getElem? (i := 1221) (by decide +kernel), List.mem_of_getElem? (i := 1222) (by decide +kernel)⟩
def lw_privs_5 : List (MethodName × Nat) := [(⟨"WildLevelsModel", "hadOf", "()I"⟩, 23), (⟨"WildLevelsModel", "turnOf", "(II)I"⟩, 23), (⟨"WildLevelsModel", "isTopic", "()Z"⟩, 23), (⟨"WildLevelsModel", "keptGoTo", "(III)I"⟩, 23), (⟨"WildLevelsModel", "dropsFirst", "(II)V"⟩, 23), (⟨"WildLevelsModel", "carriedDown", "(IIIIIII)V"⟩, 23), (⟨"WildLevelsModel", "unknown", "(II)V"⟩, 23), (⟨"WildLevelsModel", "knownOf", "(II)I"⟩, 23), (⟨"WildLevelsModel", "packetUp", "(III)V"⟩, 23), (⟨"WildLevelsModel", "takes", "(IIIII)V"⟩, 23), (⟨"WildLevelsModel", "known", "(II)V"⟩, 23), (⟨"WildLevelsModel", "carriedUp", "(III)V"⟩, 23), (⟨"WildLevelsModel", "flightOf", "(III)I"⟩, 23), (⟨"WildLevelsModel", "off", "(II)V"⟩, 23), (⟨"WildLevelsModel", "shares", "()I"⟩, 23), (⟨"WildLevelsModel", "aliases", "(I)I"⟩, 23)]
theorem lw_r5 : ∀ q ∈ lw_privs_5, lw_okq q := List.forall_mem_cons.mpr ⟨lw_p64, List.forall_mem_cons.mpr ⟨lw_p65, List.forall_mem_cons.mpr ⟨lw_p66, List.forall_mem_cons.mpr ⟨lw_p67, List.forall_mem_cons.mpr ⟨lw_p68, List.forall_mem_cons.mpr ⟨lw_p69, List.forall_mem_cons.mpr ⟨lw_p70, List.forall_mem_cons.mpr ⟨lw_p71, List.forall_mem_cons.mpr ⟨lw_p72, List.forall_mem_cons.mpr ⟨lw_p73, List.forall_mem_cons.mpr ⟨lw_p74, List.forall_mem_cons.mpr ⟨lw_p75, List.forall_mem_cons.mpr ⟨lw_p76, List.forall_mem_cons.mpr ⟨lw_p77, List.forall_mem_cons.mpr ⟨lw_p78, List.forall_mem_cons.mpr ⟨lw_p79, fun _ h => absurd h List.not_mem_nil⟩⟩⟩⟩⟩⟩⟩⟩⟩⟩⟩⟩⟩⟩⟩⟩
def lw_privs : List (MethodName × Nat) := lw_privs_1 ++ (lw_privs_2 ++ (lw_privs_3 ++ (lw_privs_4 ++ (lw_privs_5))))
def lw_tbl : List Cond := k2_sels lw_privs ++ tables_1
theorem lw_privs_ok : ∀ q ∈ lw_privs, lw_okq q := by
  show ∀ q ∈ lw_privs_1 ++ (lw_privs_2 ++ (lw_privs_3 ++ (lw_privs_4 ++ (lw_privs_5)))), lw_okq q
  exact List.forall_mem_append.mpr ⟨lw_r1, List.forall_mem_append.mpr ⟨lw_r2, List.forall_mem_append.mpr ⟨lw_r3, List.forall_mem_append.mpr ⟨lw_r4, lw_r5⟩⟩⟩⟩

def RX0 : String := "WildLevels$Client"
def TX0 : u_T := fun k => match k with
  | 0 => ("WildLevels$Client", "subscriptions", "LWildLevels$Rows;", true)
  | 1 => ("WildLevels$Client", "aliases", "[I", true)
  | 2 => ("WildLevels$Client", "mail", "LWildLevels$Rows;", true)
  | 3 => ("WildLevels$Client", "down", "LWildLevels$Rows;", true)
  | 4 => ("WildLevels$Client", "up", "LWildLevels$Rows;", true)
  | 5 => ("WildLevels$Client", "known", "LWildLevels$Rows;", true)
  | 6 => ("WildLevels$Client", "took", "LWildLevels$Rows;", true)
  | 7 => ("WildLevels$Client", "will", "LWildLevels$Will;", true)
  | 8 => ("WildLevels$Client", "stage", "I", false)
  | 9 => ("WildLevels$Client", "life", "I", false)
  | 10 => ("WildLevels$Client", "endsAt", "I", false)
  | 11 => ("WildLevels$Client", "flying", "I", false)
  | 12 => ("WildLevels$Client", "lastNumber", "I", false)
  | 13 => ("WildLevels$Client", "went", "I", false)
  | 14 => ("WildLevels$Client", "lost", "I", false)
  | 15 => ("WildLevels$Client", "taken", "I", false)
  | _ => ("WildLevels$Client", "off", "I", false)
def tyX0 : Nat → FieldType := fun k => match k with
  | 0 => .object "WildLevels$Rows"
  | 1 => .array .int
  | 2 => .object "WildLevels$Rows"
  | 3 => .object "WildLevels$Rows"
  | 4 => .object "WildLevels$Rows"
  | 5 => .object "WildLevels$Rows"
  | 6 => .object "WildLevels$Rows"
  | 7 => .object "WildLevels$Will"
  | 8 => .int
  | 9 => .int
  | 10 => .int
  | 11 => .int
  | 12 => .int
  | 13 => .int
  | 14 => .int
  | 15 => .int
  | _ => .int
theorem nmX0 : ∀ a, a < 17 → ∀ b, b < 17 → a ≠ b → (TX0 a).2.1 ≠ (TX0 b).2.1 := by decide +kernel
theorem tyX0_ok : ∀ k, k < 17 → parseFieldDescriptor (TX0 k).2.2.1 = some (tyX0 k) := by decide +kernel
abbrev cX0_init : ByteArray := prog_2_method_1_code
def yX0_init : MethodName := ⟨RX0, "<init>", "()V"⟩
abbrev cX0_clear : ByteArray := prog_2_method_2_code
def yX0_clear : MethodName := ⟨RX0, "clear", "()V"⟩
abbrev cX0_clearSession : ByteArray := prog_2_method_3_code
def yX0_clearSession : MethodName := ⟨RX0, "clearSession", "()V"⟩
abbrev cX0_awaken : ByteArray := prog_2_method_4_code
def yX0_awaken : MethodName := ⟨RX0, "awaken", "(I)V"⟩
abbrev cX0_fallAsleep : ByteArray := prog_2_method_5_code
def yX0_fallAsleep : MethodName := ⟨RX0, "fallAsleep", "(I)V"⟩
abbrev cX0_beToldAsleep : ByteArray := prog_2_method_6_code
def yX0_beToldAsleep : MethodName := ⟨RX0, "beToldAsleep", "()V"⟩
abbrev cX0_clearLines : ByteArray := prog_2_method_7_code
def yX0_clearLines : MethodName := ⟨RX0, "clearLines", "()V"⟩
abbrev cX0_packets : ByteArray := prog_2_method_8_code
def yX0_packets : MethodName := ⟨RX0, "packets", "(I)LWildLevels$Rows;"⟩
abbrev cX0_findSubscription : ByteArray := prog_2_method_9_code
def yX0_findSubscription : MethodName := ⟨RX0, "findSubscription", "(II)I"⟩
abbrev cX0_addSubscription : ByteArray := prog_2_method_10_code
def yX0_addSubscription : MethodName := ⟨RX0, "addSubscription", "(III)Z"⟩
abbrev cX0_greatestPromise : ByteArray := prog_2_method_11_code
def yX0_greatestPromise : MethodName := ⟨RX0, "greatestPromise", "(I)I"⟩
abbrev cX0_findShare : ByteArray := prog_2_method_12_code
def yX0_findShare : MethodName := ⟨RX0, "findShare", "(I)I"⟩
abbrev cX0_queued : ByteArray := prog_2_method_13_code
def yX0_queued : MethodName := ⟨RX0, "queued", "()I"⟩
abbrev cX0_receive : ByteArray := prog_2_method_14_code
def yX0_receive : MethodName := ⟨RX0, "receive", "(IIIZ)V"⟩
abbrev cX0_receiveAtMostOnce : ByteArray := prog_2_method_15_code
def yX0_receiveAtMostOnce : MethodName := ⟨RX0, "receiveAtMostOnce", "(IIZ)V"⟩
abbrev cX0_launchQueued : ByteArray := prog_2_method_16_code
def yX0_launchQueued : MethodName := ⟨RX0, "launchQueued", "()V"⟩
abbrev cX0_sendAgain : ByteArray := prog_2_method_17_code
def yX0_sendAgain : MethodName := ⟨RX0, "sendAgain", "()I"⟩
abbrev cX0_sendMail : ByteArray := prog_2_method_18_code
def yX0_sendMail : MethodName := ⟨RX0, "sendMail", "(I)V"⟩
abbrev cX0_sendBare : ByteArray := prog_2_method_19_code
def yX0_sendBare : MethodName := ⟨RX0, "sendBare", "(LWildLevels$Rows;II)V"⟩
abbrev cX0_carryFirst : ByteArray := prog_2_method_20_code
def yX0_carryFirst : MethodName := ⟨RX0, "carryFirst", "(I)V"⟩
abbrev cX0_carryLetter : ByteArray := prog_2_method_21_code
def yX0_carryLetter : MethodName := ⟨RX0, "carryLetter", "(I)V"⟩
abbrev cX0_takeFirst : ByteArray := prog_2_method_22_code
def yX0_takeFirst : MethodName := ⟨RX0, "takeFirst", "()V"⟩
abbrev cX0_carryUp : ByteArray := prog_2_method_23_code
def yX0_carryUp : MethodName := ⟨RX0, "carryUp", "(II)V"⟩
abbrev cX0_sessionFact : ByteArray := prog_2_method_24_code
def yX0_sessionFact : MethodName := ⟨RX0, "sessionFact", "(I)I"⟩
abbrev cX0_countAliases : ByteArray := prog_2_method_25_code
def yX0_countAliases : MethodName := ⟨RX0, "countAliases", "()I"⟩
abbrev cX0_copyFrom : ByteArray := prog_2_method_26_code
def yX0_copyFrom : MethodName := ⟨RX0, "copyFrom", "(LWildLevels$Client;)V"⟩
def RX1 : String := "WildLevels$Path"
def TX1 : u_T := fun k => match k with
  | _ => ("", "", "", false)
def tyX1 : Nat → FieldType := fun k => match k with
  | _ => .int
theorem nmX1 : ∀ a, a < 0 → ∀ b, b < 0 → a ≠ b → (TX1 a).2.1 ≠ (TX1 b).2.1 := by decide +kernel
theorem tyX1_ok : ∀ k, k < 0 → parseFieldDescriptor (TX1 k).2.2.1 = some (tyX1 k) := by decide +kernel
abbrev cX1_levelAt : ByteArray := prog_3_method_2_code
def yX1_levelAt : MethodName := ⟨RX1, "levelAt", "(II)I"⟩
abbrev cX1_count : ByteArray := prog_3_method_3_code
def yX1_count : MethodName := ⟨RX1, "count", "(I)I"⟩
abbrev cX1_with : ByteArray := prog_3_method_4_code
def yX1_with : MethodName := ⟨RX1, "with", "(II)I"⟩
abbrev cX1_endsInRest : ByteArray := prog_3_method_5_code
def yX1_endsInRest : MethodName := ⟨RX1, "endsInRest", "(I)Z"⟩
abbrev cX1_isTopic : ByteArray := prog_3_method_6_code
def yX1_isTopic : MethodName := ⟨RX1, "isTopic", "(I)Z"⟩
abbrev cX1_matches : ByteArray := prog_3_method_7_code
def yX1_matches : MethodName := ⟨RX1, "matches", "(II)Z"⟩
abbrev cX1_shareKey : ByteArray := prog_3_method_8_code
def yX1_shareKey : MethodName := ⟨RX1, "shareKey", "(II)I"⟩
abbrev cX1_filterOf : ByteArray := prog_3_method_9_code
def yX1_filterOf : MethodName := ⟨RX1, "filterOf", "(I)I"⟩
abbrev cX1_groupOf : ByteArray := prog_3_method_10_code
def yX1_groupOf : MethodName := ⟨RX1, "groupOf", "(I)I"⟩
abbrev cX1_shiftOf : ByteArray := prog_3_method_11_code
def yX1_shiftOf : MethodName := ⟨RX1, "shiftOf", "(I)I"⟩
def RX2 : String := "WildLevels$Reader"
def TX2 : u_T := fun k => match k with
  | 0 => ("WildLevels$Reader", "tape", "LWildLevels$Tape;", true)
  | 1 => ("WildLevels$Reader", "draft", "LWildLevels$World;", true)
  | 2 => ("WildLevels$Reader", "next", "I", false)
  | 3 => ("WildLevels$Reader", "start", "I", false)
  | 4 => ("WildLevels$Reader", "kind", "I", false)
  | 5 => ("WildLevels$Reader", "number", "I", false)
  | 6 => ("WildLevels$Reader", "fault", "I", false)
  | 7 => ("WildLevels$Reader", "place", "I", false)
  | _ => ("WildLevels$Reader", "lines", "I", false)
def tyX2 : Nat → FieldType := fun k => match k with
  | 0 => .object "WildLevels$Tape"
  | 1 => .object "WildLevels$World"
  | 2 => .int
  | 3 => .int
  | 4 => .int
  | 5 => .int
  | 6 => .int
  | 7 => .int
  | _ => .int
theorem nmX2 : ∀ a, a < 9 → ∀ b, b < 9 → a ≠ b → (TX2 a).2.1 ≠ (TX2 b).2.1 := by decide +kernel
theorem tyX2_ok : ∀ k, k < 9 → parseFieldDescriptor (TX2 k).2.2.1 = some (tyX2 k) := by decide +kernel
abbrev cX2_init : ByteArray := prog_4_method_1_code
def yX2_init : MethodName := ⟨RX2, "<init>", "()V"⟩
abbrev cX2_read : ByteArray := prog_4_method_2_code
def yX2_read : MethodName := ⟨RX2, "read", "()I"⟩
abbrev cX2_readSubscription : ByteArray := prog_4_method_3_code
def yX2_readSubscription : MethodName := ⟨RX2, "readSubscription", "()V"⟩
abbrev cX2_readKept : ByteArray := prog_4_method_4_code
def yX2_readKept : MethodName := ⟨RX2, "readKept", "()V"⟩
abbrev cX2_takePath : ByteArray := prog_4_method_5_code
def yX2_takePath : MethodName := ⟨RX2, "takePath", "(I)I"⟩
abbrev cX2_levelAtHand : ByteArray := prog_4_method_6_code
def yX2_levelAtHand : MethodName := ⟨RX2, "levelAtHand", "()I"⟩
abbrev cX2_takeNumber : ByteArray := prog_4_method_7_code
def yX2_takeNumber : MethodName := ⟨RX2, "takeNumber", "(II)I"⟩
abbrev cX2_isAtSemicolon : ByteArray := prog_4_method_8_code
def yX2_isAtSemicolon : MethodName := ⟨RX2, "isAtSemicolon", "()Z"⟩
abbrev cX2_takeSemicolon : ByteArray := prog_4_method_9_code
def yX2_takeSemicolon : MethodName := ⟨RX2, "takeSemicolon", "()V"⟩
abbrev cX2_spells : ByteArray := prog_4_method_10_code
def yX2_spells : MethodName := ⟨RX2, "spells", "(Ljava/lang/String;)Z"⟩
abbrev cX2_fail : ByteArray := prog_4_method_11_code
def yX2_fail : MethodName := ⟨RX2, "fail", "(I)V"⟩
abbrev cX2_advance : ByteArray := prog_4_method_12_code
def yX2_advance : MethodName := ⟨RX2, "advance", "()V"⟩
abbrev cX2_scanName : ByteArray := prog_4_method_13_code
def yX2_scanName : MethodName := ⟨RX2, "scanName", "()V"⟩
abbrev cX2_scanNumber : ByteArray := prog_4_method_14_code
def yX2_scanNumber : MethodName := ⟨RX2, "scanNumber", "()V"⟩
abbrev cX2_scanSign : ByteArray := prog_4_method_15_code
def yX2_scanSign : MethodName := ⟨RX2, "scanSign", "(I)V"⟩
abbrev cX2_isLetter : ByteArray := prog_4_method_16_code
def yX2_isLetter : MethodName := ⟨RX2, "isLetter", "(I)Z"⟩
abbrev cX2_isFigure : ByteArray := prog_4_method_17_code
def yX2_isFigure : MethodName := ⟨RX2, "isFigure", "(I)Z"⟩
def RX3 : String := "WildLevels$Rows"
def TX3 : u_T := fun k => match k with
  | 0 => ("WildLevels$Rows", "most", "I", true)
  | 1 => ("WildLevels$Rows", "width", "I", true)
  | 2 => ("WildLevels$Rows", "cells", "[I", true)
  | _ => ("WildLevels$Rows", "size", "I", false)
def tyX3 : Nat → FieldType := fun k => match k with
  | 0 => .int
  | 1 => .int
  | 2 => .array .int
  | _ => .int
theorem nmX3 : ∀ a, a < 4 → ∀ b, b < 4 → a ≠ b → (TX3 a).2.1 ≠ (TX3 b).2.1 := by decide +kernel
theorem tyX3_ok : ∀ k, k < 4 → parseFieldDescriptor (TX3 k).2.2.1 = some (tyX3 k) := by decide +kernel
abbrev cX3_init : ByteArray := prog_5_method_1_code
def yX3_init : MethodName := ⟨RX3, "<init>", "(II)V"⟩
abbrev cX3_clear : ByteArray := prog_5_method_2_code
def yX3_clear : MethodName := ⟨RX3, "clear", "()V"⟩
abbrev cX3_isFull : ByteArray := prog_5_method_3_code
def yX3_isFull : MethodName := ⟨RX3, "isFull", "()Z"⟩
abbrev cX3_open : ByteArray := prog_5_method_4_code
def yX3_open : MethodName := ⟨RX3, "open", "()I"⟩
abbrev cX3_put : ByteArray := prog_5_method_5_code
def yX3_put : MethodName := ⟨RX3, "put", "(III)V"⟩
abbrev cX3_cell : ByteArray := prog_5_method_6_code
def yX3_cell : MethodName := ⟨RX3, "cell", "(II)I"⟩
abbrev cX3_find : ByteArray := prog_5_method_7_code
def yX3_find : MethodName := ⟨RX3, "find", "(II)I"⟩
abbrev cX3_remove : ByteArray := prog_5_method_8_code
def yX3_remove : MethodName := ⟨RX3, "remove", "(I)V"⟩
abbrev cX3_copyFrom : ByteArray := prog_5_method_9_code
def yX3_copyFrom : MethodName := ⟨RX3, "copyFrom", "(LWildLevels$Rows;)V"⟩
def RX4 : String := "WildLevels$Tape"
def TX4 : u_T := fun k => match k with
  | 0 => ("WildLevels$Tape", "bytes", "[I", true)
  | _ => ("WildLevels$Tape", "length", "I", false)
def tyX4 : Nat → FieldType := fun k => match k with
  | 0 => .array .int
  | _ => .int
theorem nmX4 : ∀ a, a < 2 → ∀ b, b < 2 → a ≠ b → (TX4 a).2.1 ≠ (TX4 b).2.1 := by decide +kernel
theorem tyX4_ok : ∀ k, k < 2 → parseFieldDescriptor (TX4 k).2.2.1 = some (tyX4 k) := by decide +kernel
abbrev cX4_init : ByteArray := prog_6_method_1_code
def yX4_init : MethodName := ⟨RX4, "<init>", "()V"⟩
abbrev cX4_push : ByteArray := prog_6_method_2_code
def yX4_push : MethodName := ⟨RX4, "push", "(I)Z"⟩
abbrev cX4_at : ByteArray := prog_6_method_3_code
def yX4_at : MethodName := ⟨RX4, "at", "(I)I"⟩
def RX5 : String := "WildLevels$Will"
def TX5 : u_T := fun k => match k with
  | 0 => ("WildLevels$Will", "stage", "I", false)
  | 1 => ("WildLevels$Will", "topic", "I", false)
  | 2 => ("WildLevels$Will", "value", "I", false)
  | 3 => ("WildLevels$Will", "promise", "I", false)
  | 4 => ("WildLevels$Will", "keepIt", "Z", false)
  | 5 => ("WildLevels$Will", "delay", "I", false)
  | _ => ("WildLevels$Will", "dueAt", "I", false)
def tyX5 : Nat → FieldType := fun k => match k with
  | 0 => .int
  | 1 => .int
  | 2 => .int
  | 3 => .int
  | 4 => .boolean
  | 5 => .int
  | _ => .int
theorem nmX5 : ∀ a, a < 7 → ∀ b, b < 7 → a ≠ b → (TX5 a).2.1 ≠ (TX5 b).2.1 := by decide +kernel
theorem tyX5_ok : ∀ k, k < 7 → parseFieldDescriptor (TX5 k).2.2.1 = some (tyX5 k) := by decide +kernel
abbrev cX5_init : ByteArray := prog_7_method_1_code
def yX5_init : MethodName := ⟨RX5, "<init>", "()V"⟩
abbrev cX5_write : ByteArray := prog_7_method_2_code
def yX5_write : MethodName := ⟨RX5, "write", "(IIIZI)V"⟩
abbrev cX5_isHeld : ByteArray := prog_7_method_3_code
def yX5_isHeld : MethodName := ⟨RX5, "isHeld", "()Z"⟩
abbrev cX5_dueClock : ByteArray := prog_7_method_4_code
def yX5_dueClock : MethodName := ⟨RX5, "dueClock", "()I"⟩
abbrev cX5_drop : ByteArray := prog_7_method_5_code
def yX5_drop : MethodName := ⟨RX5, "drop", "()V"⟩
abbrev cX5_becomeDue : ByteArray := prog_7_method_6_code
def yX5_becomeDue : MethodName := ⟨RX5, "becomeDue", "(II)V"⟩
abbrev cX5_comesDue : ByteArray := prog_7_method_7_code
def yX5_comesDue : MethodName := ⟨RX5, "comesDue", "(I)Z"⟩
abbrev cX5_copyFrom : ByteArray := prog_7_method_8_code
def yX5_copyFrom : MethodName := ⟨RX5, "copyFrom", "(LWildLevels$Will;)V"⟩
def RX6 : String := "WildLevels$World"
def TX6 : u_T := fun k => match k with
  | 0 => ("WildLevels$World", "clients", "[LWildLevels$Client;", true)
  | 1 => ("WildLevels$World", "kept", "LWildLevels$Rows;", true)
  | 2 => ("WildLevels$World", "shares", "LWildLevels$Rows;", true)
  | 3 => ("WildLevels$World", "clock", "I", false)
  | _ => ("WildLevels$World", "letters", "I", false)
def tyX6 : Nat → FieldType := fun k => match k with
  | 0 => .array (.object "WildLevels$Client")
  | 1 => .object "WildLevels$Rows"
  | 2 => .object "WildLevels$Rows"
  | 3 => .int
  | _ => .int
theorem nmX6 : ∀ a, a < 5 → ∀ b, b < 5 → a ≠ b → (TX6 a).2.1 ≠ (TX6 b).2.1 := by decide +kernel
theorem tyX6_ok : ∀ k, k < 5 → parseFieldDescriptor (TX6 k).2.2.1 = some (tyX6 k) := by decide +kernel
abbrev cX6_init : ByteArray := prog_8_method_1_code
def yX6_init : MethodName := ⟨RX6, "<init>", "()V"⟩
abbrev cX6_clear : ByteArray := prog_8_method_2_code
def yX6_clear : MethodName := ⟨RX6, "clear", "()V"⟩
abbrev cX6_copyFrom : ByteArray := prog_8_method_3_code
def yX6_copyFrom : MethodName := ⟨RX6, "copyFrom", "(LWildLevels$World;)V"⟩
abbrev cX6_rouse : ByteArray := prog_8_method_4_code
def yX6_rouse : MethodName := ⟨RX6, "rouse", "(LWildLevels$Client;ZI)Z"⟩
abbrev cX6_lull : ByteArray := prog_8_method_5_code
def yX6_lull : MethodName := ⟨RX6, "lull", "(LWildLevels$Client;Z)I"⟩
abbrev cX6_endSession : ByteArray := prog_8_method_6_code
def yX6_endSession : MethodName := ⟨RX6, "endSession", "(LWildLevels$Client;)V"⟩
abbrev cX6_passTick : ByteArray := prog_8_method_7_code
def yX6_passTick : MethodName := ⟨RX6, "passTick", "()I"⟩
abbrev cX6_utter : ByteArray := prog_8_method_8_code
def yX6_utter : MethodName := ⟨RX6, "utter", "(IIIZ)I"⟩
abbrev cX6_addKept : ByteArray := prog_8_method_9_code
def yX6_addKept : MethodName := ⟨RX6, "addKept", "(IIII)V"⟩
abbrev cX6_goToSessions : ByteArray := prog_8_method_10_code
def yX6_goToSessions : MethodName := ⟨RX6, "goToSessions", "(IIII)I"⟩
abbrev cX6_goToShares : ByteArray := prog_8_method_11_code
def yX6_goToShares : MethodName := ⟨RX6, "goToShares", "(IIII)I"⟩
abbrev cX6_shareBehind : ByteArray := prog_8_method_12_code
def yX6_shareBehind : MethodName := ⟨RX6, "shareBehind", "(I)I"⟩
abbrev cX6_nextMember : ByteArray := prog_8_method_13_code
def yX6_nextMember : MethodName := ⟨RX6, "nextMember", "(I)LWildLevels$Client;"⟩
abbrev cX6_memberBehind : ByteArray := prog_8_method_14_code
def yX6_memberBehind : MethodName := ⟨RX6, "memberBehind", "(II)I"⟩
abbrev cX6_latestOf : ByteArray := prog_8_method_15_code
def yX6_latestOf : MethodName := ⟨RX6, "latestOf", "(I)I"⟩
abbrev cX6_countShares : ByteArray := prog_8_method_16_code
def yX6_countShares : MethodName := ⟨RX6, "countShares", "()I"⟩
abbrev cX6_forgetEmptyShares : ByteArray := prog_8_method_17_code
def yX6_forgetEmptyShares : MethodName := ⟨RX6, "forgetEmptyShares", "()V"⟩
abbrev cX6_hasMember : ByteArray := prog_8_method_18_code
def yX6_hasMember : MethodName := ⟨RX6, "hasMember", "(I)Z"⟩
abbrev cX6_goKept : ByteArray := prog_8_method_19_code
def yX6_goKept : MethodName := ⟨RX6, "goKept", "(LWildLevels$Client;II)I"⟩
abbrev cX6_total : ByteArray := prog_8_method_20_code
def yX6_total : MethodName := ⟨RX6, "total", "(I)I"⟩
def RX7 : String := "WildLevels"
def TX7 : u_T := fun k => match k with
  | 0 => ("WildLevels", "tape", "LWildLevels$Tape;", true)
  | 1 => ("WildLevels", "reader", "LWildLevels$Reader;", true)
  | 2 => ("WildLevels", "world", "LWildLevels$World;", true)
  | 3 => ("WildLevels", "images", "[LWildLevels$World;", true)
  | 4 => ("WildLevels", "imageMade", "[Z", true)
  | 5 => ("WildLevels", "row", "I", false)
  | _ => ("WildLevels", "fault", "I", false)
def tyX7 : Nat → FieldType := fun k => match k with
  | 0 => .object "WildLevels$Tape"
  | 1 => .object "WildLevels$Reader"
  | 2 => .object "WildLevels$World"
  | 3 => .array (.object "WildLevels$World")
  | 4 => .array .boolean
  | 5 => .int
  | _ => .int
theorem nmX7 : ∀ a, a < 7 → ∀ b, b < 7 → a ≠ b → (TX7 a).2.1 ≠ (TX7 b).2.1 := by decide +kernel
theorem tyX7_ok : ∀ k, k < 7 → parseFieldDescriptor (TX7 k).2.2.1 = some (tyX7 k) := by decide +kernel
abbrev cX7_init : ByteArray := prog_1_method_1_code
def yX7_init : MethodName := ⟨RX7, "<init>", "()V"⟩
abbrev cX7_feed : ByteArray := prog_1_method_2_code
def yX7_feed : MethodName := ⟨RX7, "feed", "(I)I"⟩
abbrev cX7_end : ByteArray := prog_1_method_3_code
def yX7_end : MethodName := ⟨RX7, "end", "(I)I"⟩
abbrev cX7_text : ByteArray := prog_1_method_4_code
def yX7_text : MethodName := ⟨RX7, "text", "()I"⟩
abbrev cX7_fault : ByteArray := prog_1_method_5_code
def yX7_fault : MethodName := ⟨RX7, "fault", "()I"⟩
abbrev cX7_level : ByteArray := prog_1_method_6_code
def yX7_level : MethodName := ⟨RX7, "level", "(I)I"⟩
abbrev cX7_top : ByteArray := prog_1_method_7_code
def yX7_top : MethodName := ⟨RX7, "top", "()I"⟩
abbrev cX7_wake : ByteArray := prog_1_method_8_code
def yX7_wake : MethodName := ⟨RX7, "wake", "(III)I"⟩
abbrev cX7_sleep : ByteArray := prog_1_method_9_code
def yX7_sleep : MethodName := ⟨RX7, "sleep", "(II)I"⟩
abbrev cX7_will : ByteArray := prog_1_method_10_code
def yX7_will : MethodName := ⟨RX7, "will", "(IIIII)I"⟩
abbrev cX7_subscribe : ByteArray := prog_1_method_11_code
def yX7_subscribe : MethodName := ⟨RX7, "subscribe", "(III)I"⟩
abbrev cX7_leave : ByteArray := prog_1_method_12_code
def yX7_leave : MethodName := ⟨RX7, "leave", "(II)I"⟩
abbrev cX7_alias : ByteArray := prog_1_method_13_code
def yX7_alias : MethodName := ⟨RX7, "alias", "(II)I"⟩
abbrev cX7_say : ByteArray := prog_1_method_14_code
def yX7_say : MethodName := ⟨RX7, "say", "(IIIII)I"⟩
abbrev cX7_carry : ByteArray := prog_1_method_15_code
def yX7_carry : MethodName := ⟨RX7, "carry", "(III)I"⟩
abbrev cX7_again : ByteArray := prog_1_method_16_code
def yX7_again : MethodName := ⟨RX7, "again", "(I)I"⟩
abbrev cX7_tick : ByteArray := prog_1_method_17_code
def yX7_tick : MethodName := ⟨RX7, "tick", "(I)I"⟩
abbrev cX7_rule : ByteArray := prog_1_method_18_code
def yX7_rule : MethodName := ⟨RX7, "rule", "(I)I"⟩
abbrev cX7_client : ByteArray := prog_1_method_19_code
def yX7_client : MethodName := ⟨RX7, "client", "(II)I"⟩
abbrev cX7_subscription : ByteArray := prog_1_method_20_code
def yX7_subscription : MethodName := ⟨RX7, "subscription", "(III)I"⟩
abbrev cX7_kept : ByteArray := prog_1_method_21_code
def yX7_kept : MethodName := ⟨RX7, "kept", "(II)I"⟩
abbrev cX7_had : ByteArray := prog_1_method_22_code
def yX7_had : MethodName := ⟨RX7, "had", "(I)I"⟩
abbrev cX7_line : ByteArray := prog_1_method_23_code
def yX7_line : MethodName := ⟨RX7, "line", "(IIII)I"⟩
abbrev cX7_flight : ByteArray := prog_1_method_24_code
def yX7_flight : MethodName := ⟨RX7, "flight", "(III)I"⟩
abbrev cX7_took : ByteArray := prog_1_method_25_code
def yX7_took : MethodName := ⟨RX7, "took", "(III)I"⟩
abbrev cX7_keep : ByteArray := prog_1_method_26_code
def yX7_keep : MethodName := ⟨RX7, "keep", "(I)I"⟩
abbrev cX7_back : ByteArray := prog_1_method_27_code
def yX7_back : MethodName := ⟨RX7, "back", "(I)I"⟩
abbrev cX7_outside : ByteArray := prog_1_method_28_code
def yX7_outside : MethodName := ⟨RX7, "outside", "(III)Z"⟩
abbrev cX7_noClient : ByteArray := prog_1_method_29_code
def yX7_noClient : MethodName := ⟨RX7, "noClient", "(I)Z"⟩
abbrev cX7_badLetter : ByteArray := prog_1_method_30_code
def yX7_badLetter : MethodName := ⟨RX7, "badLetter", "(III)Z"⟩
abbrev cX7_flag : ByteArray := prog_1_method_31_code
def yX7_flag : MethodName := ⟨RX7, "flag", "(Z)I"⟩
abbrev cX7_pathFact : ByteArray := prog_1_method_32_code
def yX7_pathFact : MethodName := ⟨RX7, "pathFact", "(II)I"⟩
abbrev cX7_isAwake : ByteArray := prog_1_method_33_code
def yX7_isAwake : MethodName := ⟨RX7, "isAwake", "(I)Z"⟩
abbrev cX7_countImages : ByteArray := prog_1_method_34_code
def yX7_countImages : MethodName := ⟨RX7, "countImages", "()I"⟩
def RX8 : String := "WildLevelsModel"
def TX8 : u_T := fun k => match k with
  | 0 => ("WildLevelsModel", "page", "[I", true)
  | 1 => ("WildLevelsModel", "draft", "[I", true)
  | 2 => ("WildLevelsModel", "kept", "[I", true)
  | 3 => ("WildLevelsModel", "isKept", "[Z", true)
  | 4 => ("WildLevelsModel", "row", "[I", true)
  | 5 => ("WildLevelsModel", "rowMany", "I", false)
  | 6 => ("WildLevelsModel", "tape", "[I", true)
  | 7 => ("WildLevelsModel", "taped", "I", false)
  | 8 => ("WildLevelsModel", "fault", "I", false)
  | 9 => ("WildLevelsModel", "brokenAt", "I", false)
  | 10 => ("WildLevelsModel", "spot", "I", false)
  | 11 => ("WildLevelsModel", "here", "I", false)
  | 12 => ("WildLevelsModel", "token", "I", false)
  | 13 => ("WildLevelsModel", "value", "I", false)
  | 14 => ("WildLevelsModel", "read", "[I", true)
  | 15 => ("WildLevelsModel", "readMany", "I", false)
  | 16 => ("WildLevelsModel", "share", "[I", true)
  | 17 => ("WildLevelsModel", "other", "[I", true)
  | 18 => ("WildLevelsModel", "behind", "[I", true)
  | 19 => ("WildLevelsModel", "filter", "[I", true)
  | 20 => ("WildLevelsModel", "shareNow", "[I", true)
  | 21 => ("WildLevelsModel", "topic", "[I", true)
  | _ => ("WildLevelsModel", "packet", "[I", true)
def tyX8 : Nat → FieldType := fun k => match k with
  | 0 => .array .int
  | 1 => .array .int
  | 2 => .array .int
  | 3 => .array .boolean
  | 4 => .array .int
  | 5 => .int
  | 6 => .array .int
  | 7 => .int
  | 8 => .int
  | 9 => .int
  | 10 => .int
  | 11 => .int
  | 12 => .int
  | 13 => .int
  | 14 => .array .int
  | 15 => .int
  | 16 => .array .int
  | 17 => .array .int
  | 18 => .array .int
  | 19 => .array .int
  | 20 => .array .int
  | 21 => .array .int
  | _ => .array .int
theorem nmX8 : ∀ a, a < 23 → ∀ b, b < 23 → a ≠ b → (TX8 a).2.1 ≠ (TX8 b).2.1 := by decide +kernel
theorem tyX8_ok : ∀ k, k < 23 → parseFieldDescriptor (TX8 k).2.2.1 = some (tyX8 k) := by decide +kernel
abbrev cX8_init : ByteArray := prog_10_method_1_code
def yX8_init : MethodName := ⟨RX8, "<init>", "()V"⟩
abbrev cX8_in : ByteArray := prog_10_method_3_code
def yX8_in : MethodName := ⟨RX8, "in", "(JJJ)Z"⟩
abbrev cX8_flag : ByteArray := prog_10_method_4_code
def yX8_flag : MethodName := ⟨RX8, "flag", "(Z)I"⟩
abbrev cX8_empties : ByteArray := prog_10_method_5_code
def yX8_empties : MethodName := ⟨RX8, "empties", "([I)V"⟩
abbrev cX8_at : ByteArray := prog_10_method_6_code
def yX8_at : MethodName := ⟨RX8, "at", "(II)I"⟩
abbrev cX8_feed : ByteArray := prog_10_method_7_code
def yX8_feed : MethodName := ⟨RX8, "feed", "(I)I"⟩
abbrev cX8_end : ByteArray := prog_10_method_8_code
def yX8_end : MethodName := ⟨RX8, "end", "(I)I"⟩
abbrev cX8_byteAt : ByteArray := prog_10_method_9_code
def yX8_byteAt : MethodName := ⟨RX8, "byteAt", "(I)I"⟩
abbrev cX8_must : ByteArray := prog_10_method_10_code
def yX8_must : MethodName := ⟨RX8, "must", "(ZI)V"⟩
abbrev cX8_reads : ByteArray := prog_10_method_11_code
def yX8_reads : MethodName := ⟨RX8, "reads", "()V"⟩
abbrev cX8_isSign : ByteArray := prog_10_method_12_code
def yX8_isSign : MethodName := ⟨RX8, "isSign", "(I)Z"⟩
abbrev cX8_isSub : ByteArray := prog_10_method_13_code
def yX8_isSub : MethodName := ⟨RX8, "isSub", "()Z"⟩
abbrev cX8_isKeptNow : ByteArray := prog_10_method_14_code
def yX8_isKeptNow : MethodName := ⟨RX8, "isKeptNow", "()Z"⟩
abbrev cX8_number : ByteArray := prog_10_method_15_code
def yX8_number : MethodName := ⟨RX8, "number", "(II)I"⟩
abbrev cX8_readsLevel : ByteArray := prog_10_method_16_code
def yX8_readsLevel : MethodName := ⟨RX8, "readsLevel", "(Z)V"⟩
abbrev cX8_readsFilter : ByteArray := prog_10_method_17_code
def yX8_readsFilter : MethodName := ⟨RX8, "readsFilter", "(Z)V"⟩
abbrev cX8_isSame : ByteArray := prog_10_method_18_code
def yX8_isSame : MethodName := ⟨RX8, "isSame", "([II[I)Z"⟩
abbrev cX8_subOf : ByteArray := prog_10_method_19_code
def yX8_subOf : MethodName := ⟨RX8, "subOf", "([II[II)I"⟩
abbrev cX8_keptOf : ByteArray := prog_10_method_20_code
def yX8_keptOf : MethodName := ⟨RX8, "keptOf", "([I[I)I"⟩
abbrev cX8_subComes : ByteArray := prog_10_method_21_code
def yX8_subComes : MethodName := ⟨RX8, "subComes", "([II[III)V"⟩
abbrev cX8_keptComes : ByteArray := prog_10_method_22_code
def yX8_keptComes : MethodName := ⟨RX8, "keptComes", "([I[IIII)V"⟩
abbrev cX8_readsSub : ByteArray := prog_10_method_23_code
def yX8_readsSub : MethodName := ⟨RX8, "readsSub", "()V"⟩
abbrev cX8_readsKept : ByteArray := prog_10_method_24_code
def yX8_readsKept : MethodName := ⟨RX8, "readsKept", "()V"⟩
abbrev cX8_readsLine : ByteArray := prog_10_method_25_code
def yX8_readsLine : MethodName := ⟨RX8, "readsLine", "()V"⟩
abbrev cX8_text : ByteArray := prog_10_method_26_code
def yX8_text : MethodName := ⟨RX8, "text", "()I"⟩
abbrev cX8_fault : ByteArray := prog_10_method_27_code
def yX8_fault : MethodName := ⟨RX8, "fault", "()I"⟩
abbrev cX8_level : ByteArray := prog_10_method_28_code
def yX8_level : MethodName := ⟨RX8, "level", "(I)I"⟩
abbrev cX8_top : ByteArray := prog_10_method_29_code
def yX8_top : MethodName := ⟨RX8, "top", "()I"⟩
abbrev cX8_isTopic : ByteArray := prog_10_method_30_code
def yX8_isTopic : MethodName := ⟨RX8, "isTopic", "()Z"⟩
abbrev cX8_isMatching : ByteArray := prog_10_method_31_code
def yX8_isMatching : MethodName := ⟨RX8, "isMatching", "(I[I)Z"⟩
abbrev cX8_lesser : ByteArray := prog_10_method_32_code
def yX8_lesser : MethodName := ⟨RX8, "lesser", "(II)I"⟩
abbrev cX8_of : ByteArray := prog_10_method_33_code
def yX8_of : MethodName := ⟨RX8, "of", "(II)I"⟩
abbrev cX8_isAwake : ByteArray := prog_10_method_34_code
def yX8_isAwake : MethodName := ⟨RX8, "isAwake", "(I)Z"⟩
abbrev cX8_packetDown : ByteArray := prog_10_method_35_code
def yX8_packetDown : MethodName := ⟨RX8, "packetDown", "(IIIIIII)V"⟩
abbrev cX8_packetUp : ByteArray := prog_10_method_36_code
def yX8_packetUp : MethodName := ⟨RX8, "packetUp", "(III)V"⟩
abbrev cX8_sends : ByteArray := prog_10_method_37_code
def yX8_sends : MethodName := ⟨RX8, "sends", "(II)V"⟩
abbrev cX8_flies : ByteArray := prog_10_method_38_code
def yX8_flies : MethodName := ⟨RX8, "flies", "(IIIII)V"⟩
abbrev cX8_queueGoesOn : ByteArray := prog_10_method_39_code
def yX8_queueGoesOn : MethodName := ⟨RX8, "queueGoesOn", "(I)V"⟩
abbrev cX8_goes : ByteArray := prog_10_method_40_code
def yX8_goes : MethodName := ⟨RX8, "goes", "(IIIII)V"⟩
abbrev cX8_widest : ByteArray := prog_10_method_41_code
def yX8_widest : MethodName := ⟨RX8, "widest", "(I[I)I"⟩
abbrev cX8_keeps : ByteArray := prog_10_method_42_code
def yX8_keeps : MethodName := ⟨RX8, "keeps", "([IIII)V"⟩
abbrev cX8_keptGoes : ByteArray := prog_10_method_43_code
def yX8_keptGoes : MethodName := ⟨RX8, "keptGoes", "(I)V"⟩
abbrev cX8_isAhead : ByteArray := prog_10_method_44_code
def yX8_isAhead : MethodName := ⟨RX8, "isAhead", "([I[I)Z"⟩
abbrev cX8_takesShare : ByteArray := prog_10_method_45_code
def yX8_takesShare : MethodName := ⟨RX8, "takesShare", "(II[I)V"⟩
abbrev cX8_nextShare : ByteArray := prog_10_method_46_code
def yX8_nextShare : MethodName := ⟨RX8, "nextShare", "()Z"⟩
abbrev cX8_noShare : ByteArray := prog_10_method_47_code
def yX8_noShare : MethodName := ⟨RX8, "noShare", "()V"⟩
abbrev cX8_memberOf : ByteArray := prog_10_method_48_code
def yX8_memberOf : MethodName := ⟨RX8, "memberOf", "(I)I"⟩
abbrev cX8_hadOf : ByteArray := prog_10_method_49_code
def yX8_hadOf : MethodName := ⟨RX8, "hadOf", "()I"⟩
abbrev cX8_turnOf : ByteArray := prog_10_method_50_code
def yX8_turnOf : MethodName := ⟨RX8, "turnOf", "(II)I"⟩
abbrev cX8_sharesOut : ByteArray := prog_10_method_51_code
def yX8_sharesOut : MethodName := ⟨RX8, "sharesOut", "(III)V"⟩
abbrev cX8_forgets : ByteArray := prog_10_method_52_code
def yX8_forgets : MethodName := ⟨RX8, "forgets", "()V"⟩
abbrev cX8_isShareMatching : ByteArray := prog_10_method_53_code
def yX8_isShareMatching : MethodName := ⟨RX8, "isShareMatching", "([I)Z"⟩
abbrev cX8_says : ByteArray := prog_10_method_54_code
def yX8_says : MethodName := ⟨RX8, "says", "([IIII)I"⟩
abbrev cX8_isClient : ByteArray := prog_10_method_55_code
def yX8_isClient : MethodName := ⟨RX8, "isClient", "(I)Z"⟩
abbrev cX8_isNew : ByteArray := prog_10_method_56_code
def yX8_isNew : MethodName := ⟨RX8, "isNew", "(II)V"⟩
abbrev cX8_wake : ByteArray := prog_10_method_57_code
def yX8_wake : MethodName := ⟨RX8, "wake", "(III)I"⟩
abbrev cX8_saysWill : ByteArray := prog_10_method_58_code
def yX8_saysWill : MethodName := ⟨RX8, "saysWill", "(I)I"⟩
abbrev cX8_sleep : ByteArray := prog_10_method_59_code
def yX8_sleep : MethodName := ⟨RX8, "sleep", "(II)I"⟩
abbrev cX8_will : ByteArray := prog_10_method_60_code
def yX8_will : MethodName := ⟨RX8, "will", "(IIIII)I"⟩
abbrev cX8_keptGoTo : ByteArray := prog_10_method_61_code
def yX8_keptGoTo : MethodName := ⟨RX8, "keptGoTo", "(III)I"⟩
abbrev cX8_subscribe : ByteArray := prog_10_method_62_code
def yX8_subscribe : MethodName := ⟨RX8, "subscribe", "(III)I"⟩
abbrev cX8_leave : ByteArray := prog_10_method_63_code
def yX8_leave : MethodName := ⟨RX8, "leave", "(II)I"⟩
abbrev cX8_alias : ByteArray := prog_10_method_64_code
def yX8_alias : MethodName := ⟨RX8, "alias", "(II)I"⟩
abbrev cX8_say : ByteArray := prog_10_method_65_code
def yX8_say : MethodName := ⟨RX8, "say", "(IIIII)I"⟩
abbrev cX8_knownOf : ByteArray := prog_10_method_66_code
def yX8_knownOf : MethodName := ⟨RX8, "knownOf", "(II)I"⟩
abbrev cX8_takes : ByteArray := prog_10_method_67_code
def yX8_takes : MethodName := ⟨RX8, "takes", "(IIIII)V"⟩
abbrev cX8_known : ByteArray := prog_10_method_68_code
def yX8_known : MethodName := ⟨RX8, "known", "(II)V"⟩
abbrev cX8_unknown : ByteArray := prog_10_method_69_code
def yX8_unknown : MethodName := ⟨RX8, "unknown", "(II)V"⟩
abbrev cX8_carriedDown : ByteArray := prog_10_method_70_code
def yX8_carriedDown : MethodName := ⟨RX8, "carriedDown", "(IIIIIII)V"⟩
abbrev cX8_flightOf : ByteArray := prog_10_method_71_code
def yX8_flightOf : MethodName := ⟨RX8, "flightOf", "(III)I"⟩
abbrev cX8_off : ByteArray := prog_10_method_72_code
def yX8_off : MethodName := ⟨RX8, "off", "(II)V"⟩
abbrev cX8_carriedUp : ByteArray := prog_10_method_73_code
def yX8_carriedUp : MethodName := ⟨RX8, "carriedUp", "(III)V"⟩
abbrev cX8_dropsFirst : ByteArray := prog_10_method_74_code
def yX8_dropsFirst : MethodName := ⟨RX8, "dropsFirst", "(II)V"⟩
abbrev cX8_carry : ByteArray := prog_10_method_75_code
def yX8_carry : MethodName := ⟨RX8, "carry", "(III)I"⟩
abbrev cX8_again : ByteArray := prog_10_method_76_code
def yX8_again : MethodName := ⟨RX8, "again", "(I)I"⟩
abbrev cX8_tick : ByteArray := prog_10_method_77_code
def yX8_tick : MethodName := ⟨RX8, "tick", "(I)I"⟩
abbrev cX8_shares : ByteArray := prog_10_method_78_code
def yX8_shares : MethodName := ⟨RX8, "shares", "()I"⟩
abbrev cX8_rule : ByteArray := prog_10_method_79_code
def yX8_rule : MethodName := ⟨RX8, "rule", "(I)I"⟩
abbrev cX8_aliases : ByteArray := prog_10_method_80_code
def yX8_aliases : MethodName := ⟨RX8, "aliases", "(I)I"⟩
abbrev cX8_client : ByteArray := prog_10_method_81_code
def yX8_client : MethodName := ⟨RX8, "client", "(II)I"⟩
abbrev cX8_levelsOf : ByteArray := prog_10_method_82_code
def yX8_levelsOf : MethodName := ⟨RX8, "levelsOf", "([II)I"⟩
abbrev cX8_subscription : ByteArray := prog_10_method_83_code
def yX8_subscription : MethodName := ⟨RX8, "subscription", "(III)I"⟩
abbrev cX8_kept : ByteArray := prog_10_method_84_code
def yX8_kept : MethodName := ⟨RX8, "kept", "(II)I"⟩
abbrev cX8_had : ByteArray := prog_10_method_85_code
def yX8_had : MethodName := ⟨RX8, "had", "(I)I"⟩
abbrev cX8_line : ByteArray := prog_10_method_86_code
def yX8_line : MethodName := ⟨RX8, "line", "(IIII)I"⟩
abbrev cX8_flight : ByteArray := prog_10_method_87_code
def yX8_flight : MethodName := ⟨RX8, "flight", "(III)I"⟩
abbrev cX8_took : ByteArray := prog_10_method_88_code
def yX8_took : MethodName := ⟨RX8, "took", "(III)I"⟩
abbrev cX8_keep : ByteArray := prog_10_method_89_code
def yX8_keep : MethodName := ⟨RX8, "keep", "(I)I"⟩
abbrev cX8_back : ByteArray := prog_10_method_90_code
def yX8_back : MethodName := ⟨RX8, "back", "(I)I"⟩
abbrev vwCl : List vw_C := [(RX0, TX0, 17), (RX2, TX2, 9), (RX3, TX3, 4), (RX4, TX4, 2), (RX5, TX5, 7), (RX6, TX6, 5), (RX7, TX7, 7), (RX8, TX8, 23)]
