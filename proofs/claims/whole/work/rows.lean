section
-- ===== PART A: goes FIRST, ahead of the names: the tables' words, and 'selects' of the private methods out of them =====
/-- a private method of a class that the tables say can be made, by its rows of tables_1 -/
def lw_okq (q : MethodName × Nat) : Prop := (q.1.cls ≠ "java/lang/invoke/MethodHandle" ∧ q.1.cls ≠ "java/lang/invoke/VarHandle") ∧ Cond.instantiable q.1.cls q.2 ∈ tables_1 ∧ Cond.privateMethod q.1 ∈ tables_1 ∧ Cond.instanceMethod q.1 ∈ tables_1
theorem lw_p0 : lw_okq (⟨"WildLevels$Reader", "advance", "()V"⟩, 9) := ⟨⟨by decide +kernel, by decide +kernel⟩, List.mem_of_getElem? (i := 40) (by decide +kernel), List.mem_of_getElem? (i := 313) (by decide +kernel), List.mem_of_getElem? (i := 314) (by decide +kernel)⟩
theorem lw_p1 : lw_okq (⟨"WildLevels$Reader", "scanName", "()V"⟩, 9) := ⟨⟨by decide +kernel, by decide +kernel⟩, List.mem_of_getElem? (i := 40) (by decide +kernel), List.mem_of_getElem? (i := 324) (by decide +kernel), List.mem_of_getElem? (i := 325) (by decide +kernel)⟩
theorem lw_p2 : lw_okq (⟨"WildLevels$Reader", "scanNumber", "()V"⟩, 9) := ⟨⟨by decide +kernel, by decide +kernel⟩, List.mem_of_getElem? (i := 40) (by decide +kernel), List.mem_of_getElem? (i := 331) (by decide +kernel), List.mem_of_getElem? (i := 332) (by decide +kernel)⟩
theorem lw_p3 : lw_okq (⟨"WildLevels$Reader", "fail", "(I)V"⟩, 9) := ⟨⟨by decide +kernel, by decide +kernel⟩, List.mem_of_getElem? (i := 40) (by decide +kernel), List.mem_of_getElem? (i := 335) (by decide +kernel), List.mem_of_getElem? (i := 336) (by decide +kernel)⟩
theorem lw_p4 : lw_okq (⟨"WildLevels$Reader", "scanSign", "(I)V"⟩, 9) := ⟨⟨by decide +kernel, by decide +kernel⟩, List.mem_of_getElem? (i := 40) (by decide +kernel), List.mem_of_getElem? (i := 339) (by decide +kernel), List.mem_of_getElem? (i := 340) (by decide +kernel)⟩
theorem lw_p5 : lw_okq (⟨"WildLevels$Reader", "spells", "(Ljava/lang/String;)Z"⟩, 9) := ⟨⟨by decide +kernel, by decide +kernel⟩, List.mem_of_getElem? (i := 40) (by decide +kernel), List.mem_of_getElem? (i := 344) (by decide +kernel), List.mem_of_getElem? (i := 345) (by decide +kernel)⟩
theorem lw_p6 : lw_okq (⟨"WildLevels$Reader", "readSubscription", "()V"⟩, 9) := ⟨⟨by decide +kernel, by decide +kernel⟩, List.mem_of_getElem? (i := 40) (by decide +kernel), List.mem_of_getElem? (i := 396) (by decide +kernel), List.mem_of_getElem? (i := 397) (by decide +kernel)⟩
theorem lw_p7 : lw_okq (⟨"WildLevels$Reader", "takeNumber", "(II)I"⟩, 9) := ⟨⟨by decide +kernel, by decide +kernel⟩, List.mem_of_getElem? (i := 40) (by decide +kernel), List.mem_of_getElem? (i := 400) (by decide +kernel), List.mem_of_getElem? (i := 401) (by decide +kernel)⟩
theorem lw_p8 : lw_okq (⟨"WildLevels$Reader", "takePath", "(I)I"⟩, 9) := ⟨⟨by decide +kernel, by decide +kernel⟩, List.mem_of_getElem? (i := 40) (by decide +kernel), List.mem_of_getElem? (i := 405) (by decide +kernel), List.mem_of_getElem? (i := 406) (by decide +kernel)⟩
theorem lw_p9 : lw_okq (⟨"WildLevels$Reader", "levelAtHand", "()I"⟩, 9) := ⟨⟨by decide +kernel, by decide +kernel⟩, List.mem_of_getElem? (i := 40) (by decide +kernel), List.mem_of_getElem? (i := 409) (by decide +kernel), List.mem_of_getElem? (i := 410) (by decide +kernel)⟩
theorem lw_p10 : lw_okq (⟨"WildLevels$Reader", "isAtSemicolon", "()Z"⟩, 9) := ⟨⟨by decide +kernel, by decide +kernel⟩, List.mem_of_getElem? (i := 40) (by decide +kernel), List.mem_of_getElem? (i := 425) (by decide +kernel), List.mem_of_getElem? (i := 426) (by decide +kernel)⟩
theorem lw_p11 : lw_okq (⟨"WildLevels$Reader", "takeSemicolon", "()V"⟩, 9) := ⟨⟨by decide +kernel, by decide +kernel⟩, List.mem_of_getElem? (i := 40) (by decide +kernel), List.mem_of_getElem? (i := 457) (by decide +kernel), List.mem_of_getElem? (i := 458) (by decide +kernel)⟩
theorem lw_p12 : lw_okq (⟨"WildLevels$Reader", "readKept", "()V"⟩, 9) := ⟨⟨by decide +kernel, by decide +kernel⟩, List.mem_of_getElem? (i := 40) (by decide +kernel), List.mem_of_getElem? (i := 462) (by decide +kernel), List.mem_of_getElem? (i := 463) (by decide +kernel)⟩
theorem lw_p13 : lw_okq (⟨"WildLevels", "isAwake", "(I)Z"⟩, 7) := ⟨⟨by decide +kernel, by decide +kernel⟩, List.mem_of_getElem? (i := 17) (by decide +kernel), List.mem_of_getElem? (i := 529) (by decide +kernel), List.mem_of_getElem? (i := 530) (by decide +kernel)⟩
theorem lw_p14 : lw_okq (⟨"WildLevels$World", "endSession", "(LWildLevels$Client;)V"⟩, 5) := ⟨⟨by decide +kernel, by decide +kernel⟩, List.mem_of_getElem? (i := 46) (by decide +kernel), List.mem_of_getElem? (i := 537) (by decide +kernel), List.mem_of_getElem? (i := 538) (by decide +kernel)⟩
theorem lw_p15 : lw_okq (⟨"WildLevels$World", "hasMember", "(I)Z"⟩, 5) := ⟨⟨by decide +kernel, by decide +kernel⟩, List.mem_of_getElem? (i := 46) (by decide +kernel), List.mem_of_getElem? (i := 547) (by decide +kernel), List.mem_of_getElem? (i := 548) (by decide +kernel)⟩
def lw_privs_1 : List (MethodName × Nat) := [(⟨"WildLevels$Reader", "advance", "()V"⟩, 9), (⟨"WildLevels$Reader", "scanName", "()V"⟩, 9), (⟨"WildLevels$Reader", "scanNumber", "()V"⟩, 9), (⟨"WildLevels$Reader", "fail", "(I)V"⟩, 9), (⟨"WildLevels$Reader", "scanSign", "(I)V"⟩, 9), (⟨"WildLevels$Reader", "spells", "(Ljava/lang/String;)Z"⟩, 9), (⟨"WildLevels$Reader", "readSubscription", "()V"⟩, 9), (⟨"WildLevels$Reader", "takeNumber", "(II)I"⟩, 9), (⟨"WildLevels$Reader", "takePath", "(I)I"⟩, 9), (⟨"WildLevels$Reader", "levelAtHand", "()I"⟩, 9), (⟨"WildLevels$Reader", "isAtSemicolon", "()Z"⟩, 9), (⟨"WildLevels$Reader", "takeSemicolon", "()V"⟩, 9), (⟨"WildLevels$Reader", "readKept", "()V"⟩, 9), (⟨"WildLevels", "isAwake", "(I)Z"⟩, 7), (⟨"WildLevels$World", "endSession", "(LWildLevels$Client;)V"⟩, 5), (⟨"WildLevels$World", "hasMember", "(I)Z"⟩, 5)]
theorem lw_r1 : ∀ q ∈ lw_privs_1, lw_okq q := List.forall_mem_cons.mpr ⟨lw_p0, List.forall_mem_cons.mpr ⟨lw_p1, List.forall_mem_cons.mpr ⟨lw_p2, List.forall_mem_cons.mpr ⟨lw_p3, List.forall_mem_cons.mpr ⟨lw_p4, List.forall_mem_cons.mpr ⟨lw_p5, List.forall_mem_cons.mpr ⟨lw_p6, List.forall_mem_cons.mpr ⟨lw_p7, List.forall_mem_cons.mpr ⟨lw_p8, List.forall_mem_cons.mpr ⟨lw_p9, List.forall_mem_cons.mpr ⟨lw_p10, List.forall_mem_cons.mpr ⟨lw_p11, List.forall_mem_cons.mpr ⟨lw_p12, List.forall_mem_cons.mpr ⟨lw_p13, List.forall_mem_cons.mpr ⟨lw_p14, List.forall_mem_cons.mpr ⟨lw_p15, fun _ h => absurd h List.not_mem_nil⟩⟩⟩⟩⟩⟩⟩⟩⟩⟩⟩⟩⟩⟩⟩⟩
theorem lw_p16 : lw_okq (⟨"WildLevels$Client", "sendBare", "(LWildLevels$Rows;II)V"⟩, 17) := ⟨⟨by decide +kernel, by decide +kernel⟩, List.mem_of_getElem? (i := 78) (by decide +kernel), List.mem_of_getElem? (i := 570) (by decide +kernel), List.mem_of_getElem? (i := 571) (by decide +kernel)⟩
theorem lw_p17 : lw_okq (⟨"WildLevels$Client", "sendMail", "(I)V"⟩, 17) := ⟨⟨by decide +kernel, by decide +kernel⟩, List.mem_of_getElem? (i := 78) (by decide +kernel), List.mem_of_getElem? (i := 574) (by decide +kernel), List.mem_of_getElem? (i := 575) (by decide +kernel)⟩
theorem lw_p18 : lw_okq (⟨"WildLevels$Client", "launchQueued", "()V"⟩, 17) := ⟨⟨by decide +kernel, by decide +kernel⟩, List.mem_of_getElem? (i := 78) (by decide +kernel), List.mem_of_getElem? (i := 578) (by decide +kernel), List.mem_of_getElem? (i := 579) (by decide +kernel)⟩
theorem lw_p19 : lw_okq (⟨"WildLevels$World", "goToSessions", "(IIII)I"⟩, 5) := ⟨⟨by decide +kernel, by decide +kernel⟩, List.mem_of_getElem? (i := 46) (by decide +kernel), List.mem_of_getElem? (i := 612) (by decide +kernel), List.mem_of_getElem? (i := 613) (by decide +kernel)⟩
theorem lw_p20 : lw_okq (⟨"WildLevels$Client", "receiveAtMostOnce", "(IIZ)V"⟩, 17) := ⟨⟨by decide +kernel, by decide +kernel⟩, List.mem_of_getElem? (i := 78) (by decide +kernel), List.mem_of_getElem? (i := 629) (by decide +kernel), List.mem_of_getElem? (i := 630) (by decide +kernel)⟩
theorem lw_p21 : lw_okq (⟨"WildLevels$World", "goToShares", "(IIII)I"⟩, 5) := ⟨⟨by decide +kernel, by decide +kernel⟩, List.mem_of_getElem? (i := 46) (by decide +kernel), List.mem_of_getElem? (i := 640) (by decide +kernel), List.mem_of_getElem? (i := 641) (by decide +kernel)⟩
theorem lw_p22 : lw_okq (⟨"WildLevels$World", "shareBehind", "(I)I"⟩, 5) := ⟨⟨by decide +kernel, by decide +kernel⟩, List.mem_of_getElem? (i := 46) (by decide +kernel), List.mem_of_getElem? (i := 644) (by decide +kernel), List.mem_of_getElem? (i := 645) (by decide +kernel)⟩
theorem lw_p23 : lw_okq (⟨"WildLevels$World", "nextMember", "(I)LWildLevels$Client;"⟩, 5) := ⟨⟨by decide +kernel, by decide +kernel⟩, List.mem_of_getElem? (i := 46) (by decide +kernel), List.mem_of_getElem? (i := 653) (by decide +kernel), List.mem_of_getElem? (i := 654) (by decide +kernel)⟩
theorem lw_p24 : lw_okq (⟨"WildLevels$World", "memberBehind", "(II)I"⟩, 5) := ⟨⟨by decide +kernel, by decide +kernel⟩, List.mem_of_getElem? (i := 46) (by decide +kernel), List.mem_of_getElem? (i := 657) (by decide +kernel), List.mem_of_getElem? (i := 658) (by decide +kernel)⟩
theorem lw_p25 : lw_okq (⟨"WildLevels$Client", "carryUp", "(II)V"⟩, 17) := ⟨⟨by decide +kernel, by decide +kernel⟩, List.mem_of_getElem? (i := 78) (by decide +kernel), List.mem_of_getElem? (i := 725) (by decide +kernel), List.mem_of_getElem? (i := 726) (by decide +kernel)⟩
theorem lw_p26 : lw_okq (⟨"WildLevels$Client", "carryLetter", "(I)V"⟩, 17) := ⟨⟨by decide +kernel, by decide +kernel⟩, List.mem_of_getElem? (i := 78) (by decide +kernel), List.mem_of_getElem? (i := 731) (by decide +kernel), List.mem_of_getElem? (i := 732) (by decide +kernel)⟩
theorem lw_p27 : lw_okq (⟨"WildLevels$Client", "takeFirst", "()V"⟩, 17) := ⟨⟨by decide +kernel, by decide +kernel⟩, List.mem_of_getElem? (i := 78) (by decide +kernel), List.mem_of_getElem? (i := 735) (by decide +kernel), List.mem_of_getElem? (i := 736) (by decide +kernel)⟩
theorem lw_p28 : lw_okq (⟨"WildLevels", "countImages", "()I"⟩, 7) := ⟨⟨by decide +kernel, by decide +kernel⟩, List.mem_of_getElem? (i := 17) (by decide +kernel), List.mem_of_getElem? (i := 765) (by decide +kernel), List.mem_of_getElem? (i := 766) (by decide +kernel)⟩
theorem lw_p29 : lw_okq (⟨"WildLevels$Client", "countAliases", "()I"⟩, 17) := ⟨⟨by decide +kernel, by decide +kernel⟩, List.mem_of_getElem? (i := 78) (by decide +kernel), List.mem_of_getElem? (i := 782) (by decide +kernel), List.mem_of_getElem? (i := 783) (by decide +kernel)⟩
theorem lw_p30 : lw_okq (⟨"WildLevelsModel", "reads", "()V"⟩, 23) := ⟨⟨by decide +kernel, by decide +kernel⟩, List.mem_of_getElem? (i := 826) (by decide +kernel), List.mem_of_getElem? (i := 921) (by decide +kernel), List.mem_of_getElem? (i := 922) (by decide +kernel)⟩
theorem lw_p31 : lw_okq (⟨"WildLevelsModel", "byteAt", "(I)I"⟩, 23) := ⟨⟨by decide +kernel, by decide +kernel⟩, List.mem_of_getElem? (i := 826) (by decide +kernel), List.mem_of_getElem? (i := 925) (by decide +kernel), List.mem_of_getElem? (i := 926) (by decide +kernel)⟩
def lw_privs_2 : List (MethodName × Nat) := [(⟨"WildLevels$Client", "sendBare", "(LWildLevels$Rows;II)V"⟩, 17), (⟨"WildLevels$Client", "sendMail", "(I)V"⟩, 17), (⟨"WildLevels$Client", "launchQueued", "()V"⟩, 17), (⟨"WildLevels$World", "goToSessions", "(IIII)I"⟩, 5), (⟨"WildLevels$Client", "receiveAtMostOnce", "(IIZ)V"⟩, 17), (⟨"WildLevels$World", "goToShares", "(IIII)I"⟩, 5), (⟨"WildLevels$World", "shareBehind", "(I)I"⟩, 5), (⟨"WildLevels$World", "nextMember", "(I)LWildLevels$Client;"⟩, 5), (⟨"WildLevels$World", "memberBehind", "(II)I"⟩, 5), (⟨"WildLevels$Client", "carryUp", "(II)V"⟩, 17), (⟨"WildLevels$Client", "carryLetter", "(I)V"⟩, 17), (⟨"WildLevels$Client", "takeFirst", "()V"⟩, 17), (⟨"WildLevels", "countImages", "()I"⟩, 7), (⟨"WildLevels$Client", "countAliases", "()I"⟩, 17), (⟨"WildLevelsModel", "reads", "()V"⟩, 23), (⟨"WildLevelsModel", "byteAt", "(I)I"⟩, 23)]
theorem lw_r2 : ∀ q ∈ lw_privs_2, lw_okq q := List.forall_mem_cons.mpr ⟨lw_p16, List.forall_mem_cons.mpr ⟨lw_p17, List.forall_mem_cons.mpr ⟨lw_p18, List.forall_mem_cons.mpr ⟨lw_p19, List.forall_mem_cons.mpr ⟨lw_p20, List.forall_mem_cons.mpr ⟨lw_p21, List.forall_mem_cons.mpr ⟨lw_p22, List.forall_mem_cons.mpr ⟨lw_p23, List.forall_mem_cons.mpr ⟨lw_p24, List.forall_mem_cons.mpr ⟨lw_p25, List.forall_mem_cons.mpr ⟨lw_p26, List.forall_mem_cons.mpr ⟨lw_p27, List.forall_mem_cons.mpr ⟨lw_p28, List.forall_mem_cons.mpr ⟨lw_p29, List.forall_mem_cons.mpr ⟨lw_p30, List.forall_mem_cons.mpr ⟨lw_p31, fun _ h => absurd h List.not_mem_nil⟩⟩⟩⟩⟩⟩⟩⟩⟩⟩⟩⟩⟩⟩⟩⟩
theorem lw_p32 : lw_okq (⟨"WildLevelsModel", "must", "(ZI)V"⟩, 23) := ⟨⟨by decide +kernel, by decide +kernel⟩, List.mem_of_getElem? (i := 826) (by decide +kernel), List.mem_of_getElem? (i := 933) (by decide +kernel), List.mem_of_getElem? (i := 934) (by decide +kernel)⟩
theorem lw_p33 : lw_okq (⟨"WildLevelsModel", "readsLine", "()V"⟩, 23) := ⟨⟨by decide +kernel, by decide +kernel⟩, List.mem_of_getElem? (i := 826) (by decide +kernel), List.mem_of_getElem? (i := 937) (by decide +kernel), List.mem_of_getElem? (i := 938) (by decide +kernel)⟩
theorem lw_p34 : lw_okq (⟨"WildLevelsModel", "isSub", "()Z"⟩, 23) := ⟨⟨by decide +kernel, by decide +kernel⟩, List.mem_of_getElem? (i := 826) (by decide +kernel), List.mem_of_getElem? (i := 941) (by decide +kernel), List.mem_of_getElem? (i := 942) (by decide +kernel)⟩
theorem lw_p35 : lw_okq (⟨"WildLevelsModel", "isKeptNow", "()Z"⟩, 23) := ⟨⟨by decide +kernel, by decide +kernel⟩, List.mem_of_getElem? (i := 826) (by decide +kernel), List.mem_of_getElem? (i := 945) (by decide +kernel), List.mem_of_getElem? (i := 946) (by decide +kernel)⟩
theorem lw_p36 : lw_okq (⟨"WildLevelsModel", "readsSub", "()V"⟩, 23) := ⟨⟨by decide +kernel, by decide +kernel⟩, List.mem_of_getElem? (i := 826) (by decide +kernel), List.mem_of_getElem? (i := 949) (by decide +kernel), List.mem_of_getElem? (i := 950) (by decide +kernel)⟩
theorem lw_p37 : lw_okq (⟨"WildLevelsModel", "number", "(II)I"⟩, 23) := ⟨⟨by decide +kernel, by decide +kernel⟩, List.mem_of_getElem? (i := 826) (by decide +kernel), List.mem_of_getElem? (i := 953) (by decide +kernel), List.mem_of_getElem? (i := 954) (by decide +kernel)⟩
theorem lw_p38 : lw_okq (⟨"WildLevelsModel", "readsFilter", "(Z)V"⟩, 23) := ⟨⟨by decide +kernel, by decide +kernel⟩, List.mem_of_getElem? (i := 826) (by decide +kernel), List.mem_of_getElem? (i := 957) (by decide +kernel), List.mem_of_getElem? (i := 958) (by decide +kernel)⟩
theorem lw_p39 : lw_okq (⟨"WildLevelsModel", "readsLevel", "(Z)V"⟩, 23) := ⟨⟨by decide +kernel, by decide +kernel⟩, List.mem_of_getElem? (i := 826) (by decide +kernel), List.mem_of_getElem? (i := 961) (by decide +kernel), List.mem_of_getElem? (i := 962) (by decide +kernel)⟩
theorem lw_p40 : lw_okq (⟨"WildLevelsModel", "isSign", "(I)Z"⟩, 23) := ⟨⟨by decide +kernel, by decide +kernel⟩, List.mem_of_getElem? (i := 826) (by decide +kernel), List.mem_of_getElem? (i := 965) (by decide +kernel), List.mem_of_getElem? (i := 966) (by decide +kernel)⟩
theorem lw_p41 : lw_okq (⟨"WildLevelsModel", "readsKept", "()V"⟩, 23) := ⟨⟨by decide +kernel, by decide +kernel⟩, List.mem_of_getElem? (i := 826) (by decide +kernel), List.mem_of_getElem? (i := 981) (by decide +kernel), List.mem_of_getElem? (i := 982) (by decide +kernel)⟩
theorem lw_p42 : lw_okq (⟨"WildLevelsModel", "isAwake", "(I)Z"⟩, 23) := ⟨⟨by decide +kernel, by decide +kernel⟩, List.mem_of_getElem? (i := 826) (by decide +kernel), List.mem_of_getElem? (i := 1013) (by decide +kernel), List.mem_of_getElem? (i := 1014) (by decide +kernel)⟩
theorem lw_p43 : lw_okq (⟨"WildLevelsModel", "of", "(II)I"⟩, 23) := ⟨⟨by decide +kernel, by decide +kernel⟩, List.mem_of_getElem? (i := 826) (by decide +kernel), List.mem_of_getElem? (i := 1017) (by decide +kernel), List.mem_of_getElem? (i := 1018) (by decide +kernel)⟩
theorem lw_p44 : lw_okq (⟨"WildLevelsModel", "isNew", "(II)V"⟩, 23) := ⟨⟨by decide +kernel, by decide +kernel⟩, List.mem_of_getElem? (i := 826) (by decide +kernel), List.mem_of_getElem? (i := 1021) (by decide +kernel), List.mem_of_getElem? (i := 1022) (by decide +kernel)⟩
theorem lw_p45 : lw_okq (⟨"WildLevelsModel", "forgets", "()V"⟩, 23) := ⟨⟨by decide +kernel, by decide +kernel⟩, List.mem_of_getElem? (i := 826) (by decide +kernel), List.mem_of_getElem? (i := 1028) (by decide +kernel), List.mem_of_getElem? (i := 1029) (by decide +kernel)⟩
theorem lw_p46 : lw_okq (⟨"WildLevelsModel", "memberOf", "(I)I"⟩, 23) := ⟨⟨by decide +kernel, by decide +kernel⟩, List.mem_of_getElem? (i := 826) (by decide +kernel), List.mem_of_getElem? (i := 1032) (by decide +kernel), List.mem_of_getElem? (i := 1033) (by decide +kernel)⟩
theorem lw_p47 : lw_okq (⟨"WildLevelsModel", "sends", "(II)V"⟩, 23) := ⟨⟨by decide +kernel, by decide +kernel⟩, List.mem_of_getElem? (i := 826) (by decide +kernel), List.mem_of_getElem? (i := 1036) (by decide +kernel), List.mem_of_getElem? (i := 1037) (by decide +kernel)⟩
def lw_privs_3 : List (MethodName × Nat) := [(⟨"WildLevelsModel", "must", "(ZI)V"⟩, 23), (⟨"WildLevelsModel", "readsLine", "()V"⟩, 23), (⟨"WildLevelsModel", "isSub", "()Z"⟩, 23), (⟨"WildLevelsModel", "isKeptNow", "()Z"⟩, 23), (⟨"WildLevelsModel", "readsSub", "()V"⟩, 23), (⟨"WildLevelsModel", "number", "(II)I"⟩, 23), (⟨"WildLevelsModel", "readsFilter", "(Z)V"⟩, 23), (⟨"WildLevelsModel", "readsLevel", "(Z)V"⟩, 23), (⟨"WildLevelsModel", "isSign", "(I)Z"⟩, 23), (⟨"WildLevelsModel", "readsKept", "()V"⟩, 23), (⟨"WildLevelsModel", "isAwake", "(I)Z"⟩, 23), (⟨"WildLevelsModel", "of", "(II)I"⟩, 23), (⟨"WildLevelsModel", "isNew", "(II)V"⟩, 23), (⟨"WildLevelsModel", "forgets", "()V"⟩, 23), (⟨"WildLevelsModel", "memberOf", "(I)I"⟩, 23), (⟨"WildLevelsModel", "sends", "(II)V"⟩, 23)]
theorem lw_r3 : ∀ q ∈ lw_privs_3, lw_okq q := List.forall_mem_cons.mpr ⟨lw_p32, List.forall_mem_cons.mpr ⟨lw_p33, List.forall_mem_cons.mpr ⟨lw_p34, List.forall_mem_cons.mpr ⟨lw_p35, List.forall_mem_cons.mpr ⟨lw_p36, List.forall_mem_cons.mpr ⟨lw_p37, List.forall_mem_cons.mpr ⟨lw_p38, List.forall_mem_cons.mpr ⟨lw_p39, List.forall_mem_cons.mpr ⟨lw_p40, List.forall_mem_cons.mpr ⟨lw_p41, List.forall_mem_cons.mpr ⟨lw_p42, List.forall_mem_cons.mpr ⟨lw_p43, List.forall_mem_cons.mpr ⟨lw_p44, List.forall_mem_cons.mpr ⟨lw_p45, List.forall_mem_cons.mpr ⟨lw_p46, List.forall_mem_cons.mpr ⟨lw_p47, fun _ h => absurd h List.not_mem_nil⟩⟩⟩⟩⟩⟩⟩⟩⟩⟩⟩⟩⟩⟩⟩⟩
theorem lw_p48 : lw_okq (⟨"WildLevelsModel", "packetDown", "(IIIIIII)V"⟩, 23) := ⟨⟨by decide +kernel, by decide +kernel⟩, List.mem_of_getElem? (i := 826) (by decide +kernel), List.mem_of_getElem? (i := 1040) (by decide +kernel), List.mem_of_getElem? (i := 1041) (by decide +kernel)⟩
theorem lw_p49 : lw_okq (⟨"WildLevelsModel", "queueGoesOn", "(I)V"⟩, 23) := ⟨⟨by decide +kernel, by decide +kernel⟩, List.mem_of_getElem? (i := 826) (by decide +kernel), List.mem_of_getElem? (i := 1044) (by decide +kernel), List.mem_of_getElem? (i := 1045) (by decide +kernel)⟩
theorem lw_p50 : lw_okq (⟨"WildLevelsModel", "flies", "(IIIII)V"⟩, 23) := ⟨⟨by decide +kernel, by decide +kernel⟩, List.mem_of_getElem? (i := 826) (by decide +kernel), List.mem_of_getElem? (i := 1048) (by decide +kernel), List.mem_of_getElem? (i := 1049) (by decide +kernel)⟩
theorem lw_p51 : lw_okq (⟨"WildLevelsModel", "saysWill", "(I)I"⟩, 23) := ⟨⟨by decide +kernel, by decide +kernel⟩, List.mem_of_getElem? (i := 826) (by decide +kernel), List.mem_of_getElem? (i := 1062) (by decide +kernel), List.mem_of_getElem? (i := 1063) (by decide +kernel)⟩
theorem lw_p52 : lw_okq (⟨"WildLevelsModel", "says", "([IIII)I"⟩, 23) := ⟨⟨by decide +kernel, by decide +kernel⟩, List.mem_of_getElem? (i := 826) (by decide +kernel), List.mem_of_getElem? (i := 1066) (by decide +kernel), List.mem_of_getElem? (i := 1067) (by decide +kernel)⟩
theorem lw_p53 : lw_okq (⟨"WildLevelsModel", "keeps", "([IIII)V"⟩, 23) := ⟨⟨by decide +kernel, by decide +kernel⟩, List.mem_of_getElem? (i := 826) (by decide +kernel), List.mem_of_getElem? (i := 1070) (by decide +kernel), List.mem_of_getElem? (i := 1071) (by decide +kernel)⟩
theorem lw_p54 : lw_okq (⟨"WildLevelsModel", "keptGoes", "(I)V"⟩, 23) := ⟨⟨by decide +kernel, by decide +kernel⟩, List.mem_of_getElem? (i := 826) (by decide +kernel), List.mem_of_getElem? (i := 1074) (by decide +kernel), List.mem_of_getElem? (i := 1075) (by decide +kernel)⟩
theorem lw_p55 : lw_okq (⟨"WildLevelsModel", "widest", "(I[I)I"⟩, 23) := ⟨⟨by decide +kernel, by decide +kernel⟩, List.mem_of_getElem? (i := 826) (by decide +kernel), List.mem_of_getElem? (i := 1078) (by decide +kernel), List.mem_of_getElem? (i := 1079) (by decide +kernel)⟩
theorem lw_p56 : lw_okq (⟨"WildLevelsModel", "isMatching", "(I[I)Z"⟩, 23) := ⟨⟨by decide +kernel, by decide +kernel⟩, List.mem_of_getElem? (i := 826) (by decide +kernel), List.mem_of_getElem? (i := 1082) (by decide +kernel), List.mem_of_getElem? (i := 1083) (by decide +kernel)⟩
theorem lw_p57 : lw_okq (⟨"WildLevelsModel", "goes", "(IIIII)V"⟩, 23) := ⟨⟨by decide +kernel, by decide +kernel⟩, List.mem_of_getElem? (i := 826) (by decide +kernel), List.mem_of_getElem? (i := 1086) (by decide +kernel), List.mem_of_getElem? (i := 1087) (by decide +kernel)⟩
theorem lw_p58 : lw_okq (⟨"WildLevelsModel", "noShare", "()V"⟩, 23) := ⟨⟨by decide +kernel, by decide +kernel⟩, List.mem_of_getElem? (i := 826) (by decide +kernel), List.mem_of_getElem? (i := 1090) (by decide +kernel), List.mem_of_getElem? (i := 1091) (by decide +kernel)⟩
theorem lw_p59 : lw_okq (⟨"WildLevelsModel", "nextShare", "()Z"⟩, 23) := ⟨⟨by decide +kernel, by decide +kernel⟩, List.mem_of_getElem? (i := 826) (by decide +kernel), List.mem_of_getElem? (i := 1094) (by decide +kernel), List.mem_of_getElem? (i := 1095) (by decide +kernel)⟩
theorem lw_p60 : lw_okq (⟨"WildLevelsModel", "takesShare", "(II[I)V"⟩, 23) := ⟨⟨by decide +kernel, by decide +kernel⟩, List.mem_of_getElem? (i := 826) (by decide +kernel), List.mem_of_getElem? (i := 1098) (by decide +kernel), List.mem_of_getElem? (i := 1099) (by decide +kernel)⟩
theorem lw_p61 : lw_okq (⟨"WildLevelsModel", "isAhead", "([I[I)Z"⟩, 23) := ⟨⟨by decide +kernel, by decide +kernel⟩, List.mem_of_getElem? (i := 826) (by decide +kernel), List.mem_of_getElem? (i := 1102) (by decide +kernel), List.mem_of_getElem? (i := 1103) (by decide +kernel)⟩
theorem lw_p62 : lw_okq (⟨"WildLevelsModel", "isShareMatching", "([I)Z"⟩, 23) := ⟨⟨by decide +kernel, by decide +kernel⟩, List.mem_of_getElem? (i := 826) (by decide +kernel), List.mem_of_getElem? (i := 1106) (by decide +kernel), List.mem_of_getElem? (i := 1107) (by decide +kernel)⟩
theorem lw_p63 : lw_okq (⟨"WildLevelsModel", "sharesOut", "(III)V"⟩, 23) := ⟨⟨by decide +kernel, by decide +kernel⟩, List.mem_of_getElem? (i := 826) (by decide +kernel), List.mem_of_getElem? (i := 1110) (by decide +kernel), List.mem_of_getElem? (i := 1111) (by decide +kernel)⟩
def lw_privs_4 : List (MethodName × Nat) := [(⟨"WildLevelsModel", "packetDown", "(IIIIIII)V"⟩, 23), (⟨"WildLevelsModel", "queueGoesOn", "(I)V"⟩, 23), (⟨"WildLevelsModel", "flies", "(IIIII)V"⟩, 23), (⟨"WildLevelsModel", "saysWill", "(I)I"⟩, 23), (⟨"WildLevelsModel", "says", "([IIII)I"⟩, 23), (⟨"WildLevelsModel", "keeps", "([IIII)V"⟩, 23), (⟨"WildLevelsModel", "keptGoes", "(I)V"⟩, 23), (⟨"WildLevelsModel", "widest", "(I[I)I"⟩, 23), (⟨"WildLevelsModel", "isMatching", "(I[I)Z"⟩, 23), (⟨"WildLevelsModel", "goes", "(IIIII)V"⟩, 23), (⟨"WildLevelsModel", "noShare", "()V"⟩, 23), (⟨"WildLevelsModel", "nextShare", "()Z"⟩, 23), (⟨"WildLevelsModel", "takesShare", "(II[I)V"⟩, 23), (⟨"WildLevelsModel", "isAhead", "([I[I)Z"⟩, 23), (⟨"WildLevelsModel", "isShareMatching", "([I)Z"⟩, 23), (⟨"WildLevelsModel", "sharesOut", "(III)V"⟩, 23)]
theorem lw_r4 : ∀ q ∈ lw_privs_4, lw_okq q := List.forall_mem_cons.mpr ⟨lw_p48, List.forall_mem_cons.mpr ⟨lw_p49, List.forall_mem_cons.mpr ⟨lw_p50, List.forall_mem_cons.mpr ⟨lw_p51, List.forall_mem_cons.mpr ⟨lw_p52, List.forall_mem_cons.mpr ⟨lw_p53, List.forall_mem_cons.mpr ⟨lw_p54, List.forall_mem_cons.mpr ⟨lw_p55, List.forall_mem_cons.mpr ⟨lw_p56, List.forall_mem_cons.mpr ⟨lw_p57, List.forall_mem_cons.mpr ⟨lw_p58, List.forall_mem_cons.mpr ⟨lw_p59, List.forall_mem_cons.mpr ⟨lw_p60, List.forall_mem_cons.mpr ⟨lw_p61, List.forall_mem_cons.mpr ⟨lw_p62, List.forall_mem_cons.mpr ⟨lw_p63, fun _ h => absurd h List.not_mem_nil⟩⟩⟩⟩⟩⟩⟩⟩⟩⟩⟩⟩⟩⟩⟩⟩
theorem lw_p64 : lw_okq (⟨"WildLevelsModel", "hadOf", "()I"⟩, 23) := ⟨⟨by decide +kernel, by decide +kernel⟩, List.mem_of_getElem? (i := 826) (by decide +kernel), List.mem_of_getElem? (i := 1114) (by decide +kernel), List.mem_of_getElem? (i := 1115) (by decide +kernel)⟩
theorem lw_p65 : lw_okq (⟨"WildLevelsModel", "turnOf", "(II)I"⟩, 23) := ⟨⟨by decide +kernel, by decide +kernel⟩, List.mem_of_getElem? (i := 826) (by decide +kernel), List.mem_of_getElem? (i := 1118) (by decide +kernel), List.mem_of_getElem? (i := 1119) (by decide +kernel)⟩
theorem lw_p66 : lw_okq (⟨"WildLevelsModel", "isTopic", "()Z"⟩, 23) := ⟨⟨by decide +kernel, by decide +kernel⟩, List.mem_of_getElem? (i := 826) (by decide +kernel), List.mem_of_getElem? (i := 1128) (by decide +kernel), List.mem_of_getElem? (i := 1129) (by decide +kernel)⟩
theorem lw_p67 : lw_okq (⟨"WildLevelsModel", "keptGoTo", "(III)I"⟩, 23) := ⟨⟨by decide +kernel, by decide +kernel⟩, List.mem_of_getElem? (i := 826) (by decide +kernel), List.mem_of_getElem? (i := 1137) (by decide +kernel), List.mem_of_getElem? (i := 1138) (by decide +kernel)⟩
theorem lw_p68 : lw_okq (⟨"WildLevelsModel", "dropsFirst", "(II)V"⟩, 23) := ⟨⟨by decide +kernel, by decide +kernel⟩, List.mem_of_getElem? (i := 826) (by decide +kernel), List.mem_of_getElem? (i := 1158) (by decide +kernel), List.mem_of_getElem? (i := 1159) (by decide +kernel)⟩
theorem lw_p69 : lw_okq (⟨"WildLevelsModel", "carriedDown", "(IIIIIII)V"⟩, 23) := ⟨⟨by decide +kernel, by decide +kernel⟩, List.mem_of_getElem? (i := 826) (by decide +kernel), List.mem_of_getElem? (i := 1162) (by decide +kernel), List.mem_of_getElem? (i := 1163) (by decide +kernel)⟩
theorem lw_p70 : lw_okq (⟨"WildLevelsModel", "unknown", "(II)V"⟩, 23) := ⟨⟨by decide +kernel, by decide +kernel⟩, List.mem_of_getElem? (i := 826) (by decide +kernel), List.mem_of_getElem? (i := 1166) (by decide +kernel), List.mem_of_getElem? (i := 1167) (by decide +kernel)⟩
theorem lw_p71 : lw_okq (⟨"WildLevelsModel", "knownOf", "(II)I"⟩, 23) := ⟨⟨by decide +kernel, by decide +kernel⟩, List.mem_of_getElem? (i := 826) (by decide +kernel), List.mem_of_getElem? (i := 1170) (by decide +kernel), List.mem_of_getElem? (i := 1171) (by decide +kernel)⟩
theorem lw_p72 : lw_okq (⟨"WildLevelsModel", "packetUp", "(III)V"⟩, 23) := ⟨⟨by decide +kernel, by decide +kernel⟩, List.mem_of_getElem? (i := 826) (by decide +kernel), List.mem_of_getElem? (i := 1174) (by decide +kernel), List.mem_of_getElem? (i := 1175) (by decide +kernel)⟩
theorem lw_p73 : lw_okq (⟨"WildLevelsModel", "takes", "(IIIII)V"⟩, 23) := ⟨⟨by decide +kernel, by decide +kernel⟩, List.mem_of_getElem? (i := 826) (by decide +kernel), List.mem_of_getElem? (i := 1178) (by decide +kernel), List.mem_of_getElem? (i := 1179) (by decide +kernel)⟩
theorem lw_p74 : lw_okq (⟨"WildLevelsModel", "known", "(II)V"⟩, 23) := ⟨⟨by decide +kernel, by decide +kernel⟩, List.mem_of_getElem? (i := 826) (by decide +kernel), List.mem_of_getElem? (i := 1182) (by decide +kernel), List.mem_of_getElem? (i := 1183) (by decide +kernel)⟩
theorem lw_p75 : lw_okq (⟨"WildLevelsModel", "carriedUp", "(III)V"⟩, 23) := ⟨⟨by decide +kernel, by decide +kernel⟩, List.mem_of_getElem? (i := 826) (by decide +kernel), List.mem_of_getElem? (i := 1186) (by decide +kernel), List.mem_of_getElem? (i := 1187) (by decide +kernel)⟩
theorem lw_p76 : lw_okq (⟨"WildLevelsModel", "flightOf", "(III)I"⟩, 23) := ⟨⟨by decide +kernel, by decide +kernel⟩, List.mem_of_getElem? (i := 826) (by decide +kernel), List.mem_of_getElem? (i := 1190) (by decide +kernel), List.mem_of_getElem? (i := 1191) (by decide +kernel)⟩
theorem lw_p77 : lw_okq (⟨"WildLevelsModel", "off", "(II)V"⟩, 23) := ⟨⟨by decide +kernel, by decide +kernel⟩, List.mem_of_getElem? (i := 826) (by decide +kernel), List.mem_of_getElem? (i := 1194) (by decide +kernel), List.mem_of_getElem? (i := 1195) (by decide +kernel)⟩
theorem lw_p78 : lw_okq (⟨"WildLevelsModel", "shares", "()I"⟩, 23) := ⟨⟨by decide +kernel, by decide +kernel⟩, List.mem_of_getElem? (i := 826) (by decide +kernel), List.mem_of_getElem? (i := 1211) (by decide +kernel), List.mem_of_getElem? (i := 1212) (by decide +kernel)⟩
theorem lw_p79 : lw_okq (⟨"WildLevelsModel", "aliases", "(I)I"⟩, 23) := ⟨⟨by decide +kernel, by decide +kernel⟩, List.mem_of_getElem? (i := 826) (by decide +kernel), List.mem_of_getElem? (i := 1220) (by decide +kernel), List.mem_of_getElem? (i := 1221) (by decide +kernel)⟩
def lw_privs_5 : List (MethodName × Nat) := [(⟨"WildLevelsModel", "hadOf", "()I"⟩, 23), (⟨"WildLevelsModel", "turnOf", "(II)I"⟩, 23), (⟨"WildLevelsModel", "isTopic", "()Z"⟩, 23), (⟨"WildLevelsModel", "keptGoTo", "(III)I"⟩, 23), (⟨"WildLevelsModel", "dropsFirst", "(II)V"⟩, 23), (⟨"WildLevelsModel", "carriedDown", "(IIIIIII)V"⟩, 23), (⟨"WildLevelsModel", "unknown", "(II)V"⟩, 23), (⟨"WildLevelsModel", "knownOf", "(II)I"⟩, 23), (⟨"WildLevelsModel", "packetUp", "(III)V"⟩, 23), (⟨"WildLevelsModel", "takes", "(IIIII)V"⟩, 23), (⟨"WildLevelsModel", "known", "(II)V"⟩, 23), (⟨"WildLevelsModel", "carriedUp", "(III)V"⟩, 23), (⟨"WildLevelsModel", "flightOf", "(III)I"⟩, 23), (⟨"WildLevelsModel", "off", "(II)V"⟩, 23), (⟨"WildLevelsModel", "shares", "()I"⟩, 23), (⟨"WildLevelsModel", "aliases", "(I)I"⟩, 23)]
theorem lw_r5 : ∀ q ∈ lw_privs_5, lw_okq q := List.forall_mem_cons.mpr ⟨lw_p64, List.forall_mem_cons.mpr ⟨lw_p65, List.forall_mem_cons.mpr ⟨lw_p66, List.forall_mem_cons.mpr ⟨lw_p67, List.forall_mem_cons.mpr ⟨lw_p68, List.forall_mem_cons.mpr ⟨lw_p69, List.forall_mem_cons.mpr ⟨lw_p70, List.forall_mem_cons.mpr ⟨lw_p71, List.forall_mem_cons.mpr ⟨lw_p72, List.forall_mem_cons.mpr ⟨lw_p73, List.forall_mem_cons.mpr ⟨lw_p74, List.forall_mem_cons.mpr ⟨lw_p75, List.forall_mem_cons.mpr ⟨lw_p76, List.forall_mem_cons.mpr ⟨lw_p77, List.forall_mem_cons.mpr ⟨lw_p78, List.forall_mem_cons.mpr ⟨lw_p79, fun _ h => absurd h List.not_mem_nil⟩⟩⟩⟩⟩⟩⟩⟩⟩⟩⟩⟩⟩⟩⟩⟩
def lw_privs : List (MethodName × Nat) := lw_privs_1 ++ (lw_privs_2 ++ (lw_privs_3 ++ (lw_privs_4 ++ (lw_privs_5))))
def lw_tbl : List Cond := k2_sels lw_privs ++ tables_1
theorem lw_privs_ok : ∀ q ∈ lw_privs, lw_okq q := by
  show ∀ q ∈ lw_privs_1 ++ (lw_privs_2 ++ (lw_privs_3 ++ (lw_privs_4 ++ (lw_privs_5)))), lw_okq q
  exact List.forall_mem_append.mpr ⟨lw_r1, List.forall_mem_append.mpr ⟨lw_r2, List.forall_mem_append.mpr ⟨lw_r3, List.forall_mem_append.mpr ⟨lw_r4, lw_r5⟩⟩⟩⟩

def RX0 : String := "WildLevels$Client"
def TX0 : u_T := fun k => match k with
  | 0 => ("WildLevels$Client", "subscriptions", "LWildLevels$Rows;", true)
  | 1 => ("WildLevels$Client", "aliases", "[I", true)
  | 2 => ("WildLevels$Client", "mail", "LWildLevels$Rows;", true)
  | 3 => ("WildLevels$Client", "down", "LWildLevels$Rows;", true)
  | 4 => ("WildLevels$Client", "up", "LWildLevels$Rows;", true)
  | 5 => ("WildLevels$Client", "known", "LWildLevels$Rows;", true)
  | 6 => ("WildLevels$Client", "took", "LWildLevels$Rows;", true)
  | 7 => ("WildLevels$Client", "will", "LWildLevels$Will;", true)
  | 8 => ("WildLevels$Client", "stage", "I", false)
  | 9 => ("WildLevels$Client", "life", "I", false)
  | 10 => ("WildLevels$Client", "endsAt", "I", false)
  | 11 => ("WildLevels$Client", "flying", "I", false)
  | 12 => ("WildLevels$Client", "lastNumber", "I", false)
  | 13 => ("WildLevels$Client", "went", "I", false)
  | 14 => ("WildLevels$Client", "lost", "I", false)
  | 15 => ("WildLevels$Client", "taken", "I", false)
  | _ => ("WildLevels$Client", "off", "I", false)
def tyX0 : Nat → FieldType := fun k => match k with
  | 0 => .object "WildLevels$Rows"
  | 1 => .array .int
  | 2 => .object "WildLevels$Rows"
  | 3 => .object "WildLevels$Rows"
  | 4 => .object "WildLevels$Rows"
  | 5 => .object "WildLevels$Rows"
  | 6 => .object "WildLevels$Rows"
  | 7 => .object "WildLevels$Will"
  | 8 => .int
  | 9 => .int
  | 10 => .int
  | 11 => .int
  | 12 => .int
  | 13 => .int
  | 14 => .int
  | 15 => .int
  | _ => .int
theorem nmX0 : ∀ a, a < 17 → ∀ b, b < 17 → a ≠ b → (TX0 a).2.1 ≠ (TX0 b).2.1 := by decide +kernel
theorem tyX0_ok : ∀ k, k < 17 → parseFieldDescriptor (TX0 k).2.2.1 = some (tyX0 k) := by decide +kernel
abbrev cX0_init : ByteArray := prog_2_method_1_code
def yX0_init : MethodName := ⟨RX0, "<init>", "()V"⟩
abbrev cX0_clear : ByteArray := prog_2_method_2_code
def yX0_clear : MethodName := ⟨RX0, "clear", "()V"⟩
abbrev cX0_clearSession : ByteArray := prog_2_method_3_code
def yX0_clearSession : MethodName := ⟨RX0, "clearSession", "()V"⟩
abbrev cX0_awaken : ByteArray := prog_2_method_4_code
def yX0_awaken : MethodName := ⟨RX0, "awaken", "(I)V"⟩
abbrev cX0_fallAsleep : ByteArray := prog_2_method_5_code
def yX0_fallAsleep : MethodName := ⟨RX0, "fallAsleep", "(I)V"⟩
abbrev cX0_beToldAsleep : ByteArray := prog_2_method_6_code
def yX0_beToldAsleep : MethodName := ⟨RX0, "beToldAsleep", "()V"⟩
abbrev cX0_clearLines : ByteArray := prog_2_method_7_code
def yX0_clearLines : MethodName := ⟨RX0, "clearLines", "()V"⟩
abbrev cX0_packets : ByteArray := prog_2_method_8_code
def yX0_packets : MethodName := ⟨RX0, "packets", "(I)LWildLevels$Rows;"⟩
abbrev cX0_findSubscription : ByteArray := prog_2_method_9_code
def yX0_findSubscription : MethodName := ⟨RX0, "findSubscription", "(II)I"⟩
abbrev cX0_addSubscription : ByteArray := prog_2_method_10_code
def yX0_addSubscription : MethodName := ⟨RX0, "addSubscription", "(III)Z"⟩
abbrev cX0_greatestPromise : ByteArray := prog_2_method_11_code
def yX0_greatestPromise : MethodName := ⟨RX0, "greatestPromise", "(I)I"⟩
abbrev cX0_findShare : ByteArray := prog_2_method_12_code
def yX0_findShare : MethodName := ⟨RX0, "findShare", "(I)I"⟩
abbrev cX0_queued : ByteArray := prog_2_method_13_code
def yX0_queued : MethodName := ⟨RX0, "queued", "()I"⟩
abbrev cX0_receive : ByteArray := prog_2_method_14_code
def yX0_receive : MethodName := ⟨RX0, "receive", "(IIIZ)V"⟩
abbrev cX0_receiveAtMostOnce : ByteArray := prog_2_method_15_code
def yX0_receiveAtMostOnce : MethodName := ⟨RX0, "receiveAtMostOnce", "(IIZ)V"⟩
abbrev cX0_launchQueued : ByteArray := prog_2_method_16_code
def yX0_launchQueued : MethodName := ⟨RX0, "launchQueued", "()V"⟩
abbrev cX0_sendAgain : ByteArray := prog_2_method_17_code
def yX0_sendAgain : MethodName := ⟨RX0, "sendAgain", "()I"⟩
abbrev cX0_sendMail : ByteArray := prog_2_method_18_code
def yX0_sendMail : MethodName := ⟨RX0, "sendMail", "(I)V"⟩
abbrev cX0_sendBare : ByteArray := prog_2_method_19_code
def yX0_sendBare : MethodName := ⟨RX0, "sendBare", "(LWildLevels$Rows;II)V"⟩
abbrev cX0_carryFirst : ByteArray := prog_2_method_20_code
def yX0_carryFirst : MethodName := ⟨RX0, "carryFirst", "(I)V"⟩
abbrev cX0_carryLetter : ByteArray := prog_2_method_21_code
def yX0_carryLetter : MethodName := ⟨RX0, "carryLetter", "(I)V"⟩
abbrev cX0_takeFirst : ByteArray := prog_2_method_22_code
def yX0_takeFirst : MethodName := ⟨RX0, "takeFirst", "()V"⟩
abbrev cX0_carryUp : ByteArray := prog_2_method_23_code
def yX0_carryUp : MethodName := ⟨RX0, "carryUp", "(II)V"⟩
abbrev cX0_sessionFact : ByteArray := prog_2_method_24_code
def yX0_sessionFact : MethodName := ⟨RX0, "sessionFact", "(I)I"⟩
abbrev cX0_countAliases : ByteArray := prog_2_method_25_code
def yX0_countAliases : MethodName := ⟨RX0, "countAliases", "()I"⟩
abbrev cX0_copyFrom : ByteArray := prog_2_method_26_code
def yX0_copyFrom : MethodName := ⟨RX0, "copyFrom", "(LWildLevels$Client;)V"⟩
def RX1 : String := "WildLevels$Path"
def TX1 : u_T := fun k => match k with
  | _ => ("", "", "", false)
def tyX1 : Nat → FieldType := fun k => match k with
  | _ => .int
theorem nmX1 : ∀ a, a < 0 → ∀ b, b < 0 → a ≠ b → (TX1 a).2.1 ≠ (TX1 b).2.1 := by decide +kernel
theorem tyX1_ok : ∀ k, k < 0 → parseFieldDescriptor (TX1 k).2.2.1 = some (tyX1 k) := by decide +kernel
abbrev cX1_levelAt : ByteArray := prog_3_method_2_code
def yX1_levelAt : MethodName := ⟨RX1, "levelAt", "(II)I"⟩
abbrev cX1_count : ByteArray := prog_3_method_3_code
def yX1_count : MethodName := ⟨RX1, "count", "(I)I"⟩
abbrev cX1_with : ByteArray := prog_3_method_4_code
def yX1_with : MethodName := ⟨RX1, "with", "(II)I"⟩
abbrev cX1_endsInRest : ByteArray := prog_3_method_5_code
def yX1_endsInRest : MethodName := ⟨RX1, "endsInRest", "(I)Z"⟩
abbrev cX1_isTopic : ByteArray := prog_3_method_6_code
def yX1_isTopic : MethodName := ⟨RX1, "isTopic", "(I)Z"⟩
abbrev cX1_matches : ByteArray := prog_3_method_7_code
def yX1_matches : MethodName := ⟨RX1, "matches", "(II)Z"⟩
abbrev cX1_shareKey : ByteArray := prog_3_method_8_code
def yX1_shareKey : MethodName := ⟨RX1, "shareKey", "(II)I"⟩
abbrev cX1_filterOf : ByteArray := prog_3_method_9_code
def yX1_filterOf : MethodName := ⟨RX1, "filterOf", "(I)I"⟩
abbrev cX1_groupOf : ByteArray := prog_3_method_10_code
def yX1_groupOf : MethodName := ⟨RX1, "groupOf", "(I)I"⟩
abbrev cX1_shiftOf : ByteArray := prog_3_method_11_code
def yX1_shiftOf : MethodName := ⟨RX1, "shiftOf", "(I)I"⟩
def RX2 : String := "WildLevels$Reader"
def TX2 : u_T := fun k => match k with
  | 0 => ("WildLevels$Reader", "tape", "LWildLevels$Tape;", true)
  | 1 => ("WildLevels$Reader", "draft", "LWildLevels$World;", true)
  | 2 => ("WildLevels$Reader", "next", "I", false)
  | 3 => ("WildLevels$Reader", "start", "I", false)
  | 4 => ("WildLevels$Reader", "kind", "I", false)
  | 5 => ("WildLevels$Reader", "number", "I", false)
  | 6 => ("WildLevels$Reader", "fault", "I", false)
  | 7 => ("WildLevels$Reader", "place", "I", false)
  | _ => ("WildLevels$Reader", "lines", "I", false)
def tyX2 : Nat → FieldType := fun k => match k with
  | 0 => .object "WildLevels$Tape"
  | 1 => .object "WildLevels$World"
  | 2 => .int
  | 3 => .int
  | 4 => .int
  | 5 => .int
  | 6 => .int
  | 7 => .int
  | _ => .int
theorem nmX2 : ∀ a, a < 9 → ∀ b, b < 9 → a ≠ b → (TX2 a).2.1 ≠ (TX2 b).2.1 := by decide +kernel
theorem tyX2_ok : ∀ k, k < 9 → parseFieldDescriptor (TX2 k).2.2.1 = some (tyX2 k) := by decide +kernel
abbrev cX2_init : ByteArray := prog_4_method_1_code
def yX2_init : MethodName := ⟨RX2, "<init>", "(LWildLevels$Tape;)V"⟩
abbrev cX2_read : ByteArray := prog_4_method_2_code
def yX2_read : MethodName := ⟨RX2, "read", "()I"⟩
abbrev cX2_readSubscription : ByteArray := prog_4_method_3_code
def yX2_readSubscription : MethodName := ⟨RX2, "readSubscription", "()V"⟩
abbrev cX2_readKept : ByteArray := prog_4_method_4_code
def yX2_readKept : MethodName := ⟨RX2, "readKept", "()V"⟩
abbrev cX2_takePath : ByteArray := prog_4_method_5_code
def yX2_takePath : MethodName := ⟨RX2, "takePath", "(I)I"⟩
abbrev cX2_levelAtHand : ByteArray := prog_4_method_6_code
def yX2_levelAtHand : MethodName := ⟨RX2, "levelAtHand", "()I"⟩
abbrev cX2_takeNumber : ByteArray := prog_4_method_7_code
def yX2_takeNumber : MethodName := ⟨RX2, "takeNumber", "(II)I"⟩
abbrev cX2_isAtSemicolon : ByteArray := prog_4_method_8_code
def yX2_isAtSemicolon : MethodName := ⟨RX2, "isAtSemicolon", "()Z"⟩
abbrev cX2_takeSemicolon : ByteArray := prog_4_method_9_code
def yX2_takeSemicolon : MethodName := ⟨RX2, "takeSemicolon", "()V"⟩
abbrev cX2_spells : ByteArray := prog_4_method_10_code
def yX2_spells : MethodName := ⟨RX2, "spells", "(Ljava/lang/String;)Z"⟩
abbrev cX2_fail : ByteArray := prog_4_method_11_code
def yX2_fail : MethodName := ⟨RX2, "fail", "(I)V"⟩
abbrev cX2_advance : ByteArray := prog_4_method_12_code
def yX2_advance : MethodName := ⟨RX2, "advance", "()V"⟩
abbrev cX2_scanName : ByteArray := prog_4_method_13_code
def yX2_scanName : MethodName := ⟨RX2, "scanName", "()V"⟩
abbrev cX2_scanNumber : ByteArray := prog_4_method_14_code
def yX2_scanNumber : MethodName := ⟨RX2, "scanNumber", "()V"⟩
abbrev cX2_scanSign : ByteArray := prog_4_method_15_code
def yX2_scanSign : MethodName := ⟨RX2, "scanSign", "(I)V"⟩
abbrev cX2_isLetter : ByteArray := prog_4_method_16_code
def yX2_isLetter : MethodName := ⟨RX2, "isLetter", "(I)Z"⟩
abbrev cX2_isFigure : ByteArray := prog_4_method_17_code
def yX2_isFigure : MethodName := ⟨RX2, "isFigure", "(I)Z"⟩
def RX3 : String := "WildLevels$Rows"
def TX3 : u_T := fun k => match k with
  | 0 => ("WildLevels$Rows", "most", "I", true)
  | 1 => ("WildLevels$Rows", "width", "I", true)
  | 2 => ("WildLevels$Rows", "cells", "[I", true)
  | _ => ("WildLevels$Rows", "size", "I", false)
def tyX3 : Nat → FieldType := fun k => match k with
  | 0 => .int
  | 1 => .int
  | 2 => .array .int
  | _ => .int
theorem nmX3 : ∀ a, a < 4 → ∀ b, b < 4 → a ≠ b → (TX3 a).2.1 ≠ (TX3 b).2.1 := by decide +kernel
theorem tyX3_ok : ∀ k, k < 4 → parseFieldDescriptor (TX3 k).2.2.1 = some (tyX3 k) := by decide +kernel
abbrev cX3_init : ByteArray := prog_5_method_1_code
def yX3_init : MethodName := ⟨RX3, "<init>", "(II)V"⟩
abbrev cX3_clear : ByteArray := prog_5_method_2_code
def yX3_clear : MethodName := ⟨RX3, "clear", "()V"⟩
abbrev cX3_isFull : ByteArray := prog_5_method_3_code
def yX3_isFull : MethodName := ⟨RX3, "isFull", "()Z"⟩
abbrev cX3_open : ByteArray := prog_5_method_4_code
def yX3_open : MethodName := ⟨RX3, "open", "()I"⟩
abbrev cX3_put : ByteArray := prog_5_method_5_code
def yX3_put : MethodName := ⟨RX3, "put", "(III)V"⟩
abbrev cX3_cell : ByteArray := prog_5_method_6_code
def yX3_cell : MethodName := ⟨RX3, "cell", "(II)I"⟩
abbrev cX3_find : ByteArray := prog_5_method_7_code
def yX3_find : MethodName := ⟨RX3, "find", "(II)I"⟩
abbrev cX3_remove : ByteArray := prog_5_method_8_code
def yX3_remove : MethodName := ⟨RX3, "remove", "(I)V"⟩
abbrev cX3_copyFrom : ByteArray := prog_5_method_9_code
def yX3_copyFrom : MethodName := ⟨RX3, "copyFrom", "(LWildLevels$Rows;)V"⟩
def RX4 : String := "WildLevels$Tape"
def TX4 : u_T := fun k => match k with
  | 0 => ("WildLevels$Tape", "bytes", "[I", true)
  | _ => ("WildLevels$Tape", "length", "I", false)
def tyX4 : Nat → FieldType := fun k => match k with
  | 0 => .array .int
  | _ => .int
theorem nmX4 : ∀ a, a < 2 → ∀ b, b < 2 → a ≠ b → (TX4 a).2.1 ≠ (TX4 b).2.1 := by decide +kernel
theorem tyX4_ok : ∀ k, k < 2 → parseFieldDescriptor (TX4 k).2.2.1 = some (tyX4 k) := by decide +kernel
abbrev cX4_init : ByteArray := prog_6_method_1_code
def yX4_init : MethodName := ⟨RX4, "<init>", "()V"⟩
abbrev cX4_push : ByteArray := prog_6_method_2_code
def yX4_push : MethodName := ⟨RX4, "push", "(I)Z"⟩
abbrev cX4_at : ByteArray := prog_6_method_3_code
def yX4_at : MethodName := ⟨RX4, "at", "(I)I"⟩
def RX5 : String := "WildLevels$Will"
def TX5 : u_T := fun k => match k with
  | 0 => ("WildLevels$Will", "stage", "I", false)
  | 1 => ("WildLevels$Will", "topic", "I", false)
  | 2 => ("WildLevels$Will", "value", "I", false)
  | 3 => ("WildLevels$Will", "promise", "I", false)
  | 4 => ("WildLevels$Will", "keepIt", "Z", false)
  | 5 => ("WildLevels$Will", "delay", "I", false)
  | _ => ("WildLevels$Will", "dueAt", "I", false)
def tyX5 : Nat → FieldType := fun k => match k with
  | 0 => .int
  | 1 => .int
  | 2 => .int
  | 3 => .int
  | 4 => .boolean
  | 5 => .int
  | _ => .int
theorem nmX5 : ∀ a, a < 7 → ∀ b, b < 7 → a ≠ b → (TX5 a).2.1 ≠ (TX5 b).2.1 := by decide +kernel
theorem tyX5_ok : ∀ k, k < 7 → parseFieldDescriptor (TX5 k).2.2.1 = some (tyX5 k) := by decide +kernel
abbrev cX5_init : ByteArray := prog_7_method_1_code
def yX5_init : MethodName := ⟨RX5, "<init>", "()V"⟩
abbrev cX5_write : ByteArray := prog_7_method_2_code
def yX5_write : MethodName := ⟨RX5, "write", "(IIIZI)V"⟩
abbrev cX5_isHeld : ByteArray := prog_7_method_3_code
def yX5_isHeld : MethodName := ⟨RX5, "isHeld", "()Z"⟩
abbrev cX5_dueClock : ByteArray := prog_7_method_4_code
def yX5_dueClock : MethodName := ⟨RX5, "dueClock", "()I"⟩
abbrev cX5_drop : ByteArray := prog_7_method_5_code
def yX5_drop : MethodName := ⟨RX5, "drop", "()V"⟩
abbrev cX5_becomeDue : ByteArray := prog_7_method_6_code
def yX5_becomeDue : MethodName := ⟨RX5, "becomeDue", "(II)V"⟩
abbrev cX5_comesDue : ByteArray := prog_7_method_7_code
def yX5_comesDue : MethodName := ⟨RX5, "comesDue", "(I)Z"⟩
abbrev cX5_copyFrom : ByteArray := prog_7_method_8_code
def yX5_copyFrom : MethodName := ⟨RX5, "copyFrom", "(LWildLevels$Will;)V"⟩
def RX6 : String := "WildLevels$World"
def TX6 : u_T := fun k => match k with
  | 0 => ("WildLevels$World", "clients", "[LWildLevels$Client;", true)
  | 1 => ("WildLevels$World", "kept", "LWildLevels$Rows;", true)
  | 2 => ("WildLevels$World", "shares", "LWildLevels$Rows;", true)
  | 3 => ("WildLevels$World", "clock", "I", false)
  | _ => ("WildLevels$World", "letters", "I", false)
def tyX6 : Nat → FieldType := fun k => match k with
  | 0 => .array (.object "WildLevels$Client")
  | 1 => .object "WildLevels$Rows"
  | 2 => .object "WildLevels$Rows"
  | 3 => .int
  | _ => .int
theorem nmX6 : ∀ a, a < 5 → ∀ b, b < 5 → a ≠ b → (TX6 a).2.1 ≠ (TX6 b).2.1 := by decide +kernel
theorem tyX6_ok : ∀ k, k < 5 → parseFieldDescriptor (TX6 k).2.2.1 = some (tyX6 k) := by decide +kernel
abbrev cX6_init : ByteArray := prog_8_method_1_code
def yX6_init : MethodName := ⟨RX6, "<init>", "()V"⟩
abbrev cX6_clear : ByteArray := prog_8_method_2_code
def yX6_clear : MethodName := ⟨RX6, "clear", "()V"⟩
abbrev cX6_copyFrom : ByteArray := prog_8_method_3_code
def yX6_copyFrom : MethodName := ⟨RX6, "copyFrom", "(LWildLevels$World;)V"⟩
abbrev cX6_rouse : ByteArray := prog_8_method_4_code
def yX6_rouse : MethodName := ⟨RX6, "rouse", "(LWildLevels$Client;ZI)Z"⟩
abbrev cX6_lull : ByteArray := prog_8_method_5_code
def yX6_lull : MethodName := ⟨RX6, "lull", "(LWildLevels$Client;Z)I"⟩
abbrev cX6_endSession : ByteArray := prog_8_method_6_code
def yX6_endSession : MethodName := ⟨RX6, "endSession", "(LWildLevels$Client;)V"⟩
abbrev cX6_passTick : ByteArray := prog_8_method_7_code
def yX6_passTick : MethodName := ⟨RX6, "passTick", "()I"⟩
abbrev cX6_utter : ByteArray := prog_8_method_8_code
def yX6_utter : MethodName := ⟨RX6, "utter", "(IIIZ)I"⟩
abbrev cX6_addKept : ByteArray := prog_8_method_9_code
def yX6_addKept : MethodName := ⟨RX6, "addKept", "(IIII)V"⟩
abbrev cX6_goToSessions : ByteArray := prog_8_method_10_code
def yX6_goToSessions : MethodName := ⟨RX6, "goToSessions", "(IIII)I"⟩
abbrev cX6_goToShares : ByteArray := prog_8_method_11_code
def yX6_goToShares : MethodName := ⟨RX6, "goToShares", "(IIII)I"⟩
abbrev cX6_shareBehind : ByteArray := prog_8_method_12_code
def yX6_shareBehind : MethodName := ⟨RX6, "shareBehind", "(I)I"⟩
abbrev cX6_nextMember : ByteArray := prog_8_method_13_code
def yX6_nextMember : MethodName := ⟨RX6, "nextMember", "(I)LWildLevels$Client;"⟩
abbrev cX6_memberBehind : ByteArray := prog_8_method_14_code
def yX6_memberBehind : MethodName := ⟨RX6, "memberBehind", "(II)I"⟩
abbrev cX6_latestOf : ByteArray := prog_8_method_15_code
def yX6_latestOf : MethodName := ⟨RX6, "latestOf", "(I)I"⟩
abbrev cX6_countShares : ByteArray := prog_8_method_16_code
def yX6_countShares : MethodName := ⟨RX6, "countShares", "()I"⟩
abbrev cX6_forgetEmptyShares : ByteArray := prog_8_method_17_code
def yX6_forgetEmptyShares : MethodName := ⟨RX6, "forgetEmptyShares", "()V"⟩
abbrev cX6_hasMember : ByteArray := prog_8_method_18_code
def yX6_hasMember : MethodName := ⟨RX6, "hasMember", "(I)Z"⟩
abbrev cX6_goKept : ByteArray := prog_8_method_19_code
def yX6_goKept : MethodName := ⟨RX6, "goKept", "(LWildLevels$Client;II)I"⟩
abbrev cX6_total : ByteArray := prog_8_method_20_code
def yX6_total : MethodName := ⟨RX6, "total", "(I)I"⟩
def RX7 : String := "WildLevels"
def TX7 : u_T := fun k => match k with
  | 0 => ("WildLevels", "tape", "LWildLevels$Tape;", true)
  | 1 => ("WildLevels", "reader", "LWildLevels$Reader;", true)
  | 2 => ("WildLevels", "world", "LWildLevels$World;", true)
  | 3 => ("WildLevels", "images", "[LWildLevels$World;", true)
  | 4 => ("WildLevels", "imageMade", "[Z", true)
  | 5 => ("WildLevels", "row", "I", false)
  | _ => ("WildLevels", "fault", "I", false)
def tyX7 : Nat → FieldType := fun k => match k with
  | 0 => .object "WildLevels$Tape"
  | 1 => .object "WildLevels$Reader"
  | 2 => .object "WildLevels$World"
  | 3 => .array (.object "WildLevels$World")
  | 4 => .array .boolean
  | 5 => .int
  | _ => .int
theorem nmX7 : ∀ a, a < 7 → ∀ b, b < 7 → a ≠ b → (TX7 a).2.1 ≠ (TX7 b).2.1 := by decide +kernel
theorem tyX7_ok : ∀ k, k < 7 → parseFieldDescriptor (TX7 k).2.2.1 = some (tyX7 k) := by decide +kernel
abbrev cX7_init : ByteArray := prog_1_method_1_code
def yX7_init : MethodName := ⟨RX7, "<init>", "()V"⟩
abbrev cX7_feed : ByteArray := prog_1_method_2_code
def yX7_feed : MethodName := ⟨RX7, "feed", "(I)I"⟩
abbrev cX7_end : ByteArray := prog_1_method_3_code
def yX7_end : MethodName := ⟨RX7, "end", "(I)I"⟩
abbrev cX7_text : ByteArray := prog_1_method_4_code
def yX7_text : MethodName := ⟨RX7, "text", "()I"⟩
abbrev cX7_fault : ByteArray := prog_1_method_5_code
def yX7_fault : MethodName := ⟨RX7, "fault", "()I"⟩
abbrev cX7_level : ByteArray := prog_1_method_6_code
def yX7_level : MethodName := ⟨RX7, "level", "(I)I"⟩
abbrev cX7_top : ByteArray := prog_1_method_7_code
def yX7_top : MethodName := ⟨RX7, "top", "()I"⟩
abbrev cX7_wake : ByteArray := prog_1_method_8_code
def yX7_wake : MethodName := ⟨RX7, "wake", "(III)I"⟩
abbrev cX7_sleep : ByteArray := prog_1_method_9_code
def yX7_sleep : MethodName := ⟨RX7, "sleep", "(II)I"⟩
abbrev cX7_will : ByteArray := prog_1_method_10_code
def yX7_will : MethodName := ⟨RX7, "will", "(IIIII)I"⟩
abbrev cX7_subscribe : ByteArray := prog_1_method_11_code
def yX7_subscribe : MethodName := ⟨RX7, "subscribe", "(III)I"⟩
abbrev cX7_leave : ByteArray := prog_1_method_12_code
def yX7_leave : MethodName := ⟨RX7, "leave", "(II)I"⟩
abbrev cX7_alias : ByteArray := prog_1_method_13_code
def yX7_alias : MethodName := ⟨RX7, "alias", "(II)I"⟩
abbrev cX7_say : ByteArray := prog_1_method_14_code
def yX7_say : MethodName := ⟨RX7, "say", "(IIIII)I"⟩
abbrev cX7_carry : ByteArray := prog_1_method_15_code
def yX7_carry : MethodName := ⟨RX7, "carry", "(III)I"⟩
abbrev cX7_again : ByteArray := prog_1_method_16_code
def yX7_again : MethodName := ⟨RX7, "again", "(I)I"⟩
abbrev cX7_tick : ByteArray := prog_1_method_17_code
def yX7_tick : MethodName := ⟨RX7, "tick", "(I)I"⟩
abbrev cX7_rule : ByteArray := prog_1_method_18_code
def yX7_rule : MethodName := ⟨RX7, "rule", "(I)I"⟩
abbrev cX7_client : ByteArray := prog_1_method_19_code
def yX7_client : MethodName := ⟨RX7, "client", "(II)I"⟩
abbrev cX7_subscription : ByteArray := prog_1_method_20_code
def yX7_subscription : MethodName := ⟨RX7, "subscription", "(III)I"⟩
abbrev cX7_kept : ByteArray := prog_1_method_21_code
def yX7_kept : MethodName := ⟨RX7, "kept", "(II)I"⟩
abbrev cX7_had : ByteArray := prog_1_method_22_code
def yX7_had : MethodName := ⟨RX7, "had", "(I)I"⟩
abbrev cX7_line : ByteArray := prog_1_method_23_code
def yX7_line : MethodName := ⟨RX7, "line", "(IIII)I"⟩
abbrev cX7_flight : ByteArray := prog_1_method_24_code
def yX7_flight : MethodName := ⟨RX7, "flight", "(III)I"⟩
abbrev cX7_took : ByteArray := prog_1_method_25_code
def yX7_took : MethodName := ⟨RX7, "took", "(III)I"⟩
abbrev cX7_keep : ByteArray := prog_1_method_26_code
def yX7_keep : MethodName := ⟨RX7, "keep", "(I)I"⟩
abbrev cX7_back : ByteArray := prog_1_method_27_code
def yX7_back : MethodName := ⟨RX7, "back", "(I)I"⟩
abbrev cX7_outside : ByteArray := prog_1_method_28_code
def yX7_outside : MethodName := ⟨RX7, "outside", "(III)Z"⟩
abbrev cX7_noClient : ByteArray := prog_1_method_29_code
def yX7_noClient : MethodName := ⟨RX7, "noClient", "(I)Z"⟩
abbrev cX7_badLetter : ByteArray := prog_1_method_30_code
def yX7_badLetter : MethodName := ⟨RX7, "badLetter", "(III)Z"⟩
abbrev cX7_flag : ByteArray := prog_1_method_31_code
def yX7_flag : MethodName := ⟨RX7, "flag", "(Z)I"⟩
abbrev cX7_pathFact : ByteArray := prog_1_method_32_code
def yX7_pathFact : MethodName := ⟨RX7, "pathFact", "(II)I"⟩
abbrev cX7_isAwake : ByteArray := prog_1_method_33_code
def yX7_isAwake : MethodName := ⟨RX7, "isAwake", "(I)Z"⟩
abbrev cX7_countImages : ByteArray := prog_1_method_34_code
def yX7_countImages : MethodName := ⟨RX7, "countImages", "()I"⟩
def RX8 : String := "WildLevelsModel"
def TX8 : u_T := fun k => match k with
  | 0 => ("WildLevelsModel", "page", "[I", true)
  | 1 => ("WildLevelsModel", "draft", "[I", true)
  | 2 => ("WildLevelsModel", "kept", "[I", true)
  | 3 => ("WildLevelsModel", "isKept", "[Z", true)
  | 4 => ("WildLevelsModel", "row", "[I", true)
  | 5 => ("WildLevelsModel", "rowMany", "I", false)
  | 6 => ("WildLevelsModel", "tape", "[I", true)
  | 7 => ("WildLevelsModel", "taped", "I", false)
  | 8 => ("WildLevelsModel", "fault", "I", false)
  | 9 => ("WildLevelsModel", "brokenAt", "I", false)
  | 10 => ("WildLevelsModel", "spot", "I", false)
  | 11 => ("WildLevelsModel", "here", "I", false)
  | 12 => ("WildLevelsModel", "token", "I", false)
  | 13 => ("WildLevelsModel", "value", "I", false)
  | 14 => ("WildLevelsModel", "read", "[I", true)
  | 15 => ("WildLevelsModel", "readMany", "I", false)
  | 16 => ("WildLevelsModel", "share", "[I", true)
  | 17 => ("WildLevelsModel", "other", "[I", true)
  | 18 => ("WildLevelsModel", "behind", "[I", true)
  | 19 => ("WildLevelsModel", "filter", "[I", true)
  | 20 => ("WildLevelsModel", "shareNow", "[I", true)
  | 21 => ("WildLevelsModel", "topic", "[I", true)
  | _ => ("WildLevelsModel", "packet", "[I", true)
def tyX8 : Nat → FieldType := fun k => match k with
  | 0 => .array .int
  | 1 => .array .int
  | 2 => .array .int
  | 3 => .array .boolean
  | 4 => .array .int
  | 5 => .int
  | 6 => .array .int
  | 7 => .int
  | 8 => .int
  | 9 => .int
  | 10 => .int
  | 11 => .int
  | 12 => .int
  | 13 => .int
  | 14 => .array .int
  | 15 => .int
  | 16 => .array .int
  | 17 => .array .int
  | 18 => .array .int
  | 19 => .array .int
  | 20 => .array .int
  | 21 => .array .int
  | _ => .array .int
theorem nmX8 : ∀ a, a < 23 → ∀ b, b < 23 → a ≠ b → (TX8 a).2.1 ≠ (TX8 b).2.1 := by decide +kernel
theorem tyX8_ok : ∀ k, k < 23 → parseFieldDescriptor (TX8 k).2.2.1 = some (tyX8 k) := by decide +kernel
abbrev cX8_init : ByteArray := prog_10_method_1_code
def yX8_init : MethodName := ⟨RX8, "<init>", "()V"⟩
abbrev cX8_in : ByteArray := prog_10_method_3_code
def yX8_in : MethodName := ⟨RX8, "in", "(JJJ)Z"⟩
abbrev cX8_flag : ByteArray := prog_10_method_4_code
def yX8_flag : MethodName := ⟨RX8, "flag", "(Z)I"⟩
abbrev cX8_empties : ByteArray := prog_10_method_5_code
def yX8_empties : MethodName := ⟨RX8, "empties", "([I)V"⟩
abbrev cX8_at : ByteArray := prog_10_method_6_code
def yX8_at : MethodName := ⟨RX8, "at", "(II)I"⟩
abbrev cX8_feed : ByteArray := prog_10_method_7_code
def yX8_feed : MethodName := ⟨RX8, "feed", "(I)I"⟩
abbrev cX8_end : ByteArray := prog_10_method_8_code
def yX8_end : MethodName := ⟨RX8, "end", "(I)I"⟩
abbrev cX8_byteAt : ByteArray := prog_10_method_9_code
def yX8_byteAt : MethodName := ⟨RX8, "byteAt", "(I)I"⟩
abbrev cX8_must : ByteArray := prog_10_method_10_code
def yX8_must : MethodName := ⟨RX8, "must", "(ZI)V"⟩
abbrev cX8_reads : ByteArray := prog_10_method_11_code
def yX8_reads : MethodName := ⟨RX8, "reads", "()V"⟩
abbrev cX8_isSign : ByteArray := prog_10_method_12_code
def yX8_isSign : MethodName := ⟨RX8, "isSign", "(I)Z"⟩
abbrev cX8_isSub : ByteArray := prog_10_method_13_code
def yX8_isSub : MethodName := ⟨RX8, "isSub", "()Z"⟩
abbrev cX8_isKeptNow : ByteArray := prog_10_method_14_code
def yX8_isKeptNow : MethodName := ⟨RX8, "isKeptNow", "()Z"⟩
abbrev cX8_number : ByteArray := prog_10_method_15_code
def yX8_number : MethodName := ⟨RX8, "number", "(II)I"⟩
abbrev cX8_readsLevel : ByteArray := prog_10_method_16_code
def yX8_readsLevel : MethodName := ⟨RX8, "readsLevel", "(Z)V"⟩
abbrev cX8_readsFilter : ByteArray := prog_10_method_17_code
def yX8_readsFilter : MethodName := ⟨RX8, "readsFilter", "(Z)V"⟩
abbrev cX8_isSame : ByteArray := prog_10_method_18_code
def yX8_isSame : MethodName := ⟨RX8, "isSame", "([II[I)Z"⟩
abbrev cX8_subOf : ByteArray := prog_10_method_19_code
def yX8_subOf : MethodName := ⟨RX8, "subOf", "([II[II)I"⟩
abbrev cX8_keptOf : ByteArray := prog_10_method_20_code
def yX8_keptOf : MethodName := ⟨RX8, "keptOf", "([I[I)I"⟩
abbrev cX8_subComes : ByteArray := prog_10_method_21_code
def yX8_subComes : MethodName := ⟨RX8, "subComes", "([II[III)V"⟩
abbrev cX8_keptComes : ByteArray := prog_10_method_22_code
def yX8_keptComes : MethodName := ⟨RX8, "keptComes", "([I[IIII)V"⟩
abbrev cX8_readsSub : ByteArray := prog_10_method_23_code
def yX8_readsSub : MethodName := ⟨RX8, "readsSub", "()V"⟩
abbrev cX8_readsKept : ByteArray := prog_10_method_24_code
def yX8_readsKept : MethodName := ⟨RX8, "readsKept", "()V"⟩
abbrev cX8_readsLine : ByteArray := prog_10_method_25_code
def yX8_readsLine : MethodName := ⟨RX8, "readsLine", "()V"⟩
abbrev cX8_text : ByteArray := prog_10_method_26_code
def yX8_text : MethodName := ⟨RX8, "text", "()I"⟩
abbrev cX8_fault : ByteArray := prog_10_method_27_code
def yX8_fault : MethodName := ⟨RX8, "fault", "()I"⟩
abbrev cX8_level : ByteArray := prog_10_method_28_code
def yX8_level : MethodName := ⟨RX8, "level", "(I)I"⟩
abbrev cX8_top : ByteArray := prog_10_method_29_code
def yX8_top : MethodName := ⟨RX8, "top", "()I"⟩
abbrev cX8_isTopic : ByteArray := prog_10_method_30_code
def yX8_isTopic : MethodName := ⟨RX8, "isTopic", "()Z"⟩
abbrev cX8_isMatching : ByteArray := prog_10_method_31_code
def yX8_isMatching : MethodName := ⟨RX8, "isMatching", "(I[I)Z"⟩
abbrev cX8_lesser : ByteArray := prog_10_method_32_code
def yX8_lesser : MethodName := ⟨RX8, "lesser", "(II)I"⟩
abbrev cX8_of : ByteArray := prog_10_method_33_code
def yX8_of : MethodName := ⟨RX8, "of", "(II)I"⟩
abbrev cX8_isAwake : ByteArray := prog_10_method_34_code
def yX8_isAwake : MethodName := ⟨RX8, "isAwake", "(I)Z"⟩
abbrev cX8_packetDown : ByteArray := prog_10_method_35_code
def yX8_packetDown : MethodName := ⟨RX8, "packetDown", "(IIIIIII)V"⟩
abbrev cX8_packetUp : ByteArray := prog_10_method_36_code
def yX8_packetUp : MethodName := ⟨RX8, "packetUp", "(III)V"⟩
abbrev cX8_sends : ByteArray := prog_10_method_37_code
def yX8_sends : MethodName := ⟨RX8, "sends", "(II)V"⟩
abbrev cX8_flies : ByteArray := prog_10_method_38_code
def yX8_flies : MethodName := ⟨RX8, "flies", "(IIIII)V"⟩
abbrev cX8_queueGoesOn : ByteArray := prog_10_method_39_code
def yX8_queueGoesOn : MethodName := ⟨RX8, "queueGoesOn", "(I)V"⟩
abbrev cX8_goes : ByteArray := prog_10_method_40_code
def yX8_goes : MethodName := ⟨RX8, "goes", "(IIIII)V"⟩
abbrev cX8_widest : ByteArray := prog_10_method_41_code
def yX8_widest : MethodName := ⟨RX8, "widest", "(I[I)I"⟩
abbrev cX8_keeps : ByteArray := prog_10_method_42_code
def yX8_keeps : MethodName := ⟨RX8, "keeps", "([IIII)V"⟩
abbrev cX8_keptGoes : ByteArray := prog_10_method_43_code
def yX8_keptGoes : MethodName := ⟨RX8, "keptGoes", "(I)V"⟩
abbrev cX8_isAhead : ByteArray := prog_10_method_44_code
def yX8_isAhead : MethodName := ⟨RX8, "isAhead", "([I[I)Z"⟩
abbrev cX8_takesShare : ByteArray := prog_10_method_45_code
def yX8_takesShare : MethodName := ⟨RX8, "takesShare", "(II[I)V"⟩
abbrev cX8_nextShare : ByteArray := prog_10_method_46_code
def yX8_nextShare : MethodName := ⟨RX8, "nextShare", "()Z"⟩
abbrev cX8_noShare : ByteArray := prog_10_method_47_code
def yX8_noShare : MethodName := ⟨RX8, "noShare", "()V"⟩
abbrev cX8_memberOf : ByteArray := prog_10_method_48_code
def yX8_memberOf : MethodName := ⟨RX8, "memberOf", "(I)I"⟩
abbrev cX8_hadOf : ByteArray := prog_10_method_49_code
def yX8_hadOf : MethodName := ⟨RX8, "hadOf", "()I"⟩
abbrev cX8_turnOf : ByteArray := prog_10_method_50_code
def yX8_turnOf : MethodName := ⟨RX8, "turnOf", "(II)I"⟩
abbrev cX8_sharesOut : ByteArray := prog_10_method_51_code
def yX8_sharesOut : MethodName := ⟨RX8, "sharesOut", "(III)V"⟩
abbrev cX8_forgets : ByteArray := prog_10_method_52_code
def yX8_forgets : MethodName := ⟨RX8, "forgets", "()V"⟩
abbrev cX8_isShareMatching : ByteArray := prog_10_method_53_code
def yX8_isShareMatching : MethodName := ⟨RX8, "isShareMatching", "([I)Z"⟩
abbrev cX8_says : ByteArray := prog_10_method_54_code
def yX8_says : MethodName := ⟨RX8, "says", "([IIII)I"⟩
abbrev cX8_isClient : ByteArray := prog_10_method_55_code
def yX8_isClient : MethodName := ⟨RX8, "isClient", "(I)Z"⟩
abbrev cX8_isNew : ByteArray := prog_10_method_56_code
def yX8_isNew : MethodName := ⟨RX8, "isNew", "(II)V"⟩
abbrev cX8_wake : ByteArray := prog_10_method_57_code
def yX8_wake : MethodName := ⟨RX8, "wake", "(III)I"⟩
abbrev cX8_saysWill : ByteArray := prog_10_method_58_code
def yX8_saysWill : MethodName := ⟨RX8, "saysWill", "(I)I"⟩
abbrev cX8_sleep : ByteArray := prog_10_method_59_code
def yX8_sleep : MethodName := ⟨RX8, "sleep", "(II)I"⟩
abbrev cX8_will : ByteArray := prog_10_method_60_code
def yX8_will : MethodName := ⟨RX8, "will", "(IIIII)I"⟩
abbrev cX8_keptGoTo : ByteArray := prog_10_method_61_code
def yX8_keptGoTo : MethodName := ⟨RX8, "keptGoTo", "(III)I"⟩
abbrev cX8_subscribe : ByteArray := prog_10_method_62_code
def yX8_subscribe : MethodName := ⟨RX8, "subscribe", "(III)I"⟩
abbrev cX8_leave : ByteArray := prog_10_method_63_code
def yX8_leave : MethodName := ⟨RX8, "leave", "(II)I"⟩
abbrev cX8_alias : ByteArray := prog_10_method_64_code
def yX8_alias : MethodName := ⟨RX8, "alias", "(II)I"⟩
abbrev cX8_say : ByteArray := prog_10_method_65_code
def yX8_say : MethodName := ⟨RX8, "say", "(IIIII)I"⟩
abbrev cX8_knownOf : ByteArray := prog_10_method_66_code
def yX8_knownOf : MethodName := ⟨RX8, "knownOf", "(II)I"⟩
abbrev cX8_takes : ByteArray := prog_10_method_67_code
def yX8_takes : MethodName := ⟨RX8, "takes", "(IIIII)V"⟩
abbrev cX8_known : ByteArray := prog_10_method_68_code
def yX8_known : MethodName := ⟨RX8, "known", "(II)V"⟩
abbrev cX8_unknown : ByteArray := prog_10_method_69_code
def yX8_unknown : MethodName := ⟨RX8, "unknown", "(II)V"⟩
abbrev cX8_carriedDown : ByteArray := prog_10_method_70_code
def yX8_carriedDown : MethodName := ⟨RX8, "carriedDown", "(IIIIIII)V"⟩
abbrev cX8_flightOf : ByteArray := prog_10_method_71_code
def yX8_flightOf : MethodName := ⟨RX8, "flightOf", "(III)I"⟩
abbrev cX8_off : ByteArray := prog_10_method_72_code
def yX8_off : MethodName := ⟨RX8, "off", "(II)V"⟩
abbrev cX8_carriedUp : ByteArray := prog_10_method_73_code
def yX8_carriedUp : MethodName := ⟨RX8, "carriedUp", "(III)V"⟩
abbrev cX8_dropsFirst : ByteArray := prog_10_method_74_code
def yX8_dropsFirst : MethodName := ⟨RX8, "dropsFirst", "(II)V"⟩
abbrev cX8_carry : ByteArray := prog_10_method_75_code
def yX8_carry : MethodName := ⟨RX8, "carry", "(III)I"⟩
abbrev cX8_again : ByteArray := prog_10_method_76_code
def yX8_again : MethodName := ⟨RX8, "again", "(I)I"⟩
abbrev cX8_tick : ByteArray := prog_10_method_77_code
def yX8_tick : MethodName := ⟨RX8, "tick", "(I)I"⟩
abbrev cX8_shares : ByteArray := prog_10_method_78_code
def yX8_shares : MethodName := ⟨RX8, "shares", "()I"⟩
abbrev cX8_rule : ByteArray := prog_10_method_79_code
def yX8_rule : MethodName := ⟨RX8, "rule", "(I)I"⟩
abbrev cX8_aliases : ByteArray := prog_10_method_80_code
def yX8_aliases : MethodName := ⟨RX8, "aliases", "(I)I"⟩
abbrev cX8_client : ByteArray := prog_10_method_81_code
def yX8_client : MethodName := ⟨RX8, "client", "(II)I"⟩
abbrev cX8_levelsOf : ByteArray := prog_10_method_82_code
def yX8_levelsOf : MethodName := ⟨RX8, "levelsOf", "([II)I"⟩
abbrev cX8_subscription : ByteArray := prog_10_method_83_code
def yX8_subscription : MethodName := ⟨RX8, "subscription", "(III)I"⟩
abbrev cX8_kept : ByteArray := prog_10_method_84_code
def yX8_kept : MethodName := ⟨RX8, "kept", "(II)I"⟩
abbrev cX8_had : ByteArray := prog_10_method_85_code
def yX8_had : MethodName := ⟨RX8, "had", "(I)I"⟩
abbrev cX8_line : ByteArray := prog_10_method_86_code
def yX8_line : MethodName := ⟨RX8, "line", "(IIII)I"⟩
abbrev cX8_flight : ByteArray := prog_10_method_87_code
def yX8_flight : MethodName := ⟨RX8, "flight", "(III)I"⟩
abbrev cX8_took : ByteArray := prog_10_method_88_code
def yX8_took : MethodName := ⟨RX8, "took", "(III)I"⟩
abbrev cX8_keep : ByteArray := prog_10_method_89_code
def yX8_keep : MethodName := ⟨RX8, "keep", "(I)I"⟩
abbrev cX8_back : ByteArray := prog_10_method_90_code
def yX8_back : MethodName := ⟨RX8, "back", "(I)I"⟩
abbrev vwCl : List vw_C := [(RX0, TX0, 17), (RX2, TX2, 9), (RX3, TX3, 4), (RX4, TX4, 2), (RX5, TX5, 7), (RX6, TX6, 5), (RX7, TX7, 7), (RX8, TX8, 23)]
end
section
/-! the cells: their kinds, lengths, references; a state is what the ints are -/
abbrev Mem : Type := Nat → Nat → Int32
def xNC : Nat := 405
def xkdL : List Nat := [6, 3, 8, 1, 5, 10, 2, 8, 2, 8, 0, 2, 8, 8, 2, 8, 2, 8, 2, 8, 2, 8, 2, 8, 4, 0, 2, 8, 8, 2, 8, 2, 8, 2, 8, 2, 8, 2, 8, 4, 0, 2, 8, 8, 2, 8, 2, 8, 2, 8, 2, 8, 2, 8, 4, 0, 2, 8, 8, 2, 8, 2, 8, 2, 8, 2, 8, 2, 8, 4, 0, 2, 8, 8, 2, 8, 2, 8, 2, 8, 2, 8, 2, 8, 4, 0, 2, 8, 8, 2, 8, 2, 8, 2, 8, 2, 8, 2, 8, 4, 5, 10, 2, 8, 2, 8, 0, 2, 8, 8, 2, 8, 2, 8, 2, 8, 2, 8, 2, 8, 4, 0, 2, 8, 8, 2, 8, 2, 8, 2, 8, 2, 8, 2, 8, 4, 0, 2, 8, 8, 2, 8, 2, 8, 2, 8, 2, 8, 2, 8, 4, 0, 2, 8, 8, 2, 8, 2, 8, 2, 8, 2, 8, 2, 8, 4, 0, 2, 8, 8, 2, 8, 2, 8, 2, 8, 2, 8, 2, 8, 4, 0, 2, 8, 8, 2, 8, 2, 8, 2, 8, 2, 8, 2, 8, 4, 11, 5, 10, 2, 8, 2, 8, 0, 2, 8, 8, 2, 8, 2, 8, 2, 8, 2, 8, 2, 8, 4, 0, 2, 8, 8, 2, 8, 2, 8, 2, 8, 2, 8, 2, 8, 4, 0, 2, 8, 8, 2, 8, 2, 8, 2, 8, 2, 8, 2, 8, 4, 0, 2, 8, 8, 2, 8, 2, 8, 2, 8, 2, 8, 2, 8, 4, 0, 2, 8, 8, 2, 8, 2, 8, 2, 8, 2, 8, 2, 8, 4, 0, 2, 8, 8, 2, 8, 2, 8, 2, 8, 2, 8, 2, 8, 4, 5, 10, 2, 8, 2, 8, 0, 2, 8, 8, 2, 8, 2, 8, 2, 8, 2, 8, 2, 8, 4, 0, 2, 8, 8, 2, 8, 2, 8, 2, 8, 2, 8, 2, 8, 4, 0, 2, 8, 8, 2, 8, 2, 8, 2, 8, 2, 8, 2, 8, 4, 0, 2, 8, 8, 2, 8, 2, 8, 2, 8, 2, 8, 2, 8, 4, 0, 2, 8, 8, 2, 8, 2, 8, 2, 8, 2, 8, 2, 8, 4, 0, 2, 8, 8, 2, 8, 2, 8, 2, 8, 2, 8, 2, 8, 4, 9, 7, 8, 8, 8, 9, 8, 8, 8, 8, 8, 8, 8, 8, 8, 8]
def xlnL : List Nat := [0, 0, 200, 0, 0, 6, 0, 48, 0, 72, 0, 0, 18, 4, 0, 96, 0, 96, 0, 96, 0, 4, 0, 120, 0, 0, 0, 18, 4, 0, 96, 0, 96, 0, 96, 0, 4, 0, 120, 0, 0, 0, 18, 4, 0, 96, 0, 96, 0, 96, 0, 4, 0, 120, 0, 0, 0, 18, 4, 0, 96, 0, 96, 0, 96, 0, 4, 0, 120, 0, 0, 0, 18, 4, 0, 96, 0, 96, 0, 96, 0, 4, 0, 120, 0, 0, 0, 18, 4, 0, 96, 0, 96, 0, 96, 0, 4, 0, 120, 0, 0, 6, 0, 48, 0, 72, 0, 0, 18, 4, 0, 96, 0, 96, 0, 96, 0, 4, 0, 120, 0, 0, 0, 18, 4, 0, 96, 0, 96, 0, 96, 0, 4, 0, 120, 0, 0, 0, 18, 4, 0, 96, 0, 96, 0, 96, 0, 4, 0, 120, 0, 0, 0, 18, 4, 0, 96, 0, 96, 0, 96, 0, 4, 0, 120, 0, 0, 0, 18, 4, 0, 96, 0, 96, 0, 96, 0, 4, 0, 120, 0, 0, 0, 18, 4, 0, 96, 0, 96, 0, 96, 0, 4, 0, 120, 0, 2, 0, 6, 0, 48, 0, 72, 0, 0, 18, 4, 0, 96, 0, 96, 0, 96, 0, 4, 0, 120, 0, 0, 0, 18, 4, 0, 96, 0, 96, 0, 96, 0, 4, 0, 120, 0, 0, 0, 18, 4, 0, 96, 0, 96, 0, 96, 0, 4, 0, 120, 0, 0, 0, 18, 4, 0, 96, 0, 96, 0, 96, 0, 4, 0, 120, 0, 0, 0, 18, 4, 0, 96, 0, 96, 0, 96, 0, 4, 0, 120, 0, 0, 0, 18, 4, 0, 96, 0, 96, 0, 96, 0, 4, 0, 120, 0, 0, 6, 0, 48, 0, 72, 0, 0, 18, 4, 0, 96, 0, 96, 0, 96, 0, 4, 0, 120, 0, 0, 0, 18, 4, 0, 96, 0, 96, 0, 96, 0, 4, 0, 120, 0, 0, 0, 18, 4, 0, 96, 0, 96, 0, 96, 0, 4, 0, 120, 0, 0, 0, 18, 4, 0, 96, 0, 96, 0, 96, 0, 4, 0, 120, 0, 0, 0, 18, 4, 0, 96, 0, 96, 0, 96, 0, 4, 0, 120, 0, 0, 0, 18, 4, 0, 96, 0, 96, 0, 96, 0, 4, 0, 120, 0, 2, 0, 6074, 6074, 12148, 2, 4, 200, 4, 5, 5, 5, 4, 4, 4, 6]
def xkd (k : Nat) : Nat := xkdL.getD k 99
def xln (k : Nat) : Nat := xlnL.getD k 0
def xrfM : List Nat := [391, 392, 393, 394, 395, 0, 396, 0, 0, 0, 0, 0, 0, 0, 397, 0, 398, 399, 400, 401, 402, 403, 404]
def xrf (k j : Nat) : Nat :=
  if xkd k = 0 then k + [1, 3, 4, 6, 8, 10, 12, 14].getD j 0
  else if xkd k = 1 then [1, 4].getD j 0
  else if xkd k = 2 then k + 1
  else if xkd k = 3 then k + 1
  else if xkd k = 5 then k + [1, 2, 4].getD j 0
  else if xkd k = 6 then [1, 3, 100, 196, 389].getD j 0
  else if xkd k = 7 then xrfM.getD j 0
  else if xkd k = 10 then k + 5 + 15 * j
  else 197 + 96 * j
def xfsL : List (List Bool) := [[true, true, true, true, true, true, true, true, false, false, false, false, false, false, false, false, false], [true, true, false, false, false, false, false, false, false], [false, false, true, false], [true, false], [false, false, false, false, false, false, false], [true, true, true, false, false], [true, true, true, true, true, false, false], [true, true, true, true, true, false, true, false, false, false, false, false, false, false, true, false, true, true, true, true, true, true, true]]
def xfs (ci : Nat) : List Bool := xfsL.getD ci []
def xTy (k ci : Nat) : Prop := k < xNC ∧ xkd k = ci
def xktL : List (List Nat) := [[2, 8, 2, 2, 2, 2, 2, 4, 99, 99, 99, 99, 99, 99, 99, 99, 99], [3, 5, 99, 99, 99, 99, 99, 99, 99], [99, 99, 8, 99], [8, 99], [99, 99, 99, 99, 99, 99, 99], [10, 2, 2, 99, 99], [3, 1, 5, 11, 9, 99, 99], [8, 8, 8, 9, 8, 99, 8, 99, 99, 99, 99, 99, 99, 99, 8, 99, 8, 8, 8, 8, 8, 8, 8]]
def xchk (k : Nat) : Bool :=
  let t := xkd k
  if t < 8 then ((List.range (xktL.getD t []).length).all fun j => let e := (xktL.getD t []).getD j 99; e == 99 || (Nat.blt (xrf k j) xNC && xkd (xrf k j) == e))
  else if t == 10 then ((List.range (xln k)).all fun j => Nat.blt (xrf k j) xNC && xkd (xrf k j) == 0)
  else if t == 11 then ((List.range (xln k)).all fun j => Nat.blt (xrf k j) xNC && xkd (xrf k j) == 5)
  else true
theorem xchk_all : ∀ k, k < xNC → xchk k = true := by decide +kernel
theorem xt_fld {k ci j e : Nat} (h : xTy k ci) (hc : ci < 8) (hj : j < (xktL.getD ci []).length) (he : (xktL.getD ci []).getD j 99 = e) (h99 : (e == 99) = false) : xTy (xrf k j) e := by
  have q := xchk_all k h.1
  unfold xchk at q
  simp only [h.2, hc, if_true] at q
  have q2 := List.all_eq_true.mp q j (List.mem_range.mpr hj)
  simp only [he, h99, Bool.false_or, Bool.and_eq_true] at q2
  exact ⟨Nat.blt_eq.mp q2.1, by simpa using q2.2⟩
theorem xt_10 {k : Nat} (h : xTy k 10) {j : Nat} (hj : j < xln k) : xTy (xrf k j) 0 := by
  have q := xchk_all k h.1
  unfold xchk at q
  simp only [h.2] at q
  have q2 := List.all_eq_true.mp q j (List.mem_range.mpr hj)
  simp only [Bool.and_eq_true] at q2
  exact ⟨Nat.blt_eq.mp q2.1, by simpa using q2.2⟩
theorem xt_11 {k : Nat} (h : xTy k 11) {j : Nat} (hj : j < xln k) : xTy (xrf k j) 5 := by
  have q := xchk_all k h.1
  unfold xchk at q
  simp only [h.2] at q
  have q2 := List.all_eq_true.mp q j (List.mem_range.mpr hj)
  simp only [Bool.and_eq_true] at q2
  exact ⟨Nat.blt_eq.mp q2.1, by simpa using q2.2⟩
theorem xt_0_0 {k : Nat} (h : xTy k 0) : xTy (xrf k 0) 2 := xt_fld h (by decide) (by decide) rfl rfl
theorem xt_0_1 {k : Nat} (h : xTy k 0) : xTy (xrf k 1) 8 := xt_fld h (by decide) (by decide) rfl rfl
theorem xt_0_2 {k : Nat} (h : xTy k 0) : xTy (xrf k 2) 2 := xt_fld h (by decide) (by decide) rfl rfl
theorem xt_0_3 {k : Nat} (h : xTy k 0) : xTy (xrf k 3) 2 := xt_fld h (by decide) (by decide) rfl rfl
theorem xt_0_4 {k : Nat} (h : xTy k 0) : xTy (xrf k 4) 2 := xt_fld h (by decide) (by decide) rfl rfl
theorem xt_0_5 {k : Nat} (h : xTy k 0) : xTy (xrf k 5) 2 := xt_fld h (by decide) (by decide) rfl rfl
theorem xt_0_6 {k : Nat} (h : xTy k 0) : xTy (xrf k 6) 2 := xt_fld h (by decide) (by decide) rfl rfl
theorem xt_0_7 {k : Nat} (h : xTy k 0) : xTy (xrf k 7) 4 := xt_fld h (by decide) (by decide) rfl rfl
theorem xt_1_0 {k : Nat} (h : xTy k 1) : xTy (xrf k 0) 3 := xt_fld h (by decide) (by decide) rfl rfl
theorem xt_1_1 {k : Nat} (h : xTy k 1) : xTy (xrf k 1) 5 := xt_fld h (by decide) (by decide) rfl rfl
theorem xt_2_2 {k : Nat} (h : xTy k 2) : xTy (xrf k 2) 8 := xt_fld h (by decide) (by decide) rfl rfl
theorem xt_3_0 {k : Nat} (h : xTy k 3) : xTy (xrf k 0) 8 := xt_fld h (by decide) (by decide) rfl rfl
theorem xt_5_0 {k : Nat} (h : xTy k 5) : xTy (xrf k 0) 10 := xt_fld h (by decide) (by decide) rfl rfl
theorem xt_5_1 {k : Nat} (h : xTy k 5) : xTy (xrf k 1) 2 := xt_fld h (by decide) (by decide) rfl rfl
theorem xt_5_2 {k : Nat} (h : xTy k 5) : xTy (xrf k 2) 2 := xt_fld h (by decide) (by decide) rfl rfl
theorem xt_6_0 {k : Nat} (h : xTy k 6) : xTy (xrf k 0) 3 := xt_fld h (by decide) (by decide) rfl rfl
theorem xt_6_1 {k : Nat} (h : xTy k 6) : xTy (xrf k 1) 1 := xt_fld h (by decide) (by decide) rfl rfl
theorem xt_6_2 {k : Nat} (h : xTy k 6) : xTy (xrf k 2) 5 := xt_fld h (by decide) (by decide) rfl rfl
theorem xt_6_3 {k : Nat} (h : xTy k 6) : xTy (xrf k 3) 11 := xt_fld h (by decide) (by decide) rfl rfl
theorem xt_6_4 {k : Nat} (h : xTy k 6) : xTy (xrf k 4) 9 := xt_fld h (by decide) (by decide) rfl rfl
theorem xt_7_0 {k : Nat} (h : xTy k 7) : xTy (xrf k 0) 8 := xt_fld h (by decide) (by decide) rfl rfl
theorem xt_7_1 {k : Nat} (h : xTy k 7) : xTy (xrf k 1) 8 := xt_fld h (by decide) (by decide) rfl rfl
theorem xt_7_2 {k : Nat} (h : xTy k 7) : xTy (xrf k 2) 8 := xt_fld h (by decide) (by decide) rfl rfl
theorem xt_7_3 {k : Nat} (h : xTy k 7) : xTy (xrf k 3) 9 := xt_fld h (by decide) (by decide) rfl rfl
theorem xt_7_4 {k : Nat} (h : xTy k 7) : xTy (xrf k 4) 8 := xt_fld h (by decide) (by decide) rfl rfl
theorem xt_7_6 {k : Nat} (h : xTy k 7) : xTy (xrf k 6) 8 := xt_fld h (by decide) (by decide) rfl rfl
theorem xt_7_14 {k : Nat} (h : xTy k 7) : xTy (xrf k 14) 8 := xt_fld h (by decide) (by decide) rfl rfl
theorem xt_7_16 {k : Nat} (h : xTy k 7) : xTy (xrf k 16) 8 := xt_fld h (by decide) (by decide) rfl rfl
theorem xt_7_17 {k : Nat} (h : xTy k 7) : xTy (xrf k 17) 8 := xt_fld h (by decide) (by decide) rfl rfl
theorem xt_7_18 {k : Nat} (h : xTy k 7) : xTy (xrf k 18) 8 := xt_fld h (by decide) (by decide) rfl rfl
theorem xt_7_19 {k : Nat} (h : xTy k 7) : xTy (xrf k 19) 8 := xt_fld h (by decide) (by decide) rfl rfl
theorem xt_7_20 {k : Nat} (h : xTy k 7) : xTy (xrf k 20) 8 := xt_fld h (by decide) (by decide) rfl rfl
theorem xt_7_21 {k : Nat} (h : xTy k 7) : xTy (xrf k 21) 8 := xt_fld h (by decide) (by decide) rfl rfl
theorem xt_7_22 {k : Nat} (h : xTy k 7) : xTy (xrf k 22) 8 := xt_fld h (by decide) (by decide) rfl rfl
theorem xln_lt : ∀ k, k < xNC → xln k < 2 ^ 31 := by decide +kernel
end
section
/-! the words that every method's contract takes -/
def xgt : List Cond := lw_tbl.filter goodWord
def xisNest : Cond → Bool
  | .fieldLinkNest .. => true
  | .methodLinkNest .. => true
  | _ => false
def xnest : List Cond := tables_1.filter xisNest
theorem xgt_of {w : Cond} (h : w ∈ tables_1) (g : goodWord w = true) : w ∈ xgt := List.mem_filter.mpr ⟨List.mem_append_right _ h, g⟩
theorem xgt_sel {i : Nat} {q : MethodName × Nat} (h : lw_privs[i]? = some q) : Cond.selects q.1.cls q.1 q.1 ∈ xgt := List.mem_filter.mpr ⟨List.mem_append_left _ (List.mem_map.mpr ⟨q, List.mem_of_getElem? h, rfl⟩), rfl⟩
theorem xnest_of {w : Cond} (h : w ∈ tables_1) (g : xisNest w = true) : w ∈ xnest := List.mem_filter.mpr ⟨h, g⟩
theorem xgt_good : GoodIn xgt xgt := fun w h => ⟨h, good_of_word (List.mem_filter.mp h).2⟩
theorem xin_0 : ∀ w ∈ u_ws RX0 TX0 17, w ∈ xgt := by
  have q : ∀ k, k < 17 → u_lay RX0 TX0 k ∈ xgt := by
    intro k hk
    match k, hk with
    | 0, _ => exact xgt_of (w := u_lay RX0 TX0 0) (List.mem_append_left _ (List.mem_of_getElem? (i := 150) rfl)) rfl
    | 1, _ => exact xgt_of (w := u_lay RX0 TX0 1) (List.mem_append_left _ (List.mem_of_getElem? (i := 152) rfl)) rfl
    | 2, _ => exact xgt_of (w := u_lay RX0 TX0 2) (List.mem_append_left _ (List.mem_of_getElem? (i := 154) rfl)) rfl
    | 3, _ => exact xgt_of (w := u_lay RX0 TX0 3) (List.mem_append_left _ (List.mem_of_getElem? (i := 156) rfl)) rfl
    | 4, _ => exact xgt_of (w := u_lay RX0 TX0 4) (List.mem_append_left _ (List.mem_of_getElem? (i := 158) rfl)) rfl
    | 5, _ => exact xgt_of (w := u_lay RX0 TX0 5) (List.mem_append_left _ (List.mem_of_getElem? (i := 160) rfl)) rfl
    | 6, _ => exact xgt_of (w := u_lay RX0 TX0 6) (List.mem_append_left _ (List.mem_of_getElem? (i := 162) rfl)) rfl
    | 7, _ => exact xgt_of (w := u_lay RX0 TX0 7) (List.mem_append_left _ (List.mem_of_getElem? (i := 164) rfl)) rfl
    | 8, _ => exact xgt_of (w := u_lay RX0 TX0 8) (List.mem_append_left _ (List.mem_of_getElem? (i := 166) rfl)) rfl
    | 9, _ => exact xgt_of (w := u_lay RX0 TX0 9) (List.mem_append_left _ (List.mem_of_getElem? (i := 168) rfl)) rfl
    | 10, _ => exact xgt_of (w := u_lay RX0 TX0 10) (List.mem_append_left _ (List.mem_of_getElem? (i := 170) rfl)) rfl
    | 11, _ => exact xgt_of (w := u_lay RX0 TX0 11) (List.mem_append_left _ (List.mem_of_getElem? (i := 172) rfl)) rfl
    | 12, _ => exact xgt_of (w := u_lay RX0 TX0 12) (List.mem_append_left _ (List.mem_of_getElem? (i := 174) rfl)) rfl
    | 13, _ => exact xgt_of (w := u_lay RX0 TX0 13) (List.mem_append_left _ (List.mem_of_getElem? (i := 176) rfl)) rfl
    | 14, _ => exact xgt_of (w := u_lay RX0 TX0 14) (List.mem_append_left _ (List.mem_of_getElem? (i := 178) rfl)) rfl
    | 15, _ => exact xgt_of (w := u_lay RX0 TX0 15) (List.mem_append_left _ (List.mem_of_getElem? (i := 180) rfl)) rfl
    | 16, _ => exact xgt_of (w := u_lay RX0 TX0 16) (List.mem_append_left _ (List.mem_of_getElem? (i := 182) rfl)) rfl
    | k + 17, h => exact absurd h (by omega)
  intro w hw
  obtain ⟨k, hk, rfl⟩ := List.mem_map.mp hw
  exact q k (List.mem_range.mp hk)
theorem xin_1 : ∀ w ∈ u_ws RX2 TX2 9, w ∈ xgt := by
  have q : ∀ k, k < 9 → u_lay RX2 TX2 k ∈ xgt := by
    intro k hk
    match k, hk with
    | 0, _ => exact xgt_of (w := u_lay RX2 TX2 0) (List.mem_append_left _ (List.mem_of_getElem? (i := 219) rfl)) rfl
    | 1, _ => exact xgt_of (w := u_lay RX2 TX2 1) (List.mem_append_left _ (List.mem_of_getElem? (i := 221) rfl)) rfl
    | 2, _ => exact xgt_of (w := u_lay RX2 TX2 2) (List.mem_append_left _ (List.mem_of_getElem? (i := 223) rfl)) rfl
    | 3, _ => exact xgt_of (w := u_lay RX2 TX2 3) (List.mem_append_left _ (List.mem_of_getElem? (i := 225) rfl)) rfl
    | 4, _ => exact xgt_of (w := u_lay RX2 TX2 4) (List.mem_append_left _ (List.mem_of_getElem? (i := 227) rfl)) rfl
    | 5, _ => exact xgt_of (w := u_lay RX2 TX2 5) (List.mem_append_left _ (List.mem_of_getElem? (i := 229) rfl)) rfl
    | 6, _ => exact xgt_of (w := u_lay RX2 TX2 6) (List.mem_append_left _ (List.mem_of_getElem? (i := 231) rfl)) rfl
    | 7, _ => exact xgt_of (w := u_lay RX2 TX2 7) (List.mem_append_left _ (List.mem_of_getElem? (i := 233) rfl)) rfl
    | 8, _ => exact xgt_of (w := u_lay RX2 TX2 8) (List.mem_append_left _ (List.mem_of_getElem? (i := 235) rfl)) rfl
    | k + 9, h => exact absurd h (by omega)
  intro w hw
  obtain ⟨k, hk, rfl⟩ := List.mem_map.mp hw
  exact q k (List.mem_range.mp hk)
theorem xin_2 : ∀ w ∈ u_ws RX3 TX3 4, w ∈ xgt := by
  have q : ∀ k, k < 4 → u_lay RX3 TX3 k ∈ xgt := by
    intro k hk
    match k, hk with
    | 0, _ => exact xgt_of (w := u_lay RX3 TX3 0) (List.mem_append_left _ (List.mem_of_getElem? (i := 69) rfl)) rfl
    | 1, _ => exact xgt_of (w := u_lay RX3 TX3 1) (List.mem_append_left _ (List.mem_of_getElem? (i := 71) rfl)) rfl
    | 2, _ => exact xgt_of (w := u_lay RX3 TX3 2) (List.mem_append_left _ (List.mem_of_getElem? (i := 73) rfl)) rfl
    | 3, _ => exact xgt_of (w := u_lay RX3 TX3 3) (List.mem_append_left _ (List.mem_of_getElem? (i := 75) rfl)) rfl
    | k + 4, h => exact absurd h (by omega)
  intro w hw
  obtain ⟨k, hk, rfl⟩ := List.mem_map.mp hw
  exact q k (List.mem_range.mp hk)
theorem xin_3 : ∀ w ∈ u_ws RX4 TX4 2, w ∈ xgt := by
  have q : ∀ k, k < 2 → u_lay RX4 TX4 k ∈ xgt := by
    intro k hk
    match k, hk with
    | 0, _ => exact xgt_of (w := u_lay RX4 TX4 0) (List.mem_append_left _ (List.mem_of_getElem? (i := 33) rfl)) rfl
    | 1, _ => exact xgt_of (w := u_lay RX4 TX4 1) (List.mem_append_left _ (List.mem_of_getElem? (i := 35) rfl)) rfl
    | k + 2, h => exact absurd h (by omega)
  intro w hw
  obtain ⟨k, hk, rfl⟩ := List.mem_map.mp hw
  exact q k (List.mem_range.mp hk)
theorem xin_4 : ∀ w ∈ u_ws RX5 TX5 7, w ∈ xgt := by
  have q : ∀ k, k < 7 → u_lay RX5 TX5 k ∈ xgt := by
    intro k hk
    match k, hk with
    | 0, _ => exact xgt_of (w := u_lay RX5 TX5 0) (List.mem_append_left _ (List.mem_of_getElem? (i := 102) rfl)) rfl
    | 1, _ => exact xgt_of (w := u_lay RX5 TX5 1) (List.mem_append_left _ (List.mem_of_getElem? (i := 104) rfl)) rfl
    | 2, _ => exact xgt_of (w := u_lay RX5 TX5 2) (List.mem_append_left _ (List.mem_of_getElem? (i := 106) rfl)) rfl
    | 3, _ => exact xgt_of (w := u_lay RX5 TX5 3) (List.mem_append_left _ (List.mem_of_getElem? (i := 108) rfl)) rfl
    | 4, _ => exact xgt_of (w := u_lay RX5 TX5 4) (List.mem_append_left _ (List.mem_of_getElem? (i := 110) rfl)) rfl
    | 5, _ => exact xgt_of (w := u_lay RX5 TX5 5) (List.mem_append_left _ (List.mem_of_getElem? (i := 112) rfl)) rfl
    | 6, _ => exact xgt_of (w := u_lay RX5 TX5 6) (List.mem_append_left _ (List.mem_of_getElem? (i := 114) rfl)) rfl
    | k + 7, h => exact absurd h (by omega)
  intro w hw
  obtain ⟨k, hk, rfl⟩ := List.mem_map.mp hw
  exact q k (List.mem_range.mp hk)
theorem xin_5 : ∀ w ∈ u_ws RX6 TX6 5, w ∈ xgt := by
  have q : ∀ k, k < 5 → u_lay RX6 TX6 k ∈ xgt := by
    intro k hk
    match k, hk with
    | 0, _ => exact xgt_of (w := u_lay RX6 TX6 0) (List.mem_append_left _ (List.mem_of_getElem? (i := 197) rfl)) rfl
    | 1, _ => exact xgt_of (w := u_lay RX6 TX6 1) (List.mem_append_left _ (List.mem_of_getElem? (i := 199) rfl)) rfl
    | 2, _ => exact xgt_of (w := u_lay RX6 TX6 2) (List.mem_append_left _ (List.mem_of_getElem? (i := 201) rfl)) rfl
    | 3, _ => exact xgt_of (w := u_lay RX6 TX6 3) (List.mem_append_left _ (List.mem_of_getElem? (i := 203) rfl)) rfl
    | 4, _ => exact xgt_of (w := u_lay RX6 TX6 4) (List.mem_append_left _ (List.mem_of_getElem? (i := 205) rfl)) rfl
    | k + 5, h => exact absurd h (by omega)
  intro w hw
  obtain ⟨k, hk, rfl⟩ := List.mem_map.mp hw
  exact q k (List.mem_range.mp hk)
theorem xin_6 : ∀ w ∈ u_ws RX7 TX7 7, w ∈ xgt := by
  have q : ∀ k, k < 7 → u_lay RX7 TX7 k ∈ xgt := by
    intro k hk
    match k, hk with
    | 0, _ => exact xgt_of (w := u_lay RX7 TX7 0) (List.mem_append_right _ (List.mem_append_left _ (List.mem_of_getElem? (i := 8) rfl))) rfl
    | 1, _ => exact xgt_of (w := u_lay RX7 TX7 1) (List.mem_append_right _ (List.mem_append_left _ (List.mem_of_getElem? (i := 10) rfl))) rfl
    | 2, _ => exact xgt_of (w := u_lay RX7 TX7 2) (List.mem_append_right _ (List.mem_append_left _ (List.mem_of_getElem? (i := 12) rfl))) rfl
    | 3, _ => exact xgt_of (w := u_lay RX7 TX7 3) (List.mem_append_right _ (List.mem_append_left _ (List.mem_of_getElem? (i := 14) rfl))) rfl
    | 4, _ => exact xgt_of (w := u_lay RX7 TX7 4) (List.mem_append_right _ (List.mem_append_left _ (List.mem_of_getElem? (i := 16) rfl))) rfl
    | 5, _ => exact xgt_of (w := u_lay RX7 TX7 5) (List.mem_append_right _ (List.mem_append_left _ (List.mem_of_getElem? (i := 18) rfl))) rfl
    | 6, _ => exact xgt_of (w := u_lay RX7 TX7 6) (List.mem_append_right _ (List.mem_append_left _ (List.mem_of_getElem? (i := 20) rfl))) rfl
    | k + 7, h => exact absurd h (by omega)
  intro w hw
  obtain ⟨k, hk, rfl⟩ := List.mem_map.mp hw
  exact q k (List.mem_range.mp hk)
theorem xin_7 : ∀ w ∈ u_ws RX8 TX8 23, w ∈ xgt := by
  have q : ∀ k, k < 23 → u_lay RX8 TX8 k ∈ xgt := by
    intro k hk
    match k, hk with
    | 0, _ => exact xgt_of (w := u_lay RX8 TX8 0) (List.mem_append_right _ (List.mem_append_right _ (List.mem_append_right _ (List.mem_append_left _ (List.mem_of_getElem? (i := 137) rfl))))) rfl
    | 1, _ => exact xgt_of (w := u_lay RX8 TX8 1) (List.mem_append_right _ (List.mem_append_right _ (List.mem_append_right _ (List.mem_append_left _ (List.mem_of_getElem? (i := 139) rfl))))) rfl
    | 2, _ => exact xgt_of (w := u_lay RX8 TX8 2) (List.mem_append_right _ (List.mem_append_right _ (List.mem_append_right _ (List.mem_append_left _ (List.mem_of_getElem? (i := 141) rfl))))) rfl
    | 3, _ => exact xgt_of (w := u_lay RX8 TX8 3) (List.mem_append_right _ (List.mem_append_right _ (List.mem_append_right _ (List.mem_append_left _ (List.mem_of_getElem? (i := 143) rfl))))) rfl
    | 4, _ => exact xgt_of (w := u_lay RX8 TX8 4) (List.mem_append_right _ (List.mem_append_right _ (List.mem_append_right _ (List.mem_append_left _ (List.mem_of_getElem? (i := 145) rfl))))) rfl
    | 5, _ => exact xgt_of (w := u_lay RX8 TX8 5) (List.mem_append_right _ (List.mem_append_right _ (List.mem_append_right _ (List.mem_append_left _ (List.mem_of_getElem? (i := 147) rfl))))) rfl
    | 6, _ => exact xgt_of (w := u_lay RX8 TX8 6) (List.mem_append_right _ (List.mem_append_right _ (List.mem_append_right _ (List.mem_append_left _ (List.mem_of_getElem? (i := 149) rfl))))) rfl
    | 7, _ => exact xgt_of (w := u_lay RX8 TX8 7) (List.mem_append_right _ (List.mem_append_right _ (List.mem_append_right _ (List.mem_append_left _ (List.mem_of_getElem? (i := 151) rfl))))) rfl
    | 8, _ => exact xgt_of (w := u_lay RX8 TX8 8) (List.mem_append_right _ (List.mem_append_right _ (List.mem_append_right _ (List.mem_append_left _ (List.mem_of_getElem? (i := 153) rfl))))) rfl
    | 9, _ => exact xgt_of (w := u_lay RX8 TX8 9) (List.mem_append_right _ (List.mem_append_right _ (List.mem_append_right _ (List.mem_append_left _ (List.mem_of_getElem? (i := 155) rfl))))) rfl
    | 10, _ => exact xgt_of (w := u_lay RX8 TX8 10) (List.mem_append_right _ (List.mem_append_right _ (List.mem_append_right _ (List.mem_append_left _ (List.mem_of_getElem? (i := 157) rfl))))) rfl
    | 11, _ => exact xgt_of (w := u_lay RX8 TX8 11) (List.mem_append_right _ (List.mem_append_right _ (List.mem_append_right _ (List.mem_append_left _ (List.mem_of_getElem? (i := 159) rfl))))) rfl
    | 12, _ => exact xgt_of (w := u_lay RX8 TX8 12) (List.mem_append_right _ (List.mem_append_right _ (List.mem_append_right _ (List.mem_append_left _ (List.mem_of_getElem? (i := 161) rfl))))) rfl
    | 13, _ => exact xgt_of (w := u_lay RX8 TX8 13) (List.mem_append_right _ (List.mem_append_right _ (List.mem_append_right _ (List.mem_append_left _ (List.mem_of_getElem? (i := 163) rfl))))) rfl
    | 14, _ => exact xgt_of (w := u_lay RX8 TX8 14) (List.mem_append_right _ (List.mem_append_right _ (List.mem_append_right _ (List.mem_append_left _ (List.mem_of_getElem? (i := 165) rfl))))) rfl
    | 15, _ => exact xgt_of (w := u_lay RX8 TX8 15) (List.mem_append_right _ (List.mem_append_right _ (List.mem_append_right _ (List.mem_append_left _ (List.mem_of_getElem? (i := 167) rfl))))) rfl
    | 16, _ => exact xgt_of (w := u_lay RX8 TX8 16) (List.mem_append_right _ (List.mem_append_right _ (List.mem_append_right _ (List.mem_append_left _ (List.mem_of_getElem? (i := 169) rfl))))) rfl
    | 17, _ => exact xgt_of (w := u_lay RX8 TX8 17) (List.mem_append_right _ (List.mem_append_right _ (List.mem_append_right _ (List.mem_append_left _ (List.mem_of_getElem? (i := 171) rfl))))) rfl
    | 18, _ => exact xgt_of (w := u_lay RX8 TX8 18) (List.mem_append_right _ (List.mem_append_right _ (List.mem_append_right _ (List.mem_append_left _ (List.mem_of_getElem? (i := 173) rfl))))) rfl
    | 19, _ => exact xgt_of (w := u_lay RX8 TX8 19) (List.mem_append_right _ (List.mem_append_right _ (List.mem_append_right _ (List.mem_append_left _ (List.mem_of_getElem? (i := 175) rfl))))) rfl
    | 20, _ => exact xgt_of (w := u_lay RX8 TX8 20) (List.mem_append_right _ (List.mem_append_right _ (List.mem_append_right _ (List.mem_append_left _ (List.mem_of_getElem? (i := 177) rfl))))) rfl
    | 21, _ => exact xgt_of (w := u_lay RX8 TX8 21) (List.mem_append_right _ (List.mem_append_right _ (List.mem_append_right _ (List.mem_append_left _ (List.mem_of_getElem? (i := 179) rfl))))) rfl
    | 22, _ => exact xgt_of (w := u_lay RX8 TX8 22) (List.mem_append_right _ (List.mem_append_right _ (List.mem_append_right _ (List.mem_append_left _ (List.mem_of_getElem? (i := 181) rfl))))) rfl
    | k + 23, h => exact absurd h (by omega)
  intro w hw
  obtain ⟨k, hk, rfl⟩ := List.mem_map.mp hw
  exact q k (List.mem_range.mp hk)
end
section
/-! one judgement over cells by number: a method's code against a function of the state -/
abbrev xG : Type := (Nat → Nat) × va_G × (Nat → ClassId) × (Nat → Nat) × (Nat → Nat)
abbrev xF : Type := String × ByteArray × Nat × Option FieldType
def xfl (ad : Nat → Nat) (h : Mem) (k : Nat) : List Bool → Nat → List Value
  | [], _ => []
  | b :: bs, j => (if b = true then Value.ref (ad (xrf k j)) else Value.int (h k j)) :: xfl ad h k bs (j + 1)
theorem xfl_len (ad : Nat → Nat) (h : Mem) (k : Nat) : ∀ (bs : List Bool) (j : Nat), (xfl ad h k bs j).length = bs.length
  | [], _ => rfl
  | b :: bs, j => by simp [xfl, xfl_len ad h k bs (j + 1)]
theorem xfl_get (ad : Nat → Nat) (h : Mem) (k : Nat) : ∀ (bs : List Bool) (j i : Nat), (xfl ad h k bs j)[i]? = (bs[i]?).map (fun b => if b = true then Value.ref (ad (xrf k (j + i))) else Value.int (h k (j + i)))
  | [], _, _ => by simp [xfl]
  | b :: bs, j, 0 => by simp [xfl]
  | b :: bs, j, i + 1 => by
    have q := xfl_get ad h k bs (j + 1) i
    simp only [xfl, List.getElem?_cons_succ]
    rw [q, show j + 1 + i = j + (i + 1) from by omega]
def mu (h : Mem) (k j : Nat) (v : Int32) : Mem := fun a => if a = k then upd (h k) j v else h a
def mA (h : Mem) (k : Nat) (f : Nat → Int32) : Mem := fun a => if a = k then f else h a
theorem mu_mA (h : Mem) (k j : Nat) (v : Int32) : mu h k j v = mA h k (upd (h k) j v) := rfl
theorem mA_ne {h : Mem} {k : Nat} {f : Nat → Int32} {a : Nat} (q : a ≠ k) : mA h k f a = h a := if_neg q
theorem mA_eq {h : Mem} {k : Nat} {f : Nat → Int32} : mA h k f k = f := if_pos rfl
theorem mu_ne {h : Mem} {k j : Nat} {v : Int32} {a : Nat} (q : a ≠ k) : mu h k j v a = h a := if_neg q
theorem mu_eq {h : Mem} {k j : Nat} {v : Int32} : mu h k j v k = upd (h k) j v := if_pos rfl
def xE (G : xG) (h : Mem) (k : Nat) : va_E :=
  if xkd k < 8 then .inr (xkd k, xfl G.1 h k (xfs (xkd k)) 0)
  else if xkd k = 8 then .inl (G.2.2.1 0, xln k, .inl (h k))
  else if xkd k = 9 then .inl (G.2.2.1 1, xln k, .inl (h k))
  else if xkd k = 10 then .inl (G.2.2.1 2, xln k, .inr (.inr (.inr (.inr (fun j => some (G.1 (xrf k j)))))))
  else .inl (G.2.2.1 3, xln k, .inr (.inr (.inr (.inr (fun j => some (G.1 (xrf k j)))))))
def xwl (G : xG) (h : Mem) : va_W := (List.range xNC).map (fun k => (G.1 k, xE G h k))
theorem xwl_get (G : xG) (h : Mem) {k : Nat} (hk : k < xNC) : (xwl G h)[k]? = some (G.1 k, xE G h k) := by
  simp [xwl, hk]
theorem xwl_set (G : xG) (h h' : Mem) {k : Nat} (hk : k < xNC) (hh : ∀ a, a ≠ k → h' a = h a) {e : va_E} (he : e = xE G h' k) : (xwl G h).set k (G.1 k, e) = xwl G h' := by
  subst he
  apply List.ext_getElem?
  intro i
  by_cases hi : i = k
  · subst hi
    rw [List.getElem?_set_self (by simpa [xwl] using hk), xwl_get G h' hk]
  · rw [List.getElem?_set_ne (Ne.symm hi)]
    by_cases hn : i < xNC
    · rw [xwl_get G h hn, xwl_get G h' hn]
      have q : h' i = h i := hh i hi
      have e2 : ∀ bs j, xfl G.1 h' i bs j = xfl G.1 h i bs j := by
        intro bs
        induction bs with
        | nil => intro j; rfl
        | cons b bs ih => intro j; simp [xfl, q, ih]
      simp [xE, q, e2]
    · simp [xwl, hn]
def xtys (G : xG) : List (ClassId × FieldType) := [(G.2.2.1 0, .int), (G.2.2.1 1, .boolean), (G.2.2.1 2, .object "WildLevels$Client"), (G.2.2.1 3, .object "WildLevels$World")]
def xA (G : xG) : Nat → Prop := fun q => ∃ k, k < xNC ∧ q = G.1 k
def xInj (G : xG) : Prop := ∀ i j, i < xNC → j < xNC → G.1 i = G.1 j → i = j
theorem xwl_D {G : xG} (hi : xInj G) (h : Mem) : va_D (xA G) (xwl G h) := by
  have key : ∀ (k : Nat) (q : Nat × va_E), (xwl G h)[k]? = some q → k < xNC ∧ q.1 = G.1 k := by
    intro k q hq
    by_cases hn : k < xNC
    · rw [xwl_get G h hn] at hq
      cases hq
      exact ⟨hn, rfl⟩
    · simp [xwl, hn] at hq
  refine ⟨fun i j p q h1 h2 h3 => ?_, fun k q hq => ⟨k, key k q hq⟩⟩
  obtain ⟨a1, a2⟩ := key i p h1
  obtain ⟨b1, b2⟩ := key j q h2
  exact hi i j a1 b1 (by rw [← a2, ← b2, h3])
def xsl : List Nat := [3, 4]
def xsb : List (List Int32) := [[115, 117, 98], [107, 101, 112, 116]]
/-- the two String constants of the reader -/
def xStr (G : xG) (U : State) : Prop := vk_S 2 xsl xsb G.2.2.2.1 G.2.2.2.2 (xA G) U U.heap ∧ vk_R "WildLevels$Reader" 44 "sub" (G.2.2.2.1 0) U ∧ vk_R "WildLevels$Reader" 53 "kept" (G.2.2.2.1 1) U
def xNest (U : State) : Prop := ∀ w ∈ xnest, va_Nw w U
theorem xNest.warm {s U : State} (hW : s.WarmedH U.vm) (h : xNest s) : xNest U := by
  intro w hw
  have h1 := h w hw
  have h2 := (List.mem_filter.mp hw).2
  match w, h1, h2 with
  | .fieldLinkNest .., h1, _ => exact va_Nw.warmF hW h1
  | .methodLinkNest .., h1, _ => exact va_Nw.warmM hW h1
theorem xNest.same {u U : State} (hv : u.vm = U.vm) (h : xNest u) : xNest U := by
  intro w hw
  have h1 := h w hw
  have h2 := (List.mem_filter.mp hw).2
  match w, h1, h2 with
  | .fieldLinkNest .., h1, _ => exact va_Nw.same rfl hv h1
  | .methodLinkNest .., h1, _ => exact va_Nw.same rfl hv h1
theorem xStr.warm {G : xG} {s U : State} (hW : s.WarmedH U.vm) (hk : ∀ a : Nat, a < s.heap.size → ¬ xA G a → U.heap[a]? = s.heap[a]?) (h : xStr G s) : xStr G U :=
  ⟨(h.1.moved hW.alike).kept hk, h.2.1.warm hW, h.2.2.warm hW⟩
theorem xStr.same {G : xG} {u U : State} (hv : u.vm = U.vm) (hh : u.heap = U.heap) (h : xStr G u) : xStr G U := by
  refine ⟨?_, h.2.1.same hv.symm, h.2.2.same hv.symm⟩
  have q := h.1.moved (U := U) (by rw [hv]; exact Vm.Alike.refl U.vm)
  rw [← hh]
  exact q
def xPx (G : xG) (as : List Value) (h : Mem) : Array Value → State → Prop := fun a U => a = as.toArray ∧ va_P G.2.1 vwCl (xwl G h) U.heap ∧ va_K G.2.1 vwCl (xtys G) U ∧ xNest U ∧ xStr G U ∧ xInj G
def xQx {α : Type} (G : xG) (cv : α → Option Value) (r : α × Mem) : Array Value → State → Outcome → State → Prop := fun _ st o t => o = .returned (cv r.1) ∧ va_P G.2.1 vwCl (xwl G r.2) t.heap ∧ va_F (xA G) st t
def xrm (d : Nat) : Room := { frames := d, cells := 0, slots := 0, locals := 40 * d }
def xCx (G : xG) (F : xF) (p : Program) (s : State) (m : MethodId) (args : Array Value) (meth : Method) (c : Code) : Prop :=
  p.tables.exec = Jvm.exec ∧ c.code = F.2.1 ∧ meth.sig.returnType = F.2.2.2 ∧ c.maxLocals = F.2.2.1 ∧ s.vm.findClass F.1 = some m.cls ∧ (∀ w ∈ xgt, w.before args s = true) ∧ xNest s ∧ meth.locks = false ∧ va_K G.2.1 vwCl (xtys G) s ∧ xInj G ∧ xStr G s
/-- the code at pc, with these locals and this stack, in state h, comes to what o says -/
def Rn {α : Type} (G : xG) (d : Nat) (F : xF) (cv : α → Option Value) (pc : Nat) (ls : List (Nat × Value)) (st : List Value) (h : Mem) (o : Option (α × Mem)) : Prop :=
  ∀ r : α × Mem, o = some r → ∀ (p : Program) (l : Launch) (e : Env) (s : State) (m : MethodId) (args : Array Value) (below : List Frame) (meth : Method) (c : Code) (H : Heap) (locs : List Loc) (lsA : Array Slot),
    xCx G F p s m args meth c → va_P G.2.1 vwCl (xwl G h) H → va_S (xA G) s.heap H locs → lv_has lsA F.2.2.1 ls →
    W p l e (xrm d) s m args below meth c H locs 0 0 (MQ below (xQx G cv r) args s 0 0 (xA G)) (F0 m pc lsA st)
/-- a method's contract -/
def Sm {α : Type} (G : xG) (d : Nat) (y : MethodName) (F : xF) (cv : α → Option Value) (as : List Value) (h : Mem) (o : Option (α × Mem)) : Prop :=
  ∀ r : α × Mem, o = some r → ∀ l : Launch, Met l y (.code y F.2.1 F.2.2.1 F.2.2.2 :: xgt) (xrm d) (xPx G as h) (xQx G cv r) 0 0 (xA G)
theorem Sm.of {α : Type} {G : xG} {d : Nat} {y : MethodName} {F : xF} {cv : α → Option Value} {as : List Value} {h : Mem} {o : Option (α × Mem)} {ls : List (Nat × Value)}
    (hy : plainName y.cls = true) (hF : y.cls = F.1) (hn : (lg_sl as).length ≤ F.2.2.1) (hl : lv_args 0 as = ls) (K : Rn G d F cv 0 ls [] h o) : Sm G d y F cv as h o := by
  intro r hr l
  refine Met.ofW (cc := F.2.1) (maxL := F.2.2.1) (ret := F.2.2.2) hy rfl ?_
  intro p e s m args below meth c s₁ B hml hv
  obtain ⟨rfl, hP, hK, hN, hSt, hI⟩ := hv
  have hts := atoms_spec (ws := .code y F.2.1 F.2.2.1 F.2.2.2 :: xgt) B.pre
  have hown : s.vm.findClass F.1 = some m.cls := by rw [← hF]; exact findClass_of_methodNamed B.named
  rw [lg_entry_eq]
  have hle := lv_entry as hn
  rw [hl] at hle
  exact K r hr p l e s m as.toArray below meth c s.heap [] _ ⟨B.exec, B.bytes, B.returns, hml, hown, fun w hw => hts w (List.mem_cons_of_mem _ hw), hN, B.notSynchronized, hK, hI, hSt⟩ hP va_S.rf hle
theorem Rn.none {α : Type} {G : xG} {d : Nat} {F : xF} {cv : α → Option Value} {pc : Nat} {ls : List (Nat × Value)} {st : List Value} {h : Mem} : Rn G d F cv pc ls st h (none : Option (α × Mem)) := fun r hr => by cases hr
end
section
section XR
variable {α : Type} {G : xG} {d : Nat} {F : xF} {cv : α → Option Value} {pc : Nat} {ls : List (Nat × Value)} {st : List Value} {h : Mem} {o : Option (α × Mem)}
theorem r_sub {ls' : List (Nat × Value)} (ks : List Nat) (hl : lv_pick ls ks = ls') (K : Rn G d F cv pc ls' st h o) : Rn G d F cv pc ls st h o :=
  fun r hr p l e s m args below meth c H locs lsA C hP hS hv => K r hr p l e s m args below meth c H locs lsA C hP hS (lv_sub hv ks hl)
theorem r_iload_n {k : Fin 4} {i place : Nat} {x : Int32} (hd : decode F.2.1 pc = .ok (.iload_n k, 1)) (hi : (k : Nat) = i) (hp : ls[place]? = some (i, .int x)) (K : Rn G d F cv (pc + 1) ls (.int x :: st) h o) : Rn G d F cv pc ls st h o :=
  fun r hr p l e s m args below meth c H locs lsA C hP hS hv => lv_iload_n C.1 C.2.1 hd hi (lv_at hv place hp) (K r hr p l e s m args below meth c H locs lsA C hP hS hv)
theorem r_iload {i place : Nat} {x : Int32} (hd : decode F.2.1 pc = .ok (.iload i, 2)) (hp : ls[place]? = some (i, .int x)) (K : Rn G d F cv (pc + 2) ls (.int x :: st) h o) : Rn G d F cv pc ls st h o :=
  fun r hr p l e s m args below meth c H locs lsA C hP hS hv => lv_iload C.1 C.2.1 hd (lv_at hv place hp) (K r hr p l e s m args below meth c H locs lsA C hP hS hv)
theorem r_lload_n {k : Fin 4} {i place : Nat} {x : Int64} (hd : decode F.2.1 pc = .ok (.lload_n k, 1)) (hi : (k : Nat) = i) (hp : ls[place]? = some (i, .long x)) (K : Rn G d F cv (pc + 1) ls (.long x :: st) h o) : Rn G d F cv pc ls st h o :=
  fun r hr p l e s m args below meth c H locs lsA C hP hS hv => lv_lload_n C.1 C.2.1 hd hi (lv_at hv place hp) (K r hr p l e s m args below meth c H locs lsA C hP hS hv)
theorem r_lload {i place : Nat} {x : Int64} (hd : decode F.2.1 pc = .ok (.lload i, 2)) (hp : ls[place]? = some (i, .long x)) (K : Rn G d F cv (pc + 2) ls (.long x :: st) h o) : Rn G d F cv pc ls st h o :=
  fun r hr p l e s m args below meth c H locs lsA C hP hS hv => lv_lload C.1 C.2.1 hd (lv_at hv place hp) (K r hr p l e s m args below meth c H locs lsA C hP hS hv)
theorem r_aload_n {k : Fin 4} {i place : Nat} {x : Nat} (hd : decode F.2.1 pc = .ok (.aload_n k, 1)) (hi : (k : Nat) = i) (hp : ls[place]? = some (i, .ref x)) (K : Rn G d F cv (pc + 1) ls (.ref x :: st) h o) : Rn G d F cv pc ls st h o :=
  fun r hr p l e s m args below meth c H locs lsA C hP hS hv => lv_aload_n C.1 C.2.1 hd hi (lv_at hv place hp) (K r hr p l e s m args below meth c H locs lsA C hP hS hv)
theorem r_aload {i place : Nat} {x : Nat} (hd : decode F.2.1 pc = .ok (.aload i, 2)) (hp : ls[place]? = some (i, .ref x)) (K : Rn G d F cv (pc + 2) ls (.ref x :: st) h o) : Rn G d F cv pc ls st h o :=
  fun r hr p l e s m args below meth c H locs lsA C hP hS hv => lv_aload C.1 C.2.1 hd (lv_at hv place hp) (K r hr p l e s m args below meth c H locs lsA C hP hS hv)
theorem r_istore_n {k : Fin 4} {i : Nat} {x : Int32} {ls' : List (Nat × Value)} (hd : decode F.2.1 pc = .ok (.istore_n k, 1)) (hi : (k : Nat) = i) (hn : i < F.2.2.1) (hl : (i, Value.int x) :: ls.filter (fun q => !(q.1 == i) && !(q.1 + 1 == i && q.2.category == 2)) = ls') (K : Rn G d F cv (pc + 1) ls' st h o) : Rn G d F cv pc ls (.int x :: st) h o :=
  fun r hr p l e s m args below meth c H locs lsA C hP hS hv => lv_istore_n C.1 C.2.1 hd hi hv hn hl (fun lsB hv => K r hr p l e s m args below meth c H locs lsB C hP hS hv)
theorem r_istore {i : Nat} {x : Int32} {ls' : List (Nat × Value)} (hd : decode F.2.1 pc = .ok (.istore i, 2)) (hn : i < F.2.2.1) (hl : (i, Value.int x) :: ls.filter (fun q => !(q.1 == i) && !(q.1 + 1 == i && q.2.category == 2)) = ls') (K : Rn G d F cv (pc + 2) ls' st h o) : Rn G d F cv pc ls (.int x :: st) h o :=
  fun r hr p l e s m args below meth c H locs lsA C hP hS hv => lv_istore C.1 C.2.1 hd hv hn hl (fun lsB hv => K r hr p l e s m args below meth c H locs lsB C hP hS hv)
theorem r_astore_n {k : Fin 4} {i : Nat} {x : Nat} {ls' : List (Nat × Value)} (hd : decode F.2.1 pc = .ok (.astore_n k, 1)) (hi : (k : Nat) = i) (hn : i < F.2.2.1) (hl : (i, Value.ref x) :: ls.filter (fun q => !(q.1 == i) && !(q.1 + 1 == i && q.2.category == 2)) = ls') (K : Rn G d F cv (pc + 1) ls' st h o) : Rn G d F cv pc ls (.ref x :: st) h o :=
  fun r hr p l e s m args below meth c H locs lsA C hP hS hv => lv_astore_n C.1 C.2.1 hd hi hv hn hl (fun lsB hv => K r hr p l e s m args below meth c H locs lsB C hP hS hv)
theorem r_astore {i : Nat} {x : Nat} {ls' : List (Nat × Value)} (hd : decode F.2.1 pc = .ok (.astore i, 2)) (hn : i < F.2.2.1) (hl : (i, Value.ref x) :: ls.filter (fun q => !(q.1 == i) && !(q.1 + 1 == i && q.2.category == 2)) = ls') (K : Rn G d F cv (pc + 2) ls' st h o) : Rn G d F cv pc ls (.ref x :: st) h o :=
  fun r hr p l e s m args below meth c H locs lsA C hP hS hv => lv_astore C.1 C.2.1 hd hv hn hl (fun lsB hv => K r hr p l e s m args below meth c H locs lsB C hP hS hv)
theorem r_iinc {i place : Nat} {n : Int} {x v : Int32} {ls' : List (Nat × Value)} (hd : decode F.2.1 pc = .ok (.iinc i n, 3)) (hp : ls[place]? = some (i, .int x)) (hv1 : x + Int32.ofInt n = v) (hn : i < F.2.2.1) (hl : (i, Value.int v) :: ls.filter (fun q => !(q.1 == i) && !(q.1 + 1 == i && q.2.category == 2)) = ls') (K : Rn G d F cv (pc + 3) ls' st h o) : Rn G d F cv pc ls st h o :=
  fun r hr p l e s m args below meth c H locs lsA C hP hS hv => lv_iinc C.1 C.2.1 hd hv hp hv1 hn hl (fun lsB hv => K r hr p l e s m args below meth c H locs lsB C hP hS hv)
theorem r_iconst {n : Int} {v : Int32} (hd : decode F.2.1 pc = .ok (.iconst n, 1)) (hn : Int32.ofInt n = v) (K : Rn G d F cv (pc + 1) ls (.int v :: st) h o) : Rn G d F cv pc ls st h o :=
  fun r hr p l e s m args below meth c H locs lsA C hP hS hv => lv_iconst C.1 C.2.1 hd hn (K r hr p l e s m args below meth c H locs lsA C hP hS hv)
theorem r_bipush {n : Int} {v : Int32} (hd : decode F.2.1 pc = .ok (.bipush n, 2)) (hn : (Int8.ofInt n).toInt32 = v) (K : Rn G d F cv (pc + 2) ls (.int v :: st) h o) : Rn G d F cv pc ls st h o :=
  fun r hr p l e s m args below meth c H locs lsA C hP hS hv => lv_bipush C.1 C.2.1 hd hn (K r hr p l e s m args below meth c H locs lsA C hP hS hv)
theorem r_sipush {n : Int} {v : Int32} (hd : decode F.2.1 pc = .ok (.sipush n, 3)) (hn : (Int16.ofInt n).toInt32 = v) (K : Rn G d F cv (pc + 3) ls (.int v :: st) h o) : Rn G d F cv pc ls st h o :=
  fun r hr p l e s m args below meth c H locs lsA C hP hS hv => lv_sipush C.1 C.2.1 hd hn (K r hr p l e s m args below meth c H locs lsA C hP hS hv)
theorem r_lconst {n : Fin 2} {v : Int64} (hd : decode F.2.1 pc = .ok (.lconst n, 1)) (hn : Int64.ofNat (n : Nat) = v) (K : Rn G d F cv (pc + 1) ls (.long v :: st) h o) : Rn G d F cv pc ls st h o :=
  fun r hr p l e s m args below meth c H locs lsA C hP hS hv => lv_lconst C.1 C.2.1 hd hn (K r hr p l e s m args below meth c H locs lsA C hP hS hv)
theorem r_ldc {i : Nat} {v : Int32} (hd : decode F.2.1 pc = .ok (.ldc i, 2)) (hw : Cond.constant F.1 i v ∈ xgt) (K : Rn G d F cv (pc + 2) ls (.int v :: st) h o) : Rn G d F cv pc ls st h o :=
  fun r hr p l e s m args below meth c H locs lsA C hP hS hv => lv_ldc C.1 C.2.1 C.2.2.2.2.1 (C.2.2.2.2.2.1 _ hw) hd (K r hr p l e s m args below meth c H locs lsA C hP hS hv)
theorem r_ldc2 {i : Nat} {v : Int64} (hd : decode F.2.1 pc = .ok (.ldc2_w i, 3)) (hw : Cond.constantLong F.1 i v ∈ xgt) (K : Rn G d F cv (pc + 3) ls (.long v :: st) h o) : Rn G d F cv pc ls st h o :=
  fun r hr p l e s m args below meth c H locs lsA C hP hS hv => lv_ldc2 C.1 C.2.1 C.2.2.2.2.1 (C.2.2.2.2.2.1 _ hw) hd (K r hr p l e s m args below meth c H locs lsA C hP hS hv)
theorem r_i2l {x : Int32} (hd : decode F.2.1 pc = .ok (.i2l, 1)) (K : Rn G d F cv (pc + 1) ls (.long x.toInt64 :: st) h o) : Rn G d F cv pc ls (.int x :: st) h o :=
  fun r hr p l e s m args below meth c H locs lsA C hP hS hv => lv_i2l C.1 C.2.1 hd rfl (K r hr p l e s m args below meth c H locs lsA C hP hS hv)
theorem r_lcmp {x y : Int64} (hd : decode F.2.1 pc = .ok (.lcmp, 1)) (K : Rn G d F cv (pc + 1) ls (.int (lg_cmp x y) :: st) h o) : Rn G d F cv pc ls (.long y :: .long x :: st) h o :=
  fun r hr p l e s m args below meth c H locs lsA C hP hS hv => W.lcmp C.1 C.2.1 hd (K r hr p l e s m args below meth c H locs lsA C hP hS hv)
theorem r_dup {v : Value} (hd : decode F.2.1 pc = .ok (.dup, 1)) (hc : v.category = 1) (K : Rn G d F cv (pc + 1) ls (v :: v :: st) h o) : Rn G d F cv pc ls (v :: st) h o :=
  fun r hr p l e s m args below meth c H locs lsA C hP hS hv => lv_dup C.1 C.2.1 hd hc (K r hr p l e s m args below meth c H locs lsA C hP hS hv)
theorem r_pop {v : Value} (hd : decode F.2.1 pc = .ok (.pop, 1)) (hc : v.category = 1) (K : Rn G d F cv (pc + 1) ls st h o) : Rn G d F cv pc ls (v :: st) h o :=
  fun r hr p l e s m args below meth c H locs lsA C hP hS hv => lv_pop C.1 C.2.1 hd hc (K r hr p l e s m args below meth c H locs lsA C hP hS hv)
theorem r_dup2 {v w : Value} (hd : decode F.2.1 pc = .ok (.dup2, 1)) (hc : v.category = 1) (hc2 : w.category = 1) (K : Rn G d F cv (pc + 1) ls (v :: w :: v :: w :: st) h o) : Rn G d F cv pc ls (v :: w :: st) h o :=
  fun r hr p l e s m args below meth c H locs lsA C hP hS hv => lv_dup2_11 C.1 C.2.1 hd hc hc2 (K r hr p l e s m args below meth c H locs lsA C hP hS hv)
theorem r_iadd {x y : Int32} (hd : decode F.2.1 pc = .ok (.iadd, 1)) (K : Rn G d F cv (pc + 1) ls (.int (x + y) :: st) h o) : Rn G d F cv pc ls (.int y :: .int x :: st) h o :=
  fun r hr p l e s m args below meth c H locs lsA C hP hS hv => lv_iadd C.1 C.2.1 hd (K r hr p l e s m args below meth c H locs lsA C hP hS hv)
theorem r_isub {x y : Int32} (hd : decode F.2.1 pc = .ok (.isub, 1)) (K : Rn G d F cv (pc + 1) ls (.int (x - y) :: st) h o) : Rn G d F cv pc ls (.int y :: .int x :: st) h o :=
  fun r hr p l e s m args below meth c H locs lsA C hP hS hv => lv_isub C.1 C.2.1 hd (K r hr p l e s m args below meth c H locs lsA C hP hS hv)
theorem r_imul {x y : Int32} (hd : decode F.2.1 pc = .ok (.imul, 1)) (K : Rn G d F cv (pc + 1) ls (.int (x * y) :: st) h o) : Rn G d F cv pc ls (.int y :: .int x :: st) h o :=
  fun r hr p l e s m args below meth c H locs lsA C hP hS hv => lv_imul C.1 C.2.1 hd (K r hr p l e s m args below meth c H locs lsA C hP hS hv)
theorem r_irem {x y : Int32} (hd : decode F.2.1 pc = .ok (.irem, 1)) (hne : ¬ y = 0) (K : Rn G d F cv (pc + 1) ls (.int (x - x / y * y) :: st) h o) : Rn G d F cv pc ls (.int y :: .int x :: st) h o :=
  fun r hr p l e s m args below meth c H locs lsA C hP hS hv => lv_irem C.1 C.2.1 hd hne (K r hr p l e s m args below meth c H locs lsA C hP hS hv)
theorem r_iand {x y : Int32} (hd : decode F.2.1 pc = .ok (.iand, 1)) (K : Rn G d F cv (pc + 1) ls (.int (x &&& y) :: st) h o) : Rn G d F cv pc ls (.int y :: .int x :: st) h o :=
  fun r hr p l e s m args below meth c H locs lsA C hP hS hv => lv_iand C.1 C.2.1 hd (K r hr p l e s m args below meth c H locs lsA C hP hS hv)
theorem r_ior {x y : Int32} (hd : decode F.2.1 pc = .ok (.ior, 1)) (K : Rn G d F cv (pc + 1) ls (.int (x ||| y) :: st) h o) : Rn G d F cv pc ls (.int y :: .int x :: st) h o :=
  fun r hr p l e s m args below meth c H locs lsA C hP hS hv => lv_ior C.1 C.2.1 hd (K r hr p l e s m args below meth c H locs lsA C hP hS hv)
theorem r_ishl {x y : Int32} (hd : decode F.2.1 pc = .ok (.ishl, 1)) (K : Rn G d F cv (pc + 1) ls (.int (x <<< (y &&& 31)) :: st) h o) : Rn G d F cv pc ls (.int y :: .int x :: st) h o :=
  fun r hr p l e s m args below meth c H locs lsA C hP hS hv => lv_ishl C.1 C.2.1 hd (K r hr p l e s m args below meth c H locs lsA C hP hS hv)
theorem r_ishr {x y : Int32} (hd : decode F.2.1 pc = .ok (.ishr, 1)) (K : Rn G d F cv (pc + 1) ls (.int (x >>> (y &&& 31)) :: st) h o) : Rn G d F cv pc ls (.int y :: .int x :: st) h o :=
  fun r hr p l e s m args below meth c H locs lsA C hP hS hv => lv_ishr C.1 C.2.1 hd (K r hr p l e s m args below meth c H locs lsA C hP hS hv)
theorem r_goto {off : Int} {tgt : Nat} (hd : decode F.2.1 pc = .ok (.goto off, 3)) (ht : (pc : Int) + off = (tgt : Int)) (K : Rn G d F cv tgt ls st h o) : Rn G d F cv pc ls st h o :=
  fun r hr p l e s m args below meth c H locs lsA C hP hS hv => lv_goto C.1 C.2.1 hd ht (K r hr p l e s m args below meth c H locs lsA C hP hS hv)
end XR
section XB
variable {α : Type} {G : xG} {d : Nat} {F : xF} {cv : α → Option Value} {pc : Nat} {ls : List (Nat × Value)} {st : List Value} {h : Mem} {o1 o2 : Option (α × Mem)} {off : Int} {tgt : Nat} {x y : Int32}
theorem r_if_eq (hd : decode F.2.1 pc = .ok (.ifCond .eq off, 3)) (ht : (pc : Int) + off = (tgt : Int)) (K1 : Rn G d F cv tgt ls st h o1) (K2 : Rn G d F cv (pc + 3) ls st h o2) : Rn G d F cv pc ls (.int x :: st) h (if x = 0 then o1 else o2) :=
  fun r hr p l e s m args below meth c H locs lsA C hP hS hv => lv_if_eq C.1 C.2.1 hd ht (fun q => K1 r (by rw [if_pos q] at hr; exact hr) p l e s m args below meth c H locs lsA C hP hS hv) (fun q => K2 r (by rw [if_neg q] at hr; exact hr) p l e s m args below meth c H locs lsA C hP hS hv)
theorem r_if_ne (hd : decode F.2.1 pc = .ok (.ifCond .ne off, 3)) (ht : (pc : Int) + off = (tgt : Int)) (K1 : Rn G d F cv tgt ls st h o1) (K2 : Rn G d F cv (pc + 3) ls st h o2) : Rn G d F cv pc ls (.int x :: st) h (if x = 0 then o2 else o1) :=
  fun r hr p l e s m args below meth c H locs lsA C hP hS hv => lv_if_ne C.1 C.2.1 hd ht (fun q => K1 r (by rw [if_neg q] at hr; exact hr) p l e s m args below meth c H locs lsA C hP hS hv) (fun q => K2 r (by rw [if_pos q] at hr; exact hr) p l e s m args below meth c H locs lsA C hP hS hv)
theorem r_if_lt (hd : decode F.2.1 pc = .ok (.ifCond .lt off, 3)) (ht : (pc : Int) + off = (tgt : Int)) (K1 : Rn G d F cv tgt ls st h o1) (K2 : Rn G d F cv (pc + 3) ls st h o2) : Rn G d F cv pc ls (.int x :: st) h (if x < 0 then o1 else o2) :=
  fun r hr p l e s m args below meth c H locs lsA C hP hS hv => lv_if_lt C.1 C.2.1 hd ht (fun q => K1 r (by rw [if_pos q] at hr; exact hr) p l e s m args below meth c H locs lsA C hP hS hv) (fun q => K2 r (by rw [if_neg q] at hr; exact hr) p l e s m args below meth c H locs lsA C hP hS hv)
theorem r_if_ge (hd : decode F.2.1 pc = .ok (.ifCond .ge off, 3)) (ht : (pc : Int) + off = (tgt : Int)) (K1 : Rn G d F cv tgt ls st h o1) (K2 : Rn G d F cv (pc + 3) ls st h o2) : Rn G d F cv pc ls (.int x :: st) h (if 0 ≤ x then o1 else o2) :=
  fun r hr p l e s m args below meth c H locs lsA C hP hS hv => lv_if_ge C.1 C.2.1 hd ht (fun q => K1 r (by rw [if_pos q] at hr; exact hr) p l e s m args below meth c H locs lsA C hP hS hv) (fun q => K2 r (by rw [if_neg q] at hr; exact hr) p l e s m args below meth c H locs lsA C hP hS hv)
theorem r_if_gt (hd : decode F.2.1 pc = .ok (.ifCond .gt off, 3)) (ht : (pc : Int) + off = (tgt : Int)) (K1 : Rn G d F cv tgt ls st h o1) (K2 : Rn G d F cv (pc + 3) ls st h o2) : Rn G d F cv pc ls (.int x :: st) h (if 0 < x then o1 else o2) :=
  fun r hr p l e s m args below meth c H locs lsA C hP hS hv => lv_if_gt C.1 C.2.1 hd ht (fun q => K1 r (by rw [if_pos q] at hr; exact hr) p l e s m args below meth c H locs lsA C hP hS hv) (fun q => K2 r (by rw [if_neg q] at hr; exact hr) p l e s m args below meth c H locs lsA C hP hS hv)
theorem r_if_le (hd : decode F.2.1 pc = .ok (.ifCond .le off, 3)) (ht : (pc : Int) + off = (tgt : Int)) (K1 : Rn G d F cv tgt ls st h o1) (K2 : Rn G d F cv (pc + 3) ls st h o2) : Rn G d F cv pc ls (.int x :: st) h (if x ≤ 0 then o1 else o2) :=
  fun r hr p l e s m args below meth c H locs lsA C hP hS hv => lv_if_le C.1 C.2.1 hd ht (fun q => K1 r (by rw [if_pos q] at hr; exact hr) p l e s m args below meth c H locs lsA C hP hS hv) (fun q => K2 r (by rw [if_neg q] at hr; exact hr) p l e s m args below meth c H locs lsA C hP hS hv)
theorem r_ic_eq (hd : decode F.2.1 pc = .ok (.if_icmp .eq off, 3)) (ht : (pc : Int) + off = (tgt : Int)) (K1 : Rn G d F cv tgt ls st h o1) (K2 : Rn G d F cv (pc + 3) ls st h o2) : Rn G d F cv pc ls (.int y :: .int x :: st) h (if x = y then o1 else o2) :=
  fun r hr p l e s m args below meth c H locs lsA C hP hS hv => lv_icmp_eq C.1 C.2.1 hd ht (fun q => K1 r (by rw [if_pos q] at hr; exact hr) p l e s m args below meth c H locs lsA C hP hS hv) (fun q => K2 r (by rw [if_neg q] at hr; exact hr) p l e s m args below meth c H locs lsA C hP hS hv)
theorem r_ic_ne (hd : decode F.2.1 pc = .ok (.if_icmp .ne off, 3)) (ht : (pc : Int) + off = (tgt : Int)) (K1 : Rn G d F cv tgt ls st h o1) (K2 : Rn G d F cv (pc + 3) ls st h o2) : Rn G d F cv pc ls (.int y :: .int x :: st) h (if x = y then o2 else o1) :=
  fun r hr p l e s m args below meth c H locs lsA C hP hS hv => lv_icmp_ne C.1 C.2.1 hd ht (fun q => K1 r (by rw [if_neg q] at hr; exact hr) p l e s m args below meth c H locs lsA C hP hS hv) (fun q => K2 r (by rw [if_pos q] at hr; exact hr) p l e s m args below meth c H locs lsA C hP hS hv)
theorem r_ic_lt (hd : decode F.2.1 pc = .ok (.if_icmp .lt off, 3)) (ht : (pc : Int) + off = (tgt : Int)) (K1 : Rn G d F cv tgt ls st h o1) (K2 : Rn G d F cv (pc + 3) ls st h o2) : Rn G d F cv pc ls (.int y :: .int x :: st) h (if x < y then o1 else o2) :=
  fun r hr p l e s m args below meth c H locs lsA C hP hS hv => lv_icmp_lt C.1 C.2.1 hd ht (fun q => K1 r (by rw [if_pos q] at hr; exact hr) p l e s m args below meth c H locs lsA C hP hS hv) (fun q => K2 r (by rw [if_neg q] at hr; exact hr) p l e s m args below meth c H locs lsA C hP hS hv)
theorem r_ic_ge (hd : decode F.2.1 pc = .ok (.if_icmp .ge off, 3)) (ht : (pc : Int) + off = (tgt : Int)) (K1 : Rn G d F cv tgt ls st h o1) (K2 : Rn G d F cv (pc + 3) ls st h o2) : Rn G d F cv pc ls (.int y :: .int x :: st) h (if y ≤ x then o1 else o2) :=
  fun r hr p l e s m args below meth c H locs lsA C hP hS hv => lv_icmp_ge C.1 C.2.1 hd ht (fun q => K1 r (by rw [if_pos q] at hr; exact hr) p l e s m args below meth c H locs lsA C hP hS hv) (fun q => K2 r (by rw [if_neg q] at hr; exact hr) p l e s m args below meth c H locs lsA C hP hS hv)
theorem r_ic_gt (hd : decode F.2.1 pc = .ok (.if_icmp .gt off, 3)) (ht : (pc : Int) + off = (tgt : Int)) (K1 : Rn G d F cv tgt ls st h o1) (K2 : Rn G d F cv (pc + 3) ls st h o2) : Rn G d F cv pc ls (.int y :: .int x :: st) h (if y < x then o1 else o2) :=
  fun r hr p l e s m args below meth c H locs lsA C hP hS hv => lv_icmp_gt C.1 C.2.1 hd ht (fun q => K1 r (by rw [if_pos q] at hr; exact hr) p l e s m args below meth c H locs lsA C hP hS hv) (fun q => K2 r (by rw [if_neg q] at hr; exact hr) p l e s m args below meth c H locs lsA C hP hS hv)
theorem r_ic_le (hd : decode F.2.1 pc = .ok (.if_icmp .le off, 3)) (ht : (pc : Int) + off = (tgt : Int)) (K1 : Rn G d F cv tgt ls st h o1) (K2 : Rn G d F cv (pc + 3) ls st h o2) : Rn G d F cv pc ls (.int y :: .int x :: st) h (if x ≤ y then o1 else o2) :=
  fun r hr p l e s m args below meth c H locs lsA C hP hS hv => lv_icmp_le C.1 C.2.1 hd ht (fun q => K1 r (by rw [if_pos q] at hr; exact hr) p l e s m args below meth c H locs lsA C hP hS hv) (fun q => K2 r (by rw [if_neg q] at hr; exact hr) p l e s m args below meth c H locs lsA C hP hS hv)
end XB
end
section
/-! rows for fields, arrays, calls, returns -/
def ald {β : Type} (h : Mem) (a : Nat) (i : Int32) (k : Int32 → Option β) : Option β := if 0 ≤ i ∧ i.toNatClampNeg < xln a then k (h a i.toNatClampNeg) else none
def ast {β : Type} (h : Mem) (a : Nat) (i v : Int32) (k : Mem → Option β) : Option β := if 0 ≤ i ∧ i.toNatClampNeg < xln a then k (mu h a i.toNatClampNeg v) else none
def aald {β : Type} (a : Nat) (i : Int32) (k : Nat → Option β) : Option β := if 0 ≤ i ∧ i.toNatClampNeg < xln a then k (xrf a i.toNatClampNeg) else none
def acp {β : Type} (h : Mem) (a : Nat) (sp : Int32) (b : Nat) (dp n : Int32) (k : Mem → Option β) : Option β :=
  if (0 ≤ sp ∧ 0 ≤ dp ∧ 0 ≤ n) ∧ sp.toNatClampNeg + n.toNatClampNeg ≤ xln a ∧ dp.toNatClampNeg + n.toNatClampNeg ≤ xln b then k (mA h b (va_cpy (h a) (h b) sp.toNatClampNeg dp.toNatClampNeg n.toNatClampNeg)) else none
def b2 {γ β : Type} (o : Option (γ × Mem)) (k : γ → Mem → Option β) : Option β := match o with
  | some p => k p.1 p.2
  | none => none
def zg {β : Type} (v : Int32) (k : Option β) : Option β := if v = 0 ∨ v = 1 then k else none
def tg {β : Type} (ci k : Nat) (o : Option β) : Option β := if k < xNC ∧ xkd k = ci then o else none
def xmin (x y : Int32) : Int32 := if y < x then y else x
def xmax (x y : Int32) : Int32 := if x < y then y else x
def xcI : Int32 → Option Value := fun v => some (.int v)
def xcV : Unit → Option Value := fun _ => none
def xcR (G : xG) : Nat → Option Value := fun k => some (.ref (G.1 k))
theorem xin_of {i : Int32} {n : Nat} (q : 0 ≤ i ∧ i.toNatClampNeg < n) : vp_in i n := fun z => z.elim (fun a => absurd q.1 (Int32.not_le.mpr a)) (fun a => Nat.not_le.mpr q.2 a)
theorem xE_obj {G : xG} {h : Mem} {k ci : Nat} (ht : xTy k ci) (hc : ci < 8) : xE G h k = .inr (ci, xfl G.1 h k (xfs ci) 0) := by
  unfold xE
  rw [ht.2, if_pos hc]
theorem xE_int {G : xG} {h : Mem} {k : Nat} (ht : xTy k 8) : xE G h k = .inl (G.2.2.1 0, xln k, .inl (h k)) := by
  unfold xE
  rw [ht.2]
  rfl
theorem xE_bool {G : xG} {h : Mem} {k : Nat} (ht : xTy k 9) : xE G h k = .inl (G.2.2.1 1, xln k, .inl (h k)) := by
  unfold xE
  rw [ht.2]
  rfl
theorem xE_cl {G : xG} {h : Mem} {k : Nat} (ht : xTy k 10) : xE G h k = .inl (G.2.2.1 2, xln k, .inr (.inr (.inr (.inr (fun j => some (G.1 (xrf k j))))))) := by
  unfold xE
  rw [ht.2]
  rfl
theorem xE_wo {G : xG} {h : Mem} {k : Nat} (ht : xTy k 11) : xE G h k = .inl (G.2.2.1 3, xln k, .inr (.inr (.inr (.inr (fun j => some (G.1 (xrf k j))))))) := by
  unfold xE
  rw [ht.2]
  rfl
theorem xfl_set (ad : Nat → Nat) (h : Mem) (k i : Nat) (v : Int32) {bs : List Bool} (hb : bs[i]? = some false) : (xfl ad h k bs 0).set i (.int v) = xfl ad (mu h k i v) k bs 0 := by
  apply List.ext_getElem?
  intro j
  rw [xfl_get]
  by_cases hj : j = i
  · subst hj
    have hl : j < (xfl ad h k bs 0).length := by rw [xfl_len]; exact (List.getElem?_eq_some_iff.mp hb).1
    rw [List.getElem?_set_self hl, hb]
    simp [mu_eq, upd]
  · rw [List.getElem?_set_ne (Ne.symm hj), xfl_get]
    have e1 : mu h k i v k (0 + j) = h k (0 + j) := by
      rw [mu_eq, Nat.zero_add]
      exact if_neg hj
    rw [e1]
def xLf (own : String) (idx : Nat) (C n dd : String) : Prop := Cond.fieldLink own idx C n dd ∈ xgt ∨ ∃ host, Cond.fieldLinkNest own idx C n dd host ∈ xnest
def xFG (own : String) (idx ci j : Nat) (b : Bool) : Prop := ∃ (C : String) (T : u_T) (N : Nat), vwCl[ci]? = some (C, T, N) ∧ j < N ∧ (∀ w ∈ u_ws C T N, w ∈ xgt) ∧ xLf own idx (T j).1 (T j).2.1 (T j).2.2.1 ∧ (xfs ci)[j]? = some b ∧ ci < 8
def xFP (own : String) (idx ci j : Nat) (ty : FieldType) : Prop := ∃ (C : String) (T : u_T) (N : Nat) (ty0 : Nat → FieldType), vwCl[ci]? = some (C, T, N) ∧ j < N ∧ (∀ w ∈ u_ws C T N, w ∈ xgt) ∧ (∀ k, k < N → parseFieldDescriptor (T k).2.2.1 = some (ty0 k)) ∧ (∀ a, a < N → ∀ b, b < N → a ≠ b → (T a).2.1 ≠ (T b).2.1) ∧ xLf own idx (T j).1 (T j).2.1 (T j).2.2.1 ∧ (T j).2.2.2 = false ∧ parseFieldDescriptor (T j).2.2.1 = some ty ∧ (xfs ci)[j]? = some false ∧ ci < 8
section XH
variable {α : Type} {G : xG} {d : Nat} {F : xF} {cv : α → Option Value} {pc : Nat} {ls : List (Nat × Value)} {st : List Value} {h : Mem} {o : Option (α × Mem)}
theorem r_getV {k ci j idx : Nat} {b : Bool} (hd : decode F.2.1 pc = .ok (.getfield idx, 3)) (hf : xFG F.1 idx ci j b) (ht : xTy k ci) (K : Rn G d F cv (pc + 3) ls ((if b = true then Value.ref (G.1 (xrf k j)) else Value.int (h k j)) :: st) h o) : Rn G d F cv pc ls (.ref (G.1 k) :: st) h o := by
  intro r hr p l e s m args below meth c H locs lsA C hP hS hv
  obtain ⟨C0, T, N, hc, hj, hin, hlk, hb, h8⟩ := hf
  obtain ⟨hx, hcb, -, -, hown, hts, hN, -, hK, -, -⟩ := id C
  have he : (xwl G h)[k]? = some (G.1 k, .inr (ci, xfl G.1 h k (xfs ci) 0)) := by rw [xwl_get G h ht.1, xE_obj ht h8]
  have hv0 : (xfl G.1 h k (xfs ci) 0)[j]? = some (if b = true then Value.ref (G.1 (xrf k j)) else Value.int (h k j)) := by rw [xfl_get, hb, Nat.zero_add]; rfl
  have K' := K r hr p l e s m args below meth c H locs lsA C hP hS hv
  rcases hlk with hlk | ⟨host, hlk⟩
  · exact va_get hx hcb hts hin hown hK hP k he hc j hj (hts _ hlk) (fun _ q => q) hv0 hd K'
  · exact va_getN hx hcb hts hin hown hK hP k he hc j hj (va_Nw.use rfl (hN _ hlk)) (fun _ q => q) hv0 hd K'
theorem r_getI {k ci j idx : Nat} (hd : decode F.2.1 pc = .ok (.getfield idx, 3)) (hf : xFG F.1 idx ci j false) (ht : xTy k ci) (K : Rn G d F cv (pc + 3) ls (.int (h k j) :: st) h o) : Rn G d F cv pc ls (.ref (G.1 k) :: st) h o := r_getV hd hf ht K
theorem r_getR {k ci j idx : Nat} (hd : decode F.2.1 pc = .ok (.getfield idx, 3)) (hf : xFG F.1 idx ci j true) (ht : xTy k ci) (K : Rn G d F cv (pc + 3) ls (.ref (G.1 (xrf k j)) :: st) h o) : Rn G d F cv pc ls (.ref (G.1 k) :: st) h o := r_getV hd hf ht K
theorem r_putV {k ci j idx : Nat} {ty : FieldType} {v : Int32} (hd : decode F.2.1 pc = .ok (.putfield idx, 3)) (hf : xFP F.1 idx ci j ty) (ht : xTy k ci) (hn : narrow ty (.int v) = .int v) (hfi : fits ty (.int v) = true) (K : Rn G d F cv (pc + 3) ls st (mu h k j v) o) : Rn G d F cv pc ls (.int v :: .ref (G.1 k) :: st) h o := by
  intro r hr p l e s m args below meth c H locs lsA C hP hS hv
  obtain ⟨C0, T, N, ty0, hc, hj, hin, hty, hnm, hlk, hfin, hpa, hb, h8⟩ := hf
  obtain ⟨hx, hcb, -, -, hown, hts, hN, -, hK, hI, -⟩ := id C
  have he : (xwl G h)[k]? = some (G.1 k, .inr (ci, xfl G.1 h k (xfs ci) 0)) := by rw [xwl_get G h ht.1, xE_obj ht h8]
  have hlen : j < (xfl G.1 h k (xfs ci) 0).length := by rw [xfl_len]; exact (List.getElem?_eq_some_iff.mp hb).1
  have hset : (xwl G h).set k (G.1 k, .inr (ci, (xfl G.1 h k (xfs ci) 0).set j (.int v))) = xwl G (mu h k j v) :=
    xwl_set G h (mu h k j v) ht.1 (fun a ha => mu_ne ha) (by rw [xE_obj ht h8, xfl_set _ _ _ _ _ hb])
  have K' : ∀ (H1 : Heap) (locs1 : List Loc), va_P G.2.1 vwCl ((xwl G h).set k (G.1 k, .inr (ci, (xfl G.1 h k (xfs ci) 0).set j (.int v)))) H1 → va_D (xA G) ((xwl G h).set k (G.1 k, .inr (ci, (xfl G.1 h k (xfs ci) 0).set j (.int v)))) → va_S (xA G) s.heap H1 locs1 → W p l e (xrm d) s m args below meth c H1 locs1 0 0 (MQ below (xQx G cv r) args s 0 0 (xA G)) (F0 m (pc + 3) lsA st) := by
    intro H1 locs1 a1 _ a3
    rw [hset] at a1
    exact K r hr p l e s m args below meth c H1 locs1 lsA C a1 a3 hv
  rcases hlk with hlk | ⟨host, hlk⟩
  · exact va_put hx hcb hts hin ty0 hty hnm hown hK hP (xwl_D hI h) hS k he hc j hj (hts _ hlk) (fun _ q => q) hfin hpa hn hfi hlen hd K'
  · exact va_putN hx hcb hts hin ty0 hty hnm hown hK hP (xwl_D hI h) hS k he hc j hj (va_Nw.use rfl (hN _ hlk)) (fun _ q => q) hfin hpa hn hfi hlen hd K'
theorem r_putI {k ci j idx : Nat} {v : Int32} (hd : decode F.2.1 pc = .ok (.putfield idx, 3)) (hf : xFP F.1 idx ci j .int) (ht : xTy k ci) (K : Rn G d F cv (pc + 3) ls st (mu h k j v) o) : Rn G d F cv pc ls (.int v :: .ref (G.1 k) :: st) h o := r_putV hd hf ht rfl rfl K
theorem xz_ok {v : Int32} (hz : v = 0 ∨ v = 1) : narrow .boolean (.int v) = .int v ∧ fits .boolean (.int v) = true := by
  rcases hz with rfl | rfl
  · exact ⟨by decide +kernel, by decide +kernel⟩
  · exact ⟨by decide +kernel, by decide +kernel⟩
theorem r_putZ {k ci j idx : Nat} {v : Int32} (hd : decode F.2.1 pc = .ok (.putfield idx, 3)) (hf : xFP F.1 idx ci j .boolean) (ht : xTy k ci) (K : Rn G d F cv (pc + 3) ls st (mu h k j v) o) : Rn G d F cv pc ls (.int v :: .ref (G.1 k) :: st) h (zg v o) := by
  intro r hr
  by_cases hz : v = 0 ∨ v = 1
  · rw [zg, if_pos hz] at hr
    exact r_putV hd hf ht (xz_ok hz).1 (xz_ok hz).2 K r hr
  · rw [zg, if_neg hz] at hr
    cases hr
theorem r_iald {a : Nat} {i : Int32} {kk : Int32 → Option (α × Mem)} (hd : decode F.2.1 pc = .ok (.iaload, 1)) (ht : xTy a 8) (K : ∀ v, Rn G d F cv (pc + 1) ls (.int v :: st) h (kk v)) : Rn G d F cv pc ls (.int i :: .ref (G.1 a) :: st) h (ald h a i kk) := by
  intro r hr p l e s m args below meth c H locs lsA C hP hS hv
  by_cases q : 0 ≤ i ∧ i.toNatClampNeg < xln a
  · rw [ald, if_pos q] at hr
    exact va_iald C.1 C.2.1 C.2.2.2.2.2.2.2.2.1 hP a 0 (by rw [xwl_get G h ht.1, xE_int ht]) rfl (xin_of q) hd (K _ r hr p l e s m args below meth c H locs lsA C hP hS hv)
  · rw [ald, if_neg q] at hr
    cases hr
theorem r_zald {a : Nat} {i : Int32} {kk : Int32 → Option (α × Mem)} (hd : decode F.2.1 pc = .ok (.baload, 1)) (ht : xTy a 9) (K : ∀ v, Rn G d F cv (pc + 1) ls (.int v :: st) h (kk v)) : Rn G d F cv pc ls (.int i :: .ref (G.1 a) :: st) h (ald h a i kk) := by
  intro r hr p l e s m args below meth c H locs lsA C hP hS hv
  by_cases q : 0 ≤ i ∧ i.toNatClampNeg < xln a
  · rw [ald, if_pos q] at hr
    exact va_zald C.1 C.2.1 C.2.2.2.2.2.2.2.2.1 hP a 1 (by rw [xwl_get G h ht.1, xE_bool ht]) rfl (xin_of q) hd (K _ r hr p l e s m args below meth c H locs lsA C hP hS hv)
  · rw [ald, if_neg q] at hr
    cases hr
theorem r_iast {a : Nat} {i v : Int32} {kk : Mem → Option (α × Mem)} (hd : decode F.2.1 pc = .ok (.iastore, 1)) (ht : xTy a 8) (K : ∀ h1, Rn G d F cv (pc + 1) ls st h1 (kk h1)) : Rn G d F cv pc ls (.int v :: .int i :: .ref (G.1 a) :: st) h (ast h a i v kk) := by
  intro r hr p l e s m args below meth c H locs lsA C hP hS hv
  by_cases q : 0 ≤ i ∧ i.toNatClampNeg < xln a
  · rw [ast, if_pos q] at hr
    refine va_iast C.1 C.2.1 C.2.2.2.2.2.2.2.2.1 hP (xwl_D C.2.2.2.2.2.2.2.2.2.1 h) hS a 0 (by rw [xwl_get G h ht.1, xE_int ht]) rfl (xin_of q) hd (fun H1 locs1 a1 _ a3 => ?_)
    rw [xwl_set G h (mu h a i.toNatClampNeg v) ht.1 (fun b hb => mu_ne hb) (by rw [xE_int ht, mu_eq])] at a1
    exact K _ r hr p l e s m args below meth c H1 locs1 lsA C a1 a3 hv
  · rw [ast, if_neg q] at hr
    cases hr
theorem r_zast {a : Nat} {i v : Int32} {kk : Mem → Option (α × Mem)} (hd : decode F.2.1 pc = .ok (.bastore, 1)) (ht : xTy a 9) (hz : v = 0 ∨ v = 1) (K : ∀ h1, Rn G d F cv (pc + 1) ls st h1 (kk h1)) : Rn G d F cv pc ls (.int v :: .int i :: .ref (G.1 a) :: st) h (ast h a i v kk) := by
  intro r hr p l e s m args below meth c H locs lsA C hP hS hv
  by_cases q : 0 ≤ i ∧ i.toNatClampNeg < xln a
  · rw [ast, if_pos q] at hr
    refine va_zast C.1 C.2.1 C.2.2.2.2.2.2.2.2.1 hP (xwl_D C.2.2.2.2.2.2.2.2.2.1 h) hS a 1 (by rw [xwl_get G h ht.1, xE_bool ht]) rfl (xin_of q) hd (fun H1 locs1 a1 _ a3 => ?_)
    have hnar : vp_nar .boolean v = v := by
      unfold vp_nar
      rw [(xz_ok hz).1]
    rw [hnar, xwl_set G h (mu h a i.toNatClampNeg v) ht.1 (fun b hb => mu_ne hb) (by rw [xE_bool ht, mu_eq])] at a1
    exact K _ r hr p l e s m args below meth c H1 locs1 lsA C a1 a3 hv
  · rw [ast, if_neg q] at hr
    cases hr
theorem r_aald10 {a : Nat} {i : Int32} {kk : Nat → Option (α × Mem)} (hd : decode F.2.1 pc = .ok (.aaload, 1)) (ht : xTy a 10) (K : ∀ t, xTy t 0 → Rn G d F cv (pc + 1) ls (.ref (G.1 t) :: st) h (kk t)) : Rn G d F cv pc ls (.int i :: .ref (G.1 a) :: st) h (aald a i kk) := by
  intro r hr p l e s m args below meth c H locs lsA C hP hS hv
  by_cases q : 0 ≤ i ∧ i.toNatClampNeg < xln a
  · rw [aald, if_pos q] at hr
    exact va_aldq (f := fun j => some (G.1 (xrf a j))) C.1 C.2.1 C.2.2.2.2.2.2.2.2.1 hP a 2 (by rw [xwl_get G h ht.1, xE_cl ht]) rfl (xin_of q) hd (K _ (xt_10 ht q.2) r hr p l e s m args below meth c H locs lsA C hP hS hv)
  · rw [aald, if_neg q] at hr
    cases hr
theorem r_aald11 {a : Nat} {i : Int32} {kk : Nat → Option (α × Mem)} (hd : decode F.2.1 pc = .ok (.aaload, 1)) (ht : xTy a 11) (K : ∀ t, xTy t 5 → Rn G d F cv (pc + 1) ls (.ref (G.1 t) :: st) h (kk t)) : Rn G d F cv pc ls (.int i :: .ref (G.1 a) :: st) h (aald a i kk) := by
  intro r hr p l e s m args below meth c H locs lsA C hP hS hv
  by_cases q : 0 ≤ i ∧ i.toNatClampNeg < xln a
  · rw [aald, if_pos q] at hr
    exact va_aldq (f := fun j => some (G.1 (xrf a j))) C.1 C.2.1 C.2.2.2.2.2.2.2.2.1 hP a 3 (by rw [xwl_get G h ht.1, xE_wo ht]) rfl (xin_of q) hd (K _ (xt_11 ht q.2) r hr p l e s m args below meth c H locs lsA C hP hS hv)
  · rw [aald, if_neg q] at hr
    cases hr
theorem r_alen {a : Nat} (hd : decode F.2.1 pc = .ok (.arraylength, 1)) (ht : xTy a 8) (K : Rn G d F cv (pc + 1) ls (.int (Int32.ofNat (xln a)) :: st) h o) : Rn G d F cv pc ls (.ref (G.1 a) :: st) h o := by
  intro r hr p l e s m args below meth c H locs lsA C hP hS hv
  exact va_alen C.1 C.2.1 C.2.2.2.2.2.2.2.2.1 hP a 0 (by rw [xwl_get G h ht.1, xE_int ht]) (ty := .int) rfl rfl hd (K r hr p l e s m args below meth c H locs lsA C hP hS hv)
def xAcp (own : String) (idx : Nat) : Prop := Cond.methodLink own idx arraycopyName ∈ xgt ∧ Cond.native arraycopyName ∈ xgt ∧ Cond.static arraycopyName ∈ xgt ∧ Cond.initialized "java/lang/System" ∈ xgt
theorem r_acp {a b idx : Nat} {sp dp n : Int32} {kk : Mem → Option (α × Mem)} (hd : decode F.2.1 pc = .ok (.invokestatic idx, 3)) (hw : xAcp F.1 idx) (hta : xTy a 8) (htb : xTy b 8) (hdd : 1 ≤ d) (hr0 : (st.map fun v => v.category).sum ≤ 8) (K : ∀ h1, Rn G d F cv (pc + 3) ls st h1 (kk h1)) : Rn G d F cv pc ls (.int n :: .int dp :: .ref (G.1 b) :: .int sp :: .ref (G.1 a) :: st) h (acp h a sp b dp n kk) := by
  intro r hr p l e s m args below meth c H locs lsA C hP hS hv
  by_cases q : (0 ≤ sp ∧ 0 ≤ dp ∧ 0 ≤ n) ∧ sp.toNatClampNeg + n.toNatClampNeg ≤ xln a ∧ dp.toNatClampNeg + n.toNatClampNeg ≤ xln b
  · rw [acp, if_pos q] at hr
    obtain ⟨hx, hcb, -, hml, hown, hts, -, -, hK, hI, -⟩ := id C
    refine va_copyi hx hcb (hml.trans hv.1.symm) hown (hts _ hw.1) (hts _ hw.2.1) (hts _ hw.2.2.1) (hts _ hw.2.2.2) hK hP (xwl_D hI h) hS a b 0 0 (by rw [xwl_get G h hta.1, xE_int hta]) (by rw [xwl_get G h htb.1, xE_int htb]) (ty := .int) rfl rfl rfl (Int32.not_lt.mpr q.1.1) (Int32.not_lt.mpr q.1.2.1) (Int32.not_lt.mpr q.1.2.2) q.2.1 q.2.2 (fun _ _ => rfl) hdd ?_ hd (fun H1 locs1 a1 _ a3 => ?_)
    · have e1 : nativeFrameWords "java/lang/System" "arraycopy" 5 = 7 := by decide +kernel
      rw [e1]
      show _ + 18 ≤ 40 * d
      omega
    · rw [xwl_set G h (mA h b (va_cpy (h a) (h b) sp.toNatClampNeg dp.toNatClampNeg n.toNatClampNeg)) htb.1 (fun z hz => mA_ne hz) (by rw [xE_int htb, mA_eq])] at a1
      exact K _ r hr p l e s m args below meth c H1 locs1 lsA C a1 a3 hv
  · rw [acp, if_neg q] at hr
    cases hr
def xMin (own : String) (idx : Nat) : Prop := Cond.methodLink own idx Lib.Math.min.name ∈ xgt ∧ Cond.static Lib.Math.min.name ∈ xgt ∧ Cond.initialized "java/lang/Math" ∈ xgt ∧ Cond.code Lib.Math.min.name Lib.Math.min.code 2 (some .int) ∈ xgt
def xMax (own : String) (idx : Nat) : Prop := Cond.methodLink own idx Lib.Math.max.name ∈ xgt ∧ Cond.static Lib.Math.max.name ∈ xgt ∧ Cond.initialized "java/lang/Math" ∈ xgt ∧ Cond.code Lib.Math.max.name Lib.Math.max.code 2 (some .int) ∈ xgt
theorem r_mmin {idx : Nat} {x y : Int32} (hd : decode F.2.1 pc = .ok (.invokestatic idx, 3)) (hw : xMin F.1 idx) (hdd : 1 ≤ d) (hr0 : (st.map fun v => v.category).sum ≤ 8) (K : Rn G d F cv (pc + 3) ls (.int (xmin x y) :: st) h o) : Rn G d F cv pc ls (.int y :: .int x :: st) h o := by
  intro r hr p l e s m args below meth c H locs lsA C hP hS hv
  obtain ⟨hx, hcb, -, hml, hown, hts, -, -, hK, hI, -⟩ := id C
  exact va_mmin hx hcb (hml.trans hv.1.symm) hown (hts _ hw.1) (hts _ hw.2.1) (hts _ hw.2.2.1) (hts _ hw.2.2.2) hdd (by show _ ≤ 40 * d; omega) (Nat.le_refl 0) (Nat.le_refl 0) hd (K r hr p l e s m args below meth c H locs lsA C hP hS hv)
theorem r_mmax {idx : Nat} {x y : Int32} (hd : decode F.2.1 pc = .ok (.invokestatic idx, 3)) (hw : xMax F.1 idx) (hdd : 1 ≤ d) (hr0 : (st.map fun v => v.category).sum ≤ 8) (K : Rn G d F cv (pc + 3) ls (.int (xmax x y) :: st) h o) : Rn G d F cv pc ls (.int y :: .int x :: st) h o := by
  intro r hr p l e s m args below meth c H locs lsA C hP hS hv
  obtain ⟨hx, hcb, -, hml, hown, hts, -, -, hK, hI, -⟩ := id C
  exact va_mmax hx hcb (hml.trans hv.1.symm) hown (hts _ hw.1) (hts _ hw.2.1) (hts _ hw.2.2.1) (hts _ hw.2.2.2) hdd (by show _ ≤ 40 * d; omega) (Nat.le_refl 0) (Nat.le_refl 0) hd (K r hr p l e s m args below meth c H locs lsA C hP hS hv)
theorem r_tg {ci k : Nat} (K : xTy k ci → Rn G d F cv pc ls st h o) : Rn G d F cv pc ls st h (tg ci k o) := by
  intro r hr
  by_cases q : k < xNC ∧ xkd k = ci
  · rw [tg, if_pos q] at hr
    exact K q r hr
  · rw [tg, if_neg q] at hr
    cases hr
end XH
section XS
variable {α : Type} {G : xG} {d : Nat} {F : xF} {cv : α → Option Value} {pc : Nat} {ls : List (Nat × Value)} {st : List Value} {h : Mem} {o o1 o2 : Option (α × Mem)}
theorem r_tabI {dflt lo hi : Int} {offs : Array Int} {len : Nat} {off : Int} {tgt : Nat} {x : Int32} (k : Int32) (hd : decode F.2.1 pc = .ok (.tableswitch dflt lo hi offs, len)) (hlo : ¬ k.toInt < lo) (hhi : ¬ hi < k.toInt) (ho : offs[(k.toInt - lo).toNat]? = some off) (ht : (pc : Int) + off = (tgt : Int)) (K1 : Rn G d F cv tgt ls st h o1) (K2 : ¬ x = k → Rn G d F cv pc ls (.int x :: st) h o2) : Rn G d F cv pc ls (.int x :: st) h (if x = k then o1 else o2) := by
  intro r hr p l e s m args below meth c H locs lsA C hP hS hv
  by_cases q : x = k
  · rw [if_pos q] at hr
    subst q
    exact lv_tableIn C.1 C.2.1 hd hlo hhi ho ht (K1 r hr p l e s m args below meth c H locs lsA C hP hS hv)
  · rw [if_neg q] at hr
    exact K2 q r hr p l e s m args below meth c H locs lsA C hP hS hv
theorem r_tabD {dflt lo hi : Int} {offs : Array Int} {len : Nat} {tgt : Nat} {x : Int32} (hd : decode F.2.1 pc = .ok (.tableswitch dflt lo hi offs, len)) (hx : x.toInt < lo ∨ hi < x.toInt) (ht : (pc : Int) + dflt = (tgt : Int)) (K : Rn G d F cv tgt ls st h o) : Rn G d F cv pc ls (.int x :: st) h o :=
  fun r hr p l e s m args below meth c H locs lsA C hP hS hv => lv_tableOut C.1 C.2.1 hd hx ht (K r hr p l e s m args below meth c H locs lsA C hP hS hv)
theorem r_lokI {dflt : Int} {ps : Array (Int × Int)} {len : Nat} {off : Int} {tgt : Nat} {x : Int32} (k : Int32) (hd : decode F.2.1 pc = .ok (.lookupswitch dflt ps, len)) (hp : (ps.toList.zip (ps.toList.drop 1)).all (fun (a, next) => a.1 < next.1) = true) (ho : Op.lookupswitch.offset ps.toList dflt k.toInt = off) (ht : (pc : Int) + off = (tgt : Int)) (K1 : Rn G d F cv tgt ls st h o1) (K2 : ¬ x = k → Rn G d F cv pc ls (.int x :: st) h o2) : Rn G d F cv pc ls (.int x :: st) h (if x = k then o1 else o2) := by
  intro r hr p l e s m args below meth c H locs lsA C hP hS hv
  by_cases q : x = k
  · rw [if_pos q] at hr
    subst q
    exact lv_lookup C.1 C.2.1 hd hp ho ht (K1 r hr p l e s m args below meth c H locs lsA C hP hS hv)
  · rw [if_neg q] at hr
    exact K2 q r hr p l e s m args below meth c H locs lsA C hP hS hv
theorem r_lokD {dflt : Int} {ps : Array (Int × Int)} {len : Nat} {tgt : Nat} {x : Int32} (hd : decode F.2.1 pc = .ok (.lookupswitch dflt ps, len)) (hp : (ps.toList.zip (ps.toList.drop 1)).all (fun (a, next) => a.1 < next.1) = true) (ho : Op.lookupswitch.offset ps.toList dflt x.toInt = dflt) (ht : (pc : Int) + dflt = (tgt : Int)) (K : Rn G d F cv tgt ls st h o) : Rn G d F cv pc ls (.int x :: st) h o :=
  fun r hr p l e s m args below meth c H locs lsA C hP hS hv => lv_lookup C.1 C.2.1 hd hp ho ht (K r hr p l e s m args below meth c H locs lsA C hP hS hv)
end XS
section XT
variable {G : xG} {d : Nat} {F : xF} {pc : Nat} {ls : List (Nat × Value)} {h : Mem}
theorem r_ret (hd : decode F.2.1 pc = .ok (.return_, 1)) (hf : F.2.2.2 = none) : Rn G d F xcV pc ls [] h (some ((), h)) := by
  intro r hr p l e s m args below meth c H locs lsA C hP hS hv
  cases hr
  have hlocks := C.2.2.2.2.2.2.2.1
  exact W.vret C.1 C.2.1 (C.2.2.1.trans hf) (fun t ht _ => ⟨rfl, by rw [ht]; exact hP, hS.F ht⟩) hS.2.2 hd hlocks
theorem r_iret {v : Int32} (hd : decode F.2.1 pc = .ok (.ireturn, 1)) (hf : F.2.2.2 = some .int) : Rn G d F xcI pc ls [.int v] h (some (v, h)) := by
  intro r hr p l e s m args below meth c H locs lsA C hP hS hv
  cases hr
  have hlocks := C.2.2.2.2.2.2.2.1
  exact W.iret C.1 C.2.1 (C.2.2.1.trans hf) (fun t ht _ => ⟨rfl, by rw [ht]; exact hP, hS.F ht⟩) hS.2.2 hd hlocks
theorem r_zret1 {v : Int32} (hd : decode F.2.1 pc = .ok (.ireturn, 1)) (hf : F.2.2.2 = some .boolean) (hz : v = 0 ∨ v = 1) : Rn G d F xcI pc ls [.int v] h (some (v, h)) := by
  intro r hr p l e s m args below meth c H locs lsA C hP hS hv
  cases hr
  have hlocks := C.2.2.2.2.2.2.2.1
  exact W.zret C.1 C.2.1 (C.2.2.1.trans hf) (xz_ok hz).1 (fun t ht _ => ⟨rfl, by rw [ht]; exact hP, hS.F ht⟩) hS.2.2 hd hlocks
theorem r_zret {v : Int32} (hd : decode F.2.1 pc = .ok (.ireturn, 1)) (hf : F.2.2.2 = some .boolean) : Rn G d F xcI pc ls [.int v] h (zg v (some (v, h))) := by
  intro r hr
  by_cases hz : v = 0 ∨ v = 1
  · rw [zg, if_pos hz] at hr
    exact r_zret1 hd hf hz r hr
  · rw [zg, if_neg hz] at hr
    cases hr
theorem r_aret {k : Nat} {n : String} (hd : decode F.2.1 pc = .ok (.areturn, 1)) (hf : F.2.2.2 = some (.object n)) : Rn G d F (xcR G) pc ls [.ref (G.1 k)] h (some (k, h)) := by
  intro r hr p l e s m args below meth c H locs lsA C hP hS hv
  cases hr
  have hlocks := C.2.2.2.2.2.2.2.1
  exact W.aret C.1 C.2.1 (C.2.2.1.trans hf) (Or.inl ⟨n, rfl⟩) (Or.inr ⟨_, rfl⟩) (fun t ht _ => ⟨rfl, by rw [ht]; exact hP, hS.F ht⟩) hS.2.2 hd hlocks
end XT
/-! calls -/
def xMI (y : MethodName) (F : xF) (n : Nat) : Prop := (Cond.code y F.2.1 F.2.2.1 F.2.2.2 ∈ xgt ∧ Cond.instanceMethod y ∈ xgt ∧ Cond.selects y.cls y y ∈ xgt ∧ Cond.initialized y.cls ∈ xgt) ∧ (y.cls ≠ "java/lang/invoke/MethodHandle" ∧ y.cls ≠ "java/lang/invoke/VarHandle" ∧ (parseMethodDescriptor y.desc).map (fun d => d.parameters.length) = some n) ∧ F.2.2.1 ≤ 21
def xMS (y : MethodName) (F : xF) (n : Nat) : Prop := (Cond.code y F.2.1 F.2.2.1 F.2.2.2 ∈ xgt ∧ Cond.static y ∈ xgt ∧ Cond.initialized y.cls ∈ xgt) ∧ (y.cls ≠ "java/lang/invoke/MethodHandle" ∧ y.cls ≠ "java/lang/invoke/VarHandle" ∧ (parseMethodDescriptor y.desc).map (fun d => d.parameters.length) = some n) ∧ F.2.2.1 ≤ 21
def xLk (own : String) (idx : Nat) (y : MethodName) : Prop := Cond.methodLink own idx y ∈ xgt ∨ ∃ host, Cond.methodLinkNest own idx y host ∈ xnest
theorem xPx_blind {G : xG} {as : List Value} {h : Mem} : FrameBlind (xPx G as h) := by
  intro a U g mk q
  obtain ⟨q0, q1, q2, q3, q4, q5⟩ := q
  exact ⟨q0, q1, va_K.moved (u := U) (U := U.calling g mk a) (Vm.Alike.refl U.vm) q2, xNest.same (u := U) rfl q3, xStr.same (u := U) rfl rfl q4, q5⟩
theorem xPx_of {G : xG} {F : xF} {p : Program} {s : State} {m : MethodId} {args : Array Value} {meth : Method} {c : Code} {h : Mem} {H : Heap} {locs : List Loc} {as : List Value} (C : xCx G F p s m args meth c) (hP : va_P G.2.1 vwCl (xwl G h) H) (hS : va_S (xA G) s.heap H locs) : ∀ U : State, U.heap = H → s.WarmedH U.vm → xPx G as h as.toArray U := by
  intro U hU hW
  obtain ⟨-, -, -, -, -, -, hN, -, hK, hI, hSt⟩ := C
  exact ⟨rfl, by rw [hU]; exact hP, va_K.moved hW.alike hK, hN.warm hW, hSt.warm hW (by rw [hU]; exact hS.2.1), hI⟩
theorem xgo {α β : Type} {G : xG} {d : Nat} {F : xF} {cv : α → Option Value} {cvy : β → Option Value} {pc : Nat} {ls : List (Nat × Value)} {st rest : List Value} {r : α × Mem} {u : β × Mem} {p : Program} {l : Launch} {e : Env} {s : State} {m : MethodId} {args : Array Value} {below : List Frame} {meth : Method} {c : Code} {H : Heap} {locs : List Loc} {lsA : Array Slot} {a : Array Value} {kk : β → Mem → Option (α × Mem)}
    (R : va_Run p l e (xrm d) s m args below meth c H locs 0 0 0 0 (F0 m pc lsA st) rest (xQx G cvy u a) (xA G)) (hr : kk u.1 u.2 = some r) (C : xCx G F p s m args meth c) (hS : va_S (xA G) s.heap H locs) (hv : lv_has lsA F.2.2.1 ls) (K : ∀ v h1, Rn G d F cv (pc + 3) ls ((cvy v).toList ++ rest) h1 (kk v h1)) :
    W p l e (xrm d) s m args below meth c H locs 0 0 (MQ below (xQx G cv r) args s 0 0 (xA G)) (F0 m pc lsA st) := by
  intro T hT X
  obtain ⟨v, st₀, t, T', L, h0, X', hL, e1, e2, ⟨hq1, hq2, hz, hk⟩, go⟩ := R T hT X
  cases hq1
  rw [h0] at hz hk
  have hS' : va_S (xA G) s.heap T'.heap (locs ++ L) := by
    refine ⟨Nat.le_trans hS.1 (by rw [e1]; exact hz), fun q h1 h2 => ?_, fun q hq => ?_⟩
    · rw [e1, hk q (Nat.lt_of_lt_of_le h1 hS.1) h2]
      exact hS.2.1 q h1 h2
    · rcases List.mem_append.mp hq with z | z
      · exact hS.2.2 q z
      · exact hL q z
  obtain ⟨t2, a1, b1⟩ := K u.1 u.2 r hr p l e s m args below meth c T'.heap (locs ++ L) lsA C (by rw [e1]; exact hq2) hS' hv T' rfl X'
  exact ⟨t2, go t2 a1, b1⟩
theorem r_callV {α β : Type} {G : xG} {d d' : Nat} {F Fy : xF} {cv : α → Option Value} {cvy : β → Option Value} {pc idx n k ci N : Nat} {T : u_T} {y : MethodName} {ls : List (Nat × Value)} {st rest As : List Value} {h : Mem} {oy : Option (β × Mem)} {kk : β → Mem → Option (α × Mem)}
    (hd : decode F.2.1 pc = .ok (.invokevirtual idx, 3)) (hm : xMI y Fy n) (hl : xLk F.1 idx y) (hc : vwCl[ci]? = some (y.cls, T, N)) (hci : ci < 8) (ht : xTy k ci) (S : Sm G d' y Fy cvy (.ref (G.1 k) :: As) h oy) (hdd : d' + 1 ≤ d) (hn : As.length = n) (hst : st = As.reverse ++ .ref (G.1 k) :: rest) (hW : (rest.map fun v => v.category).sum ≤ 8)
    (K : ∀ v h1, Rn G d F cv (pc + 3) ls ((cvy v).toList ++ rest) h1 (kk v h1)) : Rn G d F cv pc ls st h (b2 oy kk) := by
  intro r hr p l e s m args below meth c H locs lsA C hP hS hv
  cases oy with
  | none => cases hr
  | some u =>
    have hM := S u rfl l
    obtain ⟨⟨w1, w2, w3, w4⟩, hds, h21⟩ := hm
    obtain ⟨hx, hcb, -, hml, hown, hts, hN, -, hK, hI, -⟩ := id C
    have hG : GoodIn xgt (Cond.code y Fy.2.1 Fy.2.2.1 Fy.2.2.2 :: xgt) := fun w hw => (List.mem_cons.mp hw).elim (fun q => by rw [q]; exact xgt_good _ w1) (fun q => xgt_good w q)
    have hR : (xrm d').frames + 1 ≤ (xrm d).frames ∧ 8 + (Fy.2.2.1 + 11) + (xrm d').locals ≤ (xrm d).locals := ⟨hdd, by show _ + 40 * d' ≤ 40 * d; omega⟩
    have he : (xwl G h)[k]? = some (G.1 k, .inr (ci, xfl G.1 h k (xfs ci) 0)) := by rw [xwl_get G h ht.1, xE_obj ht hci]
    have hpre : PreV s H y.cls (G.1 k) (xPx G (.ref (G.1 k) :: As) h) As := ⟨xPx_blind, va_recv hK hP hc he, xPx_of C hP hS⟩
    subst hst
    rcases hl with hl | ⟨host, hl⟩
    · exact xgo (va_runV (As := As) (rest := rest) ⟨hx, hcb, hml, hown, hts⟩ hM ⟨callB_of n hts hG rfl rfl rfl (hts _ w4) (hts _ hl) hds hR, hts _ w2, hts _ w3⟩ hpre rfl hn hv.1 rfl (lv_room hW) hd ⟨Nat.le_refl 0, Nat.le_refl 0⟩) hr C hS hv K
    · exact xgo (va_runVN (As := As) (rest := rest) ⟨hx, hcb, hml, hown, hts⟩ hM ⟨va_cnB n hts hG rfl rfl rfl (hN _ hl) (hts _ w4) hds hR, hts _ w2, hts _ w3⟩ hpre rfl hn hv.1 rfl (lv_room hW) hd ⟨Nat.le_refl 0, Nat.le_refl 0⟩) hr C hS hv K
theorem r_callS {α β : Type} {G : xG} {d d' : Nat} {F Fy : xF} {cv : α → Option Value} {cvy : β → Option Value} {pc idx n : Nat} {y : MethodName} {ls : List (Nat × Value)} {st rest As : List Value} {h : Mem} {oy : Option (β × Mem)} {kk : β → Mem → Option (α × Mem)}
    (hd : decode F.2.1 pc = .ok (.invokestatic idx, 3)) (hm : xMS y Fy n) (hl : xLk F.1 idx y) (S : Sm G d' y Fy cvy As h oy) (hdd : d' + 1 ≤ d) (hn : As.length = n) (hst : st = As.reverse ++ rest) (hW : (rest.map fun v => v.category).sum ≤ 8)
    (K : ∀ v h1, Rn G d F cv (pc + 3) ls ((cvy v).toList ++ rest) h1 (kk v h1)) : Rn G d F cv pc ls st h (b2 oy kk) := by
  intro r hr p l e s m args below meth c H locs lsA C hP hS hv
  cases oy with
  | none => cases hr
  | some u =>
    have hM := S u rfl l
    obtain ⟨⟨w1, w2, w4⟩, hds, h21⟩ := hm
    obtain ⟨hx, hcb, -, hml, hown, hts, hN, -, hK, hI, -⟩ := id C
    have hG : GoodIn xgt (Cond.code y Fy.2.1 Fy.2.2.1 Fy.2.2.2 :: xgt) := fun w hw => (List.mem_cons.mp hw).elim (fun q => by rw [q]; exact xgt_good _ w1) (fun q => xgt_good w q)
    have hR : (xrm d').frames + 1 ≤ (xrm d).frames ∧ 8 + (Fy.2.2.1 + 11) + (xrm d').locals ≤ (xrm d).locals := ⟨hdd, by show _ + 40 * d' ≤ 40 * d; omega⟩
    have hpre : PreS s H (xPx G As h) As := ⟨xPx_blind, xPx_of C hP hS⟩
    subst hst
    rcases hl with hl | ⟨host, hl⟩
    · exact xgo (va_runS (As := As) (rest := rest) ⟨hx, hcb, hml, hown, hts⟩ hM ⟨callB_of n hts hG rfl rfl rfl (hts _ w4) (hts _ hl) hds hR, hts _ w2⟩ hpre rfl hn hv.1 rfl (lv_room hW) hd ⟨Nat.le_refl 0, Nat.le_refl 0⟩) hr C hS hv K
    · exact xgo (va_runSN (As := As) (rest := rest) ⟨hx, hcb, hml, hown, hts⟩ hM ⟨va_cnB n hts hG rfl rfl rfl (hN _ hl) (hts _ w4) hds hR, hts _ w2, trivial⟩ hpre rfl hn hv.1 rfl (lv_room hW) hd ⟨Nat.le_refl 0, Nat.le_refl 0⟩) hr C hS hv K
end
