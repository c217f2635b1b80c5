section
-- ===== PART A: goes FIRST, ahead of the names: the tables' words, and 'selects' of the private methods out of them =====
/-- a private method of a class that the tables say can be made, by its rows of tables_1 -/
def lw_okq (q : MethodName × Nat) : Prop := (q.1.cls ≠ "java/lang/invoke/MethodHandle" ∧ q.1.cls ≠ "java/lang/invoke/VarHandle") ∧ Cond.instantiable q.1.cls q.2 ∈ tables_1 ∧ Cond.privateMethod q.1 ∈ tables_1 ∧ Cond.instanceMethod q.1 ∈ tables_1
theorem lw_p0 : lw_okq (⟨"ThinkingArms", "isSheet", "(I)Z"⟩, 9) := ⟨⟨by decide +kernel, by decide +kernel⟩, List.mem_of_getElem? (i := 17) (by decide +kernel), List.mem_of_getElem? (i := 324) (by decide +kernel), List.mem_of_getElem? (i := 325) (by decide +kernel)⟩
theorem lw_p1 : lw_okq (⟨"ThinkingArms$Sea", "lay", "(II)V"⟩, 9) := ⟨⟨by decide +kernel, by decide +kernel⟩, List.mem_of_getElem? (i := 25) (by decide +kernel), List.mem_of_getElem? (i := 396) (by decide +kernel), List.mem_of_getElem? (i := 397) (by decide +kernel)⟩
theorem lw_p2 : lw_okq (⟨"ThinkingArms", "isPiece", "(II)Z"⟩, 9) := ⟨⟨by decide +kernel, by decide +kernel⟩, List.mem_of_getElem? (i := 17) (by decide +kernel), List.mem_of_getElem? (i := 404) (by decide +kernel), List.mem_of_getElem? (i := 405) (by decide +kernel)⟩
theorem lw_p3 : lw_okq (⟨"ThinkingArms", "isArm", "(I)Z"⟩, 9) := ⟨⟨by decide +kernel, by decide +kernel⟩, List.mem_of_getElem? (i := 17) (by decide +kernel), List.mem_of_getElem? (i := 408) (by decide +kernel), List.mem_of_getElem? (i := 409) (by decide +kernel)⟩
theorem lw_p4 : lw_okq (⟨"ThinkingArms", "isThing", "(I)Z"⟩, 9) := ⟨⟨by decide +kernel, by decide +kernel⟩, List.mem_of_getElem? (i := 17) (by decide +kernel), List.mem_of_getElem? (i := 428) (by decide +kernel), List.mem_of_getElem? (i := 429) (by decide +kernel)⟩
theorem lw_p5 : lw_okq (⟨"ThinkingArms$Sea", "turned", "(II)I"⟩, 9) := ⟨⟨by decide +kernel, by decide +kernel⟩, List.mem_of_getElem? (i := 25) (by decide +kernel), List.mem_of_getElem? (i := 461) (by decide +kernel), List.mem_of_getElem? (i := 462) (by decide +kernel)⟩
theorem lw_p6 : lw_okq (⟨"ThinkingArms$Sea", "flipped", "(III)I"⟩, 9) := ⟨⟨by decide +kernel, by decide +kernel⟩, List.mem_of_getElem? (i := 25) (by decide +kernel), List.mem_of_getElem? (i := 466) (by decide +kernel), List.mem_of_getElem? (i := 467) (by decide +kernel)⟩
theorem lw_p7 : lw_okq (⟨"ThinkingArms$RuleReader", "goTo", "(I)V"⟩, 5) := ⟨⟨by decide +kernel, by decide +kernel⟩, List.mem_of_getElem? (i := 163) (by decide +kernel), List.mem_of_getElem? (i := 489) (by decide +kernel), List.mem_of_getElem? (i := 490) (by decide +kernel)⟩
theorem lw_p8 : lw_okq (⟨"ThinkingArms$RuleReader", "readClause", "()LThinkingArms$Clause;"⟩, 5) := ⟨⟨by decide +kernel, by decide +kernel⟩, List.mem_of_getElem? (i := 163) (by decide +kernel), List.mem_of_getElem? (i := 512) (by decide +kernel), List.mem_of_getElem? (i := 513) (by decide +kernel)⟩
theorem lw_p9 : lw_okq (⟨"ThinkingArms$RuleReader", "readTest", "(I)LThinkingArms$Claim;"⟩, 5) := ⟨⟨by decide +kernel, by decide +kernel⟩, List.mem_of_getElem? (i := 163) (by decide +kernel), List.mem_of_getElem? (i := 541) (by decide +kernel), List.mem_of_getElem? (i := 542) (by decide +kernel)⟩
theorem lw_p10 : lw_okq (⟨"ThinkingArms$RuleReader", "readClaim", "(I)LThinkingArms$Claim;"⟩, 5) := ⟨⟨by decide +kernel, by decide +kernel⟩, List.mem_of_getElem? (i := 163) (by decide +kernel), List.mem_of_getElem? (i := 545) (by decide +kernel), List.mem_of_getElem? (i := 546) (by decide +kernel)⟩
theorem lw_p11 : lw_okq (⟨"ThinkingArms$RuleReader", "takes", "(I)Z"⟩, 5) := ⟨⟨by decide +kernel, by decide +kernel⟩, List.mem_of_getElem? (i := 163) (by decide +kernel), List.mem_of_getElem? (i := 576) (by decide +kernel), List.mem_of_getElem? (i := 577) (by decide +kernel)⟩
theorem lw_p12 : lw_okq (⟨"ThinkingArms$RuleReader", "need", "(I)V"⟩, 5) := ⟨⟨by decide +kernel, by decide +kernel⟩, List.mem_of_getElem? (i := 163) (by decide +kernel), List.mem_of_getElem? (i := 580) (by decide +kernel), List.mem_of_getElem? (i := 581) (by decide +kernel)⟩
theorem lw_p13 : lw_okq (⟨"ThinkingArms$RuleReader", "fail", "()V"⟩, 5) := ⟨⟨by decide +kernel, by decide +kernel⟩, List.mem_of_getElem? (i := 163) (by decide +kernel), List.mem_of_getElem? (i := 584) (by decide +kernel), List.mem_of_getElem? (i := 585) (by decide +kernel)⟩
theorem lw_p14 : lw_okq (⟨"ThinkingArms$RuleReader", "readSense", "()I"⟩, 5) := ⟨⟨by decide +kernel, by decide +kernel⟩, List.mem_of_getElem? (i := 163) (by decide +kernel), List.mem_of_getElem? (i := 588) (by decide +kernel), List.mem_of_getElem? (i := 589) (by decide +kernel)⟩
theorem lw_p15 : lw_okq (⟨"ThinkingArms$RuleReader", "readDigit", "()I"⟩, 5) := ⟨⟨by decide +kernel, by decide +kernel⟩, List.mem_of_getElem? (i := 163) (by decide +kernel), List.mem_of_getElem? (i := 592) (by decide +kernel), List.mem_of_getElem? (i := 593) (by decide +kernel)⟩
def lw_privs_1 : List (MethodName × Nat) := [(⟨"ThinkingArms", "isSheet", "(I)Z"⟩, 9), (⟨"ThinkingArms$Sea", "lay", "(II)V"⟩, 9), (⟨"ThinkingArms", "isPiece", "(II)Z"⟩, 9), (⟨"ThinkingArms", "isArm", "(I)Z"⟩, 9), (⟨"ThinkingArms", "isThing", "(I)Z"⟩, 9), (⟨"ThinkingArms$Sea", "turned", "(II)I"⟩, 9), (⟨"ThinkingArms$Sea", "flipped", "(III)I"⟩, 9), (⟨"ThinkingArms$RuleReader", "goTo", "(I)V"⟩, 5), (⟨"ThinkingArms$RuleReader", "readClause", "()LThinkingArms$Clause;"⟩, 5), (⟨"ThinkingArms$RuleReader", "readTest", "(I)LThinkingArms$Claim;"⟩, 5), (⟨"ThinkingArms$RuleReader", "readClaim", "(I)LThinkingArms$Claim;"⟩, 5), (⟨"ThinkingArms$RuleReader", "takes", "(I)Z"⟩, 5), (⟨"ThinkingArms$RuleReader", "need", "(I)V"⟩, 5), (⟨"ThinkingArms$RuleReader", "fail", "()V"⟩, 5), (⟨"ThinkingArms$RuleReader", "readSense", "()I"⟩, 5), (⟨"ThinkingArms$RuleReader", "readDigit", "()I"⟩, 5)]
theorem lw_r1 : ∀ q ∈ lw_privs_1, lw_okq q := List.forall_mem_cons.mpr ⟨lw_p0, List.forall_mem_cons.mpr ⟨lw_p1, List.forall_mem_cons.mpr ⟨lw_p2, List.forall_mem_cons.mpr ⟨lw_p3, List.forall_mem_cons.mpr ⟨lw_p4, List.forall_mem_cons.mpr ⟨lw_p5, List.forall_mem_cons.mpr ⟨lw_p6, List.forall_mem_cons.mpr ⟨lw_p7, List.forall_mem_cons.mpr ⟨lw_p8, List.forall_mem_cons.mpr ⟨lw_p9, List.forall_mem_cons.mpr ⟨lw_p10, List.forall_mem_cons.mpr ⟨lw_p11, List.forall_mem_cons.mpr ⟨lw_p12, List.forall_mem_cons.mpr ⟨lw_p13, List.forall_mem_cons.mpr ⟨lw_p14, List.forall_mem_cons.mpr ⟨lw_p15, fun _ h => absurd h List.not_mem_nil⟩⟩⟩⟩⟩⟩⟩⟩⟩⟩⟩⟩⟩⟩⟩⟩
theorem lw_p16 : lw_okq (⟨"ThinkingArms$RuleReader", "readAct", "(LThinkingArms$Clause;)V"⟩, 5) := ⟨⟨by decide +kernel, by decide +kernel⟩, List.mem_of_getElem? (i := 163) (by decide +kernel), List.mem_of_getElem? (i := 597) (by decide +kernel), List.mem_of_getElem? (i := 598) (by decide +kernel)⟩
theorem lw_p17 : lw_okq (⟨"ThinkingArms$Sea", "senses", "(LThinkingArms$Arm;I)I"⟩, 9) := ⟨⟨by decide +kernel, by decide +kernel⟩, List.mem_of_getElem? (i := 25) (by decide +kernel), List.mem_of_getElem? (i := 624) (by decide +kernel), List.mem_of_getElem? (i := 625) (by decide +kernel)⟩
theorem lw_p18 : lw_okq (⟨"ThinkingArms$Sea", "doActs", "(II)I"⟩, 9) := ⟨⟨by decide +kernel, by decide +kernel⟩, List.mem_of_getElem? (i := 25) (by decide +kernel), List.mem_of_getElem? (i := 641) (by decide +kernel), List.mem_of_getElem? (i := 642) (by decide +kernel)⟩
theorem lw_p19 : lw_okq (⟨"ThinkingArms$Sea", "grab", "(II)V"⟩, 9) := ⟨⟨by decide +kernel, by decide +kernel⟩, List.mem_of_getElem? (i := 25) (by decide +kernel), List.mem_of_getElem? (i := 646) (by decide +kernel), List.mem_of_getElem? (i := 647) (by decide +kernel)⟩
theorem lw_p20 : lw_okq (⟨"ThinkingArms$Sea", "lyingAt", "(I)I"⟩, 9) := ⟨⟨by decide +kernel, by decide +kernel⟩, List.mem_of_getElem? (i := 25) (by decide +kernel), List.mem_of_getElem? (i := 650) (by decide +kernel), List.mem_of_getElem? (i := 651) (by decide +kernel)⟩
theorem lw_p21 : lw_okq (⟨"ThinkingArms$Sea", "lift", "(I)V"⟩, 9) := ⟨⟨by decide +kernel, by decide +kernel⟩, List.mem_of_getElem? (i := 25) (by decide +kernel), List.mem_of_getElem? (i := 654) (by decide +kernel), List.mem_of_getElem? (i := 655) (by decide +kernel)⟩
theorem lw_p22 : lw_okq (⟨"ThinkingArms$Sea", "give", "(III)V"⟩, 9) := ⟨⟨by decide +kernel, by decide +kernel⟩, List.mem_of_getElem? (i := 25) (by decide +kernel), List.mem_of_getElem? (i := 658) (by decide +kernel), List.mem_of_getElem? (i := 659) (by decide +kernel)⟩
theorem lw_p23 : lw_okq (⟨"ThinkingArms$Sea", "passOn", "(II)V"⟩, 9) := ⟨⟨by decide +kernel, by decide +kernel⟩, List.mem_of_getElem? (i := 25) (by decide +kernel), List.mem_of_getElem? (i := 662) (by decide +kernel), List.mem_of_getElem? (i := 663) (by decide +kernel)⟩
theorem lw_p24 : lw_okq (⟨"ThinkingArms$Sea", "letGo", "(LThinkingArms$Arm;I)V"⟩, 9) := ⟨⟨by decide +kernel, by decide +kernel⟩, List.mem_of_getElem? (i := 25) (by decide +kernel), List.mem_of_getElem? (i := 666) (by decide +kernel), List.mem_of_getElem? (i := 667) (by decide +kernel)⟩
theorem lw_p25 : lw_okq (⟨"ThinkingArms", "refusesReach", "(I)I"⟩, 9) := ⟨⟨by decide +kernel, by decide +kernel⟩, List.mem_of_getElem? (i := 17) (by decide +kernel), List.mem_of_getElem? (i := 691) (by decide +kernel), List.mem_of_getElem? (i := 692) (by decide +kernel)⟩
theorem lw_p26 : lw_okq (⟨"ThinkingArms$Reaching", "layOut", "(I)J"⟩, 11) := ⟨⟨by decide +kernel, by decide +kernel⟩, List.mem_of_getElem? (i := 187) (by decide +kernel), List.mem_of_getElem? (i := 700) (by decide +kernel), List.mem_of_getElem? (i := 701) (by decide +kernel)⟩
theorem lw_p27 : lw_okq (⟨"ThinkingArms$Reaching", "searchAnew", "()V"⟩, 11) := ⟨⟨by decide +kernel, by decide +kernel⟩, List.mem_of_getElem? (i := 187) (by decide +kernel), List.mem_of_getElem? (i := 706) (by decide +kernel), List.mem_of_getElem? (i := 707) (by decide +kernel)⟩
theorem lw_p28 : lw_okq (⟨"ThinkingArms$Reaching", "see", "(II)V"⟩, 11) := ⟨⟨by decide +kernel, by decide +kernel⟩, List.mem_of_getElem? (i := 187) (by decide +kernel), List.mem_of_getElem? (i := 718) (by decide +kernel), List.mem_of_getElem? (i := 719) (by decide +kernel)⟩
theorem lw_p29 : lw_okq (⟨"ThinkingArms$Reaching", "goOnFrom", "(II)V"⟩, 11) := ⟨⟨by decide +kernel, by decide +kernel⟩, List.mem_of_getElem? (i := 187) (by decide +kernel), List.mem_of_getElem? (i := 722) (by decide +kernel), List.mem_of_getElem? (i := 723) (by decide +kernel)⟩
theorem lw_p30 : lw_okq (⟨"ThinkingArms$Reaching", "seeFlip", "(IIJI)V"⟩, 11) := ⟨⟨by decide +kernel, by decide +kernel⟩, List.mem_of_getElem? (i := 187) (by decide +kernel), List.mem_of_getElem? (i := 726) (by decide +kernel), List.mem_of_getElem? (i := 727) (by decide +kernel)⟩
theorem lw_p31 : lw_okq (⟨"ThinkingArms$Reaching", "seeTurns", "(IJI)V"⟩, 11) := ⟨⟨by decide +kernel, by decide +kernel⟩, List.mem_of_getElem? (i := 187) (by decide +kernel), List.mem_of_getElem? (i := 730) (by decide +kernel), List.mem_of_getElem? (i := 731) (by decide +kernel)⟩
def lw_privs_2 : List (MethodName × Nat) := [(⟨"ThinkingArms$RuleReader", "readAct", "(LThinkingArms$Clause;)V"⟩, 5), (⟨"ThinkingArms$Sea", "senses", "(LThinkingArms$Arm;I)I"⟩, 9), (⟨"ThinkingArms$Sea", "doActs", "(II)I"⟩, 9), (⟨"ThinkingArms$Sea", "grab", "(II)V"⟩, 9), (⟨"ThinkingArms$Sea", "lyingAt", "(I)I"⟩, 9), (⟨"ThinkingArms$Sea", "lift", "(I)V"⟩, 9), (⟨"ThinkingArms$Sea", "give", "(III)V"⟩, 9), (⟨"ThinkingArms$Sea", "passOn", "(II)V"⟩, 9), (⟨"ThinkingArms$Sea", "letGo", "(LThinkingArms$Arm;I)V"⟩, 9), (⟨"ThinkingArms", "refusesReach", "(I)I"⟩, 9), (⟨"ThinkingArms$Reaching", "layOut", "(I)J"⟩, 11), (⟨"ThinkingArms$Reaching", "searchAnew", "()V"⟩, 11), (⟨"ThinkingArms$Reaching", "see", "(II)V"⟩, 11), (⟨"ThinkingArms$Reaching", "goOnFrom", "(II)V"⟩, 11), (⟨"ThinkingArms$Reaching", "seeFlip", "(IIJI)V"⟩, 11), (⟨"ThinkingArms$Reaching", "seeTurns", "(IJI)V"⟩, 11)]
theorem lw_r2 : ∀ q ∈ lw_privs_2, lw_okq q := List.forall_mem_cons.mpr ⟨lw_p16, List.forall_mem_cons.mpr ⟨lw_p17, List.forall_mem_cons.mpr ⟨lw_p18, List.forall_mem_cons.mpr ⟨lw_p19, List.forall_mem_cons.mpr ⟨lw_p20, List.forall_mem_cons.mpr ⟨lw_p21, List.forall_mem_cons.mpr ⟨lw_p22, List.forall_mem_cons.mpr ⟨lw_p23, List.forall_mem_cons.mpr ⟨lw_p24, List.forall_mem_cons.mpr ⟨lw_p25, List.forall_mem_cons.mpr ⟨lw_p26, List.forall_mem_cons.mpr ⟨lw_p27, List.forall_mem_cons.mpr ⟨lw_p28, List.forall_mem_cons.mpr ⟨lw_p29, List.forall_mem_cons.mpr ⟨lw_p30, List.forall_mem_cons.mpr ⟨lw_p31, fun _ h => absurd h List.not_mem_nil⟩⟩⟩⟩⟩⟩⟩⟩⟩⟩⟩⟩⟩⟩⟩⟩
theorem lw_p32 : lw_okq (⟨"ThinkingArms$WordSearch", "isEatenBy", "(II)Z"⟩, 5) := ⟨⟨by decide +kernel, by decide +kernel⟩, List.mem_of_getElem? (i := 230) (by decide +kernel), List.mem_of_getElem? (i := 764) (by decide +kernel), List.mem_of_getElem? (i := 765) (by decide +kernel)⟩
theorem lw_p33 : lw_okq (⟨"ThinkingArms", "isImage", "(I)Z"⟩, 9) := ⟨⟨by decide +kernel, by decide +kernel⟩, List.mem_of_getElem? (i := 17) (by decide +kernel), List.mem_of_getElem? (i := 773) (by decide +kernel), List.mem_of_getElem? (i := 774) (by decide +kernel)⟩
theorem lw_p34 : lw_okq (⟨"ThinkingArms", "refusesFilm", "(IIII)I"⟩, 9) := ⟨⟨by decide +kernel, by decide +kernel⟩, List.mem_of_getElem? (i := 17) (by decide +kernel), List.mem_of_getElem? (i := 786) (by decide +kernel), List.mem_of_getElem? (i := 787) (by decide +kernel)⟩
theorem lw_p35 : lw_okq (⟨"ThinkingArmsModel", "hasPiece", "(I)Z"⟩, 22) := ⟨⟨by decide +kernel, by decide +kernel⟩, List.mem_of_getElem? (i := 828) (by decide +kernel), List.mem_of_getElem? (i := 912) (by decide +kernel), List.mem_of_getElem? (i := 913) (by decide +kernel)⟩
theorem lw_p36 : lw_okq (⟨"ThinkingArmsModel", "pieces", "(I)I"⟩, 22) := ⟨⟨by decide +kernel, by decide +kernel⟩, List.mem_of_getElem? (i := 828) (by decide +kernel), List.mem_of_getElem? (i := 916) (by decide +kernel), List.mem_of_getElem? (i := 917) (by decide +kernel)⟩
theorem lw_p37 : lw_okq (⟨"ThinkingArmsModel", "cell", "(II)I"⟩, 22) := ⟨⟨by decide +kernel, by decide +kernel⟩, List.mem_of_getElem? (i := 828) (by decide +kernel), List.mem_of_getElem? (i := 923) (by decide +kernel), List.mem_of_getElem? (i := 924) (by decide +kernel)⟩
theorem lw_p38 : lw_okq (⟨"ThinkingArmsModel", "lyingAt", "(I)I"⟩, 22) := ⟨⟨by decide +kernel, by decide +kernel⟩, List.mem_of_getElem? (i := 828) (by decide +kernel), List.mem_of_getElem? (i := 927) (by decide +kernel), List.mem_of_getElem? (i := 928) (by decide +kernel)⟩
theorem lw_p39 : lw_okq (⟨"ThinkingArmsModel", "isFree", "(I)Z"⟩, 22) := ⟨⟨by decide +kernel, by decide +kernel⟩, List.mem_of_getElem? (i := 828) (by decide +kernel), List.mem_of_getElem? (i := 951) (by decide +kernel), List.mem_of_getElem? (i := 952) (by decide +kernel)⟩
theorem lw_p40 : lw_okq (⟨"ThinkingArmsModel", "isPiece", "(II)Z"⟩, 22) := ⟨⟨by decide +kernel, by decide +kernel⟩, List.mem_of_getElem? (i := 828) (by decide +kernel), List.mem_of_getElem? (i := 963) (by decide +kernel), List.mem_of_getElem? (i := 964) (by decide +kernel)⟩
theorem lw_p41 : lw_okq (⟨"ThinkingArmsModel", "isArm", "(I)Z"⟩, 22) := ⟨⟨by decide +kernel, by decide +kernel⟩, List.mem_of_getElem? (i := 828) (by decide +kernel), List.mem_of_getElem? (i := 967) (by decide +kernel), List.mem_of_getElem? (i := 968) (by decide +kernel)⟩
theorem lw_p42 : lw_okq (⟨"ThinkingArmsModel", "cutOf", "(I)I"⟩, 22) := ⟨⟨by decide +kernel, by decide +kernel⟩, List.mem_of_getElem? (i := 828) (by decide +kernel), List.mem_of_getElem? (i := 971) (by decide +kernel), List.mem_of_getElem? (i := 972) (by decide +kernel)⟩
theorem lw_p43 : lw_okq (⟨"ThinkingArmsModel", "isTip", "(II)Z"⟩, 22) := ⟨⟨by decide +kernel, by decide +kernel⟩, List.mem_of_getElem? (i := 828) (by decide +kernel), List.mem_of_getElem? (i := 975) (by decide +kernel), List.mem_of_getElem? (i := 976) (by decide +kernel)⟩
theorem lw_p44 : lw_okq (⟨"ThinkingArmsModel", "isThing", "(I)Z"⟩, 22) := ⟨⟨by decide +kernel, by decide +kernel⟩, List.mem_of_getElem? (i := 828) (by decide +kernel), List.mem_of_getElem? (i := 983) (by decide +kernel), List.mem_of_getElem? (i := 984) (by decide +kernel)⟩
theorem lw_p45 : lw_okq (⟨"ThinkingArmsModel", "formOf", "(I)I"⟩, 22) := ⟨⟨by decide +kernel, by decide +kernel⟩, List.mem_of_getElem? (i := 828) (by decide +kernel), List.mem_of_getElem? (i := 991) (by decide +kernel), List.mem_of_getElem? (i := 992) (by decide +kernel)⟩
theorem lw_p46 : lw_okq (⟨"ThinkingArmsModel", "goesTo", "(II)I"⟩, 22) := ⟨⟨by decide +kernel, by decide +kernel⟩, List.mem_of_getElem? (i := 828) (by decide +kernel), List.mem_of_getElem? (i := 1002) (by decide +kernel), List.mem_of_getElem? (i := 1003) (by decide +kernel)⟩
theorem lw_p47 : lw_okq (⟨"ThinkingArmsModel", "flipped", "(II)I"⟩, 22) := ⟨⟨by decide +kernel, by decide +kernel⟩, List.mem_of_getElem? (i := 828) (by decide +kernel), List.mem_of_getElem? (i := 1006) (by decide +kernel), List.mem_of_getElem? (i := 1007) (by decide +kernel)⟩
def lw_privs_3 : List (MethodName × Nat) := [(⟨"ThinkingArms$WordSearch", "isEatenBy", "(II)Z"⟩, 5), (⟨"ThinkingArms", "isImage", "(I)Z"⟩, 9), (⟨"ThinkingArms", "refusesFilm", "(IIII)I"⟩, 9), (⟨"ThinkingArmsModel", "hasPiece", "(I)Z"⟩, 22), (⟨"ThinkingArmsModel", "pieces", "(I)I"⟩, 22), (⟨"ThinkingArmsModel", "cell", "(II)I"⟩, 22), (⟨"ThinkingArmsModel", "lyingAt", "(I)I"⟩, 22), (⟨"ThinkingArmsModel", "isFree", "(I)Z"⟩, 22), (⟨"ThinkingArmsModel", "isPiece", "(II)Z"⟩, 22), (⟨"ThinkingArmsModel", "isArm", "(I)Z"⟩, 22), (⟨"ThinkingArmsModel", "cutOf", "(I)I"⟩, 22), (⟨"ThinkingArmsModel", "isTip", "(II)Z"⟩, 22), (⟨"ThinkingArmsModel", "isThing", "(I)Z"⟩, 22), (⟨"ThinkingArmsModel", "formOf", "(I)I"⟩, 22), (⟨"ThinkingArmsModel", "goesTo", "(II)I"⟩, 22), (⟨"ThinkingArmsModel", "flipped", "(II)I"⟩, 22)]
theorem lw_r3 : ∀ q ∈ lw_privs_3, lw_okq q := List.forall_mem_cons.mpr ⟨lw_p32, List.forall_mem_cons.mpr ⟨lw_p33, List.forall_mem_cons.mpr ⟨lw_p34, List.forall_mem_cons.mpr ⟨lw_p35, List.forall_mem_cons.mpr ⟨lw_p36, List.forall_mem_cons.mpr ⟨lw_p37, List.forall_mem_cons.mpr ⟨lw_p38, List.forall_mem_cons.mpr ⟨lw_p39, List.forall_mem_cons.mpr ⟨lw_p40, List.forall_mem_cons.mpr ⟨lw_p41, List.forall_mem_cons.mpr ⟨lw_p42, List.forall_mem_cons.mpr ⟨lw_p43, List.forall_mem_cons.mpr ⟨lw_p44, List.forall_mem_cons.mpr ⟨lw_p45, List.forall_mem_cons.mpr ⟨lw_p46, List.forall_mem_cons.mpr ⟨lw_p47, fun _ h => absurd h List.not_mem_nil⟩⟩⟩⟩⟩⟩⟩⟩⟩⟩⟩⟩⟩⟩⟩⟩
theorem lw_p48 : lw_okq (⟨"ThinkingArmsModel", "faultOf", "()I"⟩, 22) := ⟨⟨by decide +kernel, by decide +kernel⟩, List.mem_of_getElem? (i := 828) (by decide +kernel), List.mem_of_getElem? (i := 1019) (by decide +kernel), List.mem_of_getElem? (i := 1020) (by decide +kernel)⟩
theorem lw_p49 : lw_okq (⟨"ThinkingArmsModel", "tick", "()V"⟩, 22) := ⟨⟨by decide +kernel, by decide +kernel⟩, List.mem_of_getElem? (i := 828) (by decide +kernel), List.mem_of_getElem? (i := 1035) (by decide +kernel), List.mem_of_getElem? (i := 1036) (by decide +kernel)⟩
theorem lw_p50 : lw_okq (⟨"ThinkingArmsModel", "findsOf", "(II)I"⟩, 22) := ⟨⟨by decide +kernel, by decide +kernel⟩, List.mem_of_getElem? (i := 828) (by decide +kernel), List.mem_of_getElem? (i := 1039) (by decide +kernel), List.mem_of_getElem? (i := 1040) (by decide +kernel)⟩
theorem lw_p51 : lw_okq (⟨"ThinkingArmsModel", "holdsTest", "(II)Z"⟩, 22) := ⟨⟨by decide +kernel, by decide +kernel⟩, List.mem_of_getElem? (i := 828) (by decide +kernel), List.mem_of_getElem? (i := 1043) (by decide +kernel), List.mem_of_getElem? (i := 1044) (by decide +kernel)⟩
theorem lw_p52 : lw_okq (⟨"ThinkingArmsModel", "claims", "(IIII)Z"⟩, 22) := ⟨⟨by decide +kernel, by decide +kernel⟩, List.mem_of_getElem? (i := 828) (by decide +kernel), List.mem_of_getElem? (i := 1047) (by decide +kernel), List.mem_of_getElem? (i := 1048) (by decide +kernel)⟩
theorem lw_p53 : lw_okq (⟨"ThinkingArmsModel", "isNear", "(II)Z"⟩, 22) := ⟨⟨by decide +kernel, by decide +kernel⟩, List.mem_of_getElem? (i := 828) (by decide +kernel), List.mem_of_getElem? (i := 1051) (by decide +kernel), List.mem_of_getElem? (i := 1052) (by decide +kernel)⟩
theorem lw_p54 : lw_okq (⟨"ThinkingArmsModel", "act", "(III)I"⟩, 22) := ⟨⟨by decide +kernel, by decide +kernel⟩, List.mem_of_getElem? (i := 828) (by decide +kernel), List.mem_of_getElem? (i := 1055) (by decide +kernel), List.mem_of_getElem? (i := 1056) (by decide +kernel)⟩
theorem lw_p55 : lw_okq (⟨"ThinkingArmsModel", "grab", "(II)V"⟩, 22) := ⟨⟨by decide +kernel, by decide +kernel⟩, List.mem_of_getElem? (i := 828) (by decide +kernel), List.mem_of_getElem? (i := 1059) (by decide +kernel), List.mem_of_getElem? (i := 1060) (by decide +kernel)⟩
theorem lw_p56 : lw_okq (⟨"ThinkingArmsModel", "pass", "(II)V"⟩, 22) := ⟨⟨by decide +kernel, by decide +kernel⟩, List.mem_of_getElem? (i := 828) (by decide +kernel), List.mem_of_getElem? (i := 1063) (by decide +kernel), List.mem_of_getElem? (i := 1064) (by decide +kernel)⟩
theorem lw_p57 : lw_okq (⟨"ThinkingArmsModel", "letGo", "(II)V"⟩, 22) := ⟨⟨by decide +kernel, by decide +kernel⟩, List.mem_of_getElem? (i := 828) (by decide +kernel), List.mem_of_getElem? (i := 1067) (by decide +kernel), List.mem_of_getElem? (i := 1068) (by decide +kernel)⟩
theorem lw_p58 : lw_okq (⟨"ThinkingArmsModel", "things", "(I)I"⟩, 22) := ⟨⟨by decide +kernel, by decide +kernel⟩, List.mem_of_getElem? (i := 828) (by decide +kernel), List.mem_of_getElem? (i := 1071) (by decide +kernel), List.mem_of_getElem? (i := 1072) (by decide +kernel)⟩
theorem lw_p59 : lw_okq (⟨"ThinkingArmsModel", "layReach", "(I)V"⟩, 22) := ⟨⟨by decide +kernel, by decide +kernel⟩, List.mem_of_getElem? (i := 828) (by decide +kernel), List.mem_of_getElem? (i := 1091) (by decide +kernel), List.mem_of_getElem? (i := 1092) (by decide +kernel)⟩
theorem lw_p60 : lw_okq (⟨"ThinkingArmsModel", "come", "(II)V"⟩, 22) := ⟨⟨by decide +kernel, by decide +kernel⟩, List.mem_of_getElem? (i := 828) (by decide +kernel), List.mem_of_getElem? (i := 1095) (by decide +kernel), List.mem_of_getElem? (i := 1096) (by decide +kernel)⟩
theorem lw_p61 : lw_okq (⟨"ThinkingArmsModel", "lay", "(II)V"⟩, 22) := ⟨⟨by decide +kernel, by decide +kernel⟩, List.mem_of_getElem? (i := 828) (by decide +kernel), List.mem_of_getElem? (i := 1099) (by decide +kernel), List.mem_of_getElem? (i := 1100) (by decide +kernel)⟩
theorem lw_p62 : lw_okq (⟨"ThinkingArmsModel", "eats", "(IIIII)Z"⟩, 22) := ⟨⟨by decide +kernel, by decide +kernel⟩, List.mem_of_getElem? (i := 828) (by decide +kernel), List.mem_of_getElem? (i := 1115) (by decide +kernel), List.mem_of_getElem? (i := 1116) (by decide +kernel)⟩
theorem lw_p63 : lw_okq (⟨"ThinkingArmsModel", "bars", "(IIII)I"⟩, 22) := ⟨⟨by decide +kernel, by decide +kernel⟩, List.mem_of_getElem? (i := 828) (by decide +kernel), List.mem_of_getElem? (i := 1131) (by decide +kernel), List.mem_of_getElem? (i := 1132) (by decide +kernel)⟩
def lw_privs_4 : List (MethodName × Nat) := [(⟨"ThinkingArmsModel", "faultOf", "()I"⟩, 22), (⟨"ThinkingArmsModel", "tick", "()V"⟩, 22), (⟨"ThinkingArmsModel", "findsOf", "(II)I"⟩, 22), (⟨"ThinkingArmsModel", "holdsTest", "(II)Z"⟩, 22), (⟨"ThinkingArmsModel", "claims", "(IIII)Z"⟩, 22), (⟨"ThinkingArmsModel", "isNear", "(II)Z"⟩, 22), (⟨"ThinkingArmsModel", "act", "(III)I"⟩, 22), (⟨"ThinkingArmsModel", "grab", "(II)V"⟩, 22), (⟨"ThinkingArmsModel", "pass", "(II)V"⟩, 22), (⟨"ThinkingArmsModel", "letGo", "(II)V"⟩, 22), (⟨"ThinkingArmsModel", "things", "(I)I"⟩, 22), (⟨"ThinkingArmsModel", "layReach", "(I)V"⟩, 22), (⟨"ThinkingArmsModel", "come", "(II)V"⟩, 22), (⟨"ThinkingArmsModel", "lay", "(II)V"⟩, 22), (⟨"ThinkingArmsModel", "eats", "(IIIII)Z"⟩, 22), (⟨"ThinkingArmsModel", "bars", "(IIII)I"⟩, 22)]
theorem lw_r4 : ∀ q ∈ lw_privs_4, lw_okq q := List.forall_mem_cons.mpr ⟨lw_p48, List.forall_mem_cons.mpr ⟨lw_p49, List.forall_mem_cons.mpr ⟨lw_p50, List.forall_mem_cons.mpr ⟨lw_p51, List.forall_mem_cons.mpr ⟨lw_p52, List.forall_mem_cons.mpr ⟨lw_p53, List.forall_mem_cons.mpr ⟨lw_p54, List.forall_mem_cons.mpr ⟨lw_p55, List.forall_mem_cons.mpr ⟨lw_p56, List.forall_mem_cons.mpr ⟨lw_p57, List.forall_mem_cons.mpr ⟨lw_p58, List.forall_mem_cons.mpr ⟨lw_p59, List.forall_mem_cons.mpr ⟨lw_p60, List.forall_mem_cons.mpr ⟨lw_p61, List.forall_mem_cons.mpr ⟨lw_p62, List.forall_mem_cons.mpr ⟨lw_p63, fun _ h => absurd h List.not_mem_nil⟩⟩⟩⟩⟩⟩⟩⟩⟩⟩⟩⟩⟩⟩⟩⟩
def lw_privs : List (MethodName × Nat) := lw_privs_1 ++ (lw_privs_2 ++ (lw_privs_3 ++ (lw_privs_4)))
def lw_tbl : List Cond := k2_sels lw_privs ++ tables_1
theorem lw_privs_ok : ∀ q ∈ lw_privs, lw_okq q := by
  show ∀ q ∈ lw_privs_1 ++ (lw_privs_2 ++ (lw_privs_3 ++ (lw_privs_4))), lw_okq q
  exact List.forall_mem_append.mpr ⟨lw_r1, List.forall_mem_append.mpr ⟨lw_r2, List.forall_mem_append.mpr ⟨lw_r3, lw_r4⟩⟩⟩
-- ===== end of PART A
def RX0 : String := "ThinkingArms$Arm"
def TX0 : u_T := fun k => match k with
  | 0 => ("ThinkingArms$Arm", "size", "I", false)
  | 1 => ("ThinkingArms$Arm", "firstCut", "I", false)
  | 2 => ("ThinkingArms$Arm", "headWord", "I", false)
  | 3 => ("ThinkingArms$Arm", "rules", "LThinkingArms$Rules;", false)
  | 4 => ("ThinkingArms$Arm", "cell", "[I", true)
  | 5 => ("ThinkingArms$Arm", "memory", "[I", true)
  | 6 => ("ThinkingArms$Arm", "holds", "[I", true)
  | 7 => ("ThinkingArms$Arm", "said", "[I", true)
  | _ => ("ThinkingArms$Arm", "found", "[I", true)
def tyX0 : Nat → FieldType := fun k => match k with
  | 0 => .int
  | 1 => .int
  | 2 => .int
  | 3 => .object "ThinkingArms$Rules"
  | 4 => .array .int
  | 5 => .array .int
  | 6 => .array .int
  | 7 => .array .int
  | _ => .array .int
abbrev wsX00 : List Cond := u_ws RX0 TX0 9
theorem nmX0 : ∀ a, a < 9 → ∀ b, b < 9 → a ≠ b → (TX0 a).2.1 ≠ (TX0 b).2.1 := by decide +kernel
theorem tyX0_ok : ∀ k, k < 9 → parseFieldDescriptor (TX0 k).2.2.1 = some (tyX0 k) := by decide +kernel
abbrev cX0_init : ByteArray := prog_2_method_1_code
def yX0_init : MethodName := ⟨RX0, "<init>", "()V"⟩
abbrev cX0_begin : ByteArray := prog_2_method_2_code
def yX0_begin : MethodName := ⟨RX0, "begin", "([II)V"⟩
abbrev cX0_become : ByteArray := prog_2_method_3_code
def yX0_become : MethodName := ⟨RX0, "become", "(LThinkingArms$Arm;)V"⟩
abbrev cX0_isCut : ByteArray := prog_2_method_4_code
def yX0_isCut : MethodName := ⟨RX0, "isCut", "()Z"⟩
abbrev cX0_isCutOff : ByteArray := prog_2_method_5_code
def yX0_isCutOff : MethodName := ⟨RX0, "isCutOff", "(I)Z"⟩
abbrev cX0_isTip : ByteArray := prog_2_method_6_code
def yX0_isTip : MethodName := ⟨RX0, "isTip", "(I)Z"⟩
abbrev cX0_canEverMove : ByteArray := prog_2_method_7_code
def yX0_canEverMove : MethodName := ⟨RX0, "canEverMove", "(I)Z"⟩
abbrev cX0_formNow : ByteArray := prog_2_method_8_code
def yX0_formNow : MethodName := ⟨RX0, "formNow", "()I"⟩
def RX1 : String := "ThinkingArms$Claim"
def TX1 : u_T := fun k => match k with
  | 0 => ("ThinkingArms$Claim", "beginsCase", "Z", false)
  | 1 => ("ThinkingArms$Claim", "not", "Z", false)
  | 2 => ("ThinkingArms$Claim", "bit", "I", false)
  | 3 => ("ThinkingArms$Claim", "inside", "LThinkingArms$Claim;", false)
  | _ => ("ThinkingArms$Claim", "next", "LThinkingArms$Claim;", false)
def tyX1 : Nat → FieldType := fun k => match k with
  | 0 => .boolean
  | 1 => .boolean
  | 2 => .int
  | 3 => .object "ThinkingArms$Claim"
  | _ => .object "ThinkingArms$Claim"
abbrev wsX10 : List Cond := u_ws RX1 TX1 5
theorem nmX1 : ∀ a, a < 5 → ∀ b, b < 5 → a ≠ b → (TX1 a).2.1 ≠ (TX1 b).2.1 := by decide +kernel
theorem tyX1_ok : ∀ k, k < 5 → parseFieldDescriptor (TX1 k).2.2.1 = some (tyX1 k) := by decide +kernel
abbrev cX1_init : ByteArray := prog_3_method_1_code
def yX1_init : MethodName := ⟨RX1, "<init>", "()V"⟩
abbrev cX1_holds : ByteArray := prog_3_method_2_code
def yX1_holds : MethodName := ⟨RX1, "holds", "(LThinkingArms$Claim;II)Z"⟩
def RX2 : String := "ThinkingArms$Clause"
def TX2 : u_T := fun k => match k with
  | 0 => ("ThinkingArms$Clause", "test", "LThinkingArms$Claim;", false)
  | 1 => ("ThinkingArms$Clause", "acts", "[I", true)
  | 2 => ("ThinkingArms$Clause", "digits", "[I", true)
  | _ => ("ThinkingArms$Clause", "actCount", "I", false)
def tyX2 : Nat → FieldType := fun k => match k with
  | 0 => .object "ThinkingArms$Claim"
  | 1 => .array .int
  | 2 => .array .int
  | _ => .int
abbrev wsX20 : List Cond := u_ws RX2 TX2 4
theorem nmX2 : ∀ a, a < 4 → ∀ b, b < 4 → a ≠ b → (TX2 a).2.1 ≠ (TX2 b).2.1 := by decide +kernel
theorem tyX2_ok : ∀ k, k < 4 → parseFieldDescriptor (TX2 k).2.2.1 = some (tyX2 k) := by decide +kernel
abbrev cX2_init : ByteArray := prog_4_method_1_code
def yX2_init : MethodName := ⟨RX2, "<init>", "()V"⟩
def RX3 : String := "ThinkingArms$Reaching"
def TX3 : u_T := fun k => match k with
  | 0 => ("ThinkingArms$Reaching", "movesToForm", "[I", true)
  | 1 => ("ThinkingArms$Reaching", "seen", "[I", true)
  | 2 => ("ThinkingArms$Reaching", "movesToCell", "[I", true)
  | 3 => ("ThinkingArms$Reaching", "path", "[I", true)
  | 4 => ("ThinkingArms$Reaching", "formCount", "I", false)
  | 5 => ("ThinkingArms$Reaching", "cellCount", "I", false)
  | 6 => ("ThinkingArms$Reaching", "first", "I", false)
  | 7 => ("ThinkingArms$Reaching", "size", "I", false)
  | 8 => ("ThinkingArms$Reaching", "form", "I", false)
  | 9 => ("ThinkingArms$Reaching", "blocked", "J", false)
  | _ => ("ThinkingArms$Reaching", "others", "J", false)
def tyX3 : Nat → FieldType := fun k => match k with
  | 0 => .array .int
  | 1 => .array .int
  | 2 => .array .int
  | 3 => .array .int
  | 4 => .int
  | 5 => .int
  | 6 => .int
  | 7 => .int
  | 8 => .int
  | 9 => .long
  | _ => .long
abbrev wsX30 : List Cond := u_ws RX3 TX3 11
theorem nmX3 : ∀ a, a < 11 → ∀ b, b < 11 → a ≠ b → (TX3 a).2.1 ≠ (TX3 b).2.1 := by decide +kernel
theorem tyX3_ok : ∀ k, k < 11 → parseFieldDescriptor (TX3 k).2.2.1 = some (tyX3 k) := by decide +kernel
abbrev cX3_init : ByteArray := prog_5_method_1_code
def yX3_init : MethodName := ⟨RX3, "<init>", "()V"⟩
abbrev cX3_search : ByteArray := prog_5_method_2_code
def yX3_search : MethodName := ⟨RX3, "search", "(LThinkingArms$Sea;LThinkingArms$Arm;)V"⟩
abbrev cX3_searchAnew : ByteArray := prog_5_method_3_code
def yX3_searchAnew : MethodName := ⟨RX3, "searchAnew", "()V"⟩
abbrev cX3_see : ByteArray := prog_5_method_4_code
def yX3_see : MethodName := ⟨RX3, "see", "(II)V"⟩
abbrev cX3_layOut : ByteArray := prog_5_method_5_code
def yX3_layOut : MethodName := ⟨RX3, "layOut", "(I)J"⟩
abbrev cX3_goOnFrom : ByteArray := prog_5_method_6_code
def yX3_goOnFrom : MethodName := ⟨RX3, "goOnFrom", "(II)V"⟩
abbrev cX3_seeFlip : ByteArray := prog_5_method_7_code
def yX3_seeFlip : MethodName := ⟨RX3, "seeFlip", "(IIJI)V"⟩
abbrev cX3_seeTurns : ByteArray := prog_5_method_8_code
def yX3_seeTurns : MethodName := ⟨RX3, "seeTurns", "(IJI)V"⟩
def RX4 : String := "ThinkingArms$RuleReader"
def TX4 : u_T := fun k => match k with
  | 0 => ("ThinkingArms$RuleReader", "text", "[B", false)
  | 1 => ("ThinkingArms$RuleReader", "length", "I", false)
  | 2 => ("ThinkingArms$RuleReader", "at", "I", false)
  | 3 => ("ThinkingArms$RuleReader", "sign", "I", false)
  | _ => ("ThinkingArms$RuleReader", "fault", "I", false)
def tyX4 : Nat → FieldType := fun k => match k with
  | 0 => .array .byte
  | 1 => .int
  | 2 => .int
  | 3 => .int
  | _ => .int
abbrev wsX40 : List Cond := u_ws RX4 TX4 5
theorem nmX4 : ∀ a, a < 5 → ∀ b, b < 5 → a ≠ b → (TX4 a).2.1 ≠ (TX4 b).2.1 := by decide +kernel
theorem tyX4_ok : ∀ k, k < 5 → parseFieldDescriptor (TX4 k).2.2.1 = some (tyX4 k) := by decide +kernel
abbrev cX4_init : ByteArray := prog_6_method_1_code
def yX4_init : MethodName := ⟨RX4, "<init>", "()V"⟩
abbrev cX4_read : ByteArray := prog_6_method_2_code
def yX4_read : MethodName := ⟨RX4, "read", "([BI)LThinkingArms$Rules;"⟩
abbrev cX4_readClause : ByteArray := prog_6_method_3_code
def yX4_readClause : MethodName := ⟨RX4, "readClause", "()LThinkingArms$Clause;"⟩
abbrev cX4_readAct : ByteArray := prog_6_method_4_code
def yX4_readAct : MethodName := ⟨RX4, "readAct", "(LThinkingArms$Clause;)V"⟩
abbrev cX4_readTest : ByteArray := prog_6_method_5_code
def yX4_readTest : MethodName := ⟨RX4, "readTest", "(I)LThinkingArms$Claim;"⟩
abbrev cX4_readClaim : ByteArray := prog_6_method_6_code
def yX4_readClaim : MethodName := ⟨RX4, "readClaim", "(I)LThinkingArms$Claim;"⟩
abbrev cX4_readSense : ByteArray := prog_6_method_7_code
def yX4_readSense : MethodName := ⟨RX4, "readSense", "()I"⟩
abbrev cX4_readDigit : ByteArray := prog_6_method_8_code
def yX4_readDigit : MethodName := ⟨RX4, "readDigit", "()I"⟩
abbrev cX4_isAct : ByteArray := prog_6_method_9_code
def yX4_isAct : MethodName := ⟨RX4, "isAct", "(I)Z"⟩
abbrev cX4_need : ByteArray := prog_6_method_10_code
def yX4_need : MethodName := ⟨RX4, "need", "(I)V"⟩
abbrev cX4_takes : ByteArray := prog_6_method_11_code
def yX4_takes : MethodName := ⟨RX4, "takes", "(I)Z"⟩
abbrev cX4_goTo : ByteArray := prog_6_method_12_code
def yX4_goTo : MethodName := ⟨RX4, "goTo", "(I)V"⟩
abbrev cX4_fail : ByteArray := prog_6_method_13_code
def yX4_fail : MethodName := ⟨RX4, "fail", "()V"⟩
def RX5 : String := "ThinkingArms$Rules"
def TX5 : u_T := fun k => match k with
  | 0 => ("ThinkingArms$Rules", "clauses", "[LThinkingArms$Clause;", true)
  | _ => ("ThinkingArms$Rules", "count", "I", false)
def tyX5 : Nat → FieldType := fun k => match k with
  | 0 => .array (.object "ThinkingArms$Clause")
  | _ => .int
abbrev wsX50 : List Cond := u_ws RX5 TX5 2
theorem nmX5 : ∀ a, a < 2 → ∀ b, b < 2 → a ≠ b → (TX5 a).2.1 ≠ (TX5 b).2.1 := by decide +kernel
theorem tyX5_ok : ∀ k, k < 2 → parseFieldDescriptor (TX5 k).2.2.1 = some (tyX5 k) := by decide +kernel
abbrev cX5_init : ByteArray := prog_7_method_1_code
def yX5_init : MethodName := ⟨RX5, "<init>", "()V"⟩
abbrev cX5_firstFor : ByteArray := prog_7_method_2_code
def yX5_firstFor : MethodName := ⟨RX5, "firstFor", "(I)I"⟩
def RX6 : String := "ThinkingArms$Sea"
def TX6 : u_T := fun k => match k with
  | 0 => ("ThinkingArms$Sea", "walls", "J", false)
  | 1 => ("ThinkingArms$Sea", "taken", "J", false)
  | 2 => ("ThinkingArms$Sea", "lyingOfTaste", "[J", true)
  | 3 => ("ThinkingArms$Sea", "arms", "[LThinkingArms$Arm;", true)
  | 4 => ("ThinkingArms$Sea", "armCount", "I", false)
  | 5 => ("ThinkingArms$Sea", "things", "[LThinkingArms$Thing;", true)
  | 6 => ("ThinkingArms$Sea", "thingCount", "I", false)
  | 7 => ("ThinkingArms$Sea", "skinTaste", "I", false)
  | _ => ("ThinkingArms$Sea", "ticksDone", "I", false)
def tyX6 : Nat → FieldType := fun k => match k with
  | 0 => .long
  | 1 => .long
  | 2 => .array .long
  | 3 => .array (.object "ThinkingArms$Arm")
  | 4 => .int
  | 5 => .array (.object "ThinkingArms$Thing")
  | 6 => .int
  | 7 => .int
  | _ => .int
abbrev wsX60 : List Cond := u_ws RX6 TX6 9
theorem nmX6 : ∀ a, a < 9 → ∀ b, b < 9 → a ≠ b → (TX6 a).2.1 ≠ (TX6 b).2.1 := by decide +kernel
theorem tyX6_ok : ∀ k, k < 9 → parseFieldDescriptor (TX6 k).2.2.1 = some (tyX6 k) := by decide +kernel
abbrev cX6_init : ByteArray := prog_8_method_1_code
def yX6_init : MethodName := ⟨RX6, "<init>", "()V"⟩
abbrev cX6_become : ByteArray := prog_8_method_2_code
def yX6_become : MethodName := ⟨RX6, "become", "(LThinkingArms$Sea;)V"⟩
abbrev cX6_lyingCells : ByteArray := prog_8_method_3_code
def yX6_lyingCells : MethodName := ⟨RX6, "lyingCells", "()J"⟩
abbrev cX6_inUse : ByteArray := prog_8_method_4_code
def yX6_inUse : MethodName := ⟨RX6, "inUse", "()J"⟩
abbrev cX6_isFree : ByteArray := prog_8_method_5_code
def yX6_isFree : MethodName := ⟨RX6, "isFree", "(I)Z"⟩
abbrev cX6_canLie : ByteArray := prog_8_method_6_code
def yX6_canLie : MethodName := ⟨RX6, "canLie", "(III[I)Z"⟩
abbrev cX6_addArm : ByteArray := prog_8_method_7_code
def yX6_addArm : MethodName := ⟨RX6, "addArm", "([II)V"⟩
abbrev cX6_addThing : ByteArray := prog_8_method_8_code
def yX6_addThing : MethodName := ⟨RX6, "addThing", "(II)V"⟩
abbrev cX6_countThings : ByteArray := prog_8_method_9_code
def yX6_countThings : MethodName := ⟨RX6, "countThings", "(I)I"⟩
abbrev cX6_cellOfThing : ByteArray := prog_8_method_10_code
def yX6_cellOfThing : MethodName := ⟨RX6, "cellOfThing", "(LThinkingArms$Thing;)I"⟩
abbrev cX6_lay : ByteArray := prog_8_method_11_code
def yX6_lay : MethodName := ⟨RX6, "lay", "(II)V"⟩
abbrev cX6_lift : ByteArray := prog_8_method_12_code
def yX6_lift : MethodName := ⟨RX6, "lift", "(I)V"⟩
abbrev cX6_lyingAt : ByteArray := prog_8_method_13_code
def yX6_lyingAt : MethodName := ⟨RX6, "lyingAt", "(I)I"⟩
abbrev cX6_move : ByteArray := prog_8_method_14_code
def yX6_move : MethodName := ⟨RX6, "move", "(LThinkingArms$Arm;I)Z"⟩
abbrev cX6_turned : ByteArray := prog_8_method_15_code
def yX6_turned : MethodName := ⟨RX6, "turned", "(II)I"⟩
abbrev cX6_flipped : ByteArray := prog_8_method_16_code
def yX6_flipped : MethodName := ⟨RX6, "flipped", "(III)I"⟩
abbrev cX6_tick : ByteArray := prog_8_method_17_code
def yX6_tick : MethodName := ⟨RX6, "tick", "()V"⟩
abbrev cX6_clauseFor : ByteArray := prog_8_method_18_code
def yX6_clauseFor : MethodName := ⟨RX6, "clauseFor", "(LThinkingArms$Arm;I)I"⟩
abbrev cX6_senses : ByteArray := prog_8_method_19_code
def yX6_senses : MethodName := ⟨RX6, "senses", "(LThinkingArms$Arm;I)I"⟩
abbrev cX6_doActs : ByteArray := prog_8_method_20_code
def yX6_doActs : MethodName := ⟨RX6, "doActs", "(II)I"⟩
abbrev cX6_grab : ByteArray := prog_8_method_21_code
def yX6_grab : MethodName := ⟨RX6, "grab", "(II)V"⟩
abbrev cX6_give : ByteArray := prog_8_method_22_code
def yX6_give : MethodName := ⟨RX6, "give", "(III)V"⟩
abbrev cX6_passOn : ByteArray := prog_8_method_23_code
def yX6_passOn : MethodName := ⟨RX6, "passOn", "(II)V"⟩
abbrev cX6_letGo : ByteArray := prog_8_method_24_code
def yX6_letGo : MethodName := ⟨RX6, "letGo", "(LThinkingArms$Arm;I)V"⟩
def RX7 : String := "ThinkingArms$Sheet"
def TX7 : u_T := fun k => match k with
  | 0 => ("ThinkingArms$Sheet", "lane", "I", false)
  | 1 => ("ThinkingArms$Sheet", "length", "I", false)
  | _ => ("ThinkingArms$Sheet", "items", "[I", true)
def tyX7 : Nat → FieldType := fun k => match k with
  | 0 => .int
  | 1 => .int
  | _ => .array .int
abbrev wsX70 : List Cond := u_ws RX7 TX7 3
theorem nmX7 : ∀ a, a < 3 → ∀ b, b < 3 → a ≠ b → (TX7 a).2.1 ≠ (TX7 b).2.1 := by decide +kernel
theorem tyX7_ok : ∀ k, k < 3 → parseFieldDescriptor (TX7 k).2.2.1 = some (tyX7 k) := by decide +kernel
abbrev cX7_init : ByteArray := prog_9_method_1_code
def yX7_init : MethodName := ⟨RX7, "<init>", "()V"⟩
abbrev cX7_begin : ByteArray := prog_9_method_2_code
def yX7_begin : MethodName := ⟨RX7, "begin", "(II)V"⟩
abbrev cX7_forget : ByteArray := prog_9_method_3_code
def yX7_forget : MethodName := ⟨RX7, "forget", "()V"⟩
abbrev cX7_holdsNothing : ByteArray := prog_9_method_4_code
def yX7_holdsNothing : MethodName := ⟨RX7, "holdsNothing", "()Z"⟩
abbrev cX7_spans : ByteArray := prog_9_method_5_code
def yX7_spans : MethodName := ⟨RX7, "spans", "(II)Z"⟩
abbrev cX7_refuses : ByteArray := prog_9_method_6_code
def yX7_refuses : MethodName := ⟨RX7, "refuses", "(III)I"⟩
abbrev cX7_asCells : ByteArray := prog_9_method_7_code
def yX7_asCells : MethodName := ⟨RX7, "asCells", "()J"⟩
def RX8 : String := "ThinkingArms$Thing"
def TX8 : u_T := fun k => match k with
  | 0 => ("ThinkingArms$Thing", "taste", "I", false)
  | 1 => ("ThinkingArms$Thing", "how", "I", false)
  | 2 => ("ThinkingArms$Thing", "cell", "I", false)
  | 3 => ("ThinkingArms$Thing", "arm", "I", false)
  | _ => ("ThinkingArms$Thing", "piece", "I", false)
def tyX8 : Nat → FieldType := fun k => match k with
  | 0 => .int
  | 1 => .int
  | 2 => .int
  | 3 => .int
  | _ => .int
abbrev wsX80 : List Cond := u_ws RX8 TX8 5
theorem nmX8 : ∀ a, a < 5 → ∀ b, b < 5 → a ≠ b → (TX8 a).2.1 ≠ (TX8 b).2.1 := by decide +kernel
theorem tyX8_ok : ∀ k, k < 5 → parseFieldDescriptor (TX8 k).2.2.1 = some (tyX8 k) := by decide +kernel
abbrev cX8_init : ByteArray := prog_10_method_1_code
def yX8_init : MethodName := ⟨RX8, "<init>", "()V"⟩
abbrev cX8_become : ByteArray := prog_10_method_2_code
def yX8_become : MethodName := ⟨RX8, "become", "(LThinkingArms$Thing;)V"⟩
def RX9 : String := "ThinkingArms$WordSearch"
def TX9 : u_T := fun k => match k with
  | 0 => ("ThinkingArms$WordSearch", "row", "[I", true)
  | 1 => ("ThinkingArms$WordSearch", "behind", "[LThinkingArms$Sea;", true)
  | 2 => ("ThinkingArms$WordSearch", "arm", "I", false)
  | 3 => ("ThinkingArms$WordSearch", "thing", "I", false)
  | _ => ("ThinkingArms$WordSearch", "within", "I", false)
def tyX9 : Nat → FieldType := fun k => match k with
  | 0 => .array .int
  | 1 => .array (.object "ThinkingArms$Sea")
  | 2 => .int
  | 3 => .int
  | _ => .int
abbrev wsX90 : List Cond := u_ws RX9 TX9 5
theorem nmX9 : ∀ a, a < 5 → ∀ b, b < 5 → a ≠ b → (TX9 a).2.1 ≠ (TX9 b).2.1 := by decide +kernel
theorem tyX9_ok : ∀ k, k < 5 → parseFieldDescriptor (TX9 k).2.2.1 = some (tyX9 k) := by decide +kernel
abbrev cX9_init : ByteArray := prog_11_method_1_code
def yX9_init : MethodName := ⟨RX9, "<init>", "()V"⟩
abbrev cX9_search : ByteArray := prog_11_method_2_code
def yX9_search : MethodName := ⟨RX9, "search", "(LThinkingArms$Sea;III)I"⟩
abbrev cX9_isEatenBy : ByteArray := prog_11_method_3_code
def yX9_isEatenBy : MethodName := ⟨RX9, "isEatenBy", "(II)Z"⟩
def RX10 : String := "ThinkingArms"
def TX10 : u_T := fun k => match k with
  | 0 => ("ThinkingArms", "sea", "LThinkingArms$Sea;", true)
  | 1 => ("ThinkingArms", "images", "[LThinkingArms$Sea;", true)
  | 2 => ("ThinkingArms", "sheets", "[LThinkingArms$Sheet;", true)
  | 3 => ("ThinkingArms", "tape", "[B", true)
  | 4 => ("ThinkingArms", "typed", "I", false)
  | 5 => ("ThinkingArms", "reader", "LThinkingArms$RuleReader;", true)
  | 6 => ("ThinkingArms", "reaching", "LThinkingArms$Reaching;", true)
  | 7 => ("ThinkingArms", "words", "LThinkingArms$WordSearch;", true)
  | _ => ("ThinkingArms", "path", "[I", true)
def tyX10 : Nat → FieldType := fun k => match k with
  | 0 => .object "ThinkingArms$Sea"
  | 1 => .array (.object "ThinkingArms$Sea")
  | 2 => .array (.object "ThinkingArms$Sheet")
  | 3 => .array .byte
  | 4 => .int
  | 5 => .object "ThinkingArms$RuleReader"
  | 6 => .object "ThinkingArms$Reaching"
  | 7 => .object "ThinkingArms$WordSearch"
  | _ => .array .int
abbrev wsX100 : List Cond := u_ws RX10 TX10 9
theorem nmX10 : ∀ a, a < 9 → ∀ b, b < 9 → a ≠ b → (TX10 a).2.1 ≠ (TX10 b).2.1 := by decide +kernel
theorem tyX10_ok : ∀ k, k < 9 → parseFieldDescriptor (TX10 k).2.2.1 = some (tyX10 k) := by decide +kernel
abbrev cX10_init : ByteArray := prog_1_method_1_code
def yX10_init : MethodName := ⟨RX10, "<init>", "()V"⟩
abbrev cX10_wall : ByteArray := prog_1_method_2_code
def yX10_wall : MethodName := ⟨RX10, "wall", "(IIZ)I"⟩
abbrev cX10_walls : ByteArray := prog_1_method_3_code
def yX10_walls : MethodName := ⟨RX10, "walls", "(I)I"⟩
abbrev cX10_arm : ByteArray := prog_1_method_4_code
def yX10_arm : MethodName := ⟨RX10, "arm", "(IIII)I"⟩
abbrev cX10_thing : ByteArray := prog_1_method_5_code
def yX10_thing : MethodName := ⟨RX10, "thing", "(III)I"⟩
abbrev cX10_piece : ByteArray := prog_1_method_6_code
def yX10_piece : MethodName := ⟨RX10, "piece", "(III)I"⟩
abbrev cX10_told : ByteArray := prog_1_method_7_code
def yX10_told : MethodName := ⟨RX10, "told", "(II)I"⟩
abbrev cX10_form : ByteArray := prog_1_method_8_code
def yX10_form : MethodName := ⟨RX10, "form", "(I)I"⟩
abbrev cX10_flip : ByteArray := prog_1_method_9_code
def yX10_flip : MethodName := ⟨RX10, "flip", "(II)I"⟩
abbrev cX10_type : ByteArray := prog_1_method_10_code
def yX10_type : MethodName := ⟨RX10, "type", "(JI)I"⟩
abbrev cX10_rules : ByteArray := prog_1_method_11_code
def yX10_rules : MethodName := ⟨RX10, "rules", "(I)I"⟩
abbrev cX10_head : ByteArray := prog_1_method_12_code
def yX10_head : MethodName := ⟨RX10, "head", "(II)I"⟩
abbrev cX10_skin : ByteArray := prog_1_method_13_code
def yX10_skin : MethodName := ⟨RX10, "skin", "(I)I"⟩
abbrev cX10_ticks : ByteArray := prog_1_method_14_code
def yX10_ticks : MethodName := ⟨RX10, "ticks", "(I)I"⟩
abbrev cX10_finds : ByteArray := prog_1_method_15_code
def yX10_finds : MethodName := ⟨RX10, "finds", "(II)I"⟩
abbrev cX10_cut : ByteArray := prog_1_method_16_code
def yX10_cut : MethodName := ⟨RX10, "cut", "(II)I"⟩
abbrev cX10_count : ByteArray := prog_1_method_17_code
def yX10_count : MethodName := ⟨RX10, "count", "(I)I"⟩
abbrev cX10_forms : ByteArray := prog_1_method_18_code
def yX10_forms : MethodName := ⟨RX10, "forms", "(I)I"⟩
abbrev cX10_reach : ByteArray := prog_1_method_19_code
def yX10_reach : MethodName := ⟨RX10, "reach", "(I)I"⟩
abbrev cX10_far : ByteArray := prog_1_method_20_code
def yX10_far : MethodName := ⟨RX10, "far", "(III)I"⟩
abbrev cX10_fewest : ByteArray := prog_1_method_21_code
def yX10_fewest : MethodName := ⟨RX10, "fewest", "(IIII)I"⟩
abbrev cX10_image : ByteArray := prog_1_method_22_code
def yX10_image : MethodName := ⟨RX10, "image", "(I)I"⟩
abbrev cX10_restore : ByteArray := prog_1_method_23_code
def yX10_restore : MethodName := ⟨RX10, "restore", "(I)I"⟩
abbrev cX10_film : ByteArray := prog_1_method_24_code
def yX10_film : MethodName := ⟨RX10, "film", "(IIII)I"⟩
abbrev cX10_differs : ByteArray := prog_1_method_25_code
def yX10_differs : MethodName := ⟨RX10, "differs", "(IIII)I"⟩
abbrev cX10_sheet : ByteArray := prog_1_method_26_code
def yX10_sheet : MethodName := ⟨RX10, "sheet", "(III)I"⟩
abbrev cX10_drop : ByteArray := prog_1_method_27_code
def yX10_drop : MethodName := ⟨RX10, "drop", "(I)I"⟩
abbrev cX10_item : ByteArray := prog_1_method_28_code
def yX10_item : MethodName := ⟨RX10, "item", "(IIII)I"⟩
abbrev cX10_copy : ByteArray := prog_1_method_29_code
def yX10_copy : MethodName := ⟨RX10, "copy", "(IIIII)I"⟩
abbrev cX10_isCell : ByteArray := prog_1_method_30_code
def yX10_isCell : MethodName := ⟨RX10, "isCell", "(II)Z"⟩
abbrev cX10_isDigit : ByteArray := prog_1_method_31_code
def yX10_isDigit : MethodName := ⟨RX10, "isDigit", "(I)Z"⟩
abbrev cX10_isLane : ByteArray := prog_1_method_32_code
def yX10_isLane : MethodName := ⟨RX10, "isLane", "(I)Z"⟩
abbrev cX10_isArm : ByteArray := prog_1_method_33_code
def yX10_isArm : MethodName := ⟨RX10, "isArm", "(I)Z"⟩
abbrev cX10_isPiece : ByteArray := prog_1_method_34_code
def yX10_isPiece : MethodName := ⟨RX10, "isPiece", "(II)Z"⟩
abbrev cX10_isThing : ByteArray := prog_1_method_35_code
def yX10_isThing : MethodName := ⟨RX10, "isThing", "(I)Z"⟩
abbrev cX10_isSheet : ByteArray := prog_1_method_36_code
def yX10_isSheet : MethodName := ⟨RX10, "isSheet", "(I)Z"⟩
abbrev cX10_isImage : ByteArray := prog_1_method_37_code
def yX10_isImage : MethodName := ⟨RX10, "isImage", "(I)Z"⟩
abbrev cX10_refusesReach : ByteArray := prog_1_method_38_code
def yX10_refusesReach : MethodName := ⟨RX10, "refusesReach", "(I)I"⟩
abbrev cX10_refusesFilm : ByteArray := prog_1_method_39_code
def yX10_refusesFilm : MethodName := ⟨RX10, "refusesFilm", "(IIII)I"⟩
abbrev cX10_cellOf : ByteArray := prog_1_method_40_code
def yX10_cellOf : MethodName := ⟨RX10, "cellOf", "(II)I"⟩
abbrev cX10_formsOf : ByteArray := prog_1_method_41_code
def yX10_formsOf : MethodName := ⟨RX10, "formsOf", "(I)I"⟩
abbrev cX10_byteOf : ByteArray := prog_1_method_42_code
def yX10_byteOf : MethodName := ⟨RX10, "byteOf", "(JI)I"⟩
abbrev cX10_narrowed : ByteArray := prog_1_method_43_code
def yX10_narrowed : MethodName := ⟨RX10, "narrowed", "(II)I"⟩
abbrev cX10_beside : ByteArray := prog_1_method_44_code
def yX10_beside : MethodName := ⟨RX10, "beside", "(II)I"⟩
abbrev cX10_sideOf : ByteArray := prog_1_method_45_code
def yX10_sideOf : MethodName := ⟨RX10, "sideOf", "(II)I"⟩
abbrev cX10_near : ByteArray := prog_1_method_46_code
def yX10_near : MethodName := ⟨RX10, "near", "(I)J"⟩
abbrev cX10_touchByCorner : ByteArray := prog_1_method_47_code
def yX10_touchByCorner : MethodName := ⟨RX10, "touchByCorner", "(II)Z"⟩
def RX11 : String := "ThinkingArmsModel"
def TX11 : u_T := fun k => match k with
  | 0 => ("ThinkingArmsModel", "all", "[I", true)
  | 1 => ("ThinkingArmsModel", "images", "[I", true)
  | 2 => ("ThinkingArmsModel", "isKept", "[Z", true)
  | 3 => ("ThinkingArmsModel", "before", "[I", true)
  | 4 => ("ThinkingArmsModel", "taped", "I", false)
  | 5 => ("ThinkingArmsModel", "tape", "[I", true)
  | 6 => ("ThinkingArmsModel", "lane", "[I", true)
  | 7 => ("ThinkingArmsModel", "many", "[I", true)
  | 8 => ("ThinkingArmsModel", "items", "[I", true)
  | 9 => ("ThinkingArmsModel", "laid", "[I", true)
  | 10 => ("ThinkingArmsModel", "clauses", "I", false)
  | 11 => ("ThinkingArmsModel", "any", "[Z", true)
  | 12 => ("ThinkingArmsModel", "case1", "[Z", true)
  | 13 => ("ThinkingArmsModel", "turned", "[Z", true)
  | 14 => ("ThinkingArmsModel", "at", "I", false)
  | 15 => ("ThinkingArmsModel", "begins", "[I", true)
  | 16 => ("ThinkingArmsModel", "moves", "[I", true)
  | 17 => ("ThinkingArmsModel", "queue", "[I", true)
  | 18 => ("ThinkingArmsModel", "tipIn", "[I", true)
  | 19 => ("ThinkingArmsModel", "reached", "I", false)
  | 20 => ("ThinkingArmsModel", "own", "[I", true)
  | _ => ("ThinkingArmsModel", "moved", "[I", true)
def tyX11 : Nat → FieldType := fun k => match k with
  | 0 => .array .int
  | 1 => .array .int
  | 2 => .array .boolean
  | 3 => .array .int
  | 4 => .int
  | 5 => .array .int
  | 6 => .array .int
  | 7 => .array .int
  | 8 => .array .int
  | 9 => .array .int
  | 10 => .int
  | 11 => .array .boolean
  | 12 => .array .boolean
  | 13 => .array .boolean
  | 14 => .int
  | 15 => .array .int
  | 16 => .array .int
  | 17 => .array .int
  | 18 => .array .int
  | 19 => .int
  | 20 => .array .int
  | _ => .array .int
abbrev wsX110 : List Cond := u_ws RX11 TX11 22
theorem nmX11 : ∀ a, a < 22 → ∀ b, b < 22 → a ≠ b → (TX11 a).2.1 ≠ (TX11 b).2.1 := by decide +kernel
theorem tyX11_ok : ∀ k, k < 22 → parseFieldDescriptor (TX11 k).2.2.1 = some (tyX11 k) := by decide +kernel
abbrev cX11_init : ByteArray := prog_13_method_1_code
def yX11_init : MethodName := ⟨RX11, "<init>", "()V"⟩
abbrev cX11_in : ByteArray := prog_13_method_2_code
def yX11_in : MethodName := ⟨RX11, "in", "(III)Z"⟩
abbrev cX11_isCell : ByteArray := prog_13_method_3_code
def yX11_isCell : MethodName := ⟨RX11, "isCell", "(II)Z"⟩
abbrev cX11_of : ByteArray := prog_13_method_4_code
def yX11_of : MethodName := ⟨RX11, "of", "(II)I"⟩
abbrev cX11_thingAt : ByteArray := prog_13_method_5_code
def yX11_thingAt : MethodName := ⟨RX11, "thingAt", "(I)I"⟩
abbrev cX11_isArm : ByteArray := prog_13_method_6_code
def yX11_isArm : MethodName := ⟨RX11, "isArm", "(I)Z"⟩
abbrev cX11_isThing : ByteArray := prog_13_method_7_code
def yX11_isThing : MethodName := ⟨RX11, "isThing", "(I)Z"⟩
abbrev cX11_pieces : ByteArray := prog_13_method_8_code
def yX11_pieces : MethodName := ⟨RX11, "pieces", "(I)I"⟩
abbrev cX11_isPiece : ByteArray := prog_13_method_9_code
def yX11_isPiece : MethodName := ⟨RX11, "isPiece", "(II)Z"⟩
abbrev cX11_cell : ByteArray := prog_13_method_10_code
def yX11_cell : MethodName := ⟨RX11, "cell", "(II)I"⟩
abbrev cX11_hasPiece : ByteArray := prog_13_method_11_code
def yX11_hasPiece : MethodName := ⟨RX11, "hasPiece", "(I)Z"⟩
abbrev cX11_lyingAt : ByteArray := prog_13_method_12_code
def yX11_lyingAt : MethodName := ⟨RX11, "lyingAt", "(I)I"⟩
abbrev cX11_beside : ByteArray := prog_13_method_13_code
def yX11_beside : MethodName := ⟨RX11, "beside", "(II)I"⟩
abbrev cX11_sideTo : ByteArray := prog_13_method_14_code
def yX11_sideTo : MethodName := ⟨RX11, "sideTo", "(II)I"⟩
abbrev cX11_isFree : ByteArray := prog_13_method_15_code
def yX11_isFree : MethodName := ⟨RX11, "isFree", "(I)Z"⟩
abbrev cX11_wall : ByteArray := prog_13_method_16_code
def yX11_wall : MethodName := ⟨RX11, "wall", "(IIZ)I"⟩
abbrev cX11_isSheet : ByteArray := prog_13_method_17_code
def yX11_isSheet : MethodName := ⟨RX11, "isSheet", "(I)Z"⟩
abbrev cX11_walls : ByteArray := prog_13_method_18_code
def yX11_walls : MethodName := ⟨RX11, "walls", "(I)I"⟩
abbrev cX11_power : ByteArray := prog_13_method_19_code
def yX11_power : MethodName := ⟨RX11, "power", "(I)I"⟩
abbrev cX11_arm : ByteArray := prog_13_method_20_code
def yX11_arm : MethodName := ⟨RX11, "arm", "(IIII)I"⟩
abbrev cX11_thing : ByteArray := prog_13_method_21_code
def yX11_thing : MethodName := ⟨RX11, "thing", "(III)I"⟩
abbrev cX11_cutOf : ByteArray := prog_13_method_22_code
def yX11_cutOf : MethodName := ⟨RX11, "cutOf", "(I)I"⟩
abbrev cX11_isTip : ByteArray := prog_13_method_23_code
def yX11_isTip : MethodName := ⟨RX11, "isTip", "(II)Z"⟩
abbrev cX11_piece : ByteArray := prog_13_method_24_code
def yX11_piece : MethodName := ⟨RX11, "piece", "(III)I"⟩
abbrev cX11_told : ByteArray := prog_13_method_25_code
def yX11_told : MethodName := ⟨RX11, "told", "(II)I"⟩
abbrev cX11_form : ByteArray := prog_13_method_26_code
def yX11_form : MethodName := ⟨RX11, "form", "(I)I"⟩
abbrev cX11_formOf : ByteArray := prog_13_method_27_code
def yX11_formOf : MethodName := ⟨RX11, "formOf", "(I)I"⟩
abbrev cX11_goesTo : ByteArray := prog_13_method_28_code
def yX11_goesTo : MethodName := ⟨RX11, "goesTo", "(II)I"⟩
abbrev cX11_flipped : ByteArray := prog_13_method_29_code
def yX11_flipped : MethodName := ⟨RX11, "flipped", "(II)I"⟩
abbrev cX11_flip : ByteArray := prog_13_method_30_code
def yX11_flip : MethodName := ⟨RX11, "flip", "(II)I"⟩
abbrev cX11_type : ByteArray := prog_13_method_31_code
def yX11_type : MethodName := ⟨RX11, "type", "(JI)I"⟩
abbrev cX11_faultOf : ByteArray := prog_13_method_32_code
def yX11_faultOf : MethodName := ⟨RX11, "faultOf", "()I"⟩
abbrev cX11_rules : ByteArray := prog_13_method_33_code
def yX11_rules : MethodName := ⟨RX11, "rules", "(I)I"⟩
abbrev cX11_head : ByteArray := prog_13_method_34_code
def yX11_head : MethodName := ⟨RX11, "head", "(II)I"⟩
abbrev cX11_skin : ByteArray := prog_13_method_35_code
def yX11_skin : MethodName := ⟨RX11, "skin", "(I)I"⟩
abbrev cX11_isNear : ByteArray := prog_13_method_36_code
def yX11_isNear : MethodName := ⟨RX11, "isNear", "(II)Z"⟩
abbrev cX11_claims : ByteArray := prog_13_method_37_code
def yX11_claims : MethodName := ⟨RX11, "claims", "(IIII)Z"⟩
abbrev cX11_holdsTest : ByteArray := prog_13_method_38_code
def yX11_holdsTest : MethodName := ⟨RX11, "holdsTest", "(II)Z"⟩
abbrev cX11_findsOf : ByteArray := prog_13_method_39_code
def yX11_findsOf : MethodName := ⟨RX11, "findsOf", "(II)I"⟩
abbrev cX11_grab : ByteArray := prog_13_method_40_code
def yX11_grab : MethodName := ⟨RX11, "grab", "(II)V"⟩
abbrev cX11_pass : ByteArray := prog_13_method_41_code
def yX11_pass : MethodName := ⟨RX11, "pass", "(II)V"⟩
abbrev cX11_letGo : ByteArray := prog_13_method_42_code
def yX11_letGo : MethodName := ⟨RX11, "letGo", "(II)V"⟩
abbrev cX11_act : ByteArray := prog_13_method_43_code
def yX11_act : MethodName := ⟨RX11, "act", "(III)I"⟩
abbrev cX11_tick : ByteArray := prog_13_method_44_code
def yX11_tick : MethodName := ⟨RX11, "tick", "()V"⟩
abbrev cX11_things : ByteArray := prog_13_method_45_code
def yX11_things : MethodName := ⟨RX11, "things", "(I)I"⟩
abbrev cX11_ticks : ByteArray := prog_13_method_46_code
def yX11_ticks : MethodName := ⟨RX11, "ticks", "(I)I"⟩
abbrev cX11_finds : ByteArray := prog_13_method_47_code
def yX11_finds : MethodName := ⟨RX11, "finds", "(II)I"⟩
abbrev cX11_cut : ByteArray := prog_13_method_48_code
def yX11_cut : MethodName := ⟨RX11, "cut", "(II)I"⟩
abbrev cX11_count : ByteArray := prog_13_method_49_code
def yX11_count : MethodName := ⟨RX11, "count", "(I)I"⟩
abbrev cX11_lay : ByteArray := prog_13_method_50_code
def yX11_lay : MethodName := ⟨RX11, "lay", "(II)V"⟩
abbrev cX11_come : ByteArray := prog_13_method_51_code
def yX11_come : MethodName := ⟨RX11, "come", "(II)V"⟩
abbrev cX11_layReach : ByteArray := prog_13_method_52_code
def yX11_layReach : MethodName := ⟨RX11, "layReach", "(I)V"⟩
abbrev cX11_forms : ByteArray := prog_13_method_53_code
def yX11_forms : MethodName := ⟨RX11, "forms", "(I)I"⟩
abbrev cX11_reach : ByteArray := prog_13_method_54_code
def yX11_reach : MethodName := ⟨RX11, "reach", "(I)I"⟩
abbrev cX11_far : ByteArray := prog_13_method_55_code
def yX11_far : MethodName := ⟨RX11, "far", "(III)I"⟩
abbrev cX11_eats : ByteArray := prog_13_method_56_code
def yX11_eats : MethodName := ⟨RX11, "eats", "(IIIII)Z"⟩
abbrev cX11_fewest : ByteArray := prog_13_method_57_code
def yX11_fewest : MethodName := ⟨RX11, "fewest", "(IIII)I"⟩
abbrev cX11_image : ByteArray := prog_13_method_58_code
def yX11_image : MethodName := ⟨RX11, "image", "(I)I"⟩
abbrev cX11_restore : ByteArray := prog_13_method_59_code
def yX11_restore : MethodName := ⟨RX11, "restore", "(I)I"⟩
abbrev cX11_bars : ByteArray := prog_13_method_60_code
def yX11_bars : MethodName := ⟨RX11, "bars", "(IIII)I"⟩
abbrev cX11_film : ByteArray := prog_13_method_61_code
def yX11_film : MethodName := ⟨RX11, "film", "(IIII)I"⟩
abbrev cX11_differs : ByteArray := prog_13_method_62_code
def yX11_differs : MethodName := ⟨RX11, "differs", "(IIII)I"⟩
abbrev cX11_sheet : ByteArray := prog_13_method_63_code
def yX11_sheet : MethodName := ⟨RX11, "sheet", "(III)I"⟩
abbrev cX11_drop : ByteArray := prog_13_method_64_code
def yX11_drop : MethodName := ⟨RX11, "drop", "(I)I"⟩
abbrev cX11_item : ByteArray := prog_13_method_65_code
def yX11_item : MethodName := ⟨RX11, "item", "(IIII)I"⟩
abbrev cX11_copy : ByteArray := prog_13_method_66_code
def yX11_copy : MethodName := ⟨RX11, "copy", "(IIIII)I"⟩
def RJ13 : String := "java/lang/Long"
def TJ13 : u_T := fun k => match k with
  | _ => ("", "", "", false)
def tyJ13 : Nat → FieldType := fun k => match k with
  | _ => .int
abbrev wsJ130 : List Cond := u_ws RJ13 TJ13 0
theorem nmJ13 : ∀ a, a < 0 → ∀ b, b < 0 → a ≠ b → (TJ13 a).2.1 ≠ (TJ13 b).2.1 := by decide +kernel
theorem tyJ13_ok : ∀ k, k < 0 → parseFieldDescriptor (TJ13 k).2.2.1 = some (tyJ13 k) := by decide +kernel
abbrev cJ13_bitCount_95d88 : ByteArray := prog_14_method_50_code
def yJ13_bitCount_95d88 : MethodName := ⟨RJ13, "bitCount", "(J)I"⟩
def RJ10 : String := "java/lang/System"
def TJ10 : u_T := fun k => match k with
  | _ => ("", "", "", false)
def tyJ10 : Nat → FieldType := fun k => match k with
  | _ => .int
abbrev wsJ100 : List Cond := u_ws RJ10 TJ10 0
theorem nmJ10 : ∀ a, a < 0 → ∀ b, b < 0 → a ≠ b → (TJ10 a).2.1 ≠ (TJ10 b).2.1 := by decide +kernel
theorem tyJ10_ok : ∀ k, k < 0 → parseFieldDescriptor (TJ10 k).2.2.1 = some (tyJ10 k) := by decide +kernel
def RJ7 : String := "java/util/Arrays"
def TJ7 : u_T := fun k => match k with
  | _ => ("", "", "", false)
def tyJ7 : Nat → FieldType := fun k => match k with
  | _ => .int
abbrev wsJ70 : List Cond := u_ws RJ7 TJ7 0
theorem nmJ7 : ∀ a, a < 0 → ∀ b, b < 0 → a ≠ b → (TJ7 a).2.1 ≠ (TJ7 b).2.1 := by decide +kernel
theorem tyJ7_ok : ∀ k, k < 0 → parseFieldDescriptor (TJ7 k).2.2.1 = some (tyJ7 k) := by decide +kernel
abbrev cJ7_rangeCheck_23922 : ByteArray := prog_16_method_30_code
def yJ7_rangeCheck_23922 : MethodName := ⟨RJ7, "rangeCheck", "(III)V"⟩
abbrev cJ7_fill_53178 : ByteArray := prog_16_method_103_code
def yJ7_fill_53178 : MethodName := ⟨RJ7, "fill", "([II)V"⟩
abbrev cJ7_fill_fda19 : ByteArray := prog_16_method_104_code
def yJ7_fill_fda19 : MethodName := ⟨RJ7, "fill", "([IIII)V"⟩
def RL : String := "ThinkingArmsLaw"
abbrev cL_law : ByteArray := code
def yL_law : MethodName := ⟨RL, "law", "([I)Z"⟩
abbrev vwCl : List vw_C := [(RX0, TX0, 9), (RX1, TX1, 5), (RX2, TX2, 4), (RX3, TX3, 11), (RX4, TX4, 5), (RX5, TX5, 2), (RX6, TX6, 9), (RX7, TX7, 3), (RX8, TX8, 5), (RX9, TX9, 5), (RX10, TX10, 9), (RX11, TX11, 22)]
theorem zinX0 : ∀ w ∈ u_ws RX0 TX0 9, w ∈ lw_tbl := by decide +kernel
theorem zinX1 : ∀ w ∈ u_ws RX1 TX1 5, w ∈ lw_tbl := by decide +kernel
theorem zinX2 : ∀ w ∈ u_ws RX2 TX2 4, w ∈ lw_tbl := by decide +kernel
theorem zinX3 : ∀ w ∈ u_ws RX3 TX3 11, w ∈ lw_tbl := by decide +kernel
theorem zinX4 : ∀ w ∈ u_ws RX4 TX4 5, w ∈ lw_tbl := by decide +kernel
theorem zinX5 : ∀ w ∈ u_ws RX5 TX5 2, w ∈ lw_tbl := by decide +kernel
theorem zinX6 : ∀ w ∈ u_ws RX6 TX6 9, w ∈ lw_tbl := by decide +kernel
theorem zinX7 : ∀ w ∈ u_ws RX7 TX7 3, w ∈ lw_tbl := by decide +kernel
theorem zinX8 : ∀ w ∈ u_ws RX8 TX8 5, w ∈ lw_tbl := by decide +kernel
theorem zinX9 : ∀ w ∈ u_ws RX9 TX9 5, w ∈ lw_tbl := by decide +kernel
theorem zinX10 : ∀ w ∈ u_ws RX10 TX10 9, w ∈ lw_tbl := by decide +kernel
theorem zinX11 : ∀ w ∈ u_ws RX11 TX11 22, w ∈ lw_tbl := by decide +kernel
def z_tb : List Cond := lw_tbl.filter goodWord
end
section
/-! THE SMALL HEAP: typed values, cells, and what reads and writes of them answer -/
abbrev zTV : Type := Int32 ⊕ (Int64 ⊕ Option Nat)
abbrev tI (x : Int32) : zTV := Sum.inl x
abbrev tJ (x : Int64) : zTV := Sum.inr (Sum.inl x)
abbrev tA (x : Option Nat) : zTV := Sum.inr (Sum.inr x)
def z_tv : zTV → Value
  | .inl x => .int x
  | .inr (.inl x) => .long x
  | .inr (.inr r) => va_rf r
def z_cat : zTV → Nat
  | .inr (.inl _) => 2
  | _ => 1
theorem z_tv_cat (v : zTV) : (z_tv v).category = z_cat v := by
  rcases v with x | x | x
  · rfl
  · rfl
  · cases x <;> rfl
abbrev zMC : Type := (Nat × Nat × ((Nat → Int32) ⊕ ((Nat → Int64) ⊕ (Nat → Option Nat)))) ⊕ (Nat × List zTV)
abbrev zH : Type := Nat → zMC
def z_up (h : zH) (a : Nat) (c : zMC) : zH := fun q => if q = a then c else h q
theorem z_up_s (h : zH) (a : Nat) (c : zMC) : z_up h a c a = c := if_pos rfl
theorem z_up_n (h : zH) {a q : Nat} (c : zMC) (hq : q ≠ a) : z_up h a c q = h q := if_neg hq
def z_gF (h : zH) (ci k : Nat) (r : Option Nat) : Option zTV :=
  r.bind fun a => match h a with
    | .inr (c, fs) => if c = ci then fs[k]? else none
    | .inl _ => none
def z_tvI (v : zTV) : Option Int32 := match v with
  | .inl x => some x
  | .inr _ => none
def z_tvJ (v : zTV) : Option Int64 := match v with
  | .inr (.inl x) => some x
  | _ => none
def z_tvA (v : zTV) : Option (Option Nat) := match v with
  | .inr (.inr x) => some x
  | _ => none
def z_gI (h : zH) (ci k : Nat) (r : Option Nat) : Option Int32 := (z_gF h ci k r).bind z_tvI
def z_gJ (h : zH) (ci k : Nat) (r : Option Nat) : Option Int64 := (z_gF h ci k r).bind z_tvJ
def z_gA (h : zH) (ci k : Nat) (r : Option Nat) : Option (Option Nat) := (z_gF h ci k r).bind z_tvA
def z_pF (h : zH) (ci k : Nat) (r : Option Nat) (v : zTV) : Option zH :=
  r.bind fun a => match h a with
    | .inr (c, fs) => if c = ci ∧ k < fs.length then some (z_up h a (.inr (c, fs.set k v))) else none
    | .inl _ => none
def z_pZ (h : zH) (ci k : Nat) (r : Option Nat) (x : Int32) : Option zH := if x = 0 ∨ x = 1 then z_pF h ci k r (tI x) else none
def z_ck (h : zH) (ci : Nat) (r : Option Nat) : Option Nat :=
  r.bind fun a => match h a with
    | .inr (c, _) => if c = ci then some a else none
    | .inl _ => none
def z_inb (i : Int32) (n : Nat) : Prop := ¬ (i < 0 ∨ n ≤ i.toNatClampNeg)
def z_aI (h : zH) (r : Option Nat) (i : Int32) : Option Int32 :=
  r.bind fun a => match h a with
    | .inl (kd, n, .inl f) => if (kd = 0 ∨ kd = 100) ∧ ¬ (i < 0 ∨ n ≤ i.toNatClampNeg) then some (f i.toNatClampNeg) else none
    | _ => none
def z_aB (h : zH) (r : Option Nat) (i : Int32) : Option Int32 :=
  r.bind fun a => match h a with
    | .inl (kd, n, .inl f) => if (kd = 1 ∨ kd = 2) ∧ ¬ (i < 0 ∨ n ≤ i.toNatClampNeg) then some (f i.toNatClampNeg) else none
    | _ => none
def z_aJ (h : zH) (r : Option Nat) (i : Int32) : Option Int64 :=
  r.bind fun a => match h a with
    | .inl (kd, n, .inr (.inl f)) => if kd = 3 ∧ ¬ (i < 0 ∨ n ≤ i.toNatClampNeg) then some (f i.toNatClampNeg) else none
    | _ => none
def z_aA (h : zH) (r : Option Nat) (i : Int32) : Option (Option Nat) :=
  r.bind fun a => match h a with
    | .inl (kd, n, .inr (.inr f)) => if (4 ≤ kd ∧ kd ≤ 8) ∧ ¬ (i < 0 ∨ n ≤ i.toNatClampNeg) then some (f i.toNatClampNeg) else none
    | _ => none
def z_len (h : zH) (r : Option Nat) : Option Int32 :=
  r.bind fun a => match h a with
    | .inl (kd, n, .inl _) => if kd ≤ 8 ∨ kd = 100 then some (Int32.ofNat n) else none
    | .inl (kd, n, .inr _) => if kd ≤ 8 then some (Int32.ofNat n) else none
    | .inr _ => none
def z_sI (h : zH) (r : Option Nat) (i x : Int32) : Option zH :=
  r.bind fun a => match h a with
    | .inl (kd, n, .inl f) => if kd = 0 ∧ ¬ (i < 0 ∨ n ≤ i.toNatClampNeg) then some (z_up h a (.inl (kd, n, .inl (upd f i.toNatClampNeg x)))) else none
    | _ => none
def z_sB (h : zH) (r : Option Nat) (i x : Int32) : Option zH :=
  r.bind fun a => match h a with
    | .inl (kd, n, .inl f) => if (kd = 1 ∨ kd = 2) ∧ ¬ (i < 0 ∨ n ≤ i.toNatClampNeg) then some (z_up h a (.inl (kd, n, .inl (upd f i.toNatClampNeg (if kd = 1 then vp_nar .byte x else vp_nar .boolean x))))) else none
    | _ => none
def z_sJ (h : zH) (r : Option Nat) (i : Int32) (x : Int64) : Option zH :=
  r.bind fun a => match h a with
    | .inl (kd, n, .inr (.inl f)) => if kd = 3 ∧ ¬ (i < 0 ∨ n ≤ i.toNatClampNeg) then some (z_up h a (.inl (kd, n, .inr (.inl (vp_updL f i.toNatClampNeg x))))) else none
    | _ => none
/-- the class of the elements of an array of references of that kind -/
def z_kc (kd : Nat) : Nat := match kd with
  | 4 => 0
  | 5 => 8
  | 6 => 6
  | 7 => 7
  | _ => 2
def z_sA (h : zH) (r : Option Nat) (i : Int32) (v : Option Nat) : Option zH :=
  r.bind fun a => v.bind fun q => match h a, h q with
    | .inl (kd, n, .inr (.inr f)), .inr (c, _) => if ((4 ≤ kd ∧ kd ≤ 8) ∧ c = z_kc kd) ∧ ¬ (i < 0 ∨ n ≤ i.toNatClampNeg) then some (z_up h a (.inl (kd, n, .inr (.inr (va_up f i.toNatClampNeg (some q)))))) else none
    | _, _ => none
def z_cp (h : zH) (r : Option Nat) (sp : Int32) (w : Option Nat) (dp n : Int32) : Option zH :=
  r.bind fun a => w.bind fun b => match h a, h b with
    | .inl (ka, na, .inl f), .inl (kb, nb, .inl g) => if (ka = 0 ∧ kb = 0) ∧ (¬ sp < 0 ∧ ¬ dp < 0 ∧ ¬ n < 0) ∧ sp.toNatClampNeg + n.toNatClampNeg ≤ na ∧ dp.toNatClampNeg + n.toNatClampNeg ≤ nb then some (z_up h b (.inl (kb, nb, .inl (va_cpy f g sp.toNatClampNeg dp.toNatClampNeg n.toNatClampNeg)))) else none
    | .inl (ka, na, .inr (.inl f)), .inl (kb, nb, .inr (.inl g)) => if (ka = 3 ∧ kb = 3) ∧ (¬ sp < 0 ∧ ¬ dp < 0 ∧ ¬ n < 0) ∧ sp.toNatClampNeg + n.toNatClampNeg ≤ na ∧ dp.toNatClampNeg + n.toNatClampNeg ≤ nb then some (z_up h b (.inl (kb, nb, .inr (.inl (va_cpy f g sp.toNatClampNeg dp.toNatClampNeg n.toNatClampNeg))))) else none
    | _, _ => none
/-- an answer that is two things -/
def z_b2 {α β γ : Type} (x : Option (α × β)) (k : α → β → Option γ) : Option γ := x.bind fun p => k p.1 p.2
theorem z_b2_some {α β γ : Type} (a : α) (b : β) (k : α → β → Option γ) : z_b2 (some (a, b)) k = k a b := rfl
theorem z_b2_inv {α β γ : Type} {x : Option (α × β)} {k : α → β → Option γ} {c : γ} (h : z_b2 x k = some c) : ∃ a b, x = some (a, b) ∧ k a b = some c := by
  cases x with
  | none => cases h
  | some p => exact ⟨p.1, p.2, rfl, h⟩
theorem z_bind_inv {α γ : Type} {x : Option α} {k : α → Option γ} {c : γ} (h : x.bind k = some c) : ∃ a, x = some a ∧ k a = some c := by
  cases x with
  | none => cases h
  | some p => exact ⟨p, rfl, h⟩
/-! LOOPS -/
def z_itF {σ α : Type} (body : σ → Option (σ ⊕ α)) : Nat → σ → Option α
  | 0, _ => none
  | n + 1, s => match body s with
    | none => none
    | some (.inl s') => z_itF body n s'
    | some (.inr a) => some a
theorem z_itF_mono {σ α : Type} {body : σ → Option (σ ⊕ α)} : ∀ (n m : Nat) (s : σ) (a : α), z_itF body n s = some a → n ≤ m → z_itF body m s = some a
  | 0, _, _, _, h, _ => by cases h
  | n + 1, 0, _, _, _, hm => absurd hm (by omega)
  | n + 1, m + 1, s, a, h, hm => by
    unfold z_itF at h ⊢
    cases hb : body s with
    | none => rw [hb] at h; cases h
    | some x =>
      rw [hb] at h
      cases x with
      | inl s' => exact z_itF_mono n m s' a h (by omega)
      | inr b => exact h

noncomputable def z_it {σ α : Type} (body : σ → Option (σ ⊕ α)) (s : σ) : Option α := @dite (Option α) (∃ a, ∃ n, z_itF body n s = some a) (Classical.propDecidable _) (fun h => some (Classical.choose h)) (fun _ => none)
theorem z_it_of {σ α : Type} {body : σ → Option (σ ⊕ α)} {s : σ} {a : α} {n : Nat} (h : z_itF body n s = some a) : z_it body s = some a := by
  have hx : ∃ a, ∃ n, z_itF body n s = some a := ⟨a, n, h⟩
  obtain ⟨m, hm⟩ := Classical.choose_spec hx
  have h1 := z_itF_mono n (max n m) s a h (by omega)
  have h2 := z_itF_mono m (max n m) s _ hm (by omega)
  rw [z_it, dif_pos hx]
  exact h2.symm.trans h1
theorem z_it_to {σ α : Type} {body : σ → Option (σ ⊕ α)} {s : σ} {a : α} (h : z_it body s = some a) : ∃ n, z_itF body n s = some a := by
  unfold z_it at h
  split at h
  · rename_i hx
    cases h
    exact Classical.choose_spec hx
  · cases h
/-- a loop, unrolled once -/
theorem z_it_eq {σ α : Type} (body : σ → Option (σ ⊕ α)) (s : σ) : z_it body s = match body s with
    | none => none
    | some (.inl s') => z_it body s'
    | some (.inr a) => some a := by
  cases hb : body s with
  | none =>
    cases hi : z_it body s with
    | none => rfl
    | some a =>
      obtain ⟨n, hn⟩ := z_it_to hi
      cases n with
      | zero => cases hn
      | succ n => unfold z_itF at hn; rw [hb] at hn; cases hn
  | some x =>
    cases x with
    | inl s' =>
      show z_it body s = z_it body s'
      cases hi : z_it body s' with
      | some a =>
        obtain ⟨n, hn⟩ := z_it_to hi
        exact z_it_of (n := n + 1) (by unfold z_itF; rw [hb]; exact hn)
      | none =>
        cases hj : z_it body s with
        | none => rfl
        | some a =>
          obtain ⟨n, hn⟩ := z_it_to hj
          cases n with
          | zero => cases hn
          | succ n =>
            unfold z_itF at hn
            rw [hb] at hn
            have := z_it_of (body := body) (s := s') hn
            rw [hi] at this
            cases this
    | inr a => exact z_it_of (n := 1) (by unfold z_itF; rw [hb])
/-- what holds of a loop's states: from behind -/
theorem z_it_ind {σ α : Type} {body : σ → Option (σ ⊕ α)} {a : α} (P : σ → Prop) (step : ∀ (s : σ) (x : σ ⊕ α), body s = some x → (match x with
    | .inl s' => P s'
    | .inr b => b = a) → P s) {s : σ} (h : z_it body s = some a) : P s := by
  obtain ⟨n, hn⟩ := z_it_to h
  clear h
  induction n generalizing s with
  | zero => cases hn
  | succ n ih =>
    unfold z_itF at hn
    cases hb : body s with
    | none => rw [hb] at hn; cases hn
    | some x =>
      rw [hb] at hn
      refine step s x hb ?_
      cases x with
      | inl s' => exact ih hn
      | inr b => exact Option.some.inj hn
end
section
/-! THE JUDGEMENT over the small heap -/
abbrev zC : Type := Program × Launch × Env × State × MethodId × Array Value × List Frame × Method × Code
/-- n0 (where our cells begin), the script's cell, the table STEP's cell, the script's length, its values, the classes' numbers, the array classes -/
abbrev zG : Type := Nat × Nat × Nat × Nat × (Nat → Int32) × va_G × (Nat → ClassId)
def z_step : Nat → Int32 := fun j => match j with
  | 0 => 1
  | 1 => 8
  | 2 => -1
  | _ => -8
def z_A (G : zG) : Nat → Prop := fun q => G.1 ≤ q
def z_tys (cy : Nat → ClassId) : List (ClassId × FieldType) := [(cy 0, .int), (cy 1, .byte), (cy 2, .boolean), (cy 3, .long), (cy 4, .object RX0), (cy 5, .object RX8), (cy 6, .object RX6), (cy 7, .object RX7), (cy 8, .object RX2)]
def z_E (cy : Nat → ClassId) : zMC → va_E
  | .inl (k, n, .inl f) => .inl (cy k, n, .inl f)
  | .inl (k, n, .inr (.inl f)) => .inl (cy k, n, .inr (.inl f))
  | .inl (k, n, .inr (.inr f)) => .inl (cy k, n, .inr (.inr (.inr (.inr f))))
  | .inr (c, fs) => .inr (c, fs.map z_tv)
def z_ws (G : zG) (h : zH) (nx : Nat) : va_W := (List.range (nx - G.1)).map fun k => (G.1 + k, z_E G.2.2.2.2.2.2 (h (G.1 + k)))
def z_isN : Cond → Bool
  | .fieldLinkNest .. => true
  | .methodLinkNest .. => true
  | _ => false
def z_nst : List Cond := lw_tbl.filter z_isN
/-- what holds of a state beside our own cells -/
def z_St (G : zG) (U : State) : Prop := (G.1 ≤ U.heap.size ∧ G.2.1 < G.1 ∧ G.2.2.1 < G.1) ∧ va_X G.2.1 G.2.2.2.1 G.2.2.2.2.1 U U.heap ∧ va_Z "ThinkingArms" "STEP" "[I" (.ref G.2.2.1) (z_A G) U U.heap ∧ va_T .int G.2.2.1 4 (fun j => .int (z_step j)) (z_A G) U U.heap ∧ va_K G.2.2.2.2.2.1 vwCl (z_tys G.2.2.2.2.2.2) U ∧ (∀ w ∈ z_nst, va_Nw w U) ∧ (va_AO RX0 U ∧ va_AO RX8 U ∧ va_AO RX6 U ∧ va_AO RX7 U ∧ va_AO RX2 U)
/-- no table that nobody writes -/
def z_nk (c : zMC) : Prop := ∀ (n : Nat) (f : Nat → Int32), c ≠ .inl (100, n, .inl f)
def z_dom (G : zG) (h : zH) (nx : Nat) : Prop := h G.2.1 = .inl (100, G.2.2.2.1, .inl G.2.2.2.2.1) ∧ h G.2.2.1 = .inl (100, 4, .inl z_step) ∧ (∀ a : Nat, (a < G.1 ∨ nx ≤ a) → a ≠ G.2.1 → a ≠ G.2.2.1 → h a = .inr (999, [])) ∧ ∀ a : Nat, a ≠ G.2.1 → a ≠ G.2.2.1 → z_nk (h a)
def z_Hp (G : zG) (h : zH) (nx : Nat) (H : Heap) : Prop := va_P G.2.2.2.2.2.1 vwCl (z_ws G h nx) H ∧ nx ≤ H.size ∧ G.1 ≤ nx ∧ z_dom G h nx
def z_lm (q : Nat × zTV) : Nat × Value := (q.1, z_tv q.2)
/-- the machine, the room, the world, how many locals, what is to be come to -/
abbrev zX : Type := zC × Room × zG × Nat × (State → Prop)
def z_Ok (X : zX) (cc : ByteArray) (ret : Option FieldType) (own nm : String) : Prop :=
  X.1.1.tables.exec = Jvm.exec ∧ X.1.2.2.2.2.2.2.2.2.code = cc ∧ X.1.2.2.2.2.2.2.2.1.sig.returnType = ret ∧ X.1.2.2.2.2.2.2.2.2.maxLocals = X.2.2.2.1 ∧ X.1.2.2.2.1.vm.findClass own = some X.1.2.2.2.2.1.cls ∧ (∀ w ∈ z_tb, w.before X.1.2.2.2.2.2.1 X.1.2.2.2.1 = true) ∧ X.1.2.2.2.2.2.2.2.1.locks = false ∧ X.1.2.2.2.2.2.2.2.1.name = nm ∧ z_St X.2.2.1 X.1.2.2.2.1
/-- the heap holds our cells; how many there are is told by the count of the new ones -/
def z_Hs (X : zX) (h : zH) (nx k : Nat) (H : Heap) : Prop := z_Hp X.2.2.1 h nx H ∧ X.1.2.2.2.1.heap.size + k = nx
def zV (X : zX) (pc : Nat) (lv : List (Nat × zTV)) (st : List zTV) (h : zH) (nx k z : Nat) : Prop :=
  ∀ (H : Heap) (locs : List Loc) (ls : Array Slot), z_Hs X h nx k H → va_S (z_A X.2.2.1) X.1.2.2.2.1.heap H locs → lv_has ls X.2.2.2.1 (lv.map z_lm) →
    W X.1.1 X.1.2.1 X.1.2.2.1 X.2.1 X.1.2.2.2.1 X.1.2.2.2.2.1 X.1.2.2.2.2.2.1 X.1.2.2.2.2.2.2.1 X.1.2.2.2.2.2.2.2.1 X.1.2.2.2.2.2.2.2.2 H locs k z X.2.2.2.2 (F0 X.1.2.2.2.2.1 pc ls (st.map z_tv))
def z_D (cc : ByteArray) (pc : Nat) (i : Instr) (n pc' : Nat) : Prop := decode cc pc = .ok (i, n) ∧ pc + n = pc'
theorem z_in {ci : Nat} {q : vw_C} (hc : vwCl[ci]? = some q) : ∀ w ∈ u_ws q.1 q.2.1 q.2.2, w ∈ z_tb := by
  have key : ∀ w ∈ u_ws q.1 q.2.1 q.2.2, w ∈ lw_tbl := by
    match ci, hc with
    | 0, hc => cases hc; exact zinX0
    | 1, hc => cases hc; exact zinX1
    | 2, hc => cases hc; exact zinX2
    | 3, hc => cases hc; exact zinX3
    | 4, hc => cases hc; exact zinX4
    | 5, hc => cases hc; exact zinX5
    | 6, hc => cases hc; exact zinX6
    | 7, hc => cases hc; exact zinX7
    | 8, hc => cases hc; exact zinX8
    | 9, hc => cases hc; exact zinX9
    | 10, hc => cases hc; exact zinX10
    | 11, hc => cases hc; exact zinX11
    | n + 12, hc => simp [vwCl] at hc
  intro w hw
  refine List.mem_filter.mpr ⟨key w hw, ?_⟩
  obtain ⟨k, -, rfl⟩ := List.mem_map.mp hw
  unfold u_lay
  split <;> rfl
def z_ft (ci : Nat) : Nat → FieldType := match ci with
  | 0 => tyX0
  | 1 => tyX1
  | 2 => tyX2
  | 3 => tyX3
  | 4 => tyX4
  | 5 => tyX5
  | 6 => tyX6
  | 7 => tyX7
  | 8 => tyX8
  | 9 => tyX9
  | 10 => tyX10
  | _ => tyX11
theorem z_ft_ok {ci : Nat} {q : vw_C} (hc : vwCl[ci]? = some q) : (∀ k, k < q.2.2 → parseFieldDescriptor (q.2.1 k).2.2.1 = some (z_ft ci k)) ∧ ∀ a, a < q.2.2 → ∀ b, b < q.2.2 → a ≠ b → (q.2.1 a).2.1 ≠ (q.2.1 b).2.1 := by
  match ci, hc with
  | 0, hc => cases hc; exact ⟨tyX0_ok, nmX0⟩
  | 1, hc => cases hc; exact ⟨tyX1_ok, nmX1⟩
  | 2, hc => cases hc; exact ⟨tyX2_ok, nmX2⟩
  | 3, hc => cases hc; exact ⟨tyX3_ok, nmX3⟩
  | 4, hc => cases hc; exact ⟨tyX4_ok, nmX4⟩
  | 5, hc => cases hc; exact ⟨tyX5_ok, nmX5⟩
  | 6, hc => cases hc; exact ⟨tyX6_ok, nmX6⟩
  | 7, hc => cases hc; exact ⟨tyX7_ok, nmX7⟩
  | 8, hc => cases hc; exact ⟨tyX8_ok, nmX8⟩
  | 9, hc => cases hc; exact ⟨tyX9_ok, nmX9⟩
  | 10, hc => cases hc; exact ⟨tyX10_ok, nmX10⟩
  | 11, hc => cases hc; exact ⟨tyX11_ok, nmX11⟩
  | n + 12, hc => simp [vwCl] at hc
/-! the world as a list -/
theorem z_ws_get {G : zG} {h : zH} {nx a : Nat} (h1 : G.1 ≤ a) (h2 : a < nx) : (z_ws G h nx)[a - G.1]? = some (a, z_E G.2.2.2.2.2.2 (h a)) := by
  unfold z_ws
  rw [List.getElem?_map, List.getElem?_range (by omega)]
  simp only [Option.map_some, Option.some.injEq, Prod.mk.injEq]
  have : G.1 + (a - G.1) = a := by omega
  rw [this]
  exact ⟨rfl, rfl⟩
theorem z_ws_set {G : zG} {h : zH} {nx a : Nat} (h1 : G.1 ≤ a) (h2 : a < nx) (c : zMC) : (z_ws G h nx).set (a - G.1) (a, z_E G.2.2.2.2.2.2 c) = z_ws G (z_up h a c) nx := by
  apply List.ext_getElem?
  intro i
  by_cases hi : i = a - G.1
  · subst hi
    rw [List.getElem?_set_self (by unfold z_ws; simp; omega), z_ws_get h1 h2, z_up_s]
  · rw [List.getElem?_set_ne (Ne.symm hi)]
    unfold z_ws
    rw [List.getElem?_map, List.getElem?_map]
    by_cases hl : i < nx - G.1
    · rw [List.getElem?_range hl]
      simp only [Option.map_some]
      rw [z_up_n h c (by omega : G.1 + i ≠ a)]
    · rw [List.getElem?_eq_none (by simp; omega)]
      rfl
theorem z_ws_push {G : zG} {h : zH} {nx : Nat} (h1 : G.1 ≤ nx) (c : zMC) : z_ws G h nx ++ [(nx, z_E G.2.2.2.2.2.2 c)] = z_ws G (z_up h nx c) (nx + 1) := by
  unfold z_ws
  rw [show nx + 1 - G.1 = (nx - G.1) + 1 by omega, List.range_succ, List.map_append]
  congr 1
  · apply List.map_congr_left
    intro k hk
    have := List.mem_range.mp hk
    rw [z_up_n h c (by omega : G.1 + k ≠ nx)]
  · simp only [List.map_cons, List.map_nil]
    rw [show G.1 + (nx - G.1) = nx by omega, z_up_s]
theorem z_ws_D {G : zG} {h : zH} {nx : Nat} : va_D (z_A G) (z_ws G h nx) := by
  have key : ∀ (k : Nat) (q : Nat × va_E), (z_ws G h nx)[k]? = some q → q.1 = G.1 + k := by
    intro k q hk
    unfold z_ws at hk
    rw [List.getElem?_map] at hk
    cases hr : (List.range (nx - G.1))[k]? with
    | none => rw [hr] at hk; cases hk
    | some j =>
      rw [hr] at hk
      have hj := List.getElem?_eq_some_iff.mp hr
      obtain ⟨hj1, hj2⟩ := hj
      rw [List.getElem_range] at hj2
      subst hj2
      cases hk
      rfl
  refine ⟨fun i j p q hi hj hpq => ?_, fun k q hk => ?_⟩
  · have := key i p hi
    have := key j q hj
    omega
  · have := key k q hk
    show G.1 ≤ q.1
    omega
/-- a cell that is none of the dead ones, nor a table's, is ours -/
theorem z_dom_in {G : zG} {h : zH} {nx a : Nat} (hd : z_dom G h nx) (h1 : h a ≠ .inr (999, [])) (h2 : ∀ n f, h a ≠ .inl (100, n, .inl f)) : G.1 ≤ a ∧ a < nx := by
  by_cases hb : a = G.2.1
  · subst hb; exact absurd hd.1 (h2 _ _)
  · by_cases ht : a = G.2.2.1
    · subst ht; exact absurd hd.2.1 (h2 _ _)
    · by_cases hr : a < G.1 ∨ nx ≤ a
      · exact absurd (hd.2.2.1 a hr hb ht) h1
      · omega
theorem z_dom_up {G : zG} {h : zH} {nx a : Nat} (hd : z_dom G h nx) (hbt : G.2.1 < G.1 ∧ G.2.2.1 < G.1) (h1 : G.1 ≤ a) (h2 : a < nx) (c : zMC) (hc : z_nk c) : z_dom G (z_up h a c) nx := by
  refine ⟨?_, ?_, fun q hq hb ht => ?_, fun q hb ht => ?_⟩
  · rw [z_up_n h c (by omega : G.2.1 ≠ a)]; exact hd.1
  · rw [z_up_n h c (by omega : G.2.2.1 ≠ a)]; exact hd.2.1
  · rw [z_up_n h c (by omega : q ≠ a)]; exact hd.2.2.1 q hq hb ht
  · by_cases hq : q = a
    · subst hq; rw [z_up_s]; exact hc
    · rw [z_up_n h c hq]; exact hd.2.2.2 q hb ht
theorem z_dom_push {G : zG} {h : zH} {nx : Nat} (hd : z_dom G h nx) (hbt : G.2.1 < G.1 ∧ G.2.2.1 < G.1) (h1 : G.1 ≤ nx) (c : zMC) (hc : z_nk c) : z_dom G (z_up h nx c) (nx + 1) := by
  refine ⟨?_, ?_, fun q hq hb ht => ?_, fun q hb ht => ?_⟩
  · rw [z_up_n h c (by omega : G.2.1 ≠ nx)]; exact hd.1
  · rw [z_up_n h c (by omega : G.2.2.1 ≠ nx)]; exact hd.2.1
  · rw [z_up_n h c (by omega : q ≠ nx)]; exact hd.2.2.1 q (by omega) hb ht
  · by_cases hq : q = nx
    · subst hq; rw [z_up_s]; exact hc
    · rw [z_up_n h c hq]; exact hd.2.2.2 q hb ht
section ZV
variable {X : zX} {cc : ByteArray} {ret : Option FieldType} {own nm : String} {pc pc' : Nat} {lv lv' : List (Nat × zTV)} {rest : List zTV} {h : zH} {nx k z : Nat}
theorem z_word (K : z_Ok X cc ret own nm) {w : Cond} (hm : w ∈ lw_tbl) (hg : goodWord w = true) : w.before X.1.2.2.2.2.2.1 X.1.2.2.2.1 = true := K.2.2.2.2.2.1 w (List.mem_filter.mpr ⟨hm, hg⟩)
theorem z_nword (K : z_Ok X cc ret own nm) {w : Cond} (hm : w ∈ lw_tbl) (hg : z_isN w = true) (ht : w.onTables = true) : w.before X.1.2.2.2.2.2.1 X.1.2.2.2.1 = true := va_Nw.use ht (K.2.2.2.2.2.2.2.2.2.2.2.2.2.1 w (List.mem_filter.mpr ⟨hm, hg⟩))
theorem zv_sub (ks : List Nat) (hl : ks.filterMap (fun k => lv[k]?) = lv') (kk : zV X pc lv' rest h nx k z) : zV X pc lv rest h nx k z := by
  intro H locs ls hH hS hv
  refine kk H locs ls hH hS ⟨hv.1, hv.2.1, fun q hq => ?_⟩
  subst hl
  obtain ⟨q0, h0, rfl⟩ := List.mem_map.mp hq
  obtain ⟨j, -, hj⟩ := List.mem_filterMap.mp h0
  exact hv.2.2 _ (List.mem_map.mpr ⟨q0, List.mem_of_getElem? hj, rfl⟩)
theorem z_lvat {ls : Array Slot} {nL j i : Nat} {v : zTV} (hv : lv_has ls nL (lv.map z_lm)) (hj : lv[j]? = some (i, v)) : ls[i]? = some (.val (z_tv v)) :=
  lv_at hv j (by rw [List.getElem?_map, hj]; rfl)
-- constants
theorem zv_iconst (K : z_Ok X cc ret own nm) {n : Int} (v : Int32) (d : z_D cc pc (.iconst n) 1 pc') (hv : Int32.ofInt n = v) (kk : zV X pc' lv (tI v :: rest) h nx k z) : zV X pc lv rest h nx k z := by
  intro H locs ls hH hS hl; obtain ⟨d, rfl⟩ := d; exact lv_iconst K.1 K.2.1 d hv (kk H locs ls hH hS hl)
theorem zv_bipush (K : z_Ok X cc ret own nm) {n : Int} (v : Int32) (d : z_D cc pc (.bipush n) 2 pc') (hv : (Int8.ofInt n).toInt32 = v) (kk : zV X pc' lv (tI v :: rest) h nx k z) : zV X pc lv rest h nx k z := by
  intro H locs ls hH hS hl; obtain ⟨d, rfl⟩ := d; exact lv_bipush K.1 K.2.1 d hv (kk H locs ls hH hS hl)
theorem zv_sipush (K : z_Ok X cc ret own nm) {n : Int} (v : Int32) (d : z_D cc pc (.sipush n) 3 pc') (hv : (Int16.ofInt n).toInt32 = v) (kk : zV X pc' lv (tI v :: rest) h nx k z) : zV X pc lv rest h nx k z := by
  intro H locs ls hH hS hl; obtain ⟨d, rfl⟩ := d; exact lv_sipush K.1 K.2.1 d hv (kk H locs ls hH hS hl)
theorem zv_lconst (K : z_Ok X cc ret own nm) {n : Fin 2} (v : Int64) (d : z_D cc pc (.lconst n) 1 pc') (hv : Int64.ofNat (n : Nat) = v) (kk : zV X pc' lv (tJ v :: rest) h nx k z) : zV X pc lv rest h nx k z := by
  intro H locs ls hH hS hl; obtain ⟨d, rfl⟩ := d; exact lv_lconst K.1 K.2.1 d hv (kk H locs ls hH hS hl)
theorem zv_ldc2 (K : z_Ok X cc ret own nm) {index : Nat} (v : Int64) (d : z_D cc pc (.ldc2_w index) 3 pc') (hm : Cond.constantLong own index v ∈ lw_tbl) (kk : zV X pc' lv (tJ v :: rest) h nx k z) : zV X pc lv rest h nx k z := by
  intro H locs ls hH hS hl; obtain ⟨d, rfl⟩ := d; exact lv_ldc2 K.1 K.2.1 K.2.2.2.2.1 (z_word K hm rfl) d (kk H locs ls hH hS hl)
theorem zv_anull (K : z_Ok X cc ret own nm) (d : z_D cc pc .aconst_null 1 pc') (kk : zV X pc' lv (tA none :: rest) h nx k z) : zV X pc lv rest h nx k z := by
  intro H locs ls hH hS hl; obtain ⟨d, rfl⟩ := d; exact lv_null K.1 K.2.1 d (kk H locs ls hH hS hl)
-- locals
theorem zv_iload_n (K : z_Ok X cc ret own nm) {i : Fin 4} {x : Int32} (j : Nat) (d : z_D cc pc (.iload_n i) 1 pc') (hj : lv[j]? = some ((i : Nat), tI x)) (kk : zV X pc' lv (tI x :: rest) h nx k z) : zV X pc lv rest h nx k z := by
  intro H locs ls hH hS hl; obtain ⟨d, rfl⟩ := d; exact lv_iload_n K.1 K.2.1 d rfl (z_lvat hl hj) (kk H locs ls hH hS hl)
theorem zv_iload (K : z_Ok X cc ret own nm) {i : Nat} {x : Int32} (j : Nat) (d : z_D cc pc (.iload i) 2 pc') (hj : lv[j]? = some (i, tI x)) (kk : zV X pc' lv (tI x :: rest) h nx k z) : zV X pc lv rest h nx k z := by
  intro H locs ls hH hS hl; obtain ⟨d, rfl⟩ := d; exact lv_iload K.1 K.2.1 d (z_lvat hl hj) (kk H locs ls hH hS hl)
theorem zv_lload_n (K : z_Ok X cc ret own nm) {i : Fin 4} {x : Int64} (j : Nat) (d : z_D cc pc (.lload_n i) 1 pc') (hj : lv[j]? = some ((i : Nat), tJ x)) (kk : zV X pc' lv (tJ x :: rest) h nx k z) : zV X pc lv rest h nx k z := by
  intro H locs ls hH hS hl; obtain ⟨d, rfl⟩ := d; exact lv_lload_n K.1 K.2.1 d rfl (z_lvat hl hj) (kk H locs ls hH hS hl)
theorem zv_lload (K : z_Ok X cc ret own nm) {i : Nat} {x : Int64} (j : Nat) (d : z_D cc pc (.lload i) 2 pc') (hj : lv[j]? = some (i, tJ x)) (kk : zV X pc' lv (tJ x :: rest) h nx k z) : zV X pc lv rest h nx k z := by
  intro H locs ls hH hS hl; obtain ⟨d, rfl⟩ := d; exact lv_lload K.1 K.2.1 d (z_lvat hl hj) (kk H locs ls hH hS hl)
theorem zv_aload_n (K : z_Ok X cc ret own nm) {i : Fin 4} {x : Option Nat} (j : Nat) (d : z_D cc pc (.aload_n i) 1 pc') (hj : lv[j]? = some ((i : Nat), tA x)) (kk : zV X pc' lv (tA x :: rest) h nx k z) : zV X pc lv rest h nx k z := by
  intro H locs ls hH hS hl; obtain ⟨d, rfl⟩ := d
  cases x with
  | none => exact lv_aload_nN K.1 K.2.1 d rfl (z_lvat hl hj) (kk H locs ls hH hS hl)
  | some a => exact lv_aload_n K.1 K.2.1 d rfl (z_lvat hl hj) (kk H locs ls hH hS hl)
theorem zv_aload (K : z_Ok X cc ret own nm) {i : Nat} {x : Option Nat} (j : Nat) (d : z_D cc pc (.aload i) 2 pc') (hj : lv[j]? = some (i, tA x)) (kk : zV X pc' lv (tA x :: rest) h nx k z) : zV X pc lv rest h nx k z := by
  intro H locs ls hH hS hl; obtain ⟨d, rfl⟩ := d
  cases x with
  | none => exact lv_aloadN K.1 K.2.1 d (z_lvat hl hj) (kk H locs ls hH hS hl)
  | some a => exact lv_aload K.1 K.2.1 d (z_lvat hl hj) (kk H locs ls hH hS hl)
def z_s1 (i : Nat) (v : zTV) (lv : List (Nat × zTV)) : List (Nat × zTV) := (i, v) :: lv.filter (fun q => !(q.1 == i) && !(q.1 + 1 == i && z_cat q.2 == 2))
def z_s2 (i : Nat) (v : zTV) (lv : List (Nat × zTV)) : List (Nat × zTV) := (i, v) :: lv.filter (fun q => !(q.1 == i) && (!(q.1 == i + 1) && !(q.1 + 1 == i && z_cat q.2 == 2)))
theorem z_s1_map (i : Nat) (v : zTV) : (i, z_tv v) :: (lv.map z_lm).filter (fun q => !(q.1 == i) && !(q.1 + 1 == i && q.2.category == 2)) = (z_s1 i v lv).map z_lm := by
  unfold z_s1
  rw [List.map_cons, List.filter_map]
  congr 2
  apply List.filter_congr
  intro q _
  simp only [Function.comp, z_lm, z_tv_cat]
theorem z_s2_map (i : Nat) (v : zTV) : (i, z_tv v) :: (lv.map z_lm).filter (fun q => !(q.1 == i) && (!(q.1 == i + 1) && !(q.1 + 1 == i && q.2.category == 2))) = (z_s2 i v lv).map z_lm := by
  unfold z_s2
  rw [List.map_cons, List.filter_map]
  congr 2
  apply List.filter_congr
  intro q _
  simp only [Function.comp, z_lm, z_tv_cat]
theorem zv_istore_n (K : z_Ok X cc ret own nm) {i : Fin 4} {x : Int32} (lv' : List (Nat × zTV)) (d : z_D cc pc (.istore_n i) 1 pc') (hn : (i : Nat) < X.2.2.2.1) (he : z_s1 i (tI x) lv = lv') (kk : zV X pc' lv' rest h nx k z) : zV X pc lv (tI x :: rest) h nx k z := by
  intro H locs ls hH hS hl; obtain ⟨d, rfl⟩ := d; subst he; exact lv_istore_n K.1 K.2.1 d rfl hl hn (z_s1_map i (tI x)) (fun ls' hl' => kk H locs ls' hH hS hl')
theorem zv_istore (K : z_Ok X cc ret own nm) {i : Nat} {x : Int32} (lv' : List (Nat × zTV)) (d : z_D cc pc (.istore i) 2 pc') (hn : i < X.2.2.2.1) (he : z_s1 i (tI x) lv = lv') (kk : zV X pc' lv' rest h nx k z) : zV X pc lv (tI x :: rest) h nx k z := by
  intro H locs ls hH hS hl; obtain ⟨d, rfl⟩ := d; subst he; exact lv_istore K.1 K.2.1 d hl hn (z_s1_map i (tI x)) (fun ls' hl' => kk H locs ls' hH hS hl')
theorem zv_lstore_n (K : z_Ok X cc ret own nm) {i : Fin 4} {x : Int64} (lv' : List (Nat × zTV)) (d : z_D cc pc (.lstore_n i) 1 pc') (hn : (i : Nat) + 1 < X.2.2.2.1) (he : z_s2 i (tJ x) lv = lv') (kk : zV X pc' lv' rest h nx k z) : zV X pc lv (tJ x :: rest) h nx k z := by
  intro H locs ls hH hS hl; obtain ⟨d, rfl⟩ := d; subst he; exact lv_lstore_n K.1 K.2.1 d rfl hl hn (z_s2_map i (tJ x)) (fun ls' hl' => kk H locs ls' hH hS hl')
theorem zv_lstore (K : z_Ok X cc ret own nm) {i : Nat} {x : Int64} (lv' : List (Nat × zTV)) (d : z_D cc pc (.lstore i) 2 pc') (hn : i + 1 < X.2.2.2.1) (he : z_s2 i (tJ x) lv = lv') (kk : zV X pc' lv' rest h nx k z) : zV X pc lv (tJ x :: rest) h nx k z := by
  intro H locs ls hH hS hl; obtain ⟨d, rfl⟩ := d; subst he; exact lv_lstore K.1 K.2.1 d hl hn (z_s2_map i (tJ x)) (fun ls' hl' => kk H locs ls' hH hS hl')
theorem zv_astore_n (K : z_Ok X cc ret own nm) {i : Fin 4} {x : Option Nat} (lv' : List (Nat × zTV)) (d : z_D cc pc (.astore_n i) 1 pc') (hn : (i : Nat) < X.2.2.2.1) (he : z_s1 i (tA x) lv = lv') (kk : zV X pc' lv' rest h nx k z) : zV X pc lv (tA x :: rest) h nx k z := by
  intro H locs ls hH hS hl; obtain ⟨d, rfl⟩ := d; subst he
  cases x with
  | none => exact lv_astore_nN K.1 K.2.1 d rfl hl hn (z_s1_map i (tA none)) (fun ls' hl' => kk H locs ls' hH hS hl')
  | some a => exact lv_astore_n K.1 K.2.1 d rfl hl hn (z_s1_map i (tA (some a))) (fun ls' hl' => kk H locs ls' hH hS hl')
theorem zv_astore (K : z_Ok X cc ret own nm) {i : Nat} {x : Option Nat} (lv' : List (Nat × zTV)) (d : z_D cc pc (.astore i) 2 pc') (hn : i < X.2.2.2.1) (he : z_s1 i (tA x) lv = lv') (kk : zV X pc' lv' rest h nx k z) : zV X pc lv (tA x :: rest) h nx k z := by
  intro H locs ls hH hS hl; obtain ⟨d, rfl⟩ := d; subst he
  cases x with
  | none => exact lv_astoreN K.1 K.2.1 d hl hn (z_s1_map i (tA none)) (fun ls' hl' => kk H locs ls' hH hS hl')
  | some a => exact lv_astore K.1 K.2.1 d hl hn (z_s1_map i (tA (some a))) (fun ls' hl' => kk H locs ls' hH hS hl')
theorem zv_iinc (K : z_Ok X cc ret own nm) {i : Nat} {n : Int} {x : Int32} (v : Int32) (j : Nat) (lv' : List (Nat × zTV)) (d : z_D cc pc (.iinc i n) 3 pc') (hj : lv[j]? = some (i, tI x)) (hv : x + Int32.ofInt n = v) (hn : i < X.2.2.2.1) (he : z_s1 i (tI v) lv = lv') (kk : zV X pc' lv' rest h nx k z) : zV X pc lv rest h nx k z := by
  intro H locs ls hH hS hl; obtain ⟨d, rfl⟩ := d; subst he
  exact lv_iinc (k := j) K.1 K.2.1 d hl (by rw [List.getElem?_map, hj]; rfl) hv hn (z_s1_map i (tI v)) (fun ls' hl' => kk H locs ls' hH hS hl')
-- arithmetic
theorem zv_iadd (K : z_Ok X cc ret own nm) {x y : Int32} (d : z_D cc pc .iadd 1 pc') (kk : zV X pc' lv (tI (x + y) :: rest) h nx k z) : zV X pc lv (tI y :: tI x :: rest) h nx k z := by
  intro H locs ls hH hS hl; obtain ⟨d, rfl⟩ := d; exact lv_iadd K.1 K.2.1 d (kk H locs ls hH hS hl)
theorem zv_isub (K : z_Ok X cc ret own nm) {x y : Int32} (d : z_D cc pc .isub 1 pc') (kk : zV X pc' lv (tI (x - y) :: rest) h nx k z) : zV X pc lv (tI y :: tI x :: rest) h nx k z := by
  intro H locs ls hH hS hl; obtain ⟨d, rfl⟩ := d; exact lv_isub K.1 K.2.1 d (kk H locs ls hH hS hl)
theorem zv_imul (K : z_Ok X cc ret own nm) {x y : Int32} (d : z_D cc pc .imul 1 pc') (kk : zV X pc' lv (tI (x * y) :: rest) h nx k z) : zV X pc lv (tI y :: tI x :: rest) h nx k z := by
  intro H locs ls hH hS hl; obtain ⟨d, rfl⟩ := d; exact lv_imul K.1 K.2.1 d (kk H locs ls hH hS hl)
theorem zv_iand (K : z_Ok X cc ret own nm) {x y : Int32} (d : z_D cc pc .iand 1 pc') (kk : zV X pc' lv (tI (x &&& y) :: rest) h nx k z) : zV X pc lv (tI y :: tI x :: rest) h nx k z := by
  intro H locs ls hH hS hl; obtain ⟨d, rfl⟩ := d; exact lv_iand K.1 K.2.1 d (kk H locs ls hH hS hl)
theorem zv_ior (K : z_Ok X cc ret own nm) {x y : Int32} (d : z_D cc pc .ior 1 pc') (kk : zV X pc' lv (tI (x ||| y) :: rest) h nx k z) : zV X pc lv (tI y :: tI x :: rest) h nx k z := by
  intro H locs ls hH hS hl; obtain ⟨d, rfl⟩ := d; exact lv_ior K.1 K.2.1 d (kk H locs ls hH hS hl)
theorem zv_ixor (K : z_Ok X cc ret own nm) {x y : Int32} (d : z_D cc pc .ixor 1 pc') (kk : zV X pc' lv (tI (x ^^^ y) :: rest) h nx k z) : zV X pc lv (tI y :: tI x :: rest) h nx k z := by
  intro H locs ls hH hS hl; obtain ⟨d, rfl⟩ := d; exact lv_ixor K.1 K.2.1 d (kk H locs ls hH hS hl)
theorem zv_idiv (K : z_Ok X cc ret own nm) {x y : Int32} (d : z_D cc pc .idiv 1 pc') (hne : ¬ y = 0) (kk : zV X pc' lv (tI (x / y) :: rest) h nx k z) : zV X pc lv (tI y :: tI x :: rest) h nx k z := by
  intro H locs ls hH hS hl; obtain ⟨d, rfl⟩ := d; exact lv_idiv K.1 K.2.1 d hne (kk H locs ls hH hS hl)
theorem zv_irem (K : z_Ok X cc ret own nm) {x y : Int32} (d : z_D cc pc .irem 1 pc') (hne : ¬ y = 0) (kk : zV X pc' lv (tI (x - x / y * y) :: rest) h nx k z) : zV X pc lv (tI y :: tI x :: rest) h nx k z := by
  intro H locs ls hH hS hl; obtain ⟨d, rfl⟩ := d; exact lv_irem K.1 K.2.1 d hne (kk H locs ls hH hS hl)
theorem zv_ladd (K : z_Ok X cc ret own nm) {x y : Int64} (d : z_D cc pc .ladd 1 pc') (kk : zV X pc' lv (tJ (x + y) :: rest) h nx k z) : zV X pc lv (tJ y :: tJ x :: rest) h nx k z := by
  intro H locs ls hH hS hl; obtain ⟨d, rfl⟩ := d; exact lv_ladd K.1 K.2.1 d (kk H locs ls hH hS hl)
theorem zv_lsub (K : z_Ok X cc ret own nm) {x y : Int64} (d : z_D cc pc .lsub 1 pc') (kk : zV X pc' lv (tJ (x - y) :: rest) h nx k z) : zV X pc lv (tJ y :: tJ x :: rest) h nx k z := by
  intro H locs ls hH hS hl; obtain ⟨d, rfl⟩ := d; exact lv_lsub K.1 K.2.1 d (kk H locs ls hH hS hl)
theorem zv_land (K : z_Ok X cc ret own nm) {x y : Int64} (d : z_D cc pc .land 1 pc') (kk : zV X pc' lv (tJ (x &&& y) :: rest) h nx k z) : zV X pc lv (tJ y :: tJ x :: rest) h nx k z := by
  intro H locs ls hH hS hl; obtain ⟨d, rfl⟩ := d; exact lv_land K.1 K.2.1 d (kk H locs ls hH hS hl)
theorem zv_lor (K : z_Ok X cc ret own nm) {x y : Int64} (d : z_D cc pc .lor 1 pc') (kk : zV X pc' lv (tJ (x ||| y) :: rest) h nx k z) : zV X pc lv (tJ y :: tJ x :: rest) h nx k z := by
  intro H locs ls hH hS hl; obtain ⟨d, rfl⟩ := d; exact lv_lor K.1 K.2.1 d (kk H locs ls hH hS hl)
theorem zv_lxor (K : z_Ok X cc ret own nm) {x y : Int64} (d : z_D cc pc .lxor 1 pc') (kk : zV X pc' lv (tJ (x ^^^ y) :: rest) h nx k z) : zV X pc lv (tJ y :: tJ x :: rest) h nx k z := by
  intro H locs ls hH hS hl; obtain ⟨d, rfl⟩ := d; exact lv_lxor K.1 K.2.1 d (kk H locs ls hH hS hl)
theorem zv_ishl (K : z_Ok X cc ret own nm) {x y : Int32} (d : z_D cc pc .ishl 1 pc') (kk : zV X pc' lv (tI (x <<< (y &&& 31)) :: rest) h nx k z) : zV X pc lv (tI y :: tI x :: rest) h nx k z := by
  intro H locs ls hH hS hl; obtain ⟨d, rfl⟩ := d; exact lv_ishl K.1 K.2.1 d (kk H locs ls hH hS hl)
theorem zv_ishr (K : z_Ok X cc ret own nm) {x y : Int32} (d : z_D cc pc .ishr 1 pc') (kk : zV X pc' lv (tI (x >>> (y &&& 31)) :: rest) h nx k z) : zV X pc lv (tI y :: tI x :: rest) h nx k z := by
  intro H locs ls hH hS hl; obtain ⟨d, rfl⟩ := d; exact lv_ishr K.1 K.2.1 d (kk H locs ls hH hS hl)
theorem zv_i2l (K : z_Ok X cc ret own nm) {x : Int32} (d : z_D cc pc .i2l 1 pc') (kk : zV X pc' lv (tJ x.toInt64 :: rest) h nx k z) : zV X pc lv (tI x :: rest) h nx k z := by
  intro H locs ls hH hS hl; obtain ⟨d, rfl⟩ := d; exact lv_i2l K.1 K.2.1 d rfl (kk H locs ls hH hS hl)
theorem zv_l2i (K : z_Ok X cc ret own nm) {x : Int64} (d : z_D cc pc .l2i 1 pc') (kk : zV X pc' lv (tI x.toInt32 :: rest) h nx k z) : zV X pc lv (tJ x :: rest) h nx k z := by
  intro H locs ls hH hS hl; obtain ⟨d, rfl⟩ := d; exact lv_l2i K.1 K.2.1 d rfl (kk H locs ls hH hS hl)
theorem zv_i2b (K : z_Ok X cc ret own nm) {x : Int32} (d : z_D cc pc .i2b 1 pc') (kk : zV X pc' lv (tI x.toInt8.toInt32 :: rest) h nx k z) : zV X pc lv (tI x :: rest) h nx k z := by
  intro H locs ls hH hS hl; obtain ⟨d, rfl⟩ := d; exact lv_i2b K.1 K.2.1 d rfl (kk H locs ls hH hS hl)
theorem zv_lushr (K : z_Ok X cc ret own nm) {x : Int64} {y : Int32} (d : z_D cc pc .lushr 1 pc') (kk : zV X pc' lv (tJ (x.toUInt64 >>> (y.toInt64.toUInt64 &&& Int64.toUInt64 63)).toInt64 :: rest) h nx k z) : zV X pc lv (tI y :: tJ x :: rest) h nx k z := by
  intro H locs ls hH hS hl; obtain ⟨d, rfl⟩ := d; exact lv_lushr K.1 K.2.1 d rfl (kk H locs ls hH hS hl)
theorem zv_lshl (K : z_Ok X cc ret own nm) {x : Int64} {y : Int32} (d : z_D cc pc .lshl 1 pc') (kk : zV X pc' lv (tJ (x <<< (y.toInt64 &&& 63)) :: rest) h nx k z) : zV X pc lv (tI y :: tJ x :: rest) h nx k z := by
  intro H locs ls hH hS hl; obtain ⟨d, rfl⟩ := d; exact lv_lshl K.1 K.2.1 d rfl (kk H locs ls hH hS hl)
theorem zv_lshr (K : z_Ok X cc ret own nm) {x : Int64} {y : Int32} (d : z_D cc pc .lshr 1 pc') (kk : zV X pc' lv (tJ (x >>> (y.toInt64 &&& 63)) :: rest) h nx k z) : zV X pc lv (tI y :: tJ x :: rest) h nx k z := by
  intro H locs ls hH hS hl; obtain ⟨d, rfl⟩ := d; exact lv_lshr K.1 K.2.1 d rfl (kk H locs ls hH hS hl)
theorem zv_lcmp (K : z_Ok X cc ret own nm) {x y : Int64} (d : z_D cc pc .lcmp 1 pc') (kk : zV X pc' lv (tI (lg_cmp x y) :: rest) h nx k z) : zV X pc lv (tJ y :: tJ x :: rest) h nx k z := by
  intro H locs ls hH hS hl; obtain ⟨d, rfl⟩ := d; exact W.lcmp K.1 K.2.1 d (kk H locs ls hH hS hl)
-- the stack
theorem zv_dup (K : z_Ok X cc ret own nm) {v : zTV} (d : z_D cc pc .dup 1 pc') (hv : z_cat v = 1) (kk : zV X pc' lv (v :: v :: rest) h nx k z) : zV X pc lv (v :: rest) h nx k z := by
  intro H locs ls hH hS hl; obtain ⟨d, rfl⟩ := d; exact lv_dup K.1 K.2.1 d (by rw [z_tv_cat, hv]) (kk H locs ls hH hS hl)
theorem zv_pop (K : z_Ok X cc ret own nm) {v : zTV} (d : z_D cc pc .pop 1 pc') (hv : z_cat v = 1) (kk : zV X pc' lv rest h nx k z) : zV X pc lv (v :: rest) h nx k z := by
  intro H locs ls hH hS hl; obtain ⟨d, rfl⟩ := d; exact lv_pop K.1 K.2.1 d (by rw [z_tv_cat, hv]) (kk H locs ls hH hS hl)
theorem zv_dup2 (K : z_Ok X cc ret own nm) {v w : zTV} (d : z_D cc pc .dup2 1 pc') (hv : z_cat v = 1) (hw : z_cat w = 1) (kk : zV X pc' lv (v :: w :: v :: w :: rest) h nx k z) : zV X pc lv (v :: w :: rest) h nx k z := by
  intro H locs ls hH hS hl; obtain ⟨d, rfl⟩ := d; exact lv_dup2_11 K.1 K.2.1 d (by rw [z_tv_cat, hv]) (by rw [z_tv_cat, hw]) (kk H locs ls hH hS hl)
-- branches
theorem zv_goto (K : z_Ok X cc ret own nm) {off : Int} (tgt : Nat) (d : z_D cc pc (.goto off) 3 pc') (ht : (pc : Int) + off = (tgt : Int)) (kk : zV X tgt lv rest h nx k z) : zV X pc lv rest h nx k z := by
  intro H locs ls hH hS hl; obtain ⟨d, rfl⟩ := d; exact lv_goto K.1 K.2.1 d ht (kk H locs ls hH hS hl)
end ZV
end
section
/-! branches, fields, arrays: with the answer of f beside them -/
section ZW
variable {X : zX} {cc : ByteArray} {ret : Option FieldType} {own nm : String} {pc pc' : Nat} {lv lv' : List (Nat × zTV)} {rest : List zTV} {h : zH} {nx k z : Nat} {α : Type} {T E : Option α} {a : α}
theorem z_ite_inv {c : Prop} (dc : Decidable c) (hf : (@ite _ c dc T E) = some a) {G : Prop} (kt : c → T = some a → G) (kf : ¬ c → E = some a → G) : G := by
  by_cases hc : c
  · rw [if_pos hc] at hf; exact kt hc hf
  · rw [if_neg hc] at hf; exact kf hc hf
theorem zv_if_eq (K : z_Ok X cc ret own nm) {x : Int32} {off : Int} (tgt : Nat) (d : z_D cc pc (.ifCond .eq off) 3 pc') (ht : (pc : Int) + off = (tgt : Int)) (hf : (if x = 0 then T else E) = some a)
    (kt : x = 0 → T = some a → zV X tgt lv rest h nx k z) (kf : ¬ (x = 0) → E = some a → zV X pc' lv rest h nx k z) : zV X pc lv (tI x :: rest) h nx k z := by
  intro H locs ls hH hS hl; obtain ⟨d, rfl⟩ := d
  exact lv_if_eq K.1 K.2.1 d ht (fun c => kt c (by rw [if_pos c] at hf; exact hf) H locs ls hH hS hl) (fun c => kf c (by rw [if_neg c] at hf; exact hf) H locs ls hH hS hl)
theorem zv_if_ne (K : z_Ok X cc ret own nm) {x : Int32} {off : Int} (tgt : Nat) (d : z_D cc pc (.ifCond .ne off) 3 pc') (ht : (pc : Int) + off = (tgt : Int)) (hf : (if x = 0 then E else T) = some a)
    (kt : ¬ x = 0 → T = some a → zV X tgt lv rest h nx k z) (kf : x = 0 → E = some a → zV X pc' lv rest h nx k z) : zV X pc lv (tI x :: rest) h nx k z := by
  intro H locs ls hH hS hl; obtain ⟨d, rfl⟩ := d
  exact lv_if_ne K.1 K.2.1 d ht (fun c => kt c (by rw [if_neg c] at hf; exact hf) H locs ls hH hS hl) (fun c => kf c (by rw [if_pos c] at hf; exact hf) H locs ls hH hS hl)
theorem zv_if_lt (K : z_Ok X cc ret own nm) {x : Int32} {off : Int} (tgt : Nat) (d : z_D cc pc (.ifCond .lt off) 3 pc') (ht : (pc : Int) + off = (tgt : Int)) (hf : (if x < 0 then T else E) = some a)
    (kt : x < 0 → T = some a → zV X tgt lv rest h nx k z) (kf : ¬ (x < 0) → E = some a → zV X pc' lv rest h nx k z) : zV X pc lv (tI x :: rest) h nx k z := by
  intro H locs ls hH hS hl; obtain ⟨d, rfl⟩ := d
  exact lv_if_lt K.1 K.2.1 d ht (fun c => kt c (by rw [if_pos c] at hf; exact hf) H locs ls hH hS hl) (fun c => kf c (by rw [if_neg c] at hf; exact hf) H locs ls hH hS hl)
theorem zv_if_ge (K : z_Ok X cc ret own nm) {x : Int32} {off : Int} (tgt : Nat) (d : z_D cc pc (.ifCond .ge off) 3 pc') (ht : (pc : Int) + off = (tgt : Int)) (hf : (if 0 ≤ x then T else E) = some a)
    (kt : 0 ≤ x → T = some a → zV X tgt lv rest h nx k z) (kf : ¬ (0 ≤ x) → E = some a → zV X pc' lv rest h nx k z) : zV X pc lv (tI x :: rest) h nx k z := by
  intro H locs ls hH hS hl; obtain ⟨d, rfl⟩ := d
  exact lv_if_ge K.1 K.2.1 d ht (fun c => kt c (by rw [if_pos c] at hf; exact hf) H locs ls hH hS hl) (fun c => kf c (by rw [if_neg c] at hf; exact hf) H locs ls hH hS hl)
theorem zv_if_gt (K : z_Ok X cc ret own nm) {x : Int32} {off : Int} (tgt : Nat) (d : z_D cc pc (.ifCond .gt off) 3 pc') (ht : (pc : Int) + off = (tgt : Int)) (hf : (if 0 < x then T else E) = some a)
    (kt : 0 < x → T = some a → zV X tgt lv rest h nx k z) (kf : ¬ (0 < x) → E = some a → zV X pc' lv rest h nx k z) : zV X pc lv (tI x :: rest) h nx k z := by
  intro H locs ls hH hS hl; obtain ⟨d, rfl⟩ := d
  exact lv_if_gt K.1 K.2.1 d ht (fun c => kt c (by rw [if_pos c] at hf; exact hf) H locs ls hH hS hl) (fun c => kf c (by rw [if_neg c] at hf; exact hf) H locs ls hH hS hl)
theorem zv_if_le (K : z_Ok X cc ret own nm) {x : Int32} {off : Int} (tgt : Nat) (d : z_D cc pc (.ifCond .le off) 3 pc') (ht : (pc : Int) + off = (tgt : Int)) (hf : (if x ≤ 0 then T else E) = some a)
    (kt : x ≤ 0 → T = some a → zV X tgt lv rest h nx k z) (kf : ¬ (x ≤ 0) → E = some a → zV X pc' lv rest h nx k z) : zV X pc lv (tI x :: rest) h nx k z := by
  intro H locs ls hH hS hl; obtain ⟨d, rfl⟩ := d
  exact lv_if_le K.1 K.2.1 d ht (fun c => kt c (by rw [if_pos c] at hf; exact hf) H locs ls hH hS hl) (fun c => kf c (by rw [if_neg c] at hf; exact hf) H locs ls hH hS hl)
theorem zv_icmp_eq (K : z_Ok X cc ret own nm) {x y : Int32} {off : Int} (tgt : Nat) (d : z_D cc pc (.if_icmp .eq off) 3 pc') (ht : (pc : Int) + off = (tgt : Int)) (hf : (if x = y then T else E) = some a)
    (kt : x = y → T = some a → zV X tgt lv rest h nx k z) (kf : ¬ (x = y) → E = some a → zV X pc' lv rest h nx k z) : zV X pc lv (tI y :: tI x :: rest) h nx k z := by
  intro H locs ls hH hS hl; obtain ⟨d, rfl⟩ := d
  exact lv_icmp_eq K.1 K.2.1 d ht (fun c => kt c (by rw [if_pos c] at hf; exact hf) H locs ls hH hS hl) (fun c => kf c (by rw [if_neg c] at hf; exact hf) H locs ls hH hS hl)
theorem zv_icmp_ne (K : z_Ok X cc ret own nm) {x y : Int32} {off : Int} (tgt : Nat) (d : z_D cc pc (.if_icmp .ne off) 3 pc') (ht : (pc : Int) + off = (tgt : Int)) (hf : (if x = y then E else T) = some a)
    (kt : ¬ x = y → T = some a → zV X tgt lv rest h nx k z) (kf : x = y → E = some a → zV X pc' lv rest h nx k z) : zV X pc lv (tI y :: tI x :: rest) h nx k z := by
  intro H locs ls hH hS hl; obtain ⟨d, rfl⟩ := d
  exact lv_icmp_ne K.1 K.2.1 d ht (fun c => kt c (by rw [if_neg c] at hf; exact hf) H locs ls hH hS hl) (fun c => kf c (by rw [if_pos c] at hf; exact hf) H locs ls hH hS hl)
theorem zv_icmp_lt (K : z_Ok X cc ret own nm) {x y : Int32} {off : Int} (tgt : Nat) (d : z_D cc pc (.if_icmp .lt off) 3 pc') (ht : (pc : Int) + off = (tgt : Int)) (hf : (if x < y then T else E) = some a)
    (kt : x < y → T = some a → zV X tgt lv rest h nx k z) (kf : ¬ (x < y) → E = some a → zV X pc' lv rest h nx k z) : zV X pc lv (tI y :: tI x :: rest) h nx k z := by
  intro H locs ls hH hS hl; obtain ⟨d, rfl⟩ := d
  exact lv_icmp_lt K.1 K.2.1 d ht (fun c => kt c (by rw [if_pos c] at hf; exact hf) H locs ls hH hS hl) (fun c => kf c (by rw [if_neg c] at hf; exact hf) H locs ls hH hS hl)
theorem zv_icmp_ge (K : z_Ok X cc ret own nm) {x y : Int32} {off : Int} (tgt : Nat) (d : z_D cc pc (.if_icmp .ge off) 3 pc') (ht : (pc : Int) + off = (tgt : Int)) (hf : (if y ≤ x then T else E) = some a)
    (kt : y ≤ x → T = some a → zV X tgt lv rest h nx k z) (kf : ¬ (y ≤ x) → E = some a → zV X pc' lv rest h nx k z) : zV X pc lv (tI y :: tI x :: rest) h nx k z := by
  intro H locs ls hH hS hl; obtain ⟨d, rfl⟩ := d
  exact lv_icmp_ge K.1 K.2.1 d ht (fun c => kt c (by rw [if_pos c] at hf; exact hf) H locs ls hH hS hl) (fun c => kf c (by rw [if_neg c] at hf; exact hf) H locs ls hH hS hl)
theorem zv_icmp_gt (K : z_Ok X cc ret own nm) {x y : Int32} {off : Int} (tgt : Nat) (d : z_D cc pc (.if_icmp .gt off) 3 pc') (ht : (pc : Int) + off = (tgt : Int)) (hf : (if y < x then T else E) = some a)
    (kt : y < x → T = some a → zV X tgt lv rest h nx k z) (kf : ¬ (y < x) → E = some a → zV X pc' lv rest h nx k z) : zV X pc lv (tI y :: tI x :: rest) h nx k z := by
  intro H locs ls hH hS hl; obtain ⟨d, rfl⟩ := d
  exact lv_icmp_gt K.1 K.2.1 d ht (fun c => kt c (by rw [if_pos c] at hf; exact hf) H locs ls hH hS hl) (fun c => kf c (by rw [if_neg c] at hf; exact hf) H locs ls hH hS hl)
theorem zv_icmp_le (K : z_Ok X cc ret own nm) {x y : Int32} {off : Int} (tgt : Nat) (d : z_D cc pc (.if_icmp .le off) 3 pc') (ht : (pc : Int) + off = (tgt : Int)) (hf : (if x ≤ y then T else E) = some a)
    (kt : x ≤ y → T = some a → zV X tgt lv rest h nx k z) (kf : ¬ (x ≤ y) → E = some a → zV X pc' lv rest h nx k z) : zV X pc lv (tI y :: tI x :: rest) h nx k z := by
  intro H locs ls hH hS hl; obtain ⟨d, rfl⟩ := d
  exact lv_icmp_le K.1 K.2.1 d ht (fun c => kt c (by rw [if_pos c] at hf; exact hf) H locs ls hH hS hl) (fun c => kf c (by rw [if_neg c] at hf; exact hf) H locs ls hH hS hl)
theorem zv_ifnull (K : z_Ok X cc ret own nm) {x : Option Nat} {off : Int} (tgt : Nat) (d : z_D cc pc (.ifnull off) 3 pc') (ht : (pc : Int) + off = (tgt : Int)) (hf : (if x = none then T else E) = some a)
    (kt : x = none → T = some a → zV X tgt lv rest h nx k z) (kf : ¬ (x = none) → E = some a → zV X pc' lv rest h nx k z) : zV X pc lv (tA x :: rest) h nx k z := by
  intro H locs ls hH hS hl; obtain ⟨d, rfl⟩ := d
  cases x with
  | none => exact lv_ifnullN K.1 K.2.1 d ht (kt rfl (by rw [if_pos rfl] at hf; exact hf) H locs ls hH hS hl)
  | some q => exact lv_ifnull K.1 K.2.1 d (kf (by simp) (by rw [if_neg (by simp)] at hf; exact hf) H locs ls hH hS hl)
theorem zv_ifnonnull (K : z_Ok X cc ret own nm) {x : Option Nat} {off : Int} (tgt : Nat) (d : z_D cc pc (.ifnonnull off) 3 pc') (ht : (pc : Int) + off = (tgt : Int)) (hf : (if x = none then E else T) = some a)
    (kt : ¬ x = none → T = some a → zV X tgt lv rest h nx k z) (kf : x = none → E = some a → zV X pc' lv rest h nx k z) : zV X pc lv (tA x :: rest) h nx k z := by
  intro H locs ls hH hS hl; obtain ⟨d, rfl⟩ := d
  cases x with
  | none => exact lv_ifnonnullN K.1 K.2.1 d (kf rfl (by rw [if_pos rfl] at hf; exact hf) H locs ls hH hS hl)
  | some q => exact lv_ifnonnull K.1 K.2.1 d ht (kt (by simp) (by rw [if_neg (by simp)] at hf; exact hf) H locs ls hH hS hl)
theorem zv_tswIn (K : z_Ok X cc ret own nm) {dflt lo hi off : Int} {offs : Array Int} {len : Nat} {x : Int32} (c : Int32) (tgt : Nat) (d : z_D cc pc (.tableswitch dflt lo hi offs) len pc') (hx : x = c) (h1 : ¬ c.toInt < lo) (h2 : ¬ hi < c.toInt) (ho : offs[(c.toInt - lo).toNat]? = some off) (ht : (pc : Int) + off = (tgt : Int))
    (kk : zV X tgt lv rest h nx k z) : zV X pc lv (tI x :: rest) h nx k z := by
  intro H locs ls hH hS hl; obtain ⟨d, rfl⟩ := d; subst hx
  exact lv_tableIn K.1 K.2.1 d h1 h2 ho ht (kk H locs ls hH hS hl)
theorem zv_tswOut (K : z_Ok X cc ret own nm) {dflt lo hi : Int} {offs : Array Int} {len : Nat} {x : Int32} (tgt : Nat) (d : z_D cc pc (.tableswitch dflt lo hi offs) len pc') (hx : x.toInt < lo ∨ hi < x.toInt) (ht : (pc : Int) + dflt = (tgt : Int))
    (kk : zV X tgt lv rest h nx k z) : zV X pc lv (tI x :: rest) h nx k z := by
  intro H locs ls hH hS hl; obtain ⟨d, rfl⟩ := d
  exact lv_tableOut K.1 K.2.1 d hx ht (kk H locs ls hH hS hl)
theorem zv_lsw (K : z_Ok X cc ret own nm) {dflt off : Int} {ps : Array (Int × Int)} {len : Nat} {x : Int32} (tgt : Nat) (d : z_D cc pc (.lookupswitch dflt ps) len pc') (hp : (ps.toList.zip (ps.toList.drop 1)).all (fun (a, next) => a.1 < next.1) = true) (ho : Op.lookupswitch.offset ps.toList dflt x.toInt = off) (ht : (pc : Int) + off = (tgt : Int))
    (kk : zV X tgt lv rest h nx k z) : zV X pc lv (tI x :: rest) h nx k z := by
  intro H locs ls hH hS hl; obtain ⟨d, rfl⟩ := d
  exact lv_lookup K.1 K.2.1 d hp ho ht (kk H locs ls hH hS hl)
/-- a field's link, of the own class or of a nest mate's -/
def z_FL (own : String) (idx ci fk : Nat) : Prop := ∃ q : vw_C, vwCl[ci]? = some q ∧ fk < q.2.2 ∧ (Cond.fieldLink own idx (q.2.1 fk).1 (q.2.1 fk).2.1 (q.2.1 fk).2.2.1 ∈ lw_tbl ∨ ∃ host, Cond.fieldLinkNest own idx (q.2.1 fk).1 (q.2.1 fk).2.1 (q.2.1 fk).2.2.1 host ∈ lw_tbl)
theorem z_gF_inv {ci fk : Nat} {r : Option Nat} {v : zTV} (he : z_gF h ci fk r = some v) : ∃ (q : Nat) (fs : List zTV), r = some q ∧ h q = .inr (ci, fs) ∧ fs[fk]? = some v := by
  cases r with
  | none => cases he
  | some q =>
    simp only [z_gF, Option.bind_some] at he
    split at he
    · rename_i c fs hq
      split at he
      · rename_i hc; subst hc; exact ⟨q, fs, rfl, hq, he⟩
      · cases he
    · cases he
theorem z_cls_lt {ci : Nat} {q : vw_C} (hc : vwCl[ci]? = some q) : ci < 12 := (List.getElem?_eq_some_iff.mp hc).1
theorem zv_gF (K : z_Ok X cc ret own nm) {idx ci fk : Nat} {r : Option Nat} {v : zTV} (d : z_D cc pc (.getfield idx) 3 pc') (hL : z_FL own idx ci fk) (he : z_gF h ci fk r = some v) (kk : zV X pc' lv (v :: rest) h nx k z) : zV X pc lv (tA r :: rest) h nx k z := by
  intro H locs ls hH hS hl; obtain ⟨d, rfl⟩ := d
  obtain ⟨q, fs, rfl, hq, hv⟩ := z_gF_inv he
  obtain ⟨qc, hc, hk, hlk⟩ := hL
  have hlt := z_cls_lt hc
  obtain ⟨i1, i2⟩ := z_dom_in hH.1.2.2.2 (a := q) (by rw [hq]; intro e; injection e with e; injection e with e _; omega) (by intro n f e; rw [hq] at e; cases e)
  have hw : (z_ws X.2.2.1 h nx)[q - X.2.2.1.1]? = some (q, .inr (ci, fs.map z_tv)) := by rw [z_ws_get i1 i2, hq]; rfl
  have hv' : (fs.map z_tv)[fk]? = some (z_tv v) := by rw [List.getElem?_map, hv]; rfl
  rcases hlk with hlk | ⟨host, hlk⟩
  · exact va_get K.1 K.2.1 K.2.2.2.2.2.1 (z_in hc) K.2.2.2.2.1 K.2.2.2.2.2.2.2.2.2.2.2.2.1 hH.1.1 _ hw hc fk hk (z_word K hlk rfl) (fun _ e => e) hv' d (kk H locs ls hH hS hl)
  · exact va_getN (host := host) K.1 K.2.1 K.2.2.2.2.2.1 (z_in hc) K.2.2.2.2.1 K.2.2.2.2.2.2.2.2.2.2.2.2.1 hH.1.1 _ hw hc fk hk (z_nword K hlk rfl rfl) (fun _ e => e) hv' d (kk H locs ls hH hS hl)
theorem zv_gI (K : z_Ok X cc ret own nm) {idx ci fk : Nat} {r : Option Nat} {F : Int32 → Option α} (d : z_D cc pc (.getfield idx) 3 pc') (hL : z_FL own idx ci fk) (hf : (z_gI h ci fk r).bind F = some a) (kk : ∀ v, F v = some a → zV X pc' lv (tI v :: rest) h nx k z) : zV X pc lv (tA r :: rest) h nx k z := by
  obtain ⟨v, he, hf⟩ := z_bind_inv hf
  obtain ⟨w, h1, h2⟩ := z_bind_inv he
  rcases w with x | x | x
  · cases h2; exact zv_gF K d hL h1 (kk v hf)
  · cases h2
  · cases h2
theorem zv_gJ (K : z_Ok X cc ret own nm) {idx ci fk : Nat} {r : Option Nat} {F : Int64 → Option α} (d : z_D cc pc (.getfield idx) 3 pc') (hL : z_FL own idx ci fk) (hf : (z_gJ h ci fk r).bind F = some a) (kk : ∀ v, F v = some a → zV X pc' lv (tJ v :: rest) h nx k z) : zV X pc lv (tA r :: rest) h nx k z := by
  obtain ⟨v, he, hf⟩ := z_bind_inv hf
  obtain ⟨w, h1, h2⟩ := z_bind_inv he
  rcases w with x | x | x
  · cases h2
  · cases h2; exact zv_gF K d hL h1 (kk v hf)
  · cases h2
theorem zv_gA (K : z_Ok X cc ret own nm) {idx ci fk : Nat} {r : Option Nat} {F : Option Nat → Option α} (d : z_D cc pc (.getfield idx) 3 pc') (hL : z_FL own idx ci fk) (hf : (z_gA h ci fk r).bind F = some a) (kk : ∀ v, F v = some a → zV X pc' lv (tA v :: rest) h nx k z) : zV X pc lv (tA r :: rest) h nx k z := by
  obtain ⟨v, he, hf⟩ := z_bind_inv hf
  obtain ⟨w, h1, h2⟩ := z_bind_inv he
  rcases w with x | x | x
  · cases h2
  · cases h2
  · cases h2; exact zv_gF K d hL h1 (kk v hf)
theorem z_pF_inv {ci fk : Nat} {r : Option Nat} {v : zTV} {h1 : zH} (he : z_pF h ci fk r v = some h1) : ∃ (q : Nat) (fs : List zTV), r = some q ∧ h q = .inr (ci, fs) ∧ fk < fs.length ∧ h1 = z_up h q (.inr (ci, fs.set fk v)) := by
  cases r with
  | none => cases he
  | some q =>
    simp only [z_pF, Option.bind_some] at he
    split at he
    · rename_i c fs hq
      split at he
      · rename_i hc; obtain ⟨rfl, h2⟩ := hc; cases he; exact ⟨q, fs, rfl, hq, h2, rfl⟩
      · cases he
    · cases he
theorem z_Hp_up {G : zG} {H1 : Heap} {q : Nat} {c : zMC} (hd : z_dom G h nx) (hn : G.1 ≤ nx) (hbt : G.2.1 < G.1 ∧ G.2.2.1 < G.1) (i1 : G.1 ≤ q) (i2 : q < nx) (hP : va_P G.2.2.2.2.2.1 vwCl ((z_ws G h nx).set (q - G.1) (q, z_E G.2.2.2.2.2.2 c)) H1) (hz : nx ≤ H1.size) (hc : z_nk c) : z_Hp G (z_up h q c) nx H1 := by
  rw [z_ws_set i1 i2] at hP
  exact ⟨hP, hz, hn, z_dom_up hd hbt i1 i2 c hc⟩
theorem z_S_tr {A : Nat → Prop} {H0 H H1 : Heap} {locs locs1 : List Loc} (h1 : va_S A H0 H locs) (h2 : va_S A H H1 locs1) : va_S A H0 H1 locs1 :=
  ⟨Nat.le_trans h1.1 h2.1, fun q g1 g2 => (h2.2.1 q (Nat.lt_of_lt_of_le g1 h1.1) g2).trans (h1.2.1 q g1 g2), h2.2.2⟩
theorem z_S_rf {A : Nat → Prop} {H0 H : Heap} {locs : List Loc} (h1 : va_S A H0 H locs) : va_S A H H locs := ⟨Nat.le_refl _, fun _ _ _ => rfl, h1.2.2⟩
/-- what a kit's write leaves: the rest of the walk -/
theorem z_wr {q : Nat} {c : zMC} {H : Heap} {locs : List Loc} {ls : Array Slot} (K : z_Ok X cc ret own nm) (hH : z_Hs X h nx k H) (hS : va_S (z_A X.2.2.1) X.1.2.2.2.1.heap H locs) (hl : lv_has ls X.2.2.2.1 (lv.map z_lm)) (i1 : X.2.2.1.1 ≤ q) (i2 : q < nx) (hc : z_nk c) (kk : zV X pc' lv rest (z_up h q c) nx k z) (H1 : Heap) (locs1 : List Loc)
    (hP : va_P X.2.2.1.2.2.2.2.2.1 vwCl ((z_ws X.2.2.1 h nx).set (q - X.2.2.1.1) (q, z_E X.2.2.1.2.2.2.2.2.2 c)) H1) (hS1 : va_S (z_A X.2.2.1) H H1 locs1) :
    W X.1.1 X.1.2.1 X.1.2.2.1 X.2.1 X.1.2.2.2.1 X.1.2.2.2.2.1 X.1.2.2.2.2.2.1 X.1.2.2.2.2.2.2.1 X.1.2.2.2.2.2.2.2.1 X.1.2.2.2.2.2.2.2.2 H1 locs1 k z X.2.2.2.2 (F0 X.1.2.2.2.2.1 pc' ls (rest.map z_tv)) :=
  kk H1 locs1 ls ⟨z_Hp_up hH.1.2.2.2 hH.1.2.2.1 K.2.2.2.2.2.2.2.2.1.2 i1 i2 hP (Nat.le_trans hH.1.2.1 hS1.1) hc, hH.2⟩ (z_S_tr hS hS1) hl
theorem zv_pF (K : z_Ok X cc ret own nm) {idx ci fk : Nat} {r : Option Nat} {v : zTV} {h1 : zH} (d : z_D cc pc (.putfield idx) 3 pc') (hL : z_FL own idx ci fk) (hfin : ∀ q, vwCl[ci]? = some q → (q.2.1 fk).2.2.2 = false) (hn : narrow (z_ft ci fk) (z_tv v) = z_tv v) (hfit : fits (z_ft ci fk) (z_tv v) = true) (he : z_pF h ci fk r v = some h1) (kk : zV X pc' lv rest h1 nx k z) : zV X pc lv (v :: tA r :: rest) h nx k z := by
  intro H locs ls hH hS hl; obtain ⟨d, rfl⟩ := d
  obtain ⟨q, fs, rfl, hq, hfk, rfl⟩ := z_pF_inv he
  obtain ⟨qc, hc, hk, hlk⟩ := hL
  have hlt := z_cls_lt hc
  obtain ⟨i1, i2⟩ := z_dom_in hH.1.2.2.2 (a := q) (by rw [hq]; intro e; injection e with e; injection e with e _; omega) (by intro n f e; rw [hq] at e; cases e)
  have hw : (z_ws X.2.2.1 h nx)[q - X.2.2.1.1]? = some (q, .inr (ci, fs.map z_tv)) := by rw [z_ws_get i1 i2, hq]; rfl
  have hset : (fs.map z_tv).set fk (z_tv v) = (fs.set fk v).map z_tv := (List.map_set).symm
  have go := z_wr (c := .inr (ci, fs.set fk v)) K hH hS hl i1 i2 (fun n f e => by cases e) kk
  rcases hlk with hlk | ⟨host, hlk⟩
  · refine va_put K.1 K.2.1 K.2.2.2.2.2.1 (z_in hc) (z_ft ci) (z_ft_ok hc).1 (z_ft_ok hc).2 K.2.2.2.2.1 K.2.2.2.2.2.2.2.2.2.2.2.2.1 hH.1.1 z_ws_D (z_S_rf hS) _ hw hc fk hk (z_word K hlk rfl) (fun _ e => e) (hfin _ hc) ((z_ft_ok hc).1 fk hk) hn hfit (by rw [List.length_map]; exact hfk) d (fun H1 locs1 hP _ hS1 => ?_)
    rw [hset] at hP
    exact go H1 locs1 hP hS1
  · refine va_putN (host := host) K.1 K.2.1 K.2.2.2.2.2.1 (z_in hc) (z_ft ci) (z_ft_ok hc).1 (z_ft_ok hc).2 K.2.2.2.2.1 K.2.2.2.2.2.2.2.2.2.2.2.2.1 hH.1.1 z_ws_D (z_S_rf hS) _ hw hc fk hk (z_nword K hlk rfl rfl) (fun _ e => e) (hfin _ hc) ((z_ft_ok hc).1 fk hk) hn hfit (by rw [List.length_map]; exact hfk) d (fun H1 locs1 hP _ hS1 => ?_)
    rw [hset] at hP
    exact go H1 locs1 hP hS1
/-- a final field, in its own class's constructor -/
theorem zv_pX (K : z_Ok X cc ret own "<init>") {idx ci fk : Nat} {r : Option Nat} {v : zTV} {h1 : zH} (d : z_D cc pc (.putfield idx) 3 pc') (hL : ∃ q : vw_C, vwCl[ci]? = some q ∧ fk < q.2.2 ∧ (q.2.1 fk).2.2.2 = true ∧ (q.2.1 fk).1 = own ∧ Cond.fieldLink own idx (q.2.1 fk).1 (q.2.1 fk).2.1 (q.2.1 fk).2.2.1 ∈ lw_tbl) (hn : narrow (z_ft ci fk) (z_tv v) = z_tv v) (hfit : fits (z_ft ci fk) (z_tv v) = true) (he : z_pF h ci fk r v = some h1) (kk : zV X pc' lv rest h1 nx k z) : zV X pc lv (v :: tA r :: rest) h nx k z := by
  intro H locs ls hH hS hl; obtain ⟨d, rfl⟩ := d
  obtain ⟨q, fs, rfl, hq, hfk, rfl⟩ := z_pF_inv he
  obtain ⟨qc, hc, hk, hfin, hdecl, hlk⟩ := hL
  have hlt := z_cls_lt hc
  obtain ⟨i1, i2⟩ := z_dom_in hH.1.2.2.2 (a := q) (by rw [hq]; intro e; injection e with e; injection e with e _; omega) (by intro n f e; rw [hq] at e; cases e)
  have hw : (z_ws X.2.2.1 h nx)[q - X.2.2.1.1]? = some (q, .inr (ci, fs.map z_tv)) := by rw [z_ws_get i1 i2, hq]; rfl
  have hset : (fs.map z_tv).set fk (z_tv v) = (fs.set fk v).map z_tv := (List.map_set).symm
  have go := z_wr (c := .inr (ci, fs.set fk v)) K hH hS hl i1 i2 (fun n f e => by cases e) kk
  refine va_putF K.1 K.2.1 K.2.2.2.2.2.1 (z_in hc) (z_ft ci) (z_ft_ok hc).1 (z_ft_ok hc).2 K.2.2.2.2.1 K.2.2.2.2.2.2.2.2.2.2.2.2.1 hH.1.1 z_ws_D (z_S_rf hS) _ hw hc fk hk (z_word K hlk rfl) (fun _ e => e) hfin K.2.2.2.2.2.2.2.1 hdecl ((z_ft_ok hc).1 fk hk) hn hfit (by rw [List.length_map]; exact hfk) d (fun H1 locs1 hP _ hS1 => ?_)
  rw [hset] at hP
  exact go H1 locs1 hP hS1
theorem zv_pI (K : z_Ok X cc ret own nm) {idx ci fk : Nat} {r : Option Nat} {x : Int32} {F : zH → Option α} (d : z_D cc pc (.putfield idx) 3 pc') (hL : z_FL own idx ci fk) (hfin : ∀ q, vwCl[ci]? = some q → (q.2.1 fk).2.2.2 = false) (hty : z_ft ci fk = .int) (hf : (z_pF h ci fk r (tI x)).bind F = some a) (kk : ∀ h1, F h1 = some a → zV X pc' lv rest h1 nx k z) : zV X pc lv (tI x :: tA r :: rest) h nx k z := by
  obtain ⟨v, he, hf⟩ := z_bind_inv hf
  exact zv_pF K d hL hfin (by rw [hty]; rfl) (by rw [hty]; rfl) he (kk v hf)
theorem zv_pJ (K : z_Ok X cc ret own nm) {idx ci fk : Nat} {r : Option Nat} {x : Int64} {F : zH → Option α} (d : z_D cc pc (.putfield idx) 3 pc') (hL : z_FL own idx ci fk) (hfin : ∀ q, vwCl[ci]? = some q → (q.2.1 fk).2.2.2 = false) (hty : z_ft ci fk = .long) (hf : (z_pF h ci fk r (tJ x)).bind F = some a) (kk : ∀ h1, F h1 = some a → zV X pc' lv rest h1 nx k z) : zV X pc lv (tJ x :: tA r :: rest) h nx k z := by
  obtain ⟨v, he, hf⟩ := z_bind_inv hf
  exact zv_pF K d hL hfin (by rw [hty]; rfl) (by rw [hty]; rfl) he (kk v hf)
theorem z_rf_fits (ty : FieldType) (x : Option Nat) (hty : (∃ C, ty = .object C) ∨ ∃ t, ty = .array t) : narrow ty (z_tv (tA x)) = z_tv (tA x) ∧ fits ty (z_tv (tA x)) = true := by
  rcases hty with ⟨C, rfl⟩ | ⟨t, rfl⟩ <;> cases x <;> exact ⟨rfl, rfl⟩
theorem zv_pA (K : z_Ok X cc ret own nm) {idx ci fk : Nat} {r : Option Nat} {x : Option Nat} {F : zH → Option α} (d : z_D cc pc (.putfield idx) 3 pc') (hL : z_FL own idx ci fk) (hfin : ∀ q, vwCl[ci]? = some q → (q.2.1 fk).2.2.2 = false) (hty : (∃ C, z_ft ci fk = .object C) ∨ ∃ t, z_ft ci fk = .array t) (hf : (z_pF h ci fk r (tA x)).bind F = some a) (kk : ∀ h1, F h1 = some a → zV X pc' lv rest h1 nx k z) : zV X pc lv (tA x :: tA r :: rest) h nx k z := by
  obtain ⟨v, he, hf⟩ := z_bind_inv hf
  exact zv_pF K d hL hfin (z_rf_fits _ x hty).1 (z_rf_fits _ x hty).2 he (kk v hf)
theorem zv_pXA (K : z_Ok X cc ret own "<init>") {idx ci fk : Nat} {r : Option Nat} {x : Option Nat} {F : zH → Option α} (d : z_D cc pc (.putfield idx) 3 pc') (hL : ∃ q : vw_C, vwCl[ci]? = some q ∧ fk < q.2.2 ∧ (q.2.1 fk).2.2.2 = true ∧ (q.2.1 fk).1 = own ∧ Cond.fieldLink own idx (q.2.1 fk).1 (q.2.1 fk).2.1 (q.2.1 fk).2.2.1 ∈ lw_tbl) (hty : (∃ C, z_ft ci fk = .object C) ∨ ∃ t, z_ft ci fk = .array t) (hf : (z_pF h ci fk r (tA x)).bind F = some a) (kk : ∀ h1, F h1 = some a → zV X pc' lv rest h1 nx k z) : zV X pc lv (tA x :: tA r :: rest) h nx k z := by
  obtain ⟨v, he, hf⟩ := z_bind_inv hf
  exact zv_pX K d hL (z_rf_fits _ x hty).1 (z_rf_fits _ x hty).2 he (kk v hf)
theorem zv_pZ (K : z_Ok X cc ret own nm) {idx ci fk : Nat} {r : Option Nat} {x : Int32} {F : zH → Option α} (d : z_D cc pc (.putfield idx) 3 pc') (hL : z_FL own idx ci fk) (hfin : ∀ q, vwCl[ci]? = some q → (q.2.1 fk).2.2.2 = false) (hty : z_ft ci fk = .boolean) (hf : (z_pZ h ci fk r x).bind F = some a) (kk : ∀ h1, F h1 = some a → zV X pc' lv rest h1 nx k z) : zV X pc lv (tI x :: tA r :: rest) h nx k z := by
  obtain ⟨v, he, hf2⟩ := z_bind_inv hf
  unfold z_pZ at he
  split at he
  · rename_i hx
    rcases hx with rfl | rfl
    · exact zv_pF K d hL hfin (by rw [hty]; rfl) (by rw [hty]; rfl) he (kk v hf2)
    · exact zv_pF K d hL hfin (by rw [hty]; rfl) (by rw [hty]; rfl) he (kk v hf2)
  · cases he
end ZW
end
section
section ZA
variable {X : zX} {cc : ByteArray} {ret : Option FieldType} {own nm : String} {pc pc' : Nat} {lv lv' : List (Nat × zTV)} {rest : List zTV} {h : zH} {nx k z : Nat} {α : Type} {T E : Option α} {a : α}
theorem z_own_i {G : zG} {q kd n : Nat} {f : Nat → Int32} (hd : z_dom G h nx) (hq : h q = .inl (kd, n, .inl f)) (hk : kd ≠ 100) : G.1 ≤ q ∧ q < nx :=
  z_dom_in hd (by rw [hq]; intro e; cases e) (by intro n f e; rw [hq] at e; injection e with e; injection e with e _; exact hk e)
theorem z_own_o {G : zG} {q kd n : Nat} {f : (Nat → Int64) ⊕ (Nat → Option Nat)} (hd : z_dom G h nx) (hq : h q = .inl (kd, n, .inr f)) : G.1 ≤ q ∧ q < nx :=
  z_dom_in hd (by rw [hq]; intro e; cases e) (by intro n f e; rw [hq] at e; injection e with e; injection e with _ e; injection e with _ e; cases e)
theorem zv_aI (K : z_Ok X cc ret own nm) {r : Option Nat} {i : Int32} {F : Int32 → Option α} (d : z_D cc pc .iaload 1 pc') (hf : (z_aI h r i).bind F = some a) (kk : ∀ v, F v = some a → zV X pc' lv (tI v :: rest) h nx k z) : zV X pc lv (tI i :: tA r :: rest) h nx k z := by
  obtain ⟨v, he, hf⟩ := z_bind_inv hf
  have kk := kk v hf
  intro H locs ls hH hS hl; obtain ⟨d, rfl⟩ := d
  cases r with
  | none => cases he
  | some q =>
    simp only [z_aI, Option.bind_some] at he
    split at he
    · rename_i kd n f hq
      split at he
      · rename_i hc
        obtain ⟨hkd, hin⟩ := hc
        cases he
        rcases hkd with rfl | rfl
        · obtain ⟨i1, i2⟩ := z_own_i hH.1.2.2.2 hq (by omega)
          exact va_iald K.1 K.2.1 K.2.2.2.2.2.2.2.2.2.2.2.2.1 hH.1.1 _ 0 (by rw [z_ws_get i1 i2, hq]; rfl) rfl hin d (kk H locs ls hH hS hl)
        · by_cases hb : q = X.2.2.1.2.1
          · subst hb
            have e := hq.symm.trans hH.1.2.2.2.1
            injection e with e; injection e with _ e; injection e with e1 e2; injection e2 with e2
            subst e1; subst e2
            exact va_sld (H0 := X.1.2.2.2.1.heap) K.1 K.2.1 K.2.2.2.2.2.2.2.2.2.1 (Nat.lt_of_lt_of_le K.2.2.2.2.2.2.2.2.1.2.1 K.2.2.2.2.2.2.2.2.1.1) (Nat.not_le.mpr K.2.2.2.2.2.2.2.2.1.2.1) hS hin d (kk H locs ls hH hS hl)
          · by_cases ht : q = X.2.2.1.2.2.1
            · subst ht
              have e := hq.symm.trans hH.1.2.2.2.2.1
              injection e with e; injection e with _ e; injection e with e1 e2; injection e2 with e2
              subst e1; subst e2
              exact va_ti K.1 K.2.1 K.2.2.2.2.2.2.2.2.2.2.2.1 hS hin rfl d (kk H locs ls hH hS hl)
            · exact absurd hq (hH.1.2.2.2.2.2.2 q hb ht n f)
      · cases he
    · cases he
theorem zv_aB (K : z_Ok X cc ret own nm) {r : Option Nat} {i : Int32} {F : Int32 → Option α} (d : z_D cc pc .baload 1 pc') (hf : (z_aB h r i).bind F = some a) (kk : ∀ v, F v = some a → zV X pc' lv (tI v :: rest) h nx k z) : zV X pc lv (tI i :: tA r :: rest) h nx k z := by
  obtain ⟨v, he, hf⟩ := z_bind_inv hf
  have kk := kk v hf
  intro H locs ls hH hS hl; obtain ⟨d, rfl⟩ := d
  cases r with
  | none => cases he
  | some q =>
    simp only [z_aB, Option.bind_some] at he
    split at he
    · rename_i kd n f hq
      split at he
      · rename_i hc
        obtain ⟨hkd, hin⟩ := hc
        cases he
        obtain ⟨i1, i2⟩ := z_own_i hH.1.2.2.2 hq (by omega)
        rcases hkd with rfl | rfl
        · exact va_bald K.1 K.2.1 K.2.2.2.2.2.2.2.2.2.2.2.2.1 hH.1.1 _ 1 (by rw [z_ws_get i1 i2, hq]; rfl) rfl hin d (kk H locs ls hH hS hl)
        · exact va_zald K.1 K.2.1 K.2.2.2.2.2.2.2.2.2.2.2.2.1 hH.1.1 _ 2 (by rw [z_ws_get i1 i2, hq]; rfl) rfl hin d (kk H locs ls hH hS hl)
      · cases he
    · cases he
theorem zv_aJ (K : z_Ok X cc ret own nm) {r : Option Nat} {i : Int32} {F : Int64 → Option α} (d : z_D cc pc .laload 1 pc') (hf : (z_aJ h r i).bind F = some a) (kk : ∀ v, F v = some a → zV X pc' lv (tJ v :: rest) h nx k z) : zV X pc lv (tI i :: tA r :: rest) h nx k z := by
  obtain ⟨v, he, hf⟩ := z_bind_inv hf
  have kk := kk v hf
  intro H locs ls hH hS hl; obtain ⟨d, rfl⟩ := d
  cases r with
  | none => cases he
  | some q =>
    simp only [z_aJ, Option.bind_some] at he
    split at he
    · rename_i kd n f hq
      split at he
      · rename_i hc
        obtain ⟨rfl, hin⟩ := hc
        cases he
        obtain ⟨i1, i2⟩ := z_own_o hH.1.2.2.2 hq
        exact va_lald K.1 K.2.1 K.2.2.2.2.2.2.2.2.2.2.2.2.1 hH.1.1 _ 3 (by rw [z_ws_get i1 i2, hq]; rfl) rfl hin d (kk H locs ls hH hS hl)
      · cases he
    · cases he
theorem z_kt {cy : Nat → ClassId} {kd : Nat} (h1 : 4 ≤ kd) (h2 : kd ≤ 8) : ∃ r : vw_C, vwCl[z_kc kd]? = some r ∧ (z_tys cy)[kd]? = some (cy kd, .object r.1) := by
  rcases (show kd = 4 ∨ kd = 5 ∨ kd = 6 ∨ kd = 7 ∨ kd = 8 by omega) with rfl | rfl | rfl | rfl | rfl <;> exact ⟨_, rfl, rfl⟩
theorem zv_aA (K : z_Ok X cc ret own nm) {r : Option Nat} {i : Int32} {F : Option Nat → Option α} (d : z_D cc pc .aaload 1 pc') (hf : (z_aA h r i).bind F = some a) (kk : ∀ v, F v = some a → zV X pc' lv (tA v :: rest) h nx k z) : zV X pc lv (tI i :: tA r :: rest) h nx k z := by
  obtain ⟨v, he, hf⟩ := z_bind_inv hf
  have kk := kk v hf
  intro H locs ls hH hS hl; obtain ⟨d, rfl⟩ := d
  cases r with
  | none => cases he
  | some q =>
    simp only [z_aA, Option.bind_some] at he
    split at he
    · rename_i kd n f hq
      split at he
      · rename_i hc
        obtain ⟨hkd, hin⟩ := hc
        cases he
        obtain ⟨i1, i2⟩ := z_own_o hH.1.2.2.2 hq
        obtain ⟨rr, -, ht⟩ := z_kt (cy := X.2.2.1.2.2.2.2.2.2) hkd.1 hkd.2
        exact va_aldq K.1 K.2.1 K.2.2.2.2.2.2.2.2.2.2.2.2.1 hH.1.1 _ kd (by rw [z_ws_get i1 i2, hq]; rfl) ht hin d (kk H locs ls hH hS hl)
      · cases he
    · cases he
theorem z_tyk {cy : Nat → ClassId} {kd : Nat} (hk : kd ≤ 8) : ∃ ty, (z_tys cy)[kd]? = some (cy kd, ty) := by
  rcases (show kd = 0 ∨ kd = 1 ∨ kd = 2 ∨ kd = 3 ∨ kd = 4 ∨ kd = 5 ∨ kd = 6 ∨ kd = 7 ∨ kd = 8 by omega) with rfl | rfl | rfl | rfl | rfl | rfl | rfl | rfl | rfl <;> exact ⟨_, rfl⟩
theorem zv_len (K : z_Ok X cc ret own nm) {r : Option Nat} {F : Int32 → Option α} (d : z_D cc pc .arraylength 1 pc') (hf : (z_len h r).bind F = some a) (kk : ∀ v, F v = some a → zV X pc' lv (tI v :: rest) h nx k z) : zV X pc lv (tA r :: rest) h nx k z := by
  obtain ⟨v, he, hf⟩ := z_bind_inv hf
  have kk := kk v hf
  intro H locs ls hH hS hl; obtain ⟨d, rfl⟩ := d
  cases r with
  | none => cases he
  | some q =>
    simp only [z_len, Option.bind_some] at he
    split at he
    · rename_i kd n f hq
      split at he
      · rename_i hkd
        cases he
        by_cases hk : kd = 100
        · subst hk
          by_cases hb : q = X.2.2.1.2.1
          · subst hb
            have e := hq.symm.trans hH.1.2.2.2.1
            injection e with e; injection e with _ e; injection e with e1 e2
            subst e1
            exact va_slen (H0 := X.1.2.2.2.1.heap) K.1 K.2.1 K.2.2.2.2.2.2.2.2.2.1 (Nat.lt_of_lt_of_le K.2.2.2.2.2.2.2.2.1.2.1 K.2.2.2.2.2.2.2.2.1.1) (Nat.not_le.mpr K.2.2.2.2.2.2.2.2.1.2.1) hS d (kk H locs ls hH hS hl)
          · by_cases ht : q = X.2.2.1.2.2.1
            · subst ht
              have e := hq.symm.trans hH.1.2.2.2.2.1
              injection e with e; injection e with _ e; injection e with e1 e2
              subst e1
              exact va_tlen K.1 K.2.1 K.2.2.2.2.2.2.2.2.2.2.2.1 hS rfl d (kk H locs ls hH hS hl)
            · exact absurd hq (hH.1.2.2.2.2.2.2 q hb ht n f)
        · have hkd : kd ≤ 8 := by omega
          obtain ⟨i1, i2⟩ := z_own_i hH.1.2.2.2 hq hk
          obtain ⟨ty, hty⟩ := z_tyk (cy := X.2.2.1.2.2.2.2.2.2) hkd
          exact va_alen (x := (n, .inl f)) K.1 K.2.1 K.2.2.2.2.2.2.2.2.2.2.2.2.1 hH.1.1 _ kd (by rw [z_ws_get i1 i2, hq]; rfl) hty rfl d (kk H locs ls hH hS hl)
      · cases he
    · rename_i kd n g hq
      split at he
      · rename_i hkd
        cases he
        obtain ⟨i1, i2⟩ := z_own_o hH.1.2.2.2 hq
        obtain ⟨ty, hty⟩ := z_tyk (cy := X.2.2.1.2.2.2.2.2.2) hkd
        rcases g with f | f
        · exact va_alen (x := (n, .inr (.inl f))) K.1 K.2.1 K.2.2.2.2.2.2.2.2.2.2.2.2.1 hH.1.1 _ kd (by rw [z_ws_get i1 i2, hq]; rfl) hty rfl d (kk H locs ls hH hS hl)
        · exact va_alen (x := (n, .inr (.inr (.inr (.inr f))))) K.1 K.2.1 K.2.2.2.2.2.2.2.2.2.2.2.2.1 hH.1.1 _ kd (by rw [z_ws_get i1 i2, hq]; rfl) hty rfl d (kk H locs ls hH hS hl)
      · cases he
    · cases he
theorem zv_sI (K : z_Ok X cc ret own nm) {r : Option Nat} {i x : Int32} {F : zH → Option α} (d : z_D cc pc .iastore 1 pc') (hf : (z_sI h r i x).bind F = some a) (kk : ∀ h1, F h1 = some a → zV X pc' lv rest h1 nx k z) : zV X pc lv (tI x :: tI i :: tA r :: rest) h nx k z := by
  obtain ⟨v, he, hf⟩ := z_bind_inv hf
  have kk := kk v hf
  intro H locs ls hH hS hl; obtain ⟨d, rfl⟩ := d
  cases r with
  | none => cases he
  | some q =>
    simp only [z_sI, Option.bind_some] at he
    split at he
    · rename_i kd n f hq
      split at he
      · rename_i hc
        obtain ⟨rfl, hin⟩ := hc
        cases he
        obtain ⟨i1, i2⟩ := z_own_i hH.1.2.2.2 hq (by omega)
        exact va_iast K.1 K.2.1 K.2.2.2.2.2.2.2.2.2.2.2.2.1 hH.1.1 z_ws_D (z_S_rf hS) _ 0 (by rw [z_ws_get i1 i2, hq]; rfl) rfl hin d (fun H1 locs1 hP _ hS1 => z_wr K hH hS hl i1 i2 (fun n f e => by injection e with e; injection e with e _; cases e) kk H1 locs1 hP hS1)
      · cases he
    · cases he
theorem zv_sB (K : z_Ok X cc ret own nm) {r : Option Nat} {i x : Int32} {F : zH → Option α} (d : z_D cc pc .bastore 1 pc') (hf : (z_sB h r i x).bind F = some a) (kk : ∀ h1, F h1 = some a → zV X pc' lv rest h1 nx k z) : zV X pc lv (tI x :: tI i :: tA r :: rest) h nx k z := by
  obtain ⟨v, he, hf⟩ := z_bind_inv hf
  have kk := kk v hf
  intro H locs ls hH hS hl; obtain ⟨d, rfl⟩ := d
  cases r with
  | none => cases he
  | some q =>
    simp only [z_sB, Option.bind_some] at he
    split at he
    · rename_i kd n f hq
      split at he
      · rename_i hc
        obtain ⟨hkd, hin⟩ := hc
        cases he
        obtain ⟨i1, i2⟩ := z_own_i hH.1.2.2.2 hq (by omega)
        rcases hkd with rfl | rfl
        · exact va_bast K.1 K.2.1 K.2.2.2.2.2.2.2.2.2.2.2.2.1 hH.1.1 z_ws_D (z_S_rf hS) _ 1 (by rw [z_ws_get i1 i2, hq]; rfl) rfl hin d (fun H1 locs1 hP _ hS1 => z_wr K hH hS hl i1 i2 (fun n f e => by injection e with e; injection e with e _; cases e) kk H1 locs1 hP hS1)
        · exact va_zast K.1 K.2.1 K.2.2.2.2.2.2.2.2.2.2.2.2.1 hH.1.1 z_ws_D (z_S_rf hS) _ 2 (by rw [z_ws_get i1 i2, hq]; rfl) rfl hin d (fun H1 locs1 hP _ hS1 => z_wr K hH hS hl i1 i2 (fun n f e => by injection e with e; injection e with e _; cases e) kk H1 locs1 hP hS1)
      · cases he
    · cases he
theorem zv_sJ (K : z_Ok X cc ret own nm) {r : Option Nat} {i : Int32} {x : Int64} {F : zH → Option α} (d : z_D cc pc .lastore 1 pc') (hf : (z_sJ h r i x).bind F = some a) (kk : ∀ h1, F h1 = some a → zV X pc' lv rest h1 nx k z) : zV X pc lv (tJ x :: tI i :: tA r :: rest) h nx k z := by
  obtain ⟨v, he, hf⟩ := z_bind_inv hf
  have kk := kk v hf
  intro H locs ls hH hS hl; obtain ⟨d, rfl⟩ := d
  cases r with
  | none => cases he
  | some q =>
    simp only [z_sJ, Option.bind_some] at he
    split at he
    · rename_i kd n f hq
      split at he
      · rename_i hc
        obtain ⟨rfl, hin⟩ := hc
        cases he
        obtain ⟨i1, i2⟩ := z_own_o hH.1.2.2.2 hq
        exact va_last K.1 K.2.1 K.2.2.2.2.2.2.2.2.2.2.2.2.1 hH.1.1 z_ws_D (z_S_rf hS) _ 3 (by rw [z_ws_get i1 i2, hq]; rfl) rfl hin d (fun H1 locs1 hP _ hS1 => z_wr K hH hS hl i1 i2 (fun n f e => by injection e with e; injection e with e _; cases e) kk H1 locs1 hP hS1)
      · cases he
    · cases he
theorem zv_sA (K : z_Ok X cc ret own nm) {r : Option Nat} {i : Int32} {x : Option Nat} {F : zH → Option α} (d : z_D cc pc .aastore 1 pc') (hf : (z_sA h r i x).bind F = some a) (kk : ∀ h1, F h1 = some a → zV X pc' lv rest h1 nx k z) : zV X pc lv (tA x :: tI i :: tA r :: rest) h nx k z := by
  obtain ⟨v, he, hf⟩ := z_bind_inv hf
  have kk := kk v hf
  intro H locs ls hH hS hl; obtain ⟨d, rfl⟩ := d
  cases r with
  | none => cases he
  | some q =>
    cases x with
    | none => cases he
    | some w =>
      simp only [z_sA, Option.bind_some] at he
      split at he
      · rename_i kd n f c fs hq hw
        split at he
        · rename_i hc
          obtain ⟨⟨hkd, rfl⟩, hin⟩ := hc
          cases he
          obtain ⟨i1, i2⟩ := z_own_o hH.1.2.2.2 hq
          obtain ⟨rr, hrr, ht⟩ := z_kt (cy := X.2.2.1.2.2.2.2.2.2) hkd.1 hkd.2
          have hlt := z_cls_lt hrr
          obtain ⟨j1, j2⟩ := z_dom_in hH.1.2.2.2 (a := w) (by rw [hw]; intro e; injection e with e; injection e with e _; omega) (by intro n f e; rw [hw] at e; cases e)
          exact va_astq K.1 K.2.1 K.2.2.2.2.2.2.2.2.2.2.2.2.1 hH.1.1 z_ws_D (z_S_rf hS) _ kd (w - X.2.2.1.1) (z_kc kd) (vs := fs.map z_tv) (by rw [z_ws_get i1 i2, hq]; rfl) ht (by rw [z_ws_get j1 j2, hw]; rfl) hrr hin d (fun H1 locs1 hP _ hS1 => z_wr K hH hS hl i1 i2 (fun n f e => by injection e with e; injection e with e _; omega) kk H1 locs1 hP hS1)
        · cases he
      · cases he
/-- System.arraycopy's link -/
def z_AC (own : String) (idx : Nat) : Prop := Cond.methodLink own idx arraycopyName ∈ lw_tbl ∧ Cond.native arraycopyName ∈ lw_tbl ∧ Cond.static arraycopyName ∈ lw_tbl ∧ Cond.initialized "java/lang/System" ∈ lw_tbl
theorem zv_cp (K : z_Ok X cc ret own nm) {idx : Nat} {r w : Option Nat} {sp dp n : Int32} {F : zH → Option α} (d : z_D cc pc (.invokestatic idx) 3 pc') (hL : z_AC own idx) (hR : 1 ≤ X.2.1.frames ∧ 26 ≤ X.2.1.locals) (hrest : (rest.map z_cat).sum ≤ 8) (hf : (z_cp h r sp w dp n).bind F = some a) (kk : ∀ h1, F h1 = some a → zV X pc' lv rest h1 nx k z) : zV X pc lv (tI n :: tI dp :: tA w :: tI sp :: tA r :: rest) h nx k z := by
  obtain ⟨v, he, hf⟩ := z_bind_inv hf
  have kk := kk v hf
  intro H locs ls hH hS hl; obtain ⟨d, rfl⟩ := d
  obtain ⟨l1, l2, l3, l4⟩ := hL
  have hcat : ((rest.map z_tv).map fun v => v.category).sum ≤ 8 := by
    rw [List.map_map]
    have : (fun v => v.category) ∘ z_tv = z_cat := funext z_tv_cat
    rw [this]; exact hrest
  have hlo : ((rest.map z_tv).map fun v => v.category).sum + (nativeFrameWords "java/lang/System" "arraycopy" 5 + 11) ≤ X.2.1.locals := by
    have : nativeFrameWords "java/lang/System" "arraycopy" 5 = 7 := by decide +kernel
    omega
  cases r with
  | none => cases he
  | some q =>
    cases w with
    | none => cases he
    | some b =>
      simp only [z_cp, Option.bind_some] at he
      split at he
      · rename_i ka na f kb nb g hq hb
        split at he
        · rename_i hc
          obtain ⟨⟨rfl, rfl⟩, ⟨c1, c2, c3⟩, c4, c5⟩ := hc
          cases he
          obtain ⟨i1, i2⟩ := z_own_i hH.1.2.2.2 hq (by omega)
          obtain ⟨j1, j2⟩ := z_own_i hH.1.2.2.2 hb (by omega)
          exact va_copyi (ty := .int) K.1 K.2.1 (K.2.2.2.1.trans hl.1.symm) K.2.2.2.2.1 (z_word K l1 rfl) (z_word K l2 rfl) (z_word K l3 rfl) (z_word K l4 rfl) K.2.2.2.2.2.2.2.2.2.2.2.2.1 hH.1.1 z_ws_D (z_S_rf hS) (q - X.2.2.1.1) (b - X.2.2.1.1) 0 0 (by rw [z_ws_get i1 i2, hq]; rfl) (by rw [z_ws_get j1 j2, hb]; rfl) rfl rfl rfl c1 c2 c3 c4 c5 (fun _ _ => rfl) hR.1 hlo d (fun H1 locs1 hP _ hS1 => z_wr K hH hS hl j1 j2 (fun n f e => by injection e with e; injection e with e _; cases e) kk H1 locs1 hP hS1)
        · cases he
      · rename_i ka na f kb nb g hq hb
        split at he
        · rename_i hc
          obtain ⟨⟨rfl, rfl⟩, ⟨c1, c2, c3⟩, c4, c5⟩ := hc
          cases he
          obtain ⟨i1, i2⟩ := z_own_o hH.1.2.2.2 hq
          obtain ⟨j1, j2⟩ := z_own_o hH.1.2.2.2 hb
          exact va_copyl (ty := .long) K.1 K.2.1 (K.2.2.2.1.trans hl.1.symm) K.2.2.2.2.1 (z_word K l1 rfl) (z_word K l2 rfl) (z_word K l3 rfl) (z_word K l4 rfl) K.2.2.2.2.2.2.2.2.2.2.2.2.1 hH.1.1 z_ws_D (z_S_rf hS) (q - X.2.2.1.1) (b - X.2.2.1.1) 3 3 (by rw [z_ws_get i1 i2, hq]; rfl) (by rw [z_ws_get j1 j2, hb]; rfl) rfl rfl rfl c1 c2 c3 c4 c5 (fun _ _ => rfl) hR.1 hlo d (fun H1 locs1 hP _ hS1 => z_wr K hH hS hl j1 j2 (fun n f e => by injection e with e; injection e with e _; cases e) kk H1 locs1 hP hS1)
        · cases he
      · cases he
theorem zv_step (K : z_Ok X cc ret own nm) {idx : Nat} (d : z_D cc pc (.getstatic idx) 3 pc') (hL : Cond.fieldLink own idx "ThinkingArms" "STEP" "[I" ∈ lw_tbl ∨ ∃ host, Cond.fieldLinkNest own idx "ThinkingArms" "STEP" "[I" host ∈ lw_tbl) (kk : zV X pc' lv (tA (some X.2.2.1.2.2.1) :: rest) h nx k z) : zV X pc lv rest h nx k z := by
  intro H locs ls hH hS hl; obtain ⟨d, rfl⟩ := d
  rcases hL with hL | ⟨host, hL⟩
  · exact va_gets K.1 K.2.1 K.2.2.2.2.2.2.2.2.2.2.1 hS K.2.2.2.2.1 (z_word K hL rfl) (fun _ e => e) d (kk H locs ls hH hS hl)
  · exact va_getsN K.1 K.2.1 K.2.2.2.2.2.2.2.2.2.2.1 hS K.2.2.2.2.1 (z_nword K hL rfl rfl) (fun _ e => e) d (kk H locs ls hH hS hl)
end ZA
end
section
/-! new cells, calls, answers, contracts -/
def z_Pc (G : zG) (as : List zTV) (h : zH) (nx : Nat) : Array Value → State → Prop := fun v U => v = (as.map z_tv).toArray ∧ z_Hp G h nx U.heap ∧ U.heap.size = nx ∧ z_St G U
def z_Qc (G : zG) (r : Option zTV) (h : zH) (nx : Nat) : Array Value → State → Outcome → State → Prop := fun _ st o t => o = .returned (r.map z_tv) ∧ z_Hp G h nx t.heap ∧ va_F (z_A G) st t
def z_Ct (l : Launch) (G : zG) (y : MethodName) (cc : ByteArray) (maxL : Nat) (ret : Option FieldType) (rm : Room) (as : List zTV) (h : zH) (nx : Nat) (r : Option zTV) (h' : zH) (nx' mc ms : Nat) : Prop :=
  Met l y (.code y cc maxL ret :: z_tb) rm (z_Pc G as h nx) (z_Qc G r h' nx') mc ms (z_A G)
theorem z_St_go {G : zG} {s U : State} {H : Heap} {locs : List Loc} (h : z_St G s) (hS : va_S (z_A G) s.heap H locs) (hU : U.heap = H) (hW : s.WarmedH U.vm) : z_St G U := by
  obtain ⟨⟨a1, a2, a3⟩, b1, b2, b3, b4, b5, b6⟩ := h
  have hkeep : ∀ a : Nat, a < s.heap.size → ¬ z_A G a → U.heap[a]? = s.heap[a]? := fun a h1 h2 => by rw [hU]; exact hS.2.1 a h1 h2
  refine ⟨⟨by rw [hU]; exact Nat.le_trans a1 hS.1, a2, a3⟩, ?_, ?_, ?_, ?_, ?_, ?_⟩
  · exact (va_X.kept b1 (hkeep _ (by omega) (Nat.not_le.mpr a2))).moved hW.alike
  · exact va_Z.moved hW.alike (va_Z.kept b2 hkeep)
  · exact va_T.moved hW.alike (va_T.kept b3 hkeep)
  · exact va_K.moved hW.alike b4
  · intro w hw
    have h0 := b5 w hw
    have hn := (List.mem_filter.mp hw).2
    cases w <;> first | exact va_Nw.warmF hW h0 | exact va_Nw.warmM hW h0 | (simp [z_isN] at hn)
  · exact ⟨va_AO.moved hW.alike b6.1, va_AO.moved hW.alike b6.2.1, va_AO.moved hW.alike b6.2.2.1, va_AO.moved hW.alike b6.2.2.2.1, va_AO.moved hW.alike b6.2.2.2.2⟩
theorem z_St_blind {G : zG} {U : State} (g : JFrame) (mk : MethodId) (a : Array Value) (h : z_St G U) : z_St G (U.calling g mk a) := by
  obtain ⟨a1, b1, b2, b3, b4, b5, b6⟩ := h
  refine ⟨a1, va_X.moved (u := U) (U := U.calling g mk a) (Vm.Alike.refl U.vm) b1, va_Z.moved (u := U) (U := U.calling g mk a) (Vm.Alike.refl U.vm) b2, va_T.moved (u := U) (U := U.calling g mk a) (Vm.Alike.refl U.vm) b3, va_K.moved (u := U) (U := U.calling g mk a) (Vm.Alike.refl U.vm) b4, fun w hw => ?_, ?_⟩
  · have h0 := b5 w hw
    have hn := (List.mem_filter.mp hw).2
    refine va_Nw.same (u := U) (U := U.calling g mk a) ?_ rfl h0
    cases w <;> first | rfl | (simp [z_isN] at hn)
  · exact ⟨va_AO.moved (u := U) (U := U.calling g mk a) (Vm.Alike.refl U.vm) b6.1, va_AO.moved (u := U) (U := U.calling g mk a) (Vm.Alike.refl U.vm) b6.2.1, va_AO.moved (u := U) (U := U.calling g mk a) (Vm.Alike.refl U.vm) b6.2.2.1, va_AO.moved (u := U) (U := U.calling g mk a) (Vm.Alike.refl U.vm) b6.2.2.2.1, va_AO.moved (u := U) (U := U.calling g mk a) (Vm.Alike.refl U.vm) b6.2.2.2.2⟩
theorem z_Pc_blind (G : zG) (as : List zTV) (h : zH) (nx : Nat) : FrameBlind (z_Pc G as h nx) := fun a U g mk hp => ⟨hp.1, hp.2.1, hp.2.2.1, z_St_blind g mk a hp.2.2.2⟩
theorem z_goodIn {w : Cond} (hm : w ∈ lw_tbl) (hg : goodWord w = true) : GoodIn z_tb (w :: z_tb) := by
  intro v hv
  rcases List.mem_cons.mp hv with rfl | hv
  · exact ⟨List.mem_filter.mpr ⟨hm, hg⟩, good_of_word hg⟩
  · exact ⟨hv, good_of_word (List.mem_filter.mp hv).2⟩
theorem z_szT {p : Program} {l : Launch} {e : Env} {R : Room} {s : State} {m : MethodId} {args : Array Value} {below : List Frame} {meth : Method} {c : Code} {T : State} {locs : List Loc} {cells slots : Nat} (S : Stand p l e R s m args below meth c T locs cells slots) : T.heap.size ≤ s.heap.size + cells := S.same.2.2.1
section ZC
variable {X : zX} {cc : ByteArray} {ret : Option FieldType} {own nm : String} {pc pc' : Nat} {lv lv' : List (Nat × zTV)} {rest : List zTV} {h : zH} {nx k z : Nat} {α : Type} {T E : Option α} {a : α}
theorem z_catsum (l : List zTV) : ((l.map z_tv).map fun v => v.category).sum = (l.map z_cat).sum := by
  rw [List.map_map]
  have : (fun v => v.category) ∘ z_tv = z_cat := funext z_tv_cat
  rw [this]
theorem zv_objInit (K : z_Ok X cc ret own nm) {idx : Nat} {r : Option Nat} {F : Nat → Option α} (d : z_D cc pc (.invokespecial idx) 3 pc') (hL : Cond.methodLink own idx objectInit ∈ lw_tbl) (hI : Cond.instanceMethod objectInit ∈ lw_tbl) (hC : Cond.code objectInit ⟨#[0xb1]⟩ 1 none ∈ lw_tbl) (hR : 1 ≤ X.2.1.frames ∧ 20 ≤ X.2.1.locals) (hrest : (rest.map z_cat).sum ≤ 8) (hf : r.bind F = some a) (kk : ∀ v, F v = some a → zV X pc' lv rest h nx k z) : zV X pc lv (tA r :: rest) h nx k z := by
  obtain ⟨v, he, hf⟩ := z_bind_inv hf
  subst he
  have kk := kk v hf
  intro H locs ls hH hS hl; obtain ⟨d, rfl⟩ := d
  exact W.objInit K.1 K.2.1 K.2.2.2.2.1 (z_word K hL rfl) (z_word K hI rfl) (z_word K hC rfl) rfl (hl.1.trans K.2.2.2.1.symm) rfl d hR.1 (by
    have := z_catsum rest
    show 2 * 0 + _ + 12 ≤ _
    omega) (kk H locs ls hH hS hl)
theorem z_sized {H : Heap} {locs : List Loc} {g : JFrame} (hH : z_Hs X h nx k H) (kk : H.size = nx → W X.1.1 X.1.2.1 X.1.2.2.1 X.2.1 X.1.2.2.2.1 X.1.2.2.2.2.1 X.1.2.2.2.2.2.1 X.1.2.2.2.2.2.2.1 X.1.2.2.2.2.2.2.2.1 X.1.2.2.2.2.2.2.2.2 H locs k z X.2.2.2.2 g) : W X.1.1 X.1.2.1 X.1.2.2.1 X.2.1 X.1.2.2.2.1 X.1.2.2.2.2.1 X.1.2.2.2.2.2.1 X.1.2.2.2.2.2.2.1 X.1.2.2.2.2.2.2.2.1 X.1.2.2.2.2.2.2.2.2 H locs k z X.2.2.2.2 g :=
  fun T hT XX => kk (by have h1 := z_szT XX; rw [hT] at h1; have h2 := hH.1.2.1; have h3 := hH.2; omega) T hT XX
theorem zv_new (K : z_Ok X cc ret own nm) {idx : Nat} (ci : Nat) (q : vw_C) (fs : List zTV) (k' z' : Nat) (d : z_D cc pc (.new idx) 3 pc') (hc : vwCl[ci]? = some q) (hL : Cond.classLink own idx q.1 ∈ lw_tbl) (hI : Cond.instantiable q.1 q.2.2 ∈ lw_tbl) (hT : Cond.initialized q.1 ∈ lw_tbl) (hfs : ∀ j, j < q.2.2 → defaultValue (z_ft ci j) = vp_V (fs.map z_tv) j) (hk : k + 1 = k') (hz : z + q.2.2 = z') (hR : k' ≤ X.2.1.cells ∧ z' ≤ X.2.1.slots)
    (kk : zV X pc' lv (tA (some nx) :: rest) (z_up h nx (.inr (ci, fs))) (nx + 1) k' z') : zV X pc lv rest h nx k z := by
  subst hk; subst hz
  intro H locs ls hH hS hl; obtain ⟨d, rfl⟩ := d
  refine z_sized hH (fun hsz => ?_)
  have hKn := K.2.2.2.2.2.2.2.2.2.2.2.2.1.1 ci _ hc
  refine W.newcK K.1 K.2.1 K.2.2.2.2.1 (z_word K hL rfl) (z_word K hI rfl) (z_word K hT rfl) rfl d hR.1 hR.2 hKn.2.1 hsz (fun H1 kC hkC e1 z1 o1 => ?_)
  have hkp : ∀ (j : Nat) (x : Nat × va_E), (z_ws X.2.2.1 h nx)[j]? = some x → H1[x.1]? = H[x.1]? := fun j x hx => o1 x.1 (by rw [← hsz]; exact (hH.1.1 j x hx).lt)
  have hP1 : va_P X.2.2.1.2.2.2.2.2.1 vwCl (z_ws X.2.2.1 h nx ++ [(nx, z_E X.2.2.1.2.2.2.2.2.2 (.inr (ci, fs)))]) H1 := by
    refine (va_P.kept hH.1.1 hkp).app (fun j x hx => ?_)
    have hj : j < 1 := (List.getElem?_eq_some_iff.mp hx).1
    rw [show j = 0 by omega] at hx
    cases hx
    exact ⟨_, hc, (u_born (z_ft ci) K.2.2.2.2.2.1 (z_in hc) hKn hkC e1 (z_ft_ok hc).1).to hfs⟩
  rw [z_ws_push hH.1.2.2.1] at hP1
  exact kk H1 locs ls ⟨⟨hP1, by omega, by have := hH.1.2.2.1; omega, z_dom_push hH.1.2.2.2 K.2.2.2.2.2.2.2.2.1.2 hH.1.2.2.1 _ (fun n f e => by cases e)⟩, by have := hH.2; omega⟩ ⟨by have := hS.1; omega, fun x h1 h2 => (o1 x (by have := hS.1; omega)).trans (hS.2.1 x h1 h2), hS.2.2⟩ hl
theorem z_newP {kd N : Nat} {c : zMC} {H H1 : Heap} {v : Value} (hP : va_P X.2.2.1.2.2.2.2.2.1 vwCl (z_ws X.2.2.1 h nx) H) (hsz : H.size = nx) (o1 : ∀ q, q < nx → H1[q]? = H[q]?) (hn : X.2.2.1.1 ≤ nx) (hat : va_at X.2.2.1.2.2.2.2.2.1 vwCl (nx, z_E X.2.2.1.2.2.2.2.2.2 c) H1) : va_P X.2.2.1.2.2.2.2.2.1 vwCl (z_ws X.2.2.1 (z_up h nx c) (nx + 1)) H1 := by
  rw [← z_ws_push hn]
  refine (va_P.kept hP (fun j x hx => o1 x.1 (by rw [← hsz]; exact (hP j x hx).lt))).app (fun j x hx => ?_)
  have hj : j < 1 := (List.getElem?_eq_some_iff.mp hx).1
  rw [show j = 0 by omega] at hx
  cases hx
  exact hat
theorem zv_newarr (K : z_Ok X cc ret own nm) {atype : ArrayType} {n : Int32} (kd N : Nat) (c : zMC) (k' z' : Nat) (d : z_D cc pc (.newarray atype) 2 pc') (harr : Cond.arrayClass (newarray.typeOf atype) ∈ lw_tbl) (hkd : ∀ cy, (z_tys cy)[kd]? = some (cy kd, newarray.typeOf atype)) (hra : ∀ U cA, va_RA U cA (newarray.typeOf atype) → U.vm.findClass ("[" ++ (newarray.typeOf atype).toString) = some cA) (hat : ∀ (cy : Nat → ClassId), ∃ x, z_E cy c = .inl (cy kd, x) ∧ ∀ cA, vp_cell cA x = arrV cA N (fun _ => defaultValue (newarray.typeOf atype))) (hnk : z_nk c) (hn : ¬ n < 0) (hN : n.toNatClampNeg = N) (hb : N * componentBytes (newarray.typeOf atype) ≤ 536870912) (hk : k + 1 = k') (hz : z + N = z') (hR : k' ≤ X.2.1.cells ∧ z' ≤ X.2.1.slots)
    (kk : zV X pc' lv (tA (some nx) :: rest) (z_up h nx c) (nx + 1) k' z') : zV X pc lv (tI n :: rest) h nx k z := by
  subst hk; subst hz
  intro H locs ls hH hS hl; obtain ⟨d, rfl⟩ := d
  refine z_sized hH (fun hsz => ?_)
  refine va_newaK K.1 K.2.1 (z_word K harr rfl) rfl d rfl hn hN hb hR.1 hR.2 hsz (fun H1 cA e1 z1 o1 hAr hNm => ?_)
  have hcy := hra _ _ (K.2.2.2.2.2.2.2.2.2.2.2.2.1.2 kd _ (hkd X.2.2.1.2.2.2.2.2.2)).2
  have hcA : cA = X.2.2.1.2.2.2.2.2.2 kd := Option.some.inj (hNm.symm.trans hcy)
  obtain ⟨x, hx1, hx2⟩ := hat X.2.2.1.2.2.2.2.2.2
  have hP1 := z_newP (c := c) (kd := kd) (N := N) (v := .null) hH.1.1 hsz o1 hH.1.2.2.1 (by
    rw [hx1]
    show H1[nx]? = some (vp_cell _ _)
    rw [hx2, ← hcA]
    exact e1)
  exact kk H1 locs ls ⟨⟨hP1, by omega, by have := hH.1.2.2.1; omega, z_dom_push hH.1.2.2.2 K.2.2.2.2.2.2.2.2.1.2 hH.1.2.2.1 _ hnk⟩, by have := hH.2; omega⟩ ⟨by have := hS.1; omega, fun x h1 h2 => (o1 x (by have := hS.1; omega)).trans (hS.2.1 x h1 h2), hS.2.2⟩ hl
theorem zv_newI (K : z_Ok X cc ret own nm) {n : Int32} (N k' z' : Nat) (d : z_D cc pc (.newarray .int) 2 pc') (harr : Cond.arrayClass .int ∈ lw_tbl) (hn : ¬ n < 0) (hN : n.toNatClampNeg = N) (hb : N * 4 ≤ 536870912) (hk : k + 1 = k') (hz : z + N = z') (hR : k' ≤ X.2.1.cells ∧ z' ≤ X.2.1.slots)
    (kk : zV X pc' lv (tA (some nx) :: rest) (z_up h nx (.inl (0, N, .inl (fun _ => 0)))) (nx + 1) k' z') : zV X pc lv (tI n :: rest) h nx k z :=
  zv_newarr K 0 N _ k' z' d harr (fun _ => rfl) (fun _ _ e => e) (fun cy => ⟨(N, .inl (fun _ => 0)), rfl, fun _ => rfl⟩) (fun n f e => by injection e with e; injection e with e _; cases e) hn hN hb hk hz hR kk
theorem zv_newB (K : z_Ok X cc ret own nm) {n : Int32} (N k' z' : Nat) (d : z_D cc pc (.newarray .byte) 2 pc') (harr : Cond.arrayClass .byte ∈ lw_tbl) (hn : ¬ n < 0) (hN : n.toNatClampNeg = N) (hb : N * 1 ≤ 536870912) (hk : k + 1 = k') (hz : z + N = z') (hR : k' ≤ X.2.1.cells ∧ z' ≤ X.2.1.slots)
    (kk : zV X pc' lv (tA (some nx) :: rest) (z_up h nx (.inl (1, N, .inl (fun _ => 0)))) (nx + 1) k' z') : zV X pc lv (tI n :: rest) h nx k z :=
  zv_newarr K 1 N _ k' z' d harr (fun _ => rfl) (fun _ _ e => e) (fun cy => ⟨(N, .inl (fun _ => 0)), rfl, fun _ => rfl⟩) (fun n f e => by injection e with e; injection e with e _; cases e) hn hN hb hk hz hR kk
theorem zv_newZ (K : z_Ok X cc ret own nm) {n : Int32} (N k' z' : Nat) (d : z_D cc pc (.newarray .boolean) 2 pc') (harr : Cond.arrayClass .boolean ∈ lw_tbl) (hn : ¬ n < 0) (hN : n.toNatClampNeg = N) (hb : N * 1 ≤ 536870912) (hk : k + 1 = k') (hz : z + N = z') (hR : k' ≤ X.2.1.cells ∧ z' ≤ X.2.1.slots)
    (kk : zV X pc' lv (tA (some nx) :: rest) (z_up h nx (.inl (2, N, .inl (fun _ => 0)))) (nx + 1) k' z') : zV X pc lv (tI n :: rest) h nx k z :=
  zv_newarr K 2 N _ k' z' d harr (fun _ => rfl) (fun _ _ e => e) (fun cy => ⟨(N, .inl (fun _ => 0)), rfl, fun _ => rfl⟩) (fun n f e => by injection e with e; injection e with e _; cases e) hn hN hb hk hz hR kk
theorem zv_newJ (K : z_Ok X cc ret own nm) {n : Int32} (N k' z' : Nat) (d : z_D cc pc (.newarray .long) 2 pc') (harr : Cond.arrayClass .long ∈ lw_tbl) (hn : ¬ n < 0) (hN : n.toNatClampNeg = N) (hb : N * 8 ≤ 536870912) (hk : k + 1 = k') (hz : z + N = z') (hR : k' ≤ X.2.1.cells ∧ z' ≤ X.2.1.slots)
    (kk : zV X pc' lv (tA (some nx) :: rest) (z_up h nx (.inl (3, N, .inr (.inl (fun _ => 0))))) (nx + 1) k' z') : zV X pc lv (tI n :: rest) h nx k z :=
  zv_newarr K 3 N _ k' z' d harr (fun _ => rfl) (fun _ _ e => e) (fun cy => ⟨(N, .inr (.inl (fun _ => 0))), rfl, fun _ => rfl⟩) (fun n f e => by injection e with e; injection e with e _; cases e) hn hN hb hk hz hR kk
theorem z_over (K : z_Ok X cc ret own nm) {kd : Nat} (h1 : 4 ≤ kd) (h2 : kd ≤ 8) {r : vw_C} (hr : vwCl[z_kc kd]? = some r) : va_AO r.1 X.1.2.2.2.1 := by
  have b6 := K.2.2.2.2.2.2.2.2.2.2.2.2.2.2
  rcases (show kd = 4 ∨ kd = 5 ∨ kd = 6 ∨ kd = 7 ∨ kd = 8 by omega) with rfl | rfl | rfl | rfl | rfl <;> cases hr
  · exact b6.1
  · exact b6.2.1
  · exact b6.2.2.1
  · exact b6.2.2.2.1
  · exact b6.2.2.2.2
theorem zv_newA (K : z_Ok X cc ret own nm) {idx : Nat} {n : Int32} (kd N k' z' : Nat) (r : vw_C) (d : z_D cc pc (.anewarray idx) 3 pc') (hkd : 4 ≤ kd ∧ kd ≤ 8) (hr : vwCl[z_kc kd]? = some r) (hL : Cond.classLink own idx r.1 ∈ lw_tbl) (hn : ¬ n < 0) (hN : n.toNatClampNeg = N) (hb : N * 4 ≤ 536870912) (hk : k + 1 = k') (hz : z + N = z') (hR : k' ≤ X.2.1.cells ∧ z' ≤ X.2.1.slots)
    (kk : zV X pc' lv (tA (some nx) :: rest) (z_up h nx (.inl (kd, N, .inr (.inr (fun _ => none))))) (nx + 1) k' z') : zV X pc lv (tI n :: rest) h nx k z := by
  subst hk; subst hz; subst hN
  intro H locs ls hH hS hl; obtain ⟨d, rfl⟩ := d
  refine z_sized hH (fun hsz => ?_)
  refine W.anew K.1 K.2.1 K.2.2.2.2.1 (z_word K hL rfl) (va_AO.use (z_over K hkd.1 hkd.2 hr)) rfl d rfl hn hb hR.1 hR.2 (fun cA kA comp f1 f2 f3 f4 => ?_)
  obtain ⟨rr, hrr, htt⟩ := z_kt (cy := X.2.2.1.2.2.2.2.2.2) hkd.1 hkd.2
  cases hr.symm.trans hrr
  obtain ⟨kA', comp', g1, g2, g3, g4⟩ := (K.2.2.2.2.2.2.2.2.2.2.2.2.1.2 kd _ htt).2
  have hcA : cA = X.2.2.1.2.2.2.2.2.2 kd := Option.some.inj (f1.symm.trans g4)
  generalize hH1 : H.push ({ cls := cA, slots := Array.replicate n.toNatClampNeg .null, vm := .none } : Cell) = H1
  have z1 : H1.size = H.size + 1 := by rw [← hH1, Array.size_push]
  have e1 : H1[H.size]? = some (arrV cA n.toNatClampNeg (fun _ => .null)) := by rw [← hH1, Array.getElem?_push_size, ← arrV_new]
  have o1 : ∀ q : Nat, q < H.size → H1[q]? = H[q]? := fun q hq => by rw [← hH1, Array.getElem?_push, if_neg (Nat.ne_of_lt hq)]
  rw [hsz] at z1 e1 o1 ⊢
  have hP1 := z_newP (c := .inl (kd, n.toNatClampNeg, .inr (.inr (fun _ => none)))) (kd := kd) (N := 0) (v := .null) hH.1.1 hsz o1 hH.1.2.2.1 (by
    show H1[nx]? = some (vp_cell (X.2.2.1.2.2.2.2.2.2 kd) (n.toNatClampNeg, .inr (.inr (.inr (.inr (fun _ => none))))))
    rw [vp_cell_q, ← hcA]
    exact e1)
  exact kk H1 locs ls ⟨⟨hP1, by omega, by have := hH.1.2.2.1; omega, z_dom_push hH.1.2.2.2 K.2.2.2.2.2.2.2.2.1.2 hH.1.2.2.1 _ (fun n f e => by injection e with e; injection e with _ e; injection e with _ e; cases e)⟩, by have := hH.2; omega⟩ ⟨by have := hS.1; omega, fun x h1 h2 => (o1 x (by have := hS.1; omega)).trans (hS.2.1 x h1 h2), hS.2.2⟩ hl
/-! calls -/
theorem z_pre (K : z_Ok X cc ret own nm) {as : List zTV} {H : Heap} {locs : List Loc} (hH : z_Hs X h nx k H) (hS : va_S (z_A X.2.2.1) X.1.2.2.2.1.heap H locs) (hsz : H.size = nx) : PreS X.1.2.2.2.1 H (z_Pc X.2.2.1 as h nx) (as.map z_tv) :=
  ⟨z_Pc_blind _ _ _ _, fun U hU hW => ⟨rfl, by rw [hU]; exact hH.1, by rw [hU]; exact hsz, z_St_go K.2.2.2.2.2.2.2.2 hS hU hW⟩⟩
theorem z_after {r : Option zTV} {h' : zH} {nx' mc ms : Nat} {H : Heap} {locs : List Loc} {ls : Array Slot} {st0 : List Value} {ar : Array Value} (hr : va_Run X.1.1 X.1.2.1 X.1.2.2.1 X.2.1 X.1.2.2.2.1 X.1.2.2.2.2.1 X.1.2.2.2.2.2.1 X.1.2.2.2.2.2.2.1 X.1.2.2.2.2.2.2.2.1 X.1.2.2.2.2.2.2.2.2 H locs k z mc ms (F0 X.1.2.2.2.2.1 pc ls st0) (rest.map z_tv) (z_Qc X.2.2.1 r h' nx' ar) (z_A X.2.2.1)) (hH : z_Hs X h nx k H) (hS : va_S (z_A X.2.2.1) X.1.2.2.2.1.heap H locs) (hl : lv_has ls X.2.2.2.1 (lv.map z_lm)) (hnx : nx + mc = nx') (kk : zV X (pc + 3) lv (r.toList ++ rest) h' nx' (k + mc) (z + ms)) :
    W X.1.1 X.1.2.1 X.1.2.2.1 X.2.1 X.1.2.2.2.1 X.1.2.2.2.2.1 X.1.2.2.2.2.2.1 X.1.2.2.2.2.2.2.1 X.1.2.2.2.2.2.2.2.1 X.1.2.2.2.2.2.2.2.2 H locs k z X.2.2.2.2 (F0 X.1.2.2.2.2.1 pc ls st0) := by
  intro T hT XX
  obtain ⟨v, st₀, t, T', L, h0, X', hL, e1, e2, ⟨hv, hHp, hF⟩, st⟩ := hr T hT XX
  cases hv
  obtain ⟨hz, hk⟩ := hF
  rw [h0] at hz hk
  obtain ⟨t2, a1, b1⟩ := kk T'.heap (locs ++ L) ls ⟨by rw [e1]; exact hHp, by have := hH.2; omega⟩ ⟨by rw [e1]; exact Nat.le_trans hS.1 hz, fun q g1 g2 => by rw [e1, hk q (Nat.lt_of_lt_of_le g1 hS.1) g2]; exact hS.2.1 q g1 g2, fun q hq => by
      rcases List.mem_append.mp hq with g | g
      · exact hS.2.2 q g
      · exact hL q g⟩ hl T' rfl X'
  refine ⟨t2, st t2 ?_, b1⟩
  have : (r.toList ++ rest).map z_tv = (r.map z_tv).toList ++ rest.map z_tv := by cases r <;> simp
  rw [this] at a1
  exact a1
/-- a method's words, beside its link -/
def z_Md (y : MethodName) (cc2 : ByteArray) (maxL : Nat) (ret2 : Option FieldType) (n : Nat) : Prop := Cond.initialized y.cls ∈ lw_tbl ∧ Cond.code y cc2 maxL ret2 ∈ lw_tbl ∧ (y.cls ≠ "java/lang/invoke/MethodHandle" ∧ y.cls ≠ "java/lang/invoke/VarHandle" ∧ (parseMethodDescriptor y.desc).map (fun d => d.parameters.length) = some n)
def z_Lk (own : String) (idx : Nat) (y : MethodName) : Prop := Cond.methodLink own idx y ∈ lw_tbl ∨ ∃ host, Cond.methodLinkNest own idx y host ∈ lw_tbl
theorem zv_callS (K : z_Ok X cc ret own nm) {idx n maxL mc ms nx' : Nat} {y : MethodName} {cc2 : ByteArray} {ret2 : Option FieldType} {rm : Room} {r : Option zTV} {h' : zH} (as : List zTV) (rest : List zTV) {st : List zTV} (d : z_D cc pc (.invokestatic idx) 3 pc') (hL : z_Lk own idx y) (hM : z_Md y cc2 maxL ret2 n) (hst : Cond.static y ∈ lw_tbl) (hn : as.length = n) (hse : st = as.reverse ++ rest) (hrest : (rest.map z_cat).sum ≤ 8)
    (hc : z_Ct X.1.2.1 X.2.2.1 y cc2 maxL ret2 rm as h nx r h' nx' mc ms) (hrc : rm.cells = mc) (hrs : rm.slots = ms) (hR : rm.frames + 1 ≤ X.2.1.frames ∧ 8 + (maxL + 11) + rm.locals ≤ X.2.1.locals) (hf : k + mc ≤ X.2.1.cells ∧ z + ms ≤ X.2.1.slots) (hnx : nx + mc = nx') (kk : zV X pc' lv (r.toList ++ rest) h' nx' (k + mc) (z + ms)) : zV X pc lv st h nx k z := by
  subst hse
  intro H locs ls hH hS hl; obtain ⟨d, rfl⟩ := d
  intro T0 hT0 XX
  have hsz : H.size = nx := by have h1 := z_szT XX; rw [hT0] at h1; have h2 := hH.1.2.1; have h3 := hH.2; omega
  have hpre := z_pre (as := as) K hH hS hsz
  have hlr : 2 * (F0 X.1.2.2.2.2.1 pc ls (((as.reverse ++ rest).map z_tv))).monitorRoom + ((rest.map z_tv).map fun v => v.category).sum ≤ 8 := by have := z_catsum rest; exact lv_room (by omega)
  have hstk : (as.reverse ++ rest).map z_tv = (as.map z_tv).reverse ++ rest.map z_tv := by rw [List.map_append, List.map_reverse]
  have hG : GoodIn z_tb (Cond.code y cc2 maxL ret2 :: z_tb) := z_goodIn hM.2.1 rfl
  rcases hL with hL | ⟨host, hL⟩
  · exact z_after (ar := (as.map z_tv).toArray) (va_runS (n := n) (g := F0 X.1.2.2.2.2.1 pc ls ((as.reverse ++ rest).map z_tv)) ⟨K.1, K.2.1, K.2.2.2.1, K.2.2.2.2.1, K.2.2.2.2.2.1⟩ hc ⟨callB_of n K.2.2.2.2.2.1 hG rfl hrc hrs (z_word K hM.1 rfl) (z_word K hL rfl) hM.2.2 hR, z_word K hst rfl⟩ hpre rfl (by rw [List.length_map]; exact hn) hl.1 hstk hlr d hf) hH hS hl hnx kk T0 hT0 XX
  · exact z_after (ar := (as.map z_tv).toArray) (va_runSN (n := n) (host := host) (g := F0 X.1.2.2.2.2.1 pc ls ((as.reverse ++ rest).map z_tv)) ⟨K.1, K.2.1, K.2.2.2.1, K.2.2.2.2.1, K.2.2.2.2.2.1⟩ hc ⟨va_cnB n K.2.2.2.2.2.1 hG rfl hrc hrs (va_Nw.of rfl (z_nword K hL rfl rfl)) (z_word K hM.1 rfl) hM.2.2 hR, z_word K hst rfl, trivial⟩ hpre rfl (by rw [List.length_map]; exact hn) hl.1 hstk hlr d hf) hH hS hl hnx kk T0 hT0 XX
theorem z_ck_inv {ci q : Nat} {r : Option Nat} (he : z_ck h ci r = some q) : r = some q ∧ ∃ fs, h q = .inr (ci, fs) := by
  cases r with
  | none => cases he
  | some b =>
    simp only [z_ck, Option.bind_some] at he
    split at he
    · rename_i c fs hq
      split at he
      · rename_i hc; cases he; subst hc; exact ⟨rfl, fs, hq⟩
      · cases he
    · cases he
theorem zv_callV (K : z_Ok X cc ret own nm) {idx n maxL mc ms nx' ci q : Nat} {y : MethodName} {cc2 : ByteArray} {ret2 : Option FieldType} {rm : Room} {r : Option zTV} {h' : zH} {b : Option Nat} {qc : vw_C} (as : List zTV) (rest : List zTV) {st : List zTV} (d : z_D cc pc (.invokevirtual idx) 3 pc') (hL : z_Lk own idx y) (hM : z_Md y cc2 maxL ret2 n) (hi : Cond.instanceMethod y ∈ lw_tbl) (hsl : Cond.selects qc.1 y y ∈ lw_tbl) (hcl : vwCl[ci]? = some qc) (hn : as.length = n) (hse : st = as.reverse ++ tA b :: rest) (hrest : (rest.map z_cat).sum ≤ 8) (hck : z_ck h ci b = some q)
    (hc : z_Ct X.1.2.1 X.2.2.1 y cc2 maxL ret2 rm (tA b :: as) h nx r h' nx' mc ms) (hrc : rm.cells = mc) (hrs : rm.slots = ms) (hR : rm.frames + 1 ≤ X.2.1.frames ∧ 8 + (maxL + 11) + rm.locals ≤ X.2.1.locals) (hf : k + mc ≤ X.2.1.cells ∧ z + ms ≤ X.2.1.slots) (hnx : nx + mc = nx') (kk : zV X pc' lv (r.toList ++ rest) h' nx' (k + mc) (z + ms)) : zV X pc lv st h nx k z := by
  obtain ⟨rfl, fs, hq⟩ := z_ck_inv hck
  subst hse
  intro H locs ls hH hS hl; obtain ⟨d, rfl⟩ := d
  intro T0 hT0 XX
  have hsz : H.size = nx := by have h1 := z_szT XX; rw [hT0] at h1; have h2 := hH.1.2.1; have h3 := hH.2; omega
  have hpre := z_pre (as := tA (some q) :: as) K hH hS hsz
  have hlt := z_cls_lt hcl
  obtain ⟨i1, i2⟩ := z_dom_in hH.1.2.2.2 (a := q) (by rw [hq]; intro e; injection e with e; injection e with e _; omega) (by intro n f e; rw [hq] at e; cases e)
  have hw : (z_ws X.2.2.1 h nx)[q - X.2.2.1.1]? = some (q, .inr (ci, fs.map z_tv)) := by rw [z_ws_get i1 i2, hq]; rfl
  have hpv : PreV X.1.2.2.2.1 H qc.1 q (z_Pc X.2.2.1 (tA (some q) :: as) h nx) (as.map z_tv) := ⟨hpre.1, va_recv K.2.2.2.2.2.2.2.2.2.2.2.2.1 hH.1.1 hcl hw, hpre.2⟩
  have hlr : 2 * (F0 X.1.2.2.2.2.1 pc ls (((as.reverse ++ tA (some q) :: rest).map z_tv))).monitorRoom + ((rest.map z_tv).map fun v => v.category).sum ≤ 8 := by have := z_catsum rest; exact lv_room (by omega)
  have hstk : (as.reverse ++ tA (some q) :: rest).map z_tv = (as.map z_tv).reverse ++ .ref q :: rest.map z_tv := by rw [List.map_append, List.map_reverse]; rfl
  have hG : GoodIn z_tb (Cond.code y cc2 maxL ret2 :: z_tb) := z_goodIn hM.2.1 rfl
  rcases hL with hL | ⟨host, hL⟩
  · exact z_after (ar := (Value.ref q :: as.map z_tv).toArray) (va_runV (n := n) (g := F0 X.1.2.2.2.2.1 pc ls ((as.reverse ++ tA (some q) :: rest).map z_tv)) ⟨K.1, K.2.1, K.2.2.2.1, K.2.2.2.2.1, K.2.2.2.2.2.1⟩ hc ⟨callB_of n K.2.2.2.2.2.1 hG rfl hrc hrs (z_word K hM.1 rfl) (z_word K hL rfl) hM.2.2 hR, z_word K hi rfl, z_word K hsl rfl⟩ hpv rfl (by rw [List.length_map]; exact hn) hl.1 hstk hlr d hf) hH hS hl hnx kk T0 hT0 XX
  · exact z_after (ar := (Value.ref q :: as.map z_tv).toArray) (va_runVN (n := n) (host := host) (g := F0 X.1.2.2.2.2.1 pc ls ((as.reverse ++ tA (some q) :: rest).map z_tv)) ⟨K.1, K.2.1, K.2.2.2.1, K.2.2.2.2.1, K.2.2.2.2.2.1⟩ hc ⟨va_cnB n K.2.2.2.2.2.1 hG rfl hrc hrs (va_Nw.of rfl (z_nword K hL rfl rfl)) (z_word K hM.1 rfl) hM.2.2 hR, z_word K hi rfl, z_word K hsl rfl⟩ hpv rfl (by rw [List.length_map]; exact hn) hl.1 hstk hlr d hf) hH hS hl hnx kk T0 hT0 XX
theorem zv_callI (K : z_Ok X cc ret own nm) {idx n maxL mc ms nx' q : Nat} {y : MethodName} {cc2 : ByteArray} {rm : Room} {r : Option zTV} {h' : zH} {b : Option Nat} (as : List zTV) (rest : List zTV) {st : List zTV} (d : z_D cc pc (.invokespecial idx) 3 pc') (hL : z_Lk own idx y) (hM : z_Md y cc2 maxL none n) (hi : Cond.instanceMethod y ∈ lw_tbl) (hnm : y.name = "<init>") (hn : as.length = n) (hse : st = as.reverse ++ tA b :: rest) (hrest : (rest.map z_cat).sum ≤ 8) (hck : b = some q)
    (hc : z_Ct X.1.2.1 X.2.2.1 y cc2 maxL none rm (tA b :: as) h nx r h' nx' mc ms) (hrc : rm.cells = mc) (hrs : rm.slots = ms) (hR : rm.frames + 1 ≤ X.2.1.frames ∧ 8 + (maxL + 11) + rm.locals ≤ X.2.1.locals) (hf : k + mc ≤ X.2.1.cells ∧ z + ms ≤ X.2.1.slots) (hnx : nx + mc = nx') (kk : zV X pc' lv (r.toList ++ rest) h' nx' (k + mc) (z + ms)) : zV X pc lv st h nx k z := by
  subst hck
  subst hse
  intro H locs ls hH hS hl; obtain ⟨d, rfl⟩ := d
  intro T0 hT0 XX
  have hsz : H.size = nx := by have h1 := z_szT XX; rw [hT0] at h1; have h2 := hH.1.2.1; have h3 := hH.2; omega
  have hpre := z_pre (as := tA (some q) :: as) K hH hS hsz
  have hlr : 2 * (F0 X.1.2.2.2.2.1 pc ls (((as.reverse ++ tA (some q) :: rest).map z_tv))).monitorRoom + ((rest.map z_tv).map fun v => v.category).sum ≤ 8 := by have := z_catsum rest; exact lv_room (by omega)
  have hstk : (as.reverse ++ tA (some q) :: rest).map z_tv = (as.map z_tv).reverse ++ .ref q :: rest.map z_tv := by rw [List.map_append, List.map_reverse]; rfl
  have hG : GoodIn z_tb (Cond.code y cc2 maxL none :: z_tb) := z_goodIn hM.2.1 rfl
  rcases hL with hL | ⟨host, hL⟩
  · exact z_after (ar := (Value.ref q :: as.map z_tv).toArray) (va_runI (n := n) (g := F0 X.1.2.2.2.2.1 pc ls ((as.reverse ++ tA (some q) :: rest).map z_tv)) ⟨K.1, K.2.1, K.2.2.2.1, K.2.2.2.2.1, K.2.2.2.2.2.1⟩ hc ⟨callB_of n K.2.2.2.2.2.1 hG rfl hrc hrs (z_word K hM.1 rfl) (z_word K hL rfl) hM.2.2 hR, hnm, z_word K hi rfl⟩ hpre rfl (by rw [List.length_map]; exact hn) hl.1 hstk hlr d hf) hH hS hl hnx kk T0 hT0 XX
  · exact z_after (ar := (Value.ref q :: as.map z_tv).toArray) (va_runIN (n := n) (host := host) (g := F0 X.1.2.2.2.2.1 pc ls ((as.reverse ++ tA (some q) :: rest).map z_tv)) ⟨K.1, K.2.1, K.2.2.2.1, K.2.2.2.2.1, K.2.2.2.2.2.1⟩ hc ⟨va_cnB n K.2.2.2.2.2.1 hG rfl hrc hrs (va_Nw.of rfl (z_nword K hL rfl rfl)) (z_word K hM.1 rfl) hM.2.2 hR, hnm, z_word K hi rfl⟩ hpre rfl (by rw [List.length_map]; exact hn) hl.1 hstk hlr d hf) hH hS hl hnx kk T0 hT0 XX
/-! answers -/
def z_Rt (X : zX) (r : Option zTV) (h : zH) (nx k z : Nat) : Prop := X.2.2.2.2 = MQ X.1.2.2.2.2.2.2.1 (z_Qc X.2.2.1 r h nx) X.1.2.2.2.2.2.1 X.1.2.2.2.1 k z (z_A X.2.2.1)
theorem zv_iret (K : z_Ok X cc (some .int) own nm) {v : Int32} (d : z_D cc pc .ireturn 1 pc') (hq : z_Rt X (some (tI v)) h nx k z) : zV X pc lv [tI v] h nx k z := by
  intro H locs ls hH hS hl; obtain ⟨d, rfl⟩ := d
  rw [hq]
  exact W.iret K.1 K.2.1 K.2.2.1 (fun t ht hW => ⟨rfl, by rw [ht]; exact hH.1, hS.F ht⟩) hS.2.2 d K.2.2.2.2.2.2.1
theorem zv_zret (K : z_Ok X cc (some .boolean) own nm) {v : Int32} (d : z_D cc pc .ireturn 1 pc') (hv : v = 0 ∨ v = 1) (hq : z_Rt X (some (tI v)) h nx k z) : zV X pc lv [tI v] h nx k z := by
  intro H locs ls hH hS hl; obtain ⟨d, rfl⟩ := d
  rw [hq]
  exact W.zret (ty := .boolean) K.1 K.2.1 K.2.2.1 (by rcases hv with rfl | rfl <;> rfl) (fun t ht hW => ⟨rfl, by rw [ht]; exact hH.1, hS.F ht⟩) hS.2.2 d K.2.2.2.2.2.2.1
theorem zv_lret (K : z_Ok X cc (some .long) own nm) {v : Int64} (d : z_D cc pc .lreturn 1 pc') (hq : z_Rt X (some (tJ v)) h nx k z) : zV X pc lv [tJ v] h nx k z := by
  intro H locs ls hH hS hl; obtain ⟨d, rfl⟩ := d
  rw [hq]
  exact W.lret K.1 K.2.1 K.2.2.1 (fun t ht hW => ⟨rfl, by rw [ht]; exact hH.1, hS.F ht⟩) hS.2.2 d K.2.2.2.2.2.2.1
theorem zv_vret (K : z_Ok X cc none own nm) (d : z_D cc pc .return_ 1 pc') (hq : z_Rt X none h nx k z) : zV X pc lv [] h nx k z := by
  intro H locs ls hH hS hl; obtain ⟨d, rfl⟩ := d
  rw [hq]
  exact W.vret K.1 K.2.1 K.2.2.1 (fun t ht hW => ⟨rfl, by rw [ht]; exact hH.1, hS.F ht⟩) hS.2.2 d K.2.2.2.2.2.2.1
theorem zv_aret {C : String} (K : z_Ok X cc (some (.object C)) own nm) {v : Option Nat} (d : z_D cc pc .areturn 1 pc') (hq : z_Rt X (some (tA v)) h nx k z) : zV X pc lv [tA v] h nx k z := by
  intro H locs ls hH hS hl; obtain ⟨d, rfl⟩ := d
  rw [hq]
  exact W.aret (v := z_tv (tA v)) K.1 K.2.1 K.2.2.1 (Or.inl ⟨C, rfl⟩) (by cases v with
    | none => exact Or.inl rfl
    | some q => exact Or.inr ⟨q, rfl⟩) (fun t ht hW => ⟨rfl, by rw [ht]; exact hH.1, hS.F ht⟩) hS.2.2 d K.2.2.2.2.2.2.1
end ZC
def z_args : Nat → List zTV → List (Nat × zTV)
  | _, [] => []
  | i, v :: vs => (i, v) :: z_args (if z_cat v = 2 then i + 2 else i + 1) vs
theorem z_args_map : ∀ (as : List zTV) (i : Nat), lv_args i (as.map z_tv) = (z_args i as).map z_lm
  | [], _ => rfl
  | v :: vs, i => by
    show (i, z_tv v) :: lv_args (if (z_tv v).category = 2 then i + 2 else i + 1) (vs.map z_tv) = _
    rw [z_tv_cat, z_args_map vs]
    rfl
theorem z_sl_len : ∀ (as : List zTV), (lg_sl (as.map z_tv)).length = (as.map z_cat).sum
  | [] => rfl
  | v :: vs => by
    have ih := z_sl_len vs
    have e : lg_sl ((v :: vs).map z_tv) = (if (z_tv v).category = 2 then [Slot.val (z_tv v), Slot.second] else [Slot.val (z_tv v)]) ++ lg_sl (vs.map z_tv) := rfl
    rw [e, List.length_append, ih, z_tv_cat, List.map_cons, List.sum_cons]
    rcases v with x | x | x <;> rfl
theorem z_enter {l : Launch} {G : zG} {y : MethodName} {cc : ByteArray} {maxL : Nat} {ret : Option FieldType} {rm : Room} {as : List zTV} {h : zH} {nx : Nat} {r : Option zTV} {h' : zH} {nx' mc ms : Nat} (lv0 : List (Nat × zTV)) (hy : plainName y.cls = true) (hlen : (as.map z_cat).sum ≤ maxL) (hlv : z_args 0 as = lv0)
    (body : ∀ X : zX, X.1.2.1 = l → X.2.1 = rm → X.2.2.1 = G → X.2.2.2.1 = maxL → z_Ok X cc ret y.cls y.name → z_Rt X r h' nx' mc ms → zV X 0 lv0 [] h nx 0 0) : z_Ct l G y cc maxL ret rm as h nx r h' nx' mc ms := by
  refine Met.ofW (cc := cc) (maxL := maxL) (ret := ret) hy rfl ?_
  intro p e s m args below meth c s₁ B hml hv
  obtain ⟨rfl, hHp, hsz, hSt⟩ := hv
  have hts := atoms_spec (ws := Cond.code y cc maxL ret :: z_tb) B.pre
  have hown : s.vm.findClass y.cls = some m.cls := findClass_of_methodNamed B.named
  have hl := lv_entry (as.map z_tv) (n := maxL) (by rw [z_sl_len]; exact hlen)
  rw [lg_entry_eq]
  generalize (lg_sl (as.map z_tv) ++ List.replicate (maxL - (lg_sl (as.map z_tv)).length) Slot.unset).toArray = ls at hl ⊢
  rw [z_args_map, hlv] at hl
  exact body ((p, l, e, s, m, (as.map z_tv).toArray, below, meth, c), rm, G, maxL, MQ below (z_Qc G r h' nx') (as.map z_tv).toArray s mc ms (z_A G)) rfl rfl rfl rfl ⟨B.exec, B.bytes, B.returns, hml, hown, fun w hw => hts w (List.mem_cons_of_mem _ hw), B.notSynchronized, (name_of_methodNamed B.named B.method).1, hSt⟩ rfl s.heap [] ls ⟨hHp, hsz⟩ va_S.rf hl
end
