section
-- ===== PART A: goes FIRST, ahead of the names: the tables' words, and 'selects' of the private methods out of them =====
/-- a private method of a class that the tables say can be made, by its rows of tables_1 -/
def lw_okq (q : MethodName × Nat) : Prop := (q.1.cls ≠ "java/lang/invoke/MethodHandle" ∧ q.1.cls ≠ "java/lang/invoke/VarHandle") ∧ Cond.instantiable q.1.cls q.2 ∈ tables_1 ∧ Cond.privateMethod q.1 ∈ tables_1 ∧ Cond.instanceMethod q.1 ∈ tables_1
theorem lw_p0 : lw_okq (⟨"ThinkingArms", "isSheet", "(I)Z"⟩, 9) := ⟨⟨by decide +kernel, by decide +kernel⟩, List.mem_of_getElem? (i := 17) (by decide +kernel), List.mem_of_getElem? (i := 324) (by decide +kernel), List.mem_of_getElem? (i := 325) (by decide +kernel)⟩
theorem lw_p1 : lw_okq (⟨"ThinkingArms$Sea", "lay", "(II)V"⟩, 9) := ⟨⟨by decide +kernel, by decide +kernel⟩, List.mem_of_getElem? (i := 25) (by decide +kernel), List.mem_of_getElem? (i := 396) (by decide +kernel), List.mem_of_getElem? (i := 397) (by decide +kernel)⟩
theorem lw_p2 : lw_okq (⟨"ThinkingArms", "isPiece", "(II)Z"⟩, 9) := ⟨⟨by decide +kernel, by decide +kernel⟩, List.mem_of_getElem? (i := 17) (by decide +kernel), List.mem_of_getElem? (i := 404) (by decide +kernel), List.mem_of_getElem? (i := 405) (by decide +kernel)⟩
theorem lw_p3 : lw_okq (⟨"ThinkingArms", "isArm", "(I)Z"⟩, 9) := ⟨⟨by decide +kernel, by decide +kernel⟩, List.mem_of_getElem? (i := 17) (by decide +kernel), List.mem_of_getElem? (i := 408) (by decide +kernel), List.mem_of_getElem? (i := 409) (by decide +kernel)⟩
theorem lw_p4 : lw_okq (⟨"ThinkingArms", "isThing", "(I)Z"⟩, 9) := ⟨⟨by decide +kernel, by decide +kernel⟩, List.mem_of_getElem? (i := 17) (by decide +kernel), List.mem_of_getElem? (i := 428) (by decide +kernel), List.mem_of_getElem? (i := 429) (by decide +kernel)⟩
theorem lw_p5 : lw_okq (⟨"ThinkingArms$Sea", "turned", "(II)I"⟩, 9) := ⟨⟨by decide +kernel, by decide +kernel⟩, List.mem_of_getElem? (i := 25) (by decide +kernel), List.mem_of_getElem? (i := 461) (by decide +kernel), List.mem_of_getElem? (i := 462) (by decide +kernel)⟩
theorem lw_p6 : lw_okq (⟨"ThinkingArms$Sea", "flipped", "(III)I"⟩, 9) := ⟨⟨by decide +kernel, by decide +kernel⟩, List.mem_of_getElem? (i := 25) (by decide +kernel), List.mem_of_getElem? (i := 466) (by decide +kernel), List.mem_of_getElem? (i := 467) (by decide +kernel)⟩
theorem lw_p7 : lw_okq (⟨"ThinkingArms$RuleReader", "goTo", "(I)V"⟩, 5) := ⟨⟨by decide +kernel, by decide +kernel⟩, List.mem_of_getElem? (i := 163) (by decide +kernel), List.mem_of_getElem? (i := 489) (by decide +kernel), List.mem_of_getElem? (i := 490) (by decide +kernel)⟩
theorem lw_p8 : lw_okq (⟨"ThinkingArms$RuleReader", "readClause", "()LThinkingArms$Clause;"⟩, 5) := ⟨⟨by decide +kernel, by decide +kernel⟩, List.mem_of_getElem? (i := 163) (by decide +kernel), List.mem_of_getElem? (i := 512) (by decide +kernel), List.mem_of_getElem? (i := 513) (by decide +kernel)⟩
theorem lw_p9 : lw_okq (⟨"ThinkingArms$RuleReader", "readTest", "(I)LThinkingArms$Claim;"⟩, 5) := ⟨⟨by decide +kernel, by decide +kernel⟩, List.mem_of_getElem? (i := 163) (by decide +kernel), List.mem_of_getElem? (i := 541) (by decide +kernel), List.mem_of_getElem? (i := 542) (by decide +kernel)⟩
theorem lw_p10 : lw_okq (⟨"ThinkingArms$RuleReader", "readClaim", "(I)LThinkingArms$Claim;"⟩, 5) := ⟨⟨by decide +kernel, by decide +kernel⟩, List.mem_of_getElem? (i := 163) (by decide +kernel), List.mem_of_getElem? (i := 545) (by decide +kernel), List.mem_of_getElem? (i := 546) (by decide +kernel)⟩
theorem lw_p11 : lw_okq (⟨"ThinkingArms$RuleReader", "takes", "(I)Z"⟩, 5) := ⟨⟨by decide +kernel, by decide +kernel⟩, List.mem_of_getElem? (i := 163) (by decide +kernel), List.mem_of_getElem? (i := 576) (by decide +kernel), List.mem_of_getElem? (i := 577) (by decide +kernel)⟩
theorem lw_p12 : lw_okq (⟨"ThinkingArms$RuleReader", "need", "(I)V"⟩, 5) := ⟨⟨by decide +kernel, by decide +kernel⟩, List.mem_of_getElem? (i := 163) (by decide +kernel), List.mem_of_getElem? (i := 580) (by decide +kernel), List.mem_of_getElem? (i := 581) (by decide +kernel)⟩
theorem lw_p13 : lw_okq (⟨"ThinkingArms$RuleReader", "fail", "()V"⟩, 5) := ⟨⟨by decide +kernel, by decide +kernel⟩, List.mem_of_getElem? (i := 163) (by decide +kernel), List.mem_of_getElem? (i := 584) (by decide +kernel), List.mem_of_getElem? (i := 585) (by decide +kernel)⟩
theorem lw_p14 : lw_okq (⟨"ThinkingArms$RuleReader", "readSense", "()I"⟩, 5) := ⟨⟨by decide +kernel, by decide +kernel⟩, List.mem_of_getElem? (i := 163) (by decide +kernel), List.mem_of_getElem? (i := 588) (by decide +kernel), List.mem_of_getElem? (i := 589) (by decide +kernel)⟩
theorem lw_p15 : lw_okq (⟨"ThinkingArms$RuleReader", "readDigit", "()I"⟩, 5) := ⟨⟨by decide +kernel, by decide +kernel⟩, List.mem_of_getElem? (i := 163) (by decide +kernel), List.mem_of_getElem? (i := 592) (by decide +kernel), List.mem_of_getElem? (i := 593) (by decide +kernel)⟩
def lw_privs_1 : List (MethodName × Nat) := [(⟨"ThinkingArms", "isSheet", "(I)Z"⟩, 9), (⟨"ThinkingArms$Sea", "lay", "(II)V"⟩, 9), (⟨"ThinkingArms", "isPiece", "(II)Z"⟩, 9), (⟨"ThinkingArms", "isArm", "(I)Z"⟩, 9), (⟨"ThinkingArms", "isThing", "(I)Z"⟩, 9), (⟨"ThinkingArms$Sea", "turned", "(II)I"⟩, 9), (⟨"ThinkingArms$Sea", "flipped", "(III)I"⟩, 9), (⟨"ThinkingArms$RuleReader", "goTo", "(I)V"⟩, 5), (⟨"ThinkingArms$RuleReader", "readClause", "()LThinkingArms$Clause;"⟩, 5), (⟨"ThinkingArms$RuleReader", "readTest", "(I)LThinkingArms$Claim;"⟩, 5), (⟨"ThinkingArms$RuleReader", "readClaim", "(I)LThinkingArms$Claim;"⟩, 5), (⟨"ThinkingArms$RuleReader", "takes", "(I)Z"⟩, 5), (⟨"ThinkingArms$RuleReader", "need", "(I)V"⟩, 5), (⟨"ThinkingArms$RuleReader", "fail", "()V"⟩, 5), (⟨"ThinkingArms$RuleReader", "readSense", "()I"⟩, 5), (⟨"ThinkingArms$RuleReader", "readDigit", "()I"⟩, 5)]
theorem lw_r1 : ∀ q ∈ lw_privs_1, lw_okq q := List.forall_mem_cons.mpr ⟨lw_p0, List.forall_mem_cons.mpr ⟨lw_p1, List.forall_mem_cons.mpr ⟨lw_p2, List.forall_mem_cons.mpr ⟨lw_p3, List.forall_mem_cons.mpr ⟨lw_p4, List.forall_mem_cons.mpr ⟨lw_p5, List.forall_mem_cons.mpr ⟨lw_p6, List.forall_mem_cons.mpr ⟨lw_p7, List.forall_mem_cons.mpr ⟨lw_p8, List.forall_mem_cons.mpr ⟨lw_p9, List.forall_mem_cons.mpr ⟨lw_p10, List.forall_mem_cons.mpr ⟨lw_p11, List.forall_mem_cons.mpr ⟨lw_p12, List.forall_mem_cons.mpr ⟨lw_p13, List.forall_mem_cons.mpr ⟨lw_p14, List.forall_mem_cons.mpr ⟨lw_p15, fun _ h => absurd h List.not_mem_nil⟩⟩⟩⟩⟩⟩⟩⟩⟩⟩⟩⟩⟩⟩⟩⟩
theorem lw_p16 : lw_okq (⟨"ThinkingArms$RuleReader", "readAct", "(LThinkingArms$Clause;)V"⟩, 5) := ⟨⟨by decide +kernel, by decide +kernel⟩, List.mem_of_getElem? (i := 163) (by decide +kernel), List.mem_of_getElem? (i := 597) (by decide +kernel), List.mem_of_getElem? (i := 598) (by decide +kernel)⟩
theorem lw_p17 : lw_okq (⟨"ThinkingArms$Sea", "senses", "(LThinkingArms$Arm;I)I"⟩, 9) := ⟨⟨by decide +kernel, by decide +kernel⟩, List.mem_of_getElem? (i := 25) (by decide +kernel), List.mem_of_getElem? (i := 624) (by decide +kernel), List.mem_of_getElem? (i := 625) (by decide +kernel)⟩
theorem lw_p18 : lw_okq (⟨"ThinkingArms$Sea", "doActs", "(II)I"⟩, 9) := ⟨⟨by decide +kernel, by decide +kernel⟩, List.mem_of_getElem? (i := 25) (by decide +kernel), List.mem_of_getElem? (i := 641) (by decide +kernel), List.mem_of_getElem? (i := 642) (by decide +kernel)⟩
theorem lw_p19 : lw_okq (⟨"ThinkingArms$Sea", "grab", "(II)V"⟩, 9) := ⟨⟨by decide +kernel, by decide +kernel⟩, List.mem_of_getElem? (i := 25) (by decide +kernel), List.mem_of_getElem? (i := 646) (by decide +kernel), List.mem_of_getElem? (i := 647) (by decide +kernel)⟩
theorem lw_p20 : lw_okq (⟨"ThinkingArms$Sea", "lyingAt", "(I)I"⟩, 9) := ⟨⟨by decide +kernel, by decide +kernel⟩, List.mem_of_getElem? (i := 25) (by decide +kernel), List.mem_of_getElem? (i := 650) (by decide +kernel), List.mem_of_getElem? (i := 651) (by decide +kernel)⟩
theorem lw_p21 : lw_okq (⟨"ThinkingArms$Sea", "lift", "(I)V"⟩, 9) := ⟨⟨by decide +kernel, by decide +kernel⟩, List.mem_of_getElem? (i := 25) (by decide +kernel), List.mem_of_getElem? (i := 654) (by decide +kernel), List.mem_of_getElem? (i := 655) (by decide +kernel)⟩
theorem lw_p22 : lw_okq (⟨"ThinkingArms$Sea", "give", "(III)V"⟩, 9) := ⟨⟨by decide +kernel, by decide +kernel⟩, List.mem_of_getElem? (i := 25) (by decide +kernel), List.mem_of_getElem? (i := 658) (by decide +kernel), List.mem_of_getElem? (i := 659) (by decide +kernel)⟩
theorem lw_p23 : lw_okq (⟨"ThinkingArms$Sea", "passOn", "(II)V"⟩, 9) := ⟨⟨by decide +kernel, by decide +kernel⟩, List.mem_of_getElem? (i := 25) (by decide +kernel), List.mem_of_getElem? (i := 662) (by decide +kernel), List.mem_of_getElem? (i := 663) (by decide +kernel)⟩
theorem lw_p24 : lw_okq (⟨"ThinkingArms$Sea", "letGo", "(LThinkingArms$Arm;I)V"⟩, 9) := ⟨⟨by decide +kernel, by decide +kernel⟩, List.mem_of_getElem? (i := 25) (by decide +kernel), List.mem_of_getElem? (i := 666) (by decide +kernel), List.mem_of_getElem? (i := 667) (by decide +kernel)⟩
theorem lw_p25 : lw_okq (⟨"ThinkingArms", "refusesReach", "(I)I"⟩, 9) := ⟨⟨by decide +kernel, by decide +kernel⟩, List.mem_of_getElem? (i := 17) (by decide +kernel), List.mem_of_getElem? (i := 691) (by decide +kernel), List.mem_of_getElem? (i := 692) (by decide +kernel)⟩
theorem lw_p26 : lw_okq (⟨"ThinkingArms$Reaching", "layOut", "(I)J"⟩, 11) := ⟨⟨by decide +kernel, by decide +kernel⟩, List.mem_of_getElem? (i := 187) (by decide +kernel), List.mem_of_getElem? (i := 700) (by decide +kernel), List.mem_of_getElem? (i := 701) (by decide +kernel)⟩
theorem lw_p27 : lw_okq (⟨"ThinkingArms$Reaching", "searchAnew", "()V"⟩, 11) := ⟨⟨by decide +kernel, by decide +kernel⟩, List.mem_of_getElem? (i := 187) (by decide +kernel), List.mem_of_getElem? (i := 706) (by decide +kernel), List.mem_of_getElem? (i := 707) (by decide +kernel)⟩
theorem lw_p28 : lw_okq (⟨"ThinkingArms$Reaching", "see", "(II)V"⟩, 11) := ⟨⟨by decide +kernel, by decide +kernel⟩, List.mem_of_getElem? (i := 187) (by decide +kernel), List.mem_of_getElem? (i := 718) (by decide +kernel), List.mem_of_getElem? (i := 719) (by decide +kernel)⟩
theorem lw_p29 : lw_okq (⟨"ThinkingArms$Reaching", "goOnFrom", "(II)V"⟩, 11) := ⟨⟨by decide +kernel, by decide +kernel⟩, List.mem_of_getElem? (i := 187) (by decide +kernel), List.mem_of_getElem? (i := 722) (by decide +kernel), List.mem_of_getElem? (i := 723) (by decide +kernel)⟩
theorem lw_p30 : lw_okq (⟨"ThinkingArms$Reaching", "seeFlip", "(IIJI)V"⟩, 11) := ⟨⟨by decide +kernel, by decide +kernel⟩, List.mem_of_getElem? (i := 187) (by decide +kernel), List.mem_of_getElem? (i := 726) (by decide +kernel), List.mem_of_getElem? (i := 727) (by decide +kernel)⟩
theorem lw_p31 : lw_okq (⟨"ThinkingArms$Reaching", "seeTurns", "(IJI)V"⟩, 11) := ⟨⟨by decide +kernel, by decide +kernel⟩, List.mem_of_getElem? (i := 187) (by decide +kernel), List.mem_of_getElem? (i := 730) (by decide +kernel), List.mem_of_getElem? (i := 731) (by decide +kernel)⟩
def lw_privs_2 : List (MethodName × Nat) := [(⟨"ThinkingArms$RuleReader", "readAct", "(LThinkingArms$Clause;)V"⟩, 5), (⟨"ThinkingArms$Sea", "senses", "(LThinkingArms$Arm;I)I"⟩, 9), (⟨"ThinkingArms$Sea", "doActs", "(II)I"⟩, 9), (⟨"ThinkingArms$Sea", "grab", "(II)V"⟩, 9), (⟨"ThinkingArms$Sea", "lyingAt", "(I)I"⟩, 9), (⟨"ThinkingArms$Sea", "lift", "(I)V"⟩, 9), (⟨"ThinkingArms$Sea", "give", "(III)V"⟩, 9), (⟨"ThinkingArms$Sea", "passOn", "(II)V"⟩, 9), (⟨"ThinkingArms$Sea", "letGo", "(LThinkingArms$Arm;I)V"⟩, 9), (⟨"ThinkingArms", "refusesReach", "(I)I"⟩, 9), (⟨"ThinkingArms$Reaching", "layOut", "(I)J"⟩, 11), (⟨"ThinkingArms$Reaching", "searchAnew", "()V"⟩, 11), (⟨"ThinkingArms$Reaching", "see", "(II)V"⟩, 11), (⟨"ThinkingArms$Reaching", "goOnFrom", "(II)V"⟩, 11), (⟨"ThinkingArms$Reaching", "seeFlip", "(IIJI)V"⟩, 11), (⟨"ThinkingArms$Reaching", "seeTurns", "(IJI)V"⟩, 11)]
theorem lw_r2 : ∀ q ∈ lw_privs_2, lw_okq q := List.forall_mem_cons.mpr ⟨lw_p16, List.forall_mem_cons.mpr ⟨lw_p17, List.forall_mem_cons.mpr ⟨lw_p18, List.forall_mem_cons.mpr ⟨lw_p19, List.forall_mem_cons.mpr ⟨lw_p20, List.forall_mem_cons.mpr ⟨lw_p21, List.forall_mem_cons.mpr ⟨lw_p22, List.forall_mem_cons.mpr ⟨lw_p23, List.forall_mem_cons.mpr ⟨lw_p24, List.forall_mem_cons.mpr ⟨lw_p25, List.forall_mem_cons.mpr ⟨lw_p26, List.forall_mem_cons.mpr ⟨lw_p27, List.forall_mem_cons.mpr ⟨lw_p28, List.forall_mem_cons.mpr ⟨lw_p29, List.forall_mem_cons.mpr ⟨lw_p30, List.forall_mem_cons.mpr ⟨lw_p31, fun _ h => absurd h List.not_mem_nil⟩⟩⟩⟩⟩⟩⟩⟩⟩⟩⟩⟩⟩⟩⟩⟩
theorem lw_p32 : lw_okq (⟨"ThinkingArms$WordSearch", "isEatenBy", "(II)Z"⟩, 5) := ⟨⟨by decide +kernel, by decide +kernel⟩, List.mem_of_getElem? (i := 230) (by decide +kernel), List.mem_of_getElem? (i := 764) (by decide +kernel), List.mem_of_getElem? (i := 765) (by decide +kernel)⟩
theorem lw_p33 : lw_okq (⟨"ThinkingArms", "isImage", "(I)Z"⟩, 9) := ⟨⟨by decide +kernel, by decide +kernel⟩, List.mem_of_getElem? (i := 17) (by decide +kernel), List.mem_of_getElem? (i := 773) (by decide +kernel), List.mem_of_getElem? (i := 774) (by decide +kernel)⟩
theorem lw_p34 : lw_okq (⟨"ThinkingArms", "refusesFilm", "(IIII)I"⟩, 9) := ⟨⟨by decide +kernel, by decide +kernel⟩, List.mem_of_getElem? (i := 17) (by decide +kernel), List.mem_of_getElem? (i := 786) (by decide +kernel), List.mem_of_getElem? (i := 787) (by decide +kernel)⟩
theorem lw_p35 : lw_okq (⟨"ThinkingArmsModel", "hasPiece", "(I)Z"⟩, 22) := ⟨⟨by decide +kernel, by decide +kernel⟩, List.mem_of_getElem? (i := 828) (by decide +kernel), List.mem_of_getElem? (i := 912) (by decide +kernel), List.mem_of_getElem? (i := 913) (by decide +kernel)⟩
theorem lw_p36 : lw_okq (⟨"ThinkingArmsModel", "pieces", "(I)I"⟩, 22) := ⟨⟨by decide +kernel, by decide +kernel⟩, List.mem_of_getElem? (i := 828) (by decide +kernel), List.mem_of_getElem? (i := 916) (by decide +kernel), List.mem_of_getElem? (i := 917) (by decide +kernel)⟩
theorem lw_p37 : lw_okq (⟨"ThinkingArmsModel", "cell", "(II)I"⟩, 22) := ⟨⟨by decide +kernel, by decide +kernel⟩, List.mem_of_getElem? (i := 828) (by decide +kernel), List.mem_of_getElem? (i := 923) (by decide +kernel), List.mem_of_getElem? (i := 924) (by decide +kernel)⟩
theorem lw_p38 : lw_okq (⟨"ThinkingArmsModel", "lyingAt", "(I)I"⟩, 22) := ⟨⟨by decide +kernel, by decide +kernel⟩, List.mem_of_getElem? (i := 828) (by decide +kernel), List.mem_of_getElem? (i := 927) (by decide +kernel), List.mem_of_getElem? (i := 928) (by decide +kernel)⟩
theorem lw_p39 : lw_okq (⟨"ThinkingArmsModel", "isFree", "(I)Z"⟩, 22) := ⟨⟨by decide +kernel, by decide +kernel⟩, List.mem_of_getElem? (i := 828) (by decide +kernel), List.mem_of_getElem? (i := 951) (by decide +kernel), List.mem_of_getElem? (i := 952) (by decide +kernel)⟩
theorem lw_p40 : lw_okq (⟨"ThinkingArmsModel", "isPiece", "(II)Z"⟩, 22) := ⟨⟨by decide +kernel, by decide +kernel⟩, List.mem_of_getElem? (i := 828) (by decide +kernel), List.mem_of_getElem? (i := 963) (by decide +kernel), List.mem_of_getElem? (i := 964) (by decide +kernel)⟩
theorem lw_p41 : lw_okq (⟨"ThinkingArmsModel", "isArm", "(I)Z"⟩, 22) := ⟨⟨by decide +kernel, by decide +kernel⟩, List.mem_of_getElem? (i := 828) (by decide +kernel), List.mem_of_getElem? (i := 967) (by decide +kernel), List.mem_of_getElem? (i := 968) (by decide +kernel)⟩
theorem lw_p42 : lw_okq (⟨"ThinkingArmsModel", "cutOf", "(I)I"⟩, 22) := ⟨⟨by decide +kernel, by decide +kernel⟩, List.mem_of_getElem? (i := 828) (by decide +kernel), List.mem_of_getElem? (i := 971) (by decide +kernel), List.mem_of_getElem? (i := 972) (by decide +kernel)⟩
theorem lw_p43 : lw_okq (⟨"ThinkingArmsModel", "isTip", "(II)Z"⟩, 22) := ⟨⟨by decide +kernel, by decide +kernel⟩, List.mem_of_getElem? (i := 828) (by decide +kernel), List.mem_of_getElem? (i := 975) (by decide +kernel), List.mem_of_getElem? (i := 976) (by decide +kernel)⟩
theorem lw_p44 : lw_okq (⟨"ThinkingArmsModel", "isThing", "(I)Z"⟩, 22) := ⟨⟨by decide +kernel, by decide +kernel⟩, List.mem_of_getElem? (i := 828) (by decide +kernel), List.mem_of_getElem? (i := 983) (by decide +kernel), List.mem_of_getElem? (i := 984) (by decide +kernel)⟩
theorem lw_p45 : lw_okq (⟨"ThinkingArmsModel", "formOf", "(I)I"⟩, 22) := ⟨⟨by decide +kernel, by decide +kernel⟩, List.mem_of_getElem? (i := 828) (by decide +kernel), List.mem_of_getElem? (i := 991) (by decide +kernel), List.mem_of_getElem? (i := 992) (by decide +kernel)⟩
theorem lw_p46 : lw_okq (⟨"ThinkingArmsModel", "goesTo", "(II)I"⟩, 22) := ⟨⟨by decide +kernel, by decide +kernel⟩, List.mem_of_getElem? (i := 828) (by decide +kernel), List.mem_of_getElem? (i := 1002) (by decide +kernel), List.mem_of_getElem? (i := 1003) (by decide +kernel)⟩
theorem lw_p47 : lw_okq (⟨"ThinkingArmsModel", "flipped", "(II)I"⟩, 22) := ⟨⟨by decide +kernel, by decide +kernel⟩, List.mem_of_getElem? (i := 828) (by decide +kernel), List.mem_of_getElem? (i := 1006) (by decide +kernel), List.mem_of_getElem? (i := 1007) (by decide +kernel)⟩
def lw_privs_3 : List (MethodName × Nat) := [(⟨"ThinkingArms$WordSearch", "isEatenBy", "(II)Z"⟩, 5), (⟨"ThinkingArms", "isImage", "(I)Z"⟩, 9), (⟨"ThinkingArms", "refusesFilm", "(IIII)I"⟩, 9), (⟨"ThinkingArmsModel", "hasPiece", "(I)Z"⟩, 22), (⟨"ThinkingArmsModel", "pieces", "(I)I"⟩, 22), (⟨"ThinkingArmsModel", "cell", "(II)I"⟩, 22), (⟨"ThinkingArmsModel", "lyingAt", "(I)I"⟩, 22), (⟨"ThinkingArmsModel", "isFree", "(I)Z"⟩, 22), (⟨"ThinkingArmsModel", "isPiece", "(II)Z"⟩, 22), (⟨"ThinkingArmsModel", "isArm", "(I)Z"⟩, 22), (⟨"ThinkingArmsModel", "cutOf", "(I)I"⟩, 22), (⟨"ThinkingArmsModel", "isTip", "(II)Z"⟩, 22), (⟨"ThinkingArmsModel", "isThing", "(I)Z"⟩, 22), (⟨"ThinkingArmsModel", "formOf", "(I)I"⟩, 22), (⟨"ThinkingArmsModel", "goesTo", "(II)I"⟩, 22), (⟨"ThinkingArmsModel", "flipped", "(II)I"⟩, 22)]
theorem lw_r3 : ∀ q ∈ lw_privs_3, lw_okq q := List.forall_mem_cons.mpr ⟨lw_p32, List.forall_mem_cons.mpr ⟨lw_p33, List.forall_mem_cons.mpr ⟨lw_p34, List.forall_mem_cons.mpr ⟨lw_p35, List.forall_mem_cons.mpr ⟨lw_p36, List.forall_mem_cons.mpr ⟨lw_p37, List.forall_mem_cons.mpr ⟨lw_p38, List.forall_mem_cons.mpr ⟨lw_p39, List.forall_mem_cons.mpr ⟨lw_p40, List.forall_mem_cons.mpr ⟨lw_p41, List.forall_mem_cons.mpr ⟨lw_p42, List.forall_mem_cons.mpr ⟨lw_p43, List.forall_mem_cons.mpr ⟨lw_p44, List.forall_mem_cons.mpr ⟨lw_p45, List.forall_mem_cons.mpr ⟨lw_p46, List.forall_mem_cons.mpr ⟨lw_p47, fun _ h => absurd h List.not_mem_nil⟩⟩⟩⟩⟩⟩⟩⟩⟩⟩⟩⟩⟩⟩⟩⟩
theorem lw_p48 : lw_okq (⟨"ThinkingArmsModel", "faultOf", "()I"⟩, 22) := ⟨⟨by decide +kernel, by decide +kernel⟩, List.mem_of_getElem? (i := 828) (by decide +kernel), List.mem_of_getElem? (i := 1019) (by decide +kernel), List.mem_of_getElem? (i := 1020) (by decide +kernel)⟩
theorem lw_p49 : lw_okq (⟨"ThinkingArmsModel", "tick", "()V"⟩, 22) := ⟨⟨by decide +kernel, by decide +kernel⟩, List.mem_of_getElem? (i := 828) (by decide +kernel), List.mem_of_getElem? (i := 1035) (by decide +kernel), List.mem_of_getElem? (i := 1036) (by decide +kernel)⟩
theorem lw_p50 : lw_okq (⟨"ThinkingArmsModel", "findsOf", "(II)I"⟩, 22) := ⟨⟨by decide +kernel, by decide +kernel⟩, List.mem_of_getElem? (i := 828) (by decide +kernel), List.mem_of_getElem? (i := 1039) (by decide +kernel), List.mem_of_getElem? (i := 1040) (by decide +kernel)⟩
theorem lw_p51 : lw_okq (⟨"ThinkingArmsModel", "holdsTest", "(II)Z"⟩, 22) := ⟨⟨by decide +kernel, by decide +kernel⟩, List.mem_of_getElem? (i := 828) (by decide +kernel), List.mem_of_getElem? (i := 1043) (by decide +kernel), List.mem_of_getElem? (i := 1044) (by decide +kernel)⟩
theorem lw_p52 : lw_okq (⟨"ThinkingArmsModel", "claims", "(IIII)Z"⟩, 22) := ⟨⟨by decide +kernel, by decide +kernel⟩, List.mem_of_getElem? (i := 828) (by decide +kernel), List.mem_of_getElem? (i := 1047) (by decide +kernel), List.mem_of_getElem? (i := 1048) (by decide +kernel)⟩
theorem lw_p53 : lw_okq (⟨"ThinkingArmsModel", "isNear", "(II)Z"⟩, 22) := ⟨⟨by decide +kernel, by decide +kernel⟩, List.mem_of_getElem? (i := 828) (by decide +kernel), List.mem_of_getElem? (i := 1051) (by decide +kernel), List.mem_of_getElem? (i := 1052) (by decide +kernel)⟩
theorem lw_p54 : lw_okq (⟨"ThinkingArmsModel", "act", "(III)I"⟩, 22) := ⟨⟨by decide +kernel, by decide +kernel⟩, List.mem_of_getElem? (i := 828) (by decide +kernel), List.mem_of_getElem? (i := 1055) (by decide +kernel), List.mem_of_getElem? (i := 1056) (by decide +kernel)⟩
theorem lw_p55 : lw_okq (⟨"ThinkingArmsModel", "grab", "(II)V"⟩, 22) := ⟨⟨by decide +kernel, by decide +kernel⟩, List.mem_of_getElem? (i := 828) (by decide +kernel), List.mem_of_getElem? (i := 1059) (by decide +kernel), List.mem_of_getElem? (i := 1060) (by decide +kernel)⟩
theorem lw_p56 : lw_okq (⟨"ThinkingArmsModel", "pass", "(II)V"⟩, 22) := ⟨⟨by decide +kernel, by decide +kernel⟩, List.mem_of_getElem? (i := 828) (by decide +kernel), List.mem_of_getElem? (i := 1063) (by decide +kernel), List.mem_of_getElem? (i := 1064) (by decide +kernel)⟩
theorem lw_p57 : lw_okq (⟨"ThinkingArmsModel", "letGo", "(II)V"⟩, 22) := ⟨⟨by decide +kernel, by decide +kernel⟩, List.mem_of_getElem? (i := 828) (by decide +kernel), List.mem_of_getElem? (i := 1067) (by decide +kernel), List.mem_of_getElem? (i := 1068) (by decide +kernel)⟩
theorem lw_p58 : lw_okq (⟨"ThinkingArmsModel", "things", "(I)I"⟩, 22) := ⟨⟨by decide +kernel, by decide +kernel⟩, List.mem_of_getElem? (i := 828) (by decide +kernel), List.mem_of_getElem? (i := 1071) (by decide +kernel), List.mem_of_getElem? (i := 1072) (by decide +kernel)⟩
theorem lw_p59 : lw_okq (⟨"ThinkingArmsModel", "layReach", "(I)V"⟩, 22) := ⟨⟨by decide +kernel, by decide +kernel⟩, List.mem_of_getElem? (i := 828) (by decide +kernel), List.mem_of_getElem? (i := 1091) (by decide +kernel), List.mem_of_getElem? (i := 1092) (by decide +kernel)⟩
theorem lw_p60 : lw_okq (⟨"ThinkingArmsModel", "come", "(II)V"⟩, 22) := ⟨⟨by decide +kernel, by decide +kernel⟩, List.mem_of_getElem? (i := 828) (by decide +kernel), List.mem_of_getElem? (i := 1095) (by decide +kernel), List.mem_of_getElem? (i := 1096) (by decide +kernel)⟩
theorem lw_p61 : lw_okq (⟨"ThinkingArmsModel", "lay", "(II)V"⟩, 22) := ⟨⟨by decide +kernel, by decide +kernel⟩, List.mem_of_getElem? (i := 828) (by decide +kernel), List.mem_of_getElem? (i := 1099) (by decide +kernel), List.mem_of_getElem? (i := 1100) (by decide +kernel)⟩
theorem lw_p62 : lw_okq (⟨"ThinkingArmsModel", "eats", "(IIIII)Z"⟩, 22) := ⟨⟨by decide +kernel, by decide +kernel⟩, List.mem_of_getElem? (i := 828) (by decide +kernel), List.mem_of_getElem? (i := 1115) (by decide +kernel), List.mem_of_getElem? (i := 1116) (by decide +kernel)⟩
theorem lw_p63 : lw_okq (⟨"ThinkingArmsModel", "bars", "(IIII)I"⟩, 22) := ⟨⟨by decide +kernel, by decide +kernel⟩, List.mem_of_getElem? (i := 828) (by decide +kernel), List.mem_of_getElem? (i := 1131) (by decide +kernel), List.mem_of_getElem? (i := 1132) (by decide +kernel)⟩
def lw_privs_4 : List (MethodName × Nat) := [(⟨"ThinkingArmsModel", "faultOf", "()I"⟩, 22), (⟨"ThinkingArmsModel", "tick", "()V"⟩, 22), (⟨"ThinkingArmsModel", "findsOf", "(II)I"⟩, 22), (⟨"ThinkingArmsModel", "holdsTest", "(II)Z"⟩, 22), (⟨"ThinkingArmsModel", "claims", "(IIII)Z"⟩, 22), (⟨"ThinkingArmsModel", "isNear", "(II)Z"⟩, 22), (⟨"ThinkingArmsModel", "act", "(III)I"⟩, 22), (⟨"ThinkingArmsModel", "grab", "(II)V"⟩, 22), (⟨"ThinkingArmsModel", "pass", "(II)V"⟩, 22), (⟨"ThinkingArmsModel", "letGo", "(II)V"⟩, 22), (⟨"ThinkingArmsModel", "things", "(I)I"⟩, 22), (⟨"ThinkingArmsModel", "layReach", "(I)V"⟩, 22), (⟨"ThinkingArmsModel", "come", "(II)V"⟩, 22), (⟨"ThinkingArmsModel", "lay", "(II)V"⟩, 22), (⟨"ThinkingArmsModel", "eats", "(IIIII)Z"⟩, 22), (⟨"ThinkingArmsModel", "bars", "(IIII)I"⟩, 22)]
theorem lw_r4 : ∀ q ∈ lw_privs_4, lw_okq q := List.forall_mem_cons.mpr ⟨lw_p48, List.forall_mem_cons.mpr ⟨lw_p49, List.forall_mem_cons.mpr ⟨lw_p50, List.forall_mem_cons.mpr ⟨lw_p51, List.forall_mem_cons.mpr ⟨lw_p52, List.forall_mem_cons.mpr ⟨lw_p53, List.forall_mem_cons.mpr ⟨lw_p54, List.forall_mem_cons.mpr ⟨lw_p55, List.forall_mem_cons.mpr ⟨lw_p56, List.forall_mem_cons.mpr ⟨lw_p57, List.forall_mem_cons.mpr ⟨lw_p58, List.forall_mem_cons.mpr ⟨lw_p59, List.forall_mem_cons.mpr ⟨lw_p60, List.forall_mem_cons.mpr ⟨lw_p61, List.forall_mem_cons.mpr ⟨lw_p62, List.forall_mem_cons.mpr ⟨lw_p63, fun _ h => absurd h List.not_mem_nil⟩⟩⟩⟩⟩⟩⟩⟩⟩⟩⟩⟩⟩⟩⟩⟩
def lw_privs : List (MethodName × Nat) := lw_privs_1 ++ (lw_privs_2 ++ (lw_privs_3 ++ (lw_privs_4)))
def lw_tbl : List Cond := k2_sels lw_privs ++ tables_1
theorem lw_privs_ok : ∀ q ∈ lw_privs, lw_okq q := by
  show ∀ q ∈ lw_privs_1 ++ (lw_privs_2 ++ (lw_privs_3 ++ (lw_privs_4))), lw_okq q
  exact List.forall_mem_append.mpr ⟨lw_r1, List.forall_mem_append.mpr ⟨lw_r2, List.forall_mem_append.mpr ⟨lw_r3, lw_r4⟩⟩⟩
-- ===== end of PART A
def RX0 : String := "ThinkingArms$Arm"
def TX0 : u_T := fun k => match k with
  | 0 => ("ThinkingArms$Arm", "size", "I", false)
  | 1 => ("ThinkingArms$Arm", "firstCut", "I", false)
  | 2 => ("ThinkingArms$Arm", "headWord", "I", false)
  | 3 => ("ThinkingArms$Arm", "rules", "LThinkingArms$Rules;", false)
  | 4 => ("ThinkingArms$Arm", "cell", "[I", true)
  | 5 => ("ThinkingArms$Arm", "memory", "[I", true)
  | 6 => ("ThinkingArms$Arm", "holds", "[I", true)
  | 7 => ("ThinkingArms$Arm", "said", "[I", true)
  | _ => ("ThinkingArms$Arm", "found", "[I", true)
def tyX0 : Nat → FieldType := fun k => match k with
  | 0 => .int
  | 1 => .int
  | 2 => .int
  | 3 => .object "ThinkingArms$Rules"
  | 4 => .array .int
  | 5 => .array .int
  | 6 => .array .int
  | 7 => .array .int
  | _ => .array .int
abbrev wsX00 : List Cond := u_ws RX0 TX0 9
theorem nmX0 : ∀ a, a < 9 → ∀ b, b < 9 → a ≠ b → (TX0 a).2.1 ≠ (TX0 b).2.1 := by decide +kernel
theorem tyX0_ok : ∀ k, k < 9 → parseFieldDescriptor (TX0 k).2.2.1 = some (tyX0 k) := by decide +kernel
abbrev cX0_init : ByteArray := prog_2_method_1_code
def yX0_init : MethodName := ⟨RX0, "<init>", "()V"⟩
abbrev cX0_begin : ByteArray := prog_2_method_2_code
def yX0_begin : MethodName := ⟨RX0, "begin", "([II)V"⟩
abbrev cX0_become : ByteArray := prog_2_method_3_code
def yX0_become : MethodName := ⟨RX0, "become", "(LThinkingArms$Arm;)V"⟩
abbrev cX0_isCut : ByteArray := prog_2_method_4_code
def yX0_isCut : MethodName := ⟨RX0, "isCut", "()Z"⟩
abbrev cX0_isCutOff : ByteArray := prog_2_method_5_code
def yX0_isCutOff : MethodName := ⟨RX0, "isCutOff", "(I)Z"⟩
abbrev cX0_isTip : ByteArray := prog_2_method_6_code
def yX0_isTip : MethodName := ⟨RX0, "isTip", "(I)Z"⟩
abbrev cX0_canEverMove : ByteArray := prog_2_method_7_code
def yX0_canEverMove : MethodName := ⟨RX0, "canEverMove", "(I)Z"⟩
abbrev cX0_formNow : ByteArray := prog_2_method_8_code
def yX0_formNow : MethodName := ⟨RX0, "formNow", "()I"⟩
def RX1 : String := "ThinkingArms$Claim"
def TX1 : u_T := fun k => match k with
  | 0 => ("ThinkingArms$Claim", "beginsCase", "Z", false)
  | 1 => ("ThinkingArms$Claim", "not", "Z", false)
  | 2 => ("ThinkingArms$Claim", "bit", "I", false)
  | 3 => ("ThinkingArms$Claim", "inside", "LThinkingArms$Claim;", false)
  | _ => ("ThinkingArms$Claim", "next", "LThinkingArms$Claim;", false)
def tyX1 : Nat → FieldType := fun k => match k with
  | 0 => .boolean
  | 1 => .boolean
  | 2 => .int
  | 3 => .object "ThinkingArms$Claim"
  | _ => .object "ThinkingArms$Claim"
abbrev wsX10 : List Cond := u_ws RX1 TX1 5
theorem nmX1 : ∀ a, a < 5 → ∀ b, b < 5 → a ≠ b → (TX1 a).2.1 ≠ (TX1 b).2.1 := by decide +kernel
theorem tyX1_ok : ∀ k, k < 5 → parseFieldDescriptor (TX1 k).2.2.1 = some (tyX1 k) := by decide +kernel
abbrev cX1_init : ByteArray := prog_3_method_1_code
def yX1_init : MethodName := ⟨RX1, "<init>", "()V"⟩
abbrev cX1_holds : ByteArray := prog_3_method_2_code
def yX1_holds : MethodName := ⟨RX1, "holds", "(LThinkingArms$Claim;II)Z"⟩
def RX2 : String := "ThinkingArms$Clause"
def TX2 : u_T := fun k => match k with
  | 0 => ("ThinkingArms$Clause", "test", "LThinkingArms$Claim;", false)
  | 1 => ("ThinkingArms$Clause", "acts", "[I", true)
  | 2 => ("ThinkingArms$Clause", "digits", "[I", true)
  | _ => ("ThinkingArms$Clause", "actCount", "I", false)
def tyX2 : Nat → FieldType := fun k => match k with
  | 0 => .object "ThinkingArms$Claim"
  | 1 => .array .int
  | 2 => .array .int
  | _ => .int
abbrev wsX20 : List Cond := u_ws RX2 TX2 4
theorem nmX2 : ∀ a, a < 4 → ∀ b, b < 4 → a ≠ b → (TX2 a).2.1 ≠ (TX2 b).2.1 := by decide +kernel
theorem tyX2_ok : ∀ k, k < 4 → parseFieldDescriptor (TX2 k).2.2.1 = some (tyX2 k) := by decide +kernel
abbrev cX2_init : ByteArray := prog_4_method_1_code
def yX2_init : MethodName := ⟨RX2, "<init>", "()V"⟩
def RX3 : String := "ThinkingArms$Reaching"
def TX3 : u_T := fun k => match k with
  | 0 => ("ThinkingArms$Reaching", "movesToForm", "[I", true)
  | 1 => ("ThinkingArms$Reaching", "seen", "[I", true)
  | 2 => ("ThinkingArms$Reaching", "movesToCell", "[I", true)
  | 3 => ("ThinkingArms$Reaching", "path", "[I", true)
  | 4 => ("ThinkingArms$Reaching", "formCount", "I", false)
  | 5 => ("ThinkingArms$Reaching", "cellCount", "I", false)
  | 6 => ("ThinkingArms$Reaching", "first", "I", false)
  | 7 => ("ThinkingArms$Reaching", "size", "I", false)
  | 8 => ("ThinkingArms$Reaching", "form", "I", false)
  | 9 => ("ThinkingArms$Reaching", "blocked", "J", false)
  | _ => ("ThinkingArms$Reaching", "others", "J", false)
def tyX3 : Nat → FieldType := fun k => match k with
  | 0 => .array .int
  | 1 => .array .int
  | 2 => .array .int
  | 3 => .array .int
  | 4 => .int
  | 5 => .int
  | 6 => .int
  | 7 => .int
  | 8 => .int
  | 9 => .long
  | _ => .long
abbrev wsX30 : List Cond := u_ws RX3 TX3 11
theorem nmX3 : ∀ a, a < 11 → ∀ b, b < 11 → a ≠ b → (TX3 a).2.1 ≠ (TX3 b).2.1 := by decide +kernel
theorem tyX3_ok : ∀ k, k < 11 → parseFieldDescriptor (TX3 k).2.2.1 = some (tyX3 k) := by decide +kernel
abbrev cX3_init : ByteArray := prog_5_method_1_code
def yX3_init : MethodName := ⟨RX3, "<init>", "()V"⟩
abbrev cX3_search : ByteArray := prog_5_method_2_code
def yX3_search : MethodName := ⟨RX3, "search", "(LThinkingArms$Sea;LThinkingArms$Arm;)V"⟩
abbrev cX3_searchAnew : ByteArray := prog_5_method_3_code
def yX3_searchAnew : MethodName := ⟨RX3, "searchAnew", "()V"⟩
abbrev cX3_see : ByteArray := prog_5_method_4_code
def yX3_see : MethodName := ⟨RX3, "see", "(II)V"⟩
abbrev cX3_layOut : ByteArray := prog_5_method_5_code
def yX3_layOut : MethodName := ⟨RX3, "layOut", "(I)J"⟩
abbrev cX3_goOnFrom : ByteArray := prog_5_method_6_code
def yX3_goOnFrom : MethodName := ⟨RX3, "goOnFrom", "(II)V"⟩
abbrev cX3_seeFlip : ByteArray := prog_5_method_7_code
def yX3_seeFlip : MethodName := ⟨RX3, "seeFlip", "(IIJI)V"⟩
abbrev cX3_seeTurns : ByteArray := prog_5_method_8_code
def yX3_seeTurns : MethodName := ⟨RX3, "seeTurns", "(IJI)V"⟩
def RX4 : String := "ThinkingArms$RuleReader"
def TX4 : u_T := fun k => match k with
  | 0 => ("ThinkingArms$RuleReader", "text", "[B", false)
  | 1 => ("ThinkingArms$RuleReader", "length", "I", false)
  | 2 => ("ThinkingArms$RuleReader", "at", "I", false)
  | 3 => ("ThinkingArms$RuleReader", "sign", "I", false)
  | _ => ("ThinkingArms$RuleReader", "fault", "I", false)
def tyX4 : Nat → FieldType := fun k => match k with
  | 0 => .array .byte
  | 1 => .int
  | 2 => .int
  | 3 => .int
  | _ => .int
abbrev wsX40 : List Cond := u_ws RX4 TX4 5
theorem nmX4 : ∀ a, a < 5 → ∀ b, b < 5 → a ≠ b → (TX4 a).2.1 ≠ (TX4 b).2.1 := by decide +kernel
theorem tyX4_ok : ∀ k, k < 5 → parseFieldDescriptor (TX4 k).2.2.1 = some (tyX4 k) := by decide +kernel
abbrev cX4_init : ByteArray := prog_6_method_1_code
def yX4_init : MethodName := ⟨RX4, "<init>", "()V"⟩
abbrev cX4_read : ByteArray := prog_6_method_2_code
def yX4_read : MethodName := ⟨RX4, "read", "([BI)LThinkingArms$Rules;"⟩
abbrev cX4_readClause : ByteArray := prog_6_method_3_code
def yX4_readClause : MethodName := ⟨RX4, "readClause", "()LThinkingArms$Clause;"⟩
abbrev cX4_readAct : ByteArray := prog_6_method_4_code
def yX4_readAct : MethodName := ⟨RX4, "readAct", "(LThinkingArms$Clause;)V"⟩
abbrev cX4_readTest : ByteArray := prog_6_method_5_code
def yX4_readTest : MethodName := ⟨RX4, "readTest", "(I)LThinkingArms$Claim;"⟩
abbrev cX4_readClaim : ByteArray := prog_6_method_6_code
def yX4_readClaim : MethodName := ⟨RX4, "readClaim", "(I)LThinkingArms$Claim;"⟩
abbrev cX4_readSense : ByteArray := prog_6_method_7_code
def yX4_readSense : MethodName := ⟨RX4, "readSense", "()I"⟩
abbrev cX4_readDigit : ByteArray := prog_6_method_8_code
def yX4_readDigit : MethodName := ⟨RX4, "readDigit", "()I"⟩
abbrev cX4_isAct : ByteArray := prog_6_method_9_code
def yX4_isAct : MethodName := ⟨RX4, "isAct", "(I)Z"⟩
abbrev cX4_need : ByteArray := prog_6_method_10_code
def yX4_need : MethodName := ⟨RX4, "need", "(I)V"⟩
abbrev cX4_takes : ByteArray := prog_6_method_11_code
def yX4_takes : MethodName := ⟨RX4, "takes", "(I)Z"⟩
abbrev cX4_goTo : ByteArray := prog_6_method_12_code
def yX4_goTo : MethodName := ⟨RX4, "goTo", "(I)V"⟩
abbrev cX4_fail : ByteArray := prog_6_method_13_code
def yX4_fail : MethodName := ⟨RX4, "fail", "()V"⟩
def RX5 : String := "ThinkingArms$Rules"
def TX5 : u_T := fun k => match k with
  | 0 => ("ThinkingArms$Rules", "clauses", "[LThinkingArms$Clause;", true)
  | _ => ("ThinkingArms$Rules", "count", "I", false)
def tyX5 : Nat → FieldType := fun k => match k with
  | 0 => .array (.object "ThinkingArms$Clause")
  | _ => .int
abbrev wsX50 : List Cond := u_ws RX5 TX5 2
theorem nmX5 : ∀ a, a < 2 → ∀ b, b < 2 → a ≠ b → (TX5 a).2.1 ≠ (TX5 b).2.1 := by decide +kernel
theorem tyX5_ok : ∀ k, k < 2 → parseFieldDescriptor (TX5 k).2.2.1 = some (tyX5 k) := by decide +kernel
abbrev cX5_init : ByteArray := prog_7_method_1_code
def yX5_init : MethodName := ⟨RX5, "<init>", "()V"⟩
abbrev cX5_firstFor : ByteArray := prog_7_method_2_code
def yX5_firstFor : MethodName := ⟨RX5, "firstFor", "(I)I"⟩
def RX6 : String := "ThinkingArms$Sea"
def TX6 : u_T := fun k => match k with
  | 0 => ("ThinkingArms$Sea", "walls", "J", false)
  | 1 => ("ThinkingArms$Sea", "taken", "J", false)
  | 2 => ("ThinkingArms$Sea", "lyingOfTaste", "[J", true)
  | 3 => ("ThinkingArms$Sea", "arms", "[LThinkingArms$Arm;", true)
  | 4 => ("ThinkingArms$Sea", "armCount", "I", false)
  | 5 => ("ThinkingArms$Sea", "things", "[LThinkingArms$Thing;", true)
  | 6 => ("ThinkingArms$Sea", "thingCount", "I", false)
  | 7 => ("ThinkingArms$Sea", "skinTaste", "I", false)
  | _ => ("ThinkingArms$Sea", "ticksDone", "I", false)
def tyX6 : Nat → FieldType := fun k => match k with
  | 0 => .long
  | 1 => .long
  | 2 => .array .long
  | 3 => .array (.object "ThinkingArms$Arm")
  | 4 => .int
  | 5 => .array (.object "ThinkingArms$Thing")
  | 6 => .int
  | 7 => .int
  | _ => .int
abbrev wsX60 : List Cond := u_ws RX6 TX6 9
theorem nmX6 : ∀ a, a < 9 → ∀ b, b < 9 → a ≠ b → (TX6 a).2.1 ≠ (TX6 b).2.1 := by decide +kernel
theorem tyX6_ok : ∀ k, k < 9 → parseFieldDescriptor (TX6 k).2.2.1 = some (tyX6 k) := by decide +kernel
abbrev cX6_init : ByteArray := prog_8_method_1_code
def yX6_init : MethodName := ⟨RX6, "<init>", "()V"⟩
abbrev cX6_become : ByteArray := prog_8_method_2_code
def yX6_become : MethodName := ⟨RX6, "become", "(LThinkingArms$Sea;)V"⟩
abbrev cX6_lyingCells : ByteArray := prog_8_method_3_code
def yX6_lyingCells : MethodName := ⟨RX6, "lyingCells", "()J"⟩
abbrev cX6_inUse : ByteArray := prog_8_method_4_code
def yX6_inUse : MethodName := ⟨RX6, "inUse", "()J"⟩
abbrev cX6_isFree : ByteArray := prog_8_method_5_code
def yX6_isFree : MethodName := ⟨RX6, "isFree", "(I)Z"⟩
abbrev cX6_canLie : ByteArray := prog_8_method_6_code
def yX6_canLie : MethodName := ⟨RX6, "canLie", "(III[I)Z"⟩
abbrev cX6_addArm : ByteArray := prog_8_method_7_code
def yX6_addArm : MethodName := ⟨RX6, "addArm", "([II)V"⟩
abbrev cX6_addThing : ByteArray := prog_8_method_8_code
def yX6_addThing : MethodName := ⟨RX6, "addThing", "(II)V"⟩
abbrev cX6_countThings : ByteArray := prog_8_method_9_code
def yX6_countThings : MethodName := ⟨RX6, "countThings", "(I)I"⟩
abbrev cX6_cellOfThing : ByteArray := prog_8_method_10_code
def yX6_cellOfThing : MethodName := ⟨RX6, "cellOfThing", "(LThinkingArms$Thing;)I"⟩
abbrev cX6_lay : ByteArray := prog_8_method_11_code
def yX6_lay : MethodName := ⟨RX6, "lay", "(II)V"⟩
abbrev cX6_lift : ByteArray := prog_8_method_12_code
def yX6_lift : MethodName := ⟨RX6, "lift", "(I)V"⟩
abbrev cX6_lyingAt : ByteArray := prog_8_method_13_code
def yX6_lyingAt : MethodName := ⟨RX6, "lyingAt", "(I)I"⟩
abbrev cX6_move : ByteArray := prog_8_method_14_code
def yX6_move : MethodName := ⟨RX6, "move", "(LThinkingArms$Arm;I)Z"⟩
abbrev cX6_turned : ByteArray := prog_8_method_15_code
def yX6_turned : MethodName := ⟨RX6, "turned", "(II)I"⟩
abbrev cX6_flipped : ByteArray := prog_8_method_16_code
def yX6_flipped : MethodName := ⟨RX6, "flipped", "(III)I"⟩
abbrev cX6_tick : ByteArray := prog_8_method_17_code
def yX6_tick : MethodName := ⟨RX6, "tick", "()V"⟩
abbrev cX6_clauseFor : ByteArray := prog_8_method_18_code
def yX6_clauseFor : MethodName := ⟨RX6, "clauseFor", "(LThinkingArms$Arm;I)I"⟩
abbrev cX6_senses : ByteArray := prog_8_method_19_code
def yX6_senses : MethodName := ⟨RX6, "senses", "(LThinkingArms$Arm;I)I"⟩
abbrev cX6_doActs : ByteArray := prog_8_method_20_code
def yX6_doActs : MethodName := ⟨RX6, "doActs", "(II)I"⟩
abbrev cX6_grab : ByteArray := prog_8_method_21_code
def yX6_grab : MethodName := ⟨RX6, "grab", "(II)V"⟩
abbrev cX6_give : ByteArray := prog_8_method_22_code
def yX6_give : MethodName := ⟨RX6, "give", "(III)V"⟩
abbrev cX6_passOn : ByteArray := prog_8_method_23_code
def yX6_passOn : MethodName := ⟨RX6, "passOn", "(II)V"⟩
abbrev cX6_letGo : ByteArray := prog_8_method_24_code
def yX6_letGo : MethodName := ⟨RX6, "letGo", "(LThinkingArms$Arm;I)V"⟩
def RX7 : String := "ThinkingArms$Sheet"
def TX7 : u_T := fun k => match k with
  | 0 => ("ThinkingArms$Sheet", "lane", "I", false)
  | 1 => ("ThinkingArms$Sheet", "length", "I", false)
  | _ => ("ThinkingArms$Sheet", "items", "[I", true)
def tyX7 : Nat → FieldType := fun k => match k with
  | 0 => .int
  | 1 => .int
  | _ => .array .int
abbrev wsX70 : List Cond := u_ws RX7 TX7 3
theorem nmX7 : ∀ a, a < 3 → ∀ b, b < 3 → a ≠ b → (TX7 a).2.1 ≠ (TX7 b).2.1 := by decide +kernel
theorem tyX7_ok : ∀ k, k < 3 → parseFieldDescriptor (TX7 k).2.2.1 = some (tyX7 k) := by decide +kernel
abbrev cX7_init : ByteArray := prog_9_method_1_code
def yX7_init : MethodName := ⟨RX7, "<init>", "()V"⟩
abbrev cX7_begin : ByteArray := prog_9_method_2_code
def yX7_begin : MethodName := ⟨RX7, "begin", "(II)V"⟩
abbrev cX7_forget : ByteArray := prog_9_method_3_code
def yX7_forget : MethodName := ⟨RX7, "forget", "()V"⟩
abbrev cX7_holdsNothing : ByteArray := prog_9_method_4_code
def yX7_holdsNothing : MethodName := ⟨RX7, "holdsNothing", "()Z"⟩
abbrev cX7_spans : ByteArray := prog_9_method_5_code
def yX7_spans : MethodName := ⟨RX7, "spans", "(II)Z"⟩
abbrev cX7_refuses : ByteArray := prog_9_method_6_code
def yX7_refuses : MethodName := ⟨RX7, "refuses", "(III)I"⟩
abbrev cX7_asCells : ByteArray := prog_9_method_7_code
def yX7_asCells : MethodName := ⟨RX7, "asCells", "()J"⟩
def RX8 : String := "ThinkingArms$Thing"
def TX8 : u_T := fun k => match k with
  | 0 => ("ThinkingArms$Thing", "taste", "I", false)
  | 1 => ("ThinkingArms$Thing", "how", "I", false)
  | 2 => ("ThinkingArms$Thing", "cell", "I", false)
  | 3 => ("ThinkingArms$Thing", "arm", "I", false)
  | _ => ("ThinkingArms$Thing", "piece", "I", false)
def tyX8 : Nat → FieldType := fun k => match k with
  | 0 => .int
  | 1 => .int
  | 2 => .int
  | 3 => .int
  | _ => .int
abbrev wsX80 : List Cond := u_ws RX8 TX8 5
theorem nmX8 : ∀ a, a < 5 → ∀ b, b < 5 → a ≠ b → (TX8 a).2.1 ≠ (TX8 b).2.1 := by decide +kernel
theorem tyX8_ok : ∀ k, k < 5 → parseFieldDescriptor (TX8 k).2.2.1 = some (tyX8 k) := by decide +kernel
abbrev cX8_init : ByteArray := prog_10_method_1_code
def yX8_init : MethodName := ⟨RX8, "<init>", "()V"⟩
abbrev cX8_become : ByteArray := prog_10_method_2_code
def yX8_become : MethodName := ⟨RX8, "become", "(LThinkingArms$Thing;)V"⟩
def RX9 : String := "ThinkingArms$WordSearch"
def TX9 : u_T := fun k => match k with
  | 0 => ("ThinkingArms$WordSearch", "row", "[I", true)
  | 1 => ("ThinkingArms$WordSearch", "behind", "[LThinkingArms$Sea;", true)
  | 2 => ("ThinkingArms$WordSearch", "arm", "I", false)
  | 3 => ("ThinkingArms$WordSearch", "thing", "I", false)
  | _ => ("ThinkingArms$WordSearch", "within", "I", false)
def tyX9 : Nat → FieldType := fun k => match k with
  | 0 => .array .int
  | 1 => .array (.object "ThinkingArms$Sea")
  | 2 => .int
  | 3 => .int
  | _ => .int
abbrev wsX90 : List Cond := u_ws RX9 TX9 5
theorem nmX9 : ∀ a, a < 5 → ∀ b, b < 5 → a ≠ b → (TX9 a).2.1 ≠ (TX9 b).2.1 := by decide +kernel
theorem tyX9_ok : ∀ k, k < 5 → parseFieldDescriptor (TX9 k).2.2.1 = some (tyX9 k) := by decide +kernel
abbrev cX9_init : ByteArray := prog_11_method_1_code
def yX9_init : MethodName := ⟨RX9, "<init>", "()V"⟩
abbrev cX9_search : ByteArray := prog_11_method_2_code
def yX9_search : MethodName := ⟨RX9, "search", "(LThinkingArms$Sea;III)I"⟩
abbrev cX9_isEatenBy : ByteArray := prog_11_method_3_code
def yX9_isEatenBy : MethodName := ⟨RX9, "isEatenBy", "(II)Z"⟩
def RX10 : String := "ThinkingArms"
def TX10 : u_T := fun k => match k with
  | 0 => ("ThinkingArms", "sea", "LThinkingArms$Sea;", true)
  | 1 => ("ThinkingArms", "images", "[LThinkingArms$Sea;", true)
  | 2 => ("ThinkingArms", "sheets", "[LThinkingArms$Sheet;", true)
  | 3 => ("ThinkingArms", "tape", "[B", true)
  | 4 => ("ThinkingArms", "typed", "I", false)
  | 5 => ("ThinkingArms", "reader", "LThinkingArms$RuleReader;", true)
  | 6 => ("ThinkingArms", "reaching", "LThinkingArms$Reaching;", true)
  | 7 => ("ThinkingArms", "words", "LThinkingArms$WordSearch;", true)
  | _ => ("ThinkingArms", "path", "[I", true)
def tyX10 : Nat → FieldType := fun k => match k with
  | 0 => .object "ThinkingArms$Sea"
  | 1 => .array (.object "ThinkingArms$Sea")
  | 2 => .array (.object "ThinkingArms$Sheet")
  | 3 => .array .byte
  | 4 => .int
  | 5 => .object "ThinkingArms$RuleReader"
  | 6 => .object "ThinkingArms$Reaching"
  | 7 => .object "ThinkingArms$WordSearch"
  | _ => .array .int
abbrev wsX100 : List Cond := u_ws RX10 TX10 9
theorem nmX10 : ∀ a, a < 9 → ∀ b, b < 9 → a ≠ b → (TX10 a).2.1 ≠ (TX10 b).2.1 := by decide +kernel
theorem tyX10_ok : ∀ k, k < 9 → parseFieldDescriptor (TX10 k).2.2.1 = some (tyX10 k) := by decide +kernel
abbrev cX10_init : ByteArray := prog_1_method_1_code
def yX10_init : MethodName := ⟨RX10, "<init>", "()V"⟩
abbrev cX10_wall : ByteArray := prog_1_method_2_code
def yX10_wall : MethodName := ⟨RX10, "wall", "(IIZ)I"⟩
abbrev cX10_walls : ByteArray := prog_1_method_3_code
def yX10_walls : MethodName := ⟨RX10, "walls", "(I)I"⟩
abbrev cX10_arm : ByteArray := prog_1_method_4_code
def yX10_arm : MethodName := ⟨RX10, "arm", "(IIII)I"⟩
abbrev cX10_thing : ByteArray := prog_1_method_5_code
def yX10_thing : MethodName := ⟨RX10, "thing", "(III)I"⟩
abbrev cX10_piece : ByteArray := prog_1_method_6_code
def yX10_piece : MethodName := ⟨RX10, "piece", "(III)I"⟩
abbrev cX10_told : ByteArray := prog_1_method_7_code
def yX10_told : MethodName := ⟨RX10, "told", "(II)I"⟩
abbrev cX10_form : ByteArray := prog_1_method_8_code
def yX10_form : MethodName := ⟨RX10, "form", "(I)I"⟩
abbrev cX10_flip : ByteArray := prog_1_method_9_code
def yX10_flip : MethodName := ⟨RX10, "flip", "(II)I"⟩
abbrev cX10_type : ByteArray := prog_1_method_10_code
def yX10_type : MethodName := ⟨RX10, "type", "(JI)I"⟩
abbrev cX10_rules : ByteArray := prog_1_method_11_code
def yX10_rules : MethodName := ⟨RX10, "rules", "(I)I"⟩
abbrev cX10_head : ByteArray := prog_1_method_12_code
def yX10_head : MethodName := ⟨RX10, "head", "(II)I"⟩
abbrev cX10_skin : ByteArray := prog_1_method_13_code
def yX10_skin : MethodName := ⟨RX10, "skin", "(I)I"⟩
abbrev cX10_ticks : ByteArray := prog_1_method_14_code
def yX10_ticks : MethodName := ⟨RX10, "ticks", "(I)I"⟩
abbrev cX10_finds : ByteArray := prog_1_method_15_code
def yX10_finds : MethodName := ⟨RX10, "finds", "(II)I"⟩
abbrev cX10_cut : ByteArray := prog_1_method_16_code
def yX10_cut : MethodName := ⟨RX10, "cut", "(II)I"⟩
abbrev cX10_count : ByteArray := prog_1_method_17_code
def yX10_count : MethodName := ⟨RX10, "count", "(I)I"⟩
abbrev cX10_forms : ByteArray := prog_1_method_18_code
def yX10_forms : MethodName := ⟨RX10, "forms", "(I)I"⟩
abbrev cX10_reach : ByteArray := prog_1_method_19_code
def yX10_reach : MethodName := ⟨RX10, "reach", "(I)I"⟩
abbrev cX10_far : ByteArray := prog_1_method_20_code
def yX10_far : MethodName := ⟨RX10, "far", "(III)I"⟩
abbrev cX10_fewest : ByteArray := prog_1_method_21_code
def yX10_fewest : MethodName := ⟨RX10, "fewest", "(IIII)I"⟩
abbrev cX10_image : ByteArray := prog_1_method_22_code
def yX10_image : MethodName := ⟨RX10, "image", "(I)I"⟩
abbrev cX10_restore : ByteArray := prog_1_method_23_code
def yX10_restore : MethodName := ⟨RX10, "restore", "(I)I"⟩
abbrev cX10_film : ByteArray := prog_1_method_24_code
def yX10_film : MethodName := ⟨RX10, "film", "(IIII)I"⟩
abbrev cX10_differs : ByteArray := prog_1_method_25_code
def yX10_differs : MethodName := ⟨RX10, "differs", "(IIII)I"⟩
abbrev cX10_sheet : ByteArray := prog_1_method_26_code
def yX10_sheet : MethodName := ⟨RX10, "sheet", "(III)I"⟩
abbrev cX10_drop : ByteArray := prog_1_method_27_code
def yX10_drop : MethodName := ⟨RX10, "drop", "(I)I"⟩
abbrev cX10_item : ByteArray := prog_1_method_28_code
def yX10_item : MethodName := ⟨RX10, "item", "(IIII)I"⟩
abbrev cX10_copy : ByteArray := prog_1_method_29_code
def yX10_copy : MethodName := ⟨RX10, "copy", "(IIIII)I"⟩
abbrev cX10_isCell : ByteArray := prog_1_method_30_code
def yX10_isCell : MethodName := ⟨RX10, "isCell", "(II)Z"⟩
abbrev cX10_isDigit : ByteArray := prog_1_method_31_code
def yX10_isDigit : MethodName := ⟨RX10, "isDigit", "(I)Z"⟩
abbrev cX10_isLane : ByteArray := prog_1_method_32_code
def yX10_isLane : MethodName := ⟨RX10, "isLane", "(I)Z"⟩
abbrev cX10_isArm : ByteArray := prog_1_method_33_code
def yX10_isArm : MethodName := ⟨RX10, "isArm", "(I)Z"⟩
abbrev cX10_isPiece : ByteArray := prog_1_method_34_code
def yX10_isPiece : MethodName := ⟨RX10, "isPiece", "(II)Z"⟩
abbrev cX10_isThing : ByteArray := prog_1_method_35_code
def yX10_isThing : MethodName := ⟨RX10, "isThing", "(I)Z"⟩
abbrev cX10_isSheet : ByteArray := prog_1_method_36_code
def yX10_isSheet : MethodName := ⟨RX10, "isSheet", "(I)Z"⟩
abbrev cX10_isImage : ByteArray := prog_1_method_37_code
def yX10_isImage : MethodName := ⟨RX10, "isImage", "(I)Z"⟩
abbrev cX10_refusesReach : ByteArray := prog_1_method_38_code
def yX10_refusesReach : MethodName := ⟨RX10, "refusesReach", "(I)I"⟩
abbrev cX10_refusesFilm : ByteArray := prog_1_method_39_code
def yX10_refusesFilm : MethodName := ⟨RX10, "refusesFilm", "(IIII)I"⟩
abbrev cX10_cellOf : ByteArray := prog_1_method_40_code
def yX10_cellOf : MethodName := ⟨RX10, "cellOf", "(II)I"⟩
abbrev cX10_formsOf : ByteArray := prog_1_method_41_code
def yX10_formsOf : MethodName := ⟨RX10, "formsOf", "(I)I"⟩
abbrev cX10_byteOf : ByteArray := prog_1_method_42_code
def yX10_byteOf : MethodName := ⟨RX10, "byteOf", "(JI)I"⟩
abbrev cX10_narrowed : ByteArray := prog_1_method_43_code
def yX10_narrowed : MethodName := ⟨RX10, "narrowed", "(II)I"⟩
abbrev cX10_beside : ByteArray := prog_1_method_44_code
def yX10_beside : MethodName := ⟨RX10, "beside", "(II)I"⟩
abbrev cX10_sideOf : ByteArray := prog_1_method_45_code
def yX10_sideOf : MethodName := ⟨RX10, "sideOf", "(II)I"⟩
abbrev cX10_near : ByteArray := prog_1_method_46_code
def yX10_near : MethodName := ⟨RX10, "near", "(I)J"⟩
abbrev cX10_touchByCorner : ByteArray := prog_1_method_47_code
def yX10_touchByCorner : MethodName := ⟨RX10, "touchByCorner", "(II)Z"⟩
def RX11 : String := "ThinkingArmsModel"
def TX11 : u_T := fun k => match k with
  | 0 => ("ThinkingArmsModel", "all", "[I", true)
  | 1 => ("ThinkingArmsModel", "images", "[I", true)
  | 2 => ("ThinkingArmsModel", "isKept", "[Z", true)
  | 3 => ("ThinkingArmsModel", "before", "[I", true)
  | 4 => ("ThinkingArmsModel", "taped", "I", false)
  | 5 => ("ThinkingArmsModel", "tape", "[I", true)
  | 6 => ("ThinkingArmsModel", "lane", "[I", true)
  | 7 => ("ThinkingArmsModel", "many", "[I", true)
  | 8 => ("ThinkingArmsModel", "items", "[I", true)
  | 9 => ("ThinkingArmsModel", "laid", "[I", true)
  | 10 => ("ThinkingArmsModel", "clauses", "I", false)
  | 11 => ("ThinkingArmsModel", "any", "[Z", true)
  | 12 => ("ThinkingArmsModel", "case1", "[Z", true)
  | 13 => ("ThinkingArmsModel", "turned", "[Z", true)
  | 14 => ("ThinkingArmsModel", "at", "I", false)
  | 15 => ("ThinkingArmsModel", "begins", "[I", true)
  | 16 => ("ThinkingArmsModel", "moves", "[I", true)
  | 17 => ("ThinkingArmsModel", "queue", "[I", true)
  | 18 => ("ThinkingArmsModel", "tipIn", "[I", true)
  | 19 => ("ThinkingArmsModel", "reached", "I", false)
  | 20 => ("ThinkingArmsModel", "own", "[I", true)
  | _ => ("ThinkingArmsModel", "moved", "[I", true)
def tyX11 : Nat → FieldType := fun k => match k with
  | 0 => .array .int
  | 1 => .array .int
  | 2 => .array .boolean
  | 3 => .array .int
  | 4 => .int
  | 5 => .array .int
  | 6 => .array .int
  | 7 => .array .int
  | 8 => .array .int
  | 9 => .array .int
  | 10 => .int
  | 11 => .array .boolean
  | 12 => .array .boolean
  | 13 => .array .boolean
  | 14 => .int
  | 15 => .array .int
  | 16 => .array .int
  | 17 => .array .int
  | 18 => .array .int
  | 19 => .int
  | 20 => .array .int
  | _ => .array .int
abbrev wsX110 : List Cond := u_ws RX11 TX11 22
theorem nmX11 : ∀ a, a < 22 → ∀ b, b < 22 → a ≠ b → (TX11 a).2.1 ≠ (TX11 b).2.1 := by decide +kernel
theorem tyX11_ok : ∀ k, k < 22 → parseFieldDescriptor (TX11 k).2.2.1 = some (tyX11 k) := by decide +kernel
abbrev cX11_init : ByteArray := prog_13_method_1_code
def yX11_init : MethodName := ⟨RX11, "<init>", "()V"⟩
abbrev cX11_in : ByteArray := prog_13_method_2_code
def yX11_in : MethodName := ⟨RX11, "in", "(III)Z"⟩
abbrev cX11_isCell : ByteArray := prog_13_method_3_code
def yX11_isCell : MethodName := ⟨RX11, "isCell", "(II)Z"⟩
abbrev cX11_of : ByteArray := prog_13_method_4_code
def yX11_of : MethodName := ⟨RX11, "of", "(II)I"⟩
abbrev cX11_thingAt : ByteArray := prog_13_method_5_code
def yX11_thingAt : MethodName := ⟨RX11, "thingAt", "(I)I"⟩
abbrev cX11_isArm : ByteArray := prog_13_method_6_code
def yX11_isArm : MethodName := ⟨RX11, "isArm", "(I)Z"⟩
abbrev cX11_isThing : ByteArray := prog_13_method_7_code
def yX11_isThing : MethodName := ⟨RX11, "isThing", "(I)Z"⟩
abbrev cX11_pieces : ByteArray := prog_13_method_8_code
def yX11_pieces : MethodName := ⟨RX11, "pieces", "(I)I"⟩
abbrev cX11_isPiece : ByteArray := prog_13_method_9_code
def yX11_isPiece : MethodName := ⟨RX11, "isPiece", "(II)Z"⟩
abbrev cX11_cell : ByteArray := prog_13_method_10_code
def yX11_cell : MethodName := ⟨RX11, "cell", "(II)I"⟩
abbrev cX11_hasPiece : ByteArray := prog_13_method_11_code
def yX11_hasPiece : MethodName := ⟨RX11, "hasPiece", "(I)Z"⟩
abbrev cX11_lyingAt : ByteArray := prog_13_method_12_code
def yX11_lyingAt : MethodName := ⟨RX11, "lyingAt", "(I)I"⟩
abbrev cX11_beside : ByteArray := prog_13_method_13_code
def yX11_beside : MethodName := ⟨RX11, "beside", "(II)I"⟩
abbrev cX11_sideTo : ByteArray := prog_13_method_14_code
def yX11_sideTo : MethodName := ⟨RX11, "sideTo", "(II)I"⟩
abbrev cX11_isFree : ByteArray := prog_13_method_15_code
def yX11_isFree : MethodName := ⟨RX11, "isFree", "(I)Z"⟩
abbrev cX11_wall : ByteArray := prog_13_method_16_code
def yX11_wall : MethodName := ⟨RX11, "wall", "(IIZ)I"⟩
abbrev cX11_isSheet : ByteArray := prog_13_method_17_code
def yX11_isSheet : MethodName := ⟨RX11, "isSheet", "(I)Z"⟩
abbrev cX11_walls : ByteArray := prog_13_method_18_code
def yX11_walls : MethodName := ⟨RX11, "walls", "(I)I"⟩
abbrev cX11_power : ByteArray := prog_13_method_19_code
def yX11_power : MethodName := ⟨RX11, "power", "(I)I"⟩
abbrev cX11_arm : ByteArray := prog_13_method_20_code
def yX11_arm : MethodName := ⟨RX11, "arm", "(IIII)I"⟩
abbrev cX11_thing : ByteArray := prog_13_method_21_code
def yX11_thing : MethodName := ⟨RX11, "thing", "(III)I"⟩
abbrev cX11_cutOf : ByteArray := prog_13_method_22_code
def yX11_cutOf : MethodName := ⟨RX11, "cutOf", "(I)I"⟩
abbrev cX11_isTip : ByteArray := prog_13_method_23_code
def yX11_isTip : MethodName := ⟨RX11, "isTip", "(II)Z"⟩
abbrev cX11_piece : ByteArray := prog_13_method_24_code
def yX11_piece : MethodName := ⟨RX11, "piece", "(III)I"⟩
abbrev cX11_told : ByteArray := prog_13_method_25_code
def yX11_told : MethodName := ⟨RX11, "told", "(II)I"⟩
abbrev cX11_form : ByteArray := prog_13_method_26_code
def yX11_form : MethodName := ⟨RX11, "form", "(I)I"⟩
abbrev cX11_formOf : ByteArray := prog_13_method_27_code
def yX11_formOf : MethodName := ⟨RX11, "formOf", "(I)I"⟩
abbrev cX11_goesTo : ByteArray := prog_13_method_28_code
def yX11_goesTo : MethodName := ⟨RX11, "goesTo", "(II)I"⟩
abbrev cX11_flipped : ByteArray := prog_13_method_29_code
def yX11_flipped : MethodName := ⟨RX11, "flipped", "(II)I"⟩
abbrev cX11_flip : ByteArray := prog_13_method_30_code
def yX11_flip : MethodName := ⟨RX11, "flip", "(II)I"⟩
abbrev cX11_type : ByteArray := prog_13_method_31_code
def yX11_type : MethodName := ⟨RX11, "type", "(JI)I"⟩
abbrev cX11_faultOf : ByteArray := prog_13_method_32_code
def yX11_faultOf : MethodName := ⟨RX11, "faultOf", "()I"⟩
abbrev cX11_rules : ByteArray := prog_13_method_33_code
def yX11_rules : MethodName := ⟨RX11, "rules", "(I)I"⟩
abbrev cX11_head : ByteArray := prog_13_method_34_code
def yX11_head : MethodName := ⟨RX11, "head", "(II)I"⟩
abbrev cX11_skin : ByteArray := prog_13_method_35_code
def yX11_skin : MethodName := ⟨RX11, "skin", "(I)I"⟩
abbrev cX11_isNear : ByteArray := prog_13_method_36_code
def yX11_isNear : MethodName := ⟨RX11, "isNear", "(II)Z"⟩
abbrev cX11_claims : ByteArray := prog_13_method_37_code
def yX11_claims : MethodName := ⟨RX11, "claims", "(IIII)Z"⟩
abbrev cX11_holdsTest : ByteArray := prog_13_method_38_code
def yX11_holdsTest : MethodName := ⟨RX11, "holdsTest", "(II)Z"⟩
abbrev cX11_findsOf : ByteArray := prog_13_method_39_code
def yX11_findsOf : MethodName := ⟨RX11, "findsOf", "(II)I"⟩
abbrev cX11_grab : ByteArray := prog_13_method_40_code
def yX11_grab : MethodName := ⟨RX11, "grab", "(II)V"⟩
abbrev cX11_pass : ByteArray := prog_13_method_41_code
def yX11_pass : MethodName := ⟨RX11, "pass", "(II)V"⟩
abbrev cX11_letGo : ByteArray := prog_13_method_42_code
def yX11_letGo : MethodName := ⟨RX11, "letGo", "(II)V"⟩
abbrev cX11_act : ByteArray := prog_13_method_43_code
def yX11_act : MethodName := ⟨RX11, "act", "(III)I"⟩
abbrev cX11_tick : ByteArray := prog_13_method_44_code
def yX11_tick : MethodName := ⟨RX11, "tick", "()V"⟩
abbrev cX11_things : ByteArray := prog_13_method_45_code
def yX11_things : MethodName := ⟨RX11, "things", "(I)I"⟩
abbrev cX11_ticks : ByteArray := prog_13_method_46_code
def yX11_ticks : MethodName := ⟨RX11, "ticks", "(I)I"⟩
abbrev cX11_finds : ByteArray := prog_13_method_47_code
def yX11_finds : MethodName := ⟨RX11, "finds", "(II)I"⟩
abbrev cX11_cut : ByteArray := prog_13_method_48_code
def yX11_cut : MethodName := ⟨RX11, "cut", "(II)I"⟩
abbrev cX11_count : ByteArray := prog_13_method_49_code
def yX11_count : MethodName := ⟨RX11, "count", "(I)I"⟩
abbrev cX11_lay : ByteArray := prog_13_method_50_code
def yX11_lay : MethodName := ⟨RX11, "lay", "(II)V"⟩
abbrev cX11_come : ByteArray := prog_13_method_51_code
def yX11_come : MethodName := ⟨RX11, "come", "(II)V"⟩
abbrev cX11_layReach : ByteArray := prog_13_method_52_code
def yX11_layReach : MethodName := ⟨RX11, "layReach", "(I)V"⟩
abbrev cX11_forms : ByteArray := prog_13_method_53_code
def yX11_forms : MethodName := ⟨RX11, "forms", "(I)I"⟩
abbrev cX11_reach : ByteArray := prog_13_method_54_code
def yX11_reach : MethodName := ⟨RX11, "reach", "(I)I"⟩
abbrev cX11_far : ByteArray := prog_13_method_55_code
def yX11_far : MethodName := ⟨RX11, "far", "(III)I"⟩
abbrev cX11_eats : ByteArray := prog_13_method_56_code
def yX11_eats : MethodName := ⟨RX11, "eats", "(IIIII)Z"⟩
abbrev cX11_fewest : ByteArray := prog_13_method_57_code
def yX11_fewest : MethodName := ⟨RX11, "fewest", "(IIII)I"⟩
abbrev cX11_image : ByteArray := prog_13_method_58_code
def yX11_image : MethodName := ⟨RX11, "image", "(I)I"⟩
abbrev cX11_restore : ByteArray := prog_13_method_59_code
def yX11_restore : MethodName := ⟨RX11, "restore", "(I)I"⟩
abbrev cX11_bars : ByteArray := prog_13_method_60_code
def yX11_bars : MethodName := ⟨RX11, "bars", "(IIII)I"⟩
abbrev cX11_film : ByteArray := prog_13_method_61_code
def yX11_film : MethodName := ⟨RX11, "film", "(IIII)I"⟩
abbrev cX11_differs : ByteArray := prog_13_method_62_code
def yX11_differs : MethodName := ⟨RX11, "differs", "(IIII)I"⟩
abbrev cX11_sheet : ByteArray := prog_13_method_63_code
def yX11_sheet : MethodName := ⟨RX11, "sheet", "(III)I"⟩
abbrev cX11_drop : ByteArray := prog_13_method_64_code
def yX11_drop : MethodName := ⟨RX11, "drop", "(I)I"⟩
abbrev cX11_item : ByteArray := prog_13_method_65_code
def yX11_item : MethodName := ⟨RX11, "item", "(IIII)I"⟩
abbrev cX11_copy : ByteArray := prog_13_method_66_code
def yX11_copy : MethodName := ⟨RX11, "copy", "(IIIII)I"⟩
def RJ13 : String := "java/lang/Long"
def TJ13 : u_T := fun k => match k with
  | _ => ("", "", "", false)
def tyJ13 : Nat → FieldType := fun k => match k with
  | _ => .int
abbrev wsJ130 : List Cond := u_ws RJ13 TJ13 0
theorem nmJ13 : ∀ a, a < 0 → ∀ b, b < 0 → a ≠ b → (TJ13 a).2.1 ≠ (TJ13 b).2.1 := by decide +kernel
theorem tyJ13_ok : ∀ k, k < 0 → parseFieldDescriptor (TJ13 k).2.2.1 = some (tyJ13 k) := by decide +kernel
abbrev cJ13_bitCount_95d88 : ByteArray := prog_14_method_50_code
def yJ13_bitCount_95d88 : MethodName := ⟨RJ13, "bitCount", "(J)I"⟩
def RJ10 : String := "java/lang/System"
def TJ10 : u_T := fun k => match k with
  | _ => ("", "", "", false)
def tyJ10 : Nat → FieldType := fun k => match k with
  | _ => .int
abbrev wsJ100 : List Cond := u_ws RJ10 TJ10 0
theorem nmJ10 : ∀ a, a < 0 → ∀ b, b < 0 → a ≠ b → (TJ10 a).2.1 ≠ (TJ10 b).2.1 := by decide +kernel
theorem tyJ10_ok : ∀ k, k < 0 → parseFieldDescriptor (TJ10 k).2.2.1 = some (tyJ10 k) := by decide +kernel
def RJ7 : String := "java/util/Arrays"
def TJ7 : u_T := fun k => match k with
  | _ => ("", "", "", false)
def tyJ7 : Nat → FieldType := fun k => match k with
  | _ => .int
abbrev wsJ70 : List Cond := u_ws RJ7 TJ7 0
theorem nmJ7 : ∀ a, a < 0 → ∀ b, b < 0 → a ≠ b → (TJ7 a).2.1 ≠ (TJ7 b).2.1 := by decide +kernel
theorem tyJ7_ok : ∀ k, k < 0 → parseFieldDescriptor (TJ7 k).2.2.1 = some (tyJ7 k) := by decide +kernel
abbrev cJ7_rangeCheck_23922 : ByteArray := prog_16_method_30_code
def yJ7_rangeCheck_23922 : MethodName := ⟨RJ7, "rangeCheck", "(III)V"⟩
abbrev cJ7_fill_53178 : ByteArray := prog_16_method_103_code
def yJ7_fill_53178 : MethodName := ⟨RJ7, "fill", "([II)V"⟩
abbrev cJ7_fill_fda19 : ByteArray := prog_16_method_104_code
def yJ7_fill_fda19 : MethodName := ⟨RJ7, "fill", "([IIII)V"⟩
def RL : String := "ThinkingArmsLaw"
abbrev cL_law : ByteArray := code
def yL_law : MethodName := ⟨RL, "law", "([I)Z"⟩
abbrev vwCl : List vw_C := [(RX0, TX0, 9), (RX1, TX1, 5), (RX2, TX2, 4), (RX3, TX3, 11), (RX4, TX4, 5), (RX5, TX5, 2), (RX6, TX6, 9), (RX7, TX7, 3), (RX8, TX8, 5), (RX9, TX9, 5), (RX10, TX10, 9), (RX11, TX11, 22)]
theorem zinX0 : ∀ w ∈ u_ws RX0 TX0 9, w ∈ lw_tbl := by decide +kernel
theorem zinX1 : ∀ w ∈ u_ws RX1 TX1 5, w ∈ lw_tbl := by decide +kernel
theorem zinX2 : ∀ w ∈ u_ws RX2 TX2 4, w ∈ lw_tbl := by decide +kernel
theorem zinX3 : ∀ w ∈ u_ws RX3 TX3 11, w ∈ lw_tbl := by decide +kernel
theorem zinX4 : ∀ w ∈ u_ws RX4 TX4 5, w ∈ lw_tbl := by decide +kernel
theorem zinX5 : ∀ w ∈ u_ws RX5 TX5 2, w ∈ lw_tbl := by decide +kernel
theorem zinX6 : ∀ w ∈ u_ws RX6 TX6 9, w ∈ lw_tbl := by decide +kernel
theorem zinX7 : ∀ w ∈ u_ws RX7 TX7 3, w ∈ lw_tbl := by decide +kernel
theorem zinX8 : ∀ w ∈ u_ws RX8 TX8 5, w ∈ lw_tbl := by decide +kernel
theorem zinX9 : ∀ w ∈ u_ws RX9 TX9 5, w ∈ lw_tbl := by decide +kernel
theorem zinX10 : ∀ w ∈ u_ws RX10 TX10 9, w ∈ lw_tbl := by decide +kernel
theorem zinX11 : ∀ w ∈ u_ws RX11 TX11 22, w ∈ lw_tbl := by decide +kernel
def z_tb : List Cond := lw_tbl.filter goodWord
end
section
/-! THE SMALL HEAP: typed values, cells, and what reads and writes of them answer -/
abbrev zTV : Type := Int32 ⊕ (Int64 ⊕ Option Nat)
abbrev tI (x : Int32) : zTV := Sum.inl x
abbrev tJ (x : Int64) : zTV := Sum.inr (Sum.inl x)
abbrev tA (x : Option Nat) : zTV := Sum.inr (Sum.inr x)
def z_tv : zTV → Value
  | .inl x => .int x
  | .inr (.inl x) => .long x
  | .inr (.inr r) => va_rf r
def z_cat : zTV → Nat
  | .inr (.inl _) => 2
  | _ => 1
theorem z_tv_cat (v : zTV) : (z_tv v).category = z_cat v := by
  rcases v with x | x | x
  · rfl
  · rfl
  · cases x <;> rfl
abbrev zMC : Type := (Nat × Nat × ((Nat → Int32) ⊕ ((Nat → Int64) ⊕ (Nat → Option Nat)))) ⊕ (Nat × List zTV)
abbrev zH : Type := Nat → zMC
def z_up (h : zH) (a : Nat) (c : zMC) : zH := fun q => if q = a then c else h q
theorem z_up_s (h : zH) (a : Nat) (c : zMC) : z_up h a c a = c := if_pos rfl
theorem z_up_n (h : zH) {a q : Nat} (c : zMC) (hq : q ≠ a) : z_up h a c q = h q := if_neg hq
def z_gF (h : zH) (ci k : Nat) (r : Option Nat) : Option zTV :=
  r.bind fun a => match h a with
    | .inr (c, fs) => if c = ci then fs[k]? else none
    | .inl _ => none
def z_tvI (v : zTV) : Option Int32 := match v with
  | .inl x => some x
  | .inr _ => none
def z_tvJ (v : zTV) : Option Int64 := match v with
  | .inr (.inl x) => some x
  | _ => none
def z_tvA (v : zTV) : Option (Option Nat) := match v with
  | .inr (.inr x) => some x
  | _ => none
def z_gI (h : zH) (ci k : Nat) (r : Option Nat) : Option Int32 := (z_gF h ci k r).bind z_tvI
def z_gJ (h : zH) (ci k : Nat) (r : Option Nat) : Option Int64 := (z_gF h ci k r).bind z_tvJ
def z_gA (h : zH) (ci k : Nat) (r : Option Nat) : Option (Option Nat) := (z_gF h ci k r).bind z_tvA
def z_pF (h : zH) (ci k : Nat) (r : Option Nat) (v : zTV) : Option zH :=
  r.bind fun a => match h a with
    | .inr (c, fs) => if c = ci ∧ k < fs.length then some (z_up h a (.inr (c, fs.set k v))) else none
    | .inl _ => none
def z_pZ (h : zH) (ci k : Nat) (r : Option Nat) (x : Int32) : Option zH := if x = 0 ∨ x = 1 then z_pF h ci k r (tI x) else none
def z_ck (h : zH) (ci : Nat) (r : Option Nat) : Option Nat :=
  r.bind fun a => match h a with
    | .inr (c, _) => if c = ci then some a else none
    | .inl _ => none
def z_inb (i : Int32) (n : Nat) : Prop := ¬ (i < 0 ∨ n ≤ i.toNatClampNeg)
def z_aI (h : zH) (r : Option Nat) (i : Int32) : Option Int32 :=
  r.bind fun a => match h a with
    | .inl (kd, n, .inl f) => if (kd = 0 ∨ kd = 100) ∧ ¬ (i < 0 ∨ n ≤ i.toNatClampNeg) then some (f i.toNatClampNeg) else none
    | _ => none
def z_aB (h : zH) (r : Option Nat) (i : Int32) : Option Int32 :=
  r.bind fun a => match h a with
    | .inl (kd, n, .inl f) => if (kd = 1 ∨ kd = 2) ∧ ¬ (i < 0 ∨ n ≤ i.toNatClampNeg) then some (f i.toNatClampNeg) else none
    | _ => none
def z_aJ (h : zH) (r : Option Nat) (i : Int32) : Option Int64 :=
  r.bind fun a => match h a with
    | .inl (kd, n, .inr (.inl f)) => if kd = 3 ∧ ¬ (i < 0 ∨ n ≤ i.toNatClampNeg) then some (f i.toNatClampNeg) else none
    | _ => none
def z_aA (h : zH) (r : Option Nat) (i : Int32) : Option (Option Nat) :=
  r.bind fun a => match h a with
    | .inl (kd, n, .inr (.inr f)) => if (4 ≤ kd ∧ kd ≤ 8) ∧ ¬ (i < 0 ∨ n ≤ i.toNatClampNeg) then some (f i.toNatClampNeg) else none
    | _ => none
def z_len (h : zH) (r : Option Nat) : Option Int32 :=
  r.bind fun a => match h a with
    | .inl (kd, n, .inl _) => if kd ≤ 8 ∨ kd = 100 then some (Int32.ofNat n) else none
    | .inl (kd, n, .inr _) => if kd ≤ 8 then some (Int32.ofNat n) else none
    | .inr _ => none
def z_sI (h : zH) (r : Option Nat) (i x : Int32) : Option zH :=
  r.bind fun a => match h a with
    | .inl (kd, n, .inl f) => if kd = 0 ∧ ¬ (i < 0 ∨ n ≤ i.toNatClampNeg) then some (z_up h a (.inl (kd, n, .inl (upd f i.toNatClampNeg x)))) else none
    | _ => none
def z_sB (h : zH) (r : Option Nat) (i x : Int32) : Option zH :=
  r.bind fun a => match h a with
    | .inl (kd, n, .inl f) => if (kd = 1 ∨ kd = 2) ∧ ¬ (i < 0 ∨ n ≤ i.toNatClampNeg) then some (z_up h a (.inl (kd, n, .inl (upd f i.toNatClampNeg (if kd = 1 then vp_nar .byte x else vp_nar .boolean x))))) else none
    | _ => none
def z_sJ (h : zH) (r : Option Nat) (i : Int32) (x : Int64) : Option zH :=
  r.bind fun a => match h a with
    | .inl (kd, n, .inr (.inl f)) => if kd = 3 ∧ ¬ (i < 0 ∨ n ≤ i.toNatClampNeg) then some (z_up h a (.inl (kd, n, .inr (.inl (vp_updL f i.toNatClampNeg x))))) else none
    | _ => none
/-- the class of the elements of an array of references of that kind -/
def z_kc (kd : Nat) : Nat := match kd with
  | 4 => 0
  | 5 => 8
  | 6 => 6
  | 7 => 7
  | _ => 2
def z_sA (h : zH) (r : Option Nat) (i : Int32) (v : Option Nat) : Option zH :=
  r.bind fun a => v.bind fun q => match h a, h q with
    | .inl (kd, n, .inr (.inr f)), .inr (c, _) => if ((4 ≤ kd ∧ kd ≤ 8) ∧ c = z_kc kd) ∧ ¬ (i < 0 ∨ n ≤ i.toNatClampNeg) then some (z_up h a (.inl (kd, n, .inr (.inr (va_up f i.toNatClampNeg (some q)))))) else none
    | _, _ => none
def z_cp (h : zH) (r : Option Nat) (sp : Int32) (w : Option Nat) (dp n : Int32) : Option zH :=
  r.bind fun a => w.bind fun b => match h a, h b with
    | .inl (ka, na, .inl f), .inl (kb, nb, .inl g) => if (ka = 0 ∧ kb = 0) ∧ (¬ sp < 0 ∧ ¬ dp < 0 ∧ ¬ n < 0) ∧ sp.toNatClampNeg + n.toNatClampNeg ≤ na ∧ dp.toNatClampNeg + n.toNatClampNeg ≤ nb then some (z_up h b (.inl (kb, nb, .inl (va_cpy f g sp.toNatClampNeg dp.toNatClampNeg n.toNatClampNeg)))) else none
    | .inl (ka, na, .inr (.inl f)), .inl (kb, nb, .inr (.inl g)) => if (ka = 3 ∧ kb = 3) ∧ (¬ sp < 0 ∧ ¬ dp < 0 ∧ ¬ n < 0) ∧ sp.toNatClampNeg + n.toNatClampNeg ≤ na ∧ dp.toNatClampNeg + n.toNatClampNeg ≤ nb then some (z_up h b (.inl (kb, nb, .inr (.inl (va_cpy f g sp.toNatClampNeg dp.toNatClampNeg n.toNatClampNeg))))) else none
    | _, _ => none
/-- an answer that is two things -/
def z_b2 {α β γ : Type} (x : Option (α × β)) (k : α → β → Option γ) : Option γ := x.bind fun p => k p.1 p.2
theorem z_b2_some {α β γ : Type} (a : α) (b : β) (k : α → β → Option γ) : z_b2 (some (a, b)) k = k a b := rfl
theorem z_b2_inv {α β γ : Type} {x : Option (α × β)} {k : α → β → Option γ} {c : γ} (h : z_b2 x k = some c) : ∃ a b, x = some (a, b) ∧ k a b = some c := by
  cases x with
  | none => cases h
  | some p => exact ⟨p.1, p.2, rfl, h⟩
theorem z_bind_inv {α γ : Type} {x : Option α} {k : α → Option γ} {c : γ} (h : x.bind k = some c) : ∃ a, x = some a ∧ k a = some c := by
  cases x with
  | none => cases h
  | some p => exact ⟨p, rfl, h⟩
/-! LOOPS -/
def z_itF {σ α : Type} (body : σ → Option (σ ⊕ α)) : Nat → σ → Option α
  | 0, _ => none
  | n + 1, s => match body s with
    | none => none
    | some (.inl s') => z_itF body n s'
    | some (.inr a) => some a
theorem z_itF_mono {σ α : Type} {body : σ → Option (σ ⊕ α)} : ∀ (n m : Nat) (s : σ) (a : α), z_itF body n s = some a → n ≤ m → z_itF body m s = some a
  | 0, _, _, _, h, _ => by cases h
  | n + 1, 0, _, _, _, hm => absurd hm (by omega)
  | n + 1, m + 1, s, a, h, hm => by
    unfold z_itF at h ⊢
    cases hb : body s with
    | none => rw [hb] at h; cases h
    | some x =>
      rw [hb] at h
      cases x with
      | inl s' => exact z_itF_mono n m s' a h (by omega)
      | inr b => exact h

noncomputable def z_it {σ α : Type} (body : σ → Option (σ ⊕ α)) (s : σ) : Option α := @dite (Option α) (∃ a, ∃ n, z_itF body n s = some a) (Classical.propDecidable _) (fun h => some (Classical.choose h)) (fun _ => none)
theorem z_it_of {σ α : Type} {body : σ → Option (σ ⊕ α)} {s : σ} {a : α} {n : Nat} (h : z_itF body n s = some a) : z_it body s = some a := by
  have hx : ∃ a, ∃ n, z_itF body n s = some a := ⟨a, n, h⟩
  obtain ⟨m, hm⟩ := Classical.choose_spec hx
  have h1 := z_itF_mono n (max n m) s a h (by omega)
  have h2 := z_itF_mono m (max n m) s _ hm (by omega)
  rw [z_it, dif_pos hx]
  exact h2.symm.trans h1
theorem z_it_to {σ α : Type} {body : σ → Option (σ ⊕ α)} {s : σ} {a : α} (h : z_it body s = some a) : ∃ n, z_itF body n s = some a := by
  unfold z_it at h
  split at h
  · rename_i hx
    cases h
    exact Classical.choose_spec hx
  · cases h
/-- a loop, unrolled once -/
theorem z_it_eq {σ α : Type} (body : σ → Option (σ ⊕ α)) (s : σ) : z_it body s = match body s with
    | none => none
    | some (.inl s') => z_it body s'
    | some (.inr a) => some a := by
  cases hb : body s with
  | none =>
    cases hi : z_it body s with
    | none => rfl
    | some a =>
      obtain ⟨n, hn⟩ := z_it_to hi
      cases n with
      | zero => cases hn
      | succ n => unfold z_itF at hn; rw [hb] at hn; cases hn
  | some x =>
    cases x with
    | inl s' =>
      show z_it body s = z_it body s'
      cases hi : z_it body s' with
      | some a =>
        obtain ⟨n, hn⟩ := z_it_to hi
        exact z_it_of (n := n + 1) (by unfold z_itF; rw [hb]; exact hn)
      | none =>
        cases hj : z_it body s with
        | none => rfl
        | some a =>
          obtain ⟨n, hn⟩ := z_it_to hj
          cases n with
          | zero => cases hn
          | succ n =>
            unfold z_itF at hn
            rw [hb] at hn
            have := z_it_of (body := body) (s := s') hn
            rw [hi] at this
            cases this
    | inr a => exact z_it_of (n := 1) (by unfold z_itF; rw [hb])
/-- what holds of a loop's states: from behind -/
theorem z_it_ind {σ α : Type} {body : σ → Option (σ ⊕ α)} {a : α} (P : σ → Prop) (step : ∀ (s : σ) (x : σ ⊕ α), body s = some x → (match x with
    | .inl s' => P s'
    | .inr b => b = a) → P s) {s : σ} (h : z_it body s = some a) : P s := by
  obtain ⟨n, hn⟩ := z_it_to h
  clear h
  induction n generalizing s with
  | zero => cases hn
  | succ n ih =>
    unfold z_itF at hn
    cases hb : body s with
    | none => rw [hb] at hn; cases hn
    | some x =>
      rw [hb] at hn
      refine step s x hb ?_
      cases x with
      | inl s' => exact ih hn
      | inr b => exact Option.some.inj hn
end
section
/-! THE JUDGEMENT over the small heap -/
abbrev zC : Type := Program × Launch × Env × State × MethodId × Array Value × List Frame × Method × Code
/-- n0 (where our cells begin), the script's cell, the table STEP's cell, the script's length, its values, the classes' numbers, the array classes -/
abbrev zG : Type := Nat × Nat × Nat × Nat × (Nat → Int32) × va_G × (Nat → ClassId)
def z_step : Nat → Int32 := fun j => match j with
  | 0 => 1
  | 1 => 8
  | 2 => -1
  | _ => -8
def z_A (G : zG) : Nat → Prop := fun q => G.1 ≤ q
def z_tys (cy : Nat → ClassId) : List (ClassId × FieldType) := [(cy 0, .int), (cy 1, .byte), (cy 2, .boolean), (cy 3, .long), (cy 4, .object RX0), (cy 5, .object RX8), (cy 6, .object RX6), (cy 7, .object RX7), (cy 8, .object RX2)]
def z_E (cy : Nat → ClassId) : zMC → va_E
  | .inl (k, n, .inl f) => .inl (cy k, n, .inl f)
  | .inl (k, n, .inr (.inl f)) => .inl (cy k, n, .inr (.inl f))
  | .inl (k, n, .inr (.inr f)) => .inl (cy k, n, .inr (.inr (.inr (.inr f))))
  | .inr (c, fs) => .inr (c, fs.map z_tv)
def z_ws (G : zG) (h : zH) (nx : Nat) : va_W := (List.range (nx - G.1)).map fun k => (G.1 + k, z_E G.2.2.2.2.2.2 (h (G.1 + k)))
def z_isN : Cond → Bool
  | .fieldLinkNest .. => true
  | .methodLinkNest .. => true
  | _ => false
def z_nst : List Cond := lw_tbl.filter z_isN
/-- what holds of a state beside our own cells -/
def z_St (G : zG) (U : State) : Prop := (G.1 ≤ U.heap.size ∧ G.2.1 < G.1 ∧ G.2.2.1 < G.1) ∧ va_X G.2.1 G.2.2.2.1 G.2.2.2.2.1 U U.heap ∧ va_Z "ThinkingArms" "STEP" "[I" (.ref G.2.2.1) (z_A G) U U.heap ∧ va_T .int G.2.2.1 4 (fun j => .int (z_step j)) (z_A G) U U.heap ∧ va_K G.2.2.2.2.2.1 vwCl (z_tys G.2.2.2.2.2.2) U ∧ (∀ w ∈ z_nst, va_Nw w U) ∧ (va_AO RX0 U ∧ va_AO RX8 U ∧ va_AO RX6 U ∧ va_AO RX7 U ∧ va_AO RX2 U)
/-- no table that nobody writes -/
def z_nk (c : zMC) : Prop := ∀ (n : Nat) (f : Nat → Int32), c ≠ .inl (100, n, .inl f)
def z_dom (G : zG) (h : zH) (nx : Nat) : Prop := h G.2.1 = .inl (100, G.2.2.2.1, .inl G.2.2.2.2.1) ∧ h G.2.2.1 = .inl (100, 4, .inl z_step) ∧ (∀ a : Nat, (a < G.1 ∨ nx ≤ a) → a ≠ G.2.1 → a ≠ G.2.2.1 → h a = .inr (999, [])) ∧ ∀ a : Nat, a ≠ G.2.1 → a ≠ G.2.2.1 → z_nk (h a)
def z_Hp (G : zG) (h : zH) (nx : Nat) (H : Heap) : Prop := va_P G.2.2.2.2.2.1 vwCl (z_ws G h nx) H ∧ nx ≤ H.size ∧ G.1 ≤ nx ∧ z_dom G h nx
def z_lm (q : Nat × zTV) : Nat × Value := (q.1, z_tv q.2)
/-- the machine, the room, the world, how many locals, what is to be come to -/
abbrev zX : Type := zC × Room × zG × Nat × (State → Prop)
def z_Ok (X : zX) (cc : ByteArray) (ret : Option FieldType) (own nm : String) : Prop :=
  X.1.1.tables.exec = Jvm.exec ∧ X.1.2.2.2.2.2.2.2.2.code = cc ∧ X.1.2.2.2.2.2.2.2.1.sig.returnType = ret ∧ X.1.2.2.2.2.2.2.2.2.maxLocals = X.2.2.2.1 ∧ X.1.2.2.2.1.vm.findClass own = some X.1.2.2.2.2.1.cls ∧ (∀ w ∈ z_tb, w.before X.1.2.2.2.2.2.1 X.1.2.2.2.1 = true) ∧ X.1.2.2.2.2.2.2.2.1.locks = false ∧ X.1.2.2.2.2.2.2.2.1.name = nm ∧ z_St X.2.2.1 X.1.2.2.2.1
/-- the heap holds our cells; how many there are is told by the count of the new ones -/
def z_Hs (X : zX) (h : zH) (nx k : Nat) (H : Heap) : Prop := z_Hp X.2.2.1 h nx H ∧ X.1.2.2.2.1.heap.size + k = nx
def zV (X : zX) (pc : Nat) (lv : List (Nat × zTV)) (st : List zTV) (h : zH) (nx k z : Nat) : Prop :=
  ∀ (H : Heap) (locs : List Loc) (ls : Array Slot), z_Hs X h nx k H → va_S (z_A X.2.2.1) X.1.2.2.2.1.heap H locs → lv_has ls X.2.2.2.1 (lv.map z_lm) →
    W X.1.1 X.1.2.1 X.1.2.2.1 X.2.1 X.1.2.2.2.1 X.1.2.2.2.2.1 X.1.2.2.2.2.2.1 X.1.2.2.2.2.2.2.1 X.1.2.2.2.2.2.2.2.1 X.1.2.2.2.2.2.2.2.2 H locs k z X.2.2.2.2 (F0 X.1.2.2.2.2.1 pc ls (st.map z_tv))
def z_D (cc : ByteArray) (pc : Nat) (i : Instr) (n pc' : Nat) : Prop := decode cc pc = .ok (i, n) ∧ pc + n = pc'
theorem z_in {ci : Nat} {q : vw_C} (hc : vwCl[ci]? = some q) : ∀ w ∈ u_ws q.1 q.2.1 q.2.2, w ∈ z_tb := by
  have key : ∀ w ∈ u_ws q.1 q.2.1 q.2.2, w ∈ lw_tbl := by
    match ci, hc with
    | 0, hc => cases hc; exact zinX0
    | 1, hc => cases hc; exact zinX1
    | 2, hc => cases hc; exact zinX2
    | 3, hc => cases hc; exact zinX3
    | 4, hc => cases hc; exact zinX4
    | 5, hc => cases hc; exact zinX5
    | 6, hc => cases hc; exact zinX6
    | 7, hc => cases hc; exact zinX7
    | 8, hc => cases hc; exact zinX8
    | 9, hc => cases hc; exact zinX9
    | 10, hc => cases hc; exact zinX10
    | 11, hc => cases hc; exact zinX11
    | n + 12, hc => simp [vwCl] at hc
  intro w hw
  refine List.mem_filter.mpr ⟨key w hw, ?_⟩
  obtain ⟨k, -, rfl⟩ := List.mem_map.mp hw
  unfold u_lay
  split <;> rfl
def z_ft (ci : Nat) : Nat → FieldType := match ci with
  | 0 => tyX0
  | 1 => tyX1
  | 2 => tyX2
  | 3 => tyX3
  | 4 => tyX4
  | 5 => tyX5
  | 6 => tyX6
  | 7 => tyX7
  | 8 => tyX8
  | 9 => tyX9
  | 10 => tyX10
  | _ => tyX11
theorem z_ft_ok {ci : Nat} {q : vw_C} (hc : vwCl[ci]? = some q) : (∀ k, k < q.2.2 → parseFieldDescriptor (q.2.1 k).2.2.1 = some (z_ft ci k)) ∧ ∀ a, a < q.2.2 → ∀ b, b < q.2.2 → a ≠ b → (q.2.1 a).2.1 ≠ (q.2.1 b).2.1 := by
  match ci, hc with
  | 0, hc => cases hc; exact ⟨tyX0_ok, nmX0⟩
  | 1, hc => cases hc; exact ⟨tyX1_ok, nmX1⟩
  | 2, hc => cases hc; exact ⟨tyX2_ok, nmX2⟩
  | 3, hc => cases hc; exact ⟨tyX3_ok, nmX3⟩
  | 4, hc => cases hc; exact ⟨tyX4_ok, nmX4⟩
  | 5, hc => cases hc; exact ⟨tyX5_ok, nmX5⟩
  | 6, hc => cases hc; exact ⟨tyX6_ok, nmX6⟩
  | 7, hc => cases hc; exact ⟨tyX7_ok, nmX7⟩
  | 8, hc => cases hc; exact ⟨tyX8_ok, nmX8⟩
  | 9, hc => cases hc; exact ⟨tyX9_ok, nmX9⟩
  | 10, hc => cases hc; exact ⟨tyX10_ok, nmX10⟩
  | 11, hc => cases hc; exact ⟨tyX11_ok, nmX11⟩
  | n + 12, hc => simp [vwCl] at hc
/-! the world as a list -/
theorem z_ws_get {G : zG} {h : zH} {nx a : Nat} (h1 : G.1 ≤ a) (h2 : a < nx) : (z_ws G h nx)[a - G.1]? = some (a, z_E G.2.2.2.2.2.2 (h a)) := by
  unfold z_ws
  rw [List.getElem?_map, List.getElem?_range (by omega)]
  simp only [Option.map_some, Option.some.injEq, Prod.mk.injEq]
  have : G.1 + (a - G.1) = a := by omega
  rw [this]
  exact ⟨rfl, rfl⟩
theorem z_ws_set {G : zG} {h : zH} {nx a : Nat} (h1 : G.1 ≤ a) (h2 : a < nx) (c : zMC) : (z_ws G h nx).set (a - G.1) (a, z_E G.2.2.2.2.2.2 c) = z_ws G (z_up h a c) nx := by
  apply List.ext_getElem?
  intro i
  by_cases hi : i = a - G.1
  · subst hi
    rw [List.getElem?_set_self (by unfold z_ws; simp; omega), z_ws_get h1 h2, z_up_s]
  · rw [List.getElem?_set_ne (Ne.symm hi)]
    unfold z_ws
    rw [List.getElem?_map, List.getElem?_map]
    by_cases hl : i < nx - G.1
    · rw [List.getElem?_range hl]
      simp only [Option.map_some]
      rw [z_up_n h c (by omega : G.1 + i ≠ a)]
    · rw [List.getElem?_eq_none (by simp; omega)]
      rfl
theorem z_ws_push {G : zG} {h : zH} {nx : Nat} (h1 : G.1 ≤ nx) (c : zMC) : z_ws G h nx ++ [(nx, z_E G.2.2.2.2.2.2 c)] = z_ws G (z_up h nx c) (nx + 1) := by
  unfold z_ws
  rw [show nx + 1 - G.1 = (nx - G.1) + 1 by omega, List.range_succ, List.map_append]
  congr 1
  · apply List.map_congr_left
    intro k hk
    have := List.mem_range.mp hk
    rw [z_up_n h c (by omega : G.1 + k ≠ nx)]
  · simp only [List.map_cons, List.map_nil]
    rw [show G.1 + (nx - G.1) = nx by omega, z_up_s]
theorem z_ws_D {G : zG} {h : zH} {nx : Nat} : va_D (z_A G) (z_ws G h nx) := by
  have key : ∀ (k : Nat) (q : Nat × va_E), (z_ws G h nx)[k]? = some q → q.1 = G.1 + k := by
    intro k q hk
    unfold z_ws at hk
    rw [List.getElem?_map] at hk
    cases hr : (List.range (nx - G.1))[k]? with
    | none => rw [hr] at hk; cases hk
    | some j =>
      rw [hr] at hk
      have hj := List.getElem?_eq_some_iff.mp hr
      obtain ⟨hj1, hj2⟩ := hj
      rw [List.getElem_range] at hj2
      subst hj2
      cases hk
      rfl
  refine ⟨fun i j p q hi hj hpq => ?_, fun k q hk => ?_⟩
  · have := key i p hi
    have := key j q hj
    omega
  · have := key k q hk
    show G.1 ≤ q.1
    omega
/-- a cell that is none of the dead ones, nor a table's, is ours -/
theorem z_dom_in {G : zG} {h : zH} {nx a : Nat} (hd : z_dom G h nx) (h1 : h a ≠ .inr (999, [])) (h2 : ∀ n f, h a ≠ .inl (100, n, .inl f)) : G.1 ≤ a ∧ a < nx := by
  by_cases hb : a = G.2.1
  · subst hb; exact absurd hd.1 (h2 _ _)
  · by_cases ht : a = G.2.2.1
    · subst ht; exact absurd hd.2.1 (h2 _ _)
    · by_cases hr : a < G.1 ∨ nx ≤ a
      · exact absurd (hd.2.2.1 a hr hb ht) h1
      · omega
theorem z_dom_up {G : zG} {h : zH} {nx a : Nat} (hd : z_dom G h nx) (hbt : G.2.1 < G.1 ∧ G.2.2.1 < G.1) (h1 : G.1 ≤ a) (h2 : a < nx) (c : zMC) (hc : z_nk c) : z_dom G (z_up h a c) nx := by
  refine ⟨?_, ?_, fun q hq hb ht => ?_, fun q hb ht => ?_⟩
  · rw [z_up_n h c (by omega : G.2.1 ≠ a)]; exact hd.1
  · rw [z_up_n h c (by omega : G.2.2.1 ≠ a)]; exact hd.2.1
  · rw [z_up_n h c (by omega : q ≠ a)]; exact hd.2.2.1 q hq hb ht
  · by_cases hq : q = a
    · subst hq; rw [z_up_s]; exact hc
    · rw [z_up_n h c hq]; exact hd.2.2.2 q hb ht
theorem z_dom_push {G : zG} {h : zH} {nx : Nat} (hd : z_dom G h nx) (hbt : G.2.1 < G.1 ∧ G.2.2.1 < G.1) (h1 : G.1 ≤ nx) (c : zMC) (hc : z_nk c) : z_dom G (z_up h nx c) (nx + 1) := by
  refine ⟨?_, ?_, fun q hq hb ht => ?_, fun q hb ht => ?_⟩
  · rw [z_up_n h c (by omega : G.2.1 ≠ nx)]; exact hd.1
  · rw [z_up_n h c (by omega : G.2.2.1 ≠ nx)]; exact hd.2.1
  · rw [z_up_n h c (by omega : q ≠ nx)]; exact hd.2.2.1 q (by omega) hb ht
  · by_cases hq : q = nx
    · subst hq; rw [z_up_s]; exact hc
    · rw [z_up_n h c hq]; exact hd.2.2.2 q hb ht
section ZV
variable {X : zX} {cc : ByteArray} {ret : Option FieldType} {own nm : String} {pc pc' : Nat} {lv lv' : List (Nat × zTV)} {rest : List zTV} {h : zH} {nx k z : Nat}
theorem z_word (K : z_Ok X cc ret own nm) {w : Cond} (hm : w ∈ lw_tbl) (hg : goodWord w = true) : w.before X.1.2.2.2.2.2.1 X.1.2.2.2.1 = true := K.2.2.2.2.2.1 w (List.mem_filter.mpr ⟨hm, hg⟩)
theorem z_nword (K : z_Ok X cc ret own nm) {w : Cond} (hm : w ∈ lw_tbl) (hg : z_isN w = true) (ht : w.onTables = true) : w.before X.1.2.2.2.2.2.1 X.1.2.2.2.1 = true := va_Nw.use ht (K.2.2.2.2.2.2.2.2.2.2.2.2.2.1 w (List.mem_filter.mpr ⟨hm, hg⟩))
theorem zv_sub (ks : List Nat) (hl : ks.filterMap (fun k => lv[k]?) = lv') (kk : zV X pc lv' rest h nx k z) : zV X pc lv rest h nx k z := by
  intro H locs ls hH hS hv
  refine kk H locs ls hH hS ⟨hv.1, hv.2.1, fun q hq => ?_⟩
  subst hl
  obtain ⟨q0, h0, rfl⟩ := List.mem_map.mp hq
  obtain ⟨j, -, hj⟩ := List.mem_filterMap.mp h0
  exact hv.2.2 _ (List.mem_map.mpr ⟨q0, List.mem_of_getElem? hj, rfl⟩)
theorem z_lvat {ls : Array Slot} {nL j i : Nat} {v : zTV} (hv : lv_has ls nL (lv.map z_lm)) (hj : lv[j]? = some (i, v)) : ls[i]? = some (.val (z_tv v)) :=
  lv_at hv j (by rw [List.getElem?_map, hj]; rfl)
-- constants
theorem zv_iconst (K : z_Ok X cc ret own nm) {n : Int} (v : Int32) (d : z_D cc pc (.iconst n) 1 pc') (hv : Int32.ofInt n = v) (kk : zV X pc' lv (tI v :: rest) h nx k z) : zV X pc lv rest h nx k z := by
  intro H locs ls hH hS hl; obtain ⟨d, rfl⟩ := d; exact lv_iconst K.1 K.2.1 d hv (kk H locs ls hH hS hl)
theorem zv_bipush (K : z_Ok X cc ret own nm) {n : Int} (v : Int32) (d : z_D cc pc (.bipush n) 2 pc') (hv : (Int8.ofInt n).toInt32 = v) (kk : zV X pc' lv (tI v :: rest) h nx k z) : zV X pc lv rest h nx k z := by
  intro H locs ls hH hS hl; obtain ⟨d, rfl⟩ := d; exact lv_bipush K.1 K.2.1 d hv (kk H locs ls hH hS hl)
theorem zv_sipush (K : z_Ok X cc ret own nm) {n : Int} (v : Int32) (d : z_D cc pc (.sipush n) 3 pc') (hv : (Int16.ofInt n).toInt32 = v) (kk : zV X pc' lv (tI v :: rest) h nx k z) : zV X pc lv rest h nx k z := by
  intro H locs ls hH hS hl; obtain ⟨d, rfl⟩ := d; exact lv_sipush K.1 K.2.1 d hv (kk H locs ls hH hS hl)
theorem zv_lconst (K : z_Ok X cc ret own nm) {n : Fin 2} (v : Int64) (d : z_D cc pc (.lconst n) 1 pc') (hv : Int64.ofNat (n : Nat) = v) (kk : zV X pc' lv (tJ v :: rest) h nx k z) : zV X pc lv rest h nx k z := by
  intro H locs ls hH hS hl; obtain ⟨d, rfl⟩ := d; exact lv_lconst K.1 K.2.1 d hv (kk H locs ls hH hS hl)
theorem zv_ldc2 (K : z_Ok X cc ret own nm) {index : Nat} (v : Int64) (d : z_D cc pc (.ldc2_w index) 3 pc') (hm : Cond.constantLong own index v ∈ lw_tbl) (kk : zV X pc' lv (tJ v :: rest) h nx k z) : zV X pc lv rest h nx k z := by
  intro H locs ls hH hS hl; obtain ⟨d, rfl⟩ := d; exact lv_ldc2 K.1 K.2.1 K.2.2.2.2.1 (z_word K hm rfl) d (kk H locs ls hH hS hl)
theorem zv_anull (K : z_Ok X cc ret own nm) (d : z_D cc pc .aconst_null 1 pc') (kk : zV X pc' lv (tA none :: rest) h nx k z) : zV X pc lv rest h nx k z := by
  intro H locs ls hH hS hl; obtain ⟨d, rfl⟩ := d; exact lv_null K.1 K.2.1 d (kk H locs ls hH hS hl)
-- locals
theorem zv_iload_n (K : z_Ok X cc ret own nm) {i : Fin 4} {x : Int32} (j : Nat) (d : z_D cc pc (.iload_n i) 1 pc') (hj : lv[j]? = some ((i : Nat), tI x)) (kk : zV X pc' lv (tI x :: rest) h nx k z) : zV X pc lv rest h nx k z := by
  intro H locs ls hH hS hl; obtain ⟨d, rfl⟩ := d; exact lv_iload_n K.1 K.2.1 d rfl (z_lvat hl hj) (kk H locs ls hH hS hl)
theorem zv_iload (K : z_Ok X cc ret own nm) {i : Nat} {x : Int32} (j : Nat) (d : z_D cc pc (.iload i) 2 pc') (hj : lv[j]? = some (i, tI x)) (kk : zV X pc' lv (tI x :: rest) h nx k z) : zV X pc lv rest h nx k z := by
  intro H locs ls hH hS hl; obtain ⟨d, rfl⟩ := d; exact lv_iload K.1 K.2.1 d (z_lvat hl hj) (kk H locs ls hH hS hl)
theorem zv_lload_n (K : z_Ok X cc ret own nm) {i : Fin 4} {x : Int64} (j : Nat) (d : z_D cc pc (.lload_n i) 1 pc') (hj : lv[j]? = some ((i : Nat), tJ x)) (kk : zV X pc' lv (tJ x :: rest) h nx k z) : zV X pc lv rest h nx k z := by
  intro H locs ls hH hS hl; obtain ⟨d, rfl⟩ := d; exact lv_lload_n K.1 K.2.1 d rfl (z_lvat hl hj) (kk H locs ls hH hS hl)
theorem zv_lload (K : z_Ok X cc ret own nm) {i : Nat} {x : Int64} (j : Nat) (d : z_D cc pc (.lload i) 2 pc') (hj : lv[j]? = some (i, tJ x)) (kk : zV X pc' lv (tJ x :: rest) h nx k z) : zV X pc lv rest h nx k z := by
  intro H locs ls hH hS hl; obtain ⟨d, rfl⟩ := d; exact lv_lload K.1 K.2.1 d (z_lvat hl hj) (kk H locs ls hH hS hl)
theorem zv_aload_n (K : z_Ok X cc ret own nm) {i : Fin 4} {x : Option Nat} (j : Nat) (d : z_D cc pc (.aload_n i) 1 pc') (hj : lv[j]? = some ((i : Nat), tA x)) (kk : zV X pc' lv (tA x :: rest) h nx k z) : zV X pc lv rest h nx k z := by
  intro H locs ls hH hS hl; obtain ⟨d, rfl⟩ := d
  cases x with
  | none => exact lv_aload_nN K.1 K.2.1 d rfl (z_lvat hl hj) (kk H locs ls hH hS hl)
  | some a => exact lv_aload_n K.1 K.2.1 d rfl (z_lvat hl hj) (kk H locs ls hH hS hl)
theorem zv_aload (K : z_Ok X cc ret own nm) {i : Nat} {x : Option Nat} (j : Nat) (d : z_D cc pc (.aload i) 2 pc') (hj : lv[j]? = some (i, tA x)) (kk : zV X pc' lv (tA x :: rest) h nx k z) : zV X pc lv rest h nx k z := by
  intro H locs ls hH hS hl; obtain ⟨d, rfl⟩ := d
  cases x with
  | none => exact lv_aloadN K.1 K.2.1 d (z_lvat hl hj) (kk H locs ls hH hS hl)
  | some a => exact lv_aload K.1 K.2.1 d (z_lvat hl hj) (kk H locs ls hH hS hl)
def z_s1 (i : Nat) (v : zTV) (lv : List (Nat × zTV)) : List (Nat × zTV) := (i, v) :: lv.filter (fun q => !(q.1 == i) && !(q.1 + 1 == i && z_cat q.2 == 2))
def z_s2 (i : Nat) (v : zTV) (lv : List (Nat × zTV)) : List (Nat × zTV) := (i, v) :: lv.filter (fun q => !(q.1 == i) && (!(q.1 == i + 1) && !(q.1 + 1 == i && z_cat q.2 == 2)))
theorem z_s1_map (i : Nat) (v : zTV) : (i, z_tv v) :: (lv.map z_lm).filter (fun q => !(q.1 == i) && !(q.1 + 1 == i && q.2.category == 2)) = (z_s1 i v lv).map z_lm := by
  unfold z_s1
  rw [List.map_cons, List.filter_map]
  congr 2
  apply List.filter_congr
  intro q _
  simp only [Function.comp, z_lm, z_tv_cat]
theorem z_s2_map (i : Nat) (v : zTV) : (i, z_tv v) :: (lv.map z_lm).filter (fun q => !(q.1 == i) && (!(q.1 == i + 1) && !(q.1 + 1 == i && q.2.category == 2))) = (z_s2 i v lv).map z_lm := by
  unfold z_s2
  rw [List.map_cons, List.filter_map]
  congr 2
  apply List.filter_congr
  intro q _
  simp only [Function.comp, z_lm, z_tv_cat]
theorem zv_istore_n (K : z_Ok X cc ret own nm) {i : Fin 4} {x : Int32} (lv' : List (Nat × zTV)) (d : z_D cc pc (.istore_n i) 1 pc') (hn : (i : Nat) < X.2.2.2.1) (he : z_s1 i (tI x) lv = lv') (kk : zV X pc' lv' rest h nx k z) : zV X pc lv (tI x :: rest) h nx k z := by
  intro H locs ls hH hS hl; obtain ⟨d, rfl⟩ := d; subst he; exact lv_istore_n K.1 K.2.1 d rfl hl hn (z_s1_map i (tI x)) (fun ls' hl' => kk H locs ls' hH hS hl')
theorem zv_istore (K : z_Ok X cc ret own nm) {i : Nat} {x : Int32} (lv' : List (Nat × zTV)) (d : z_D cc pc (.istore i) 2 pc') (hn : i < X.2.2.2.1) (he : z_s1 i (tI x) lv = lv') (kk : zV X pc' lv' rest h nx k z) : zV X pc lv (tI x :: rest) h nx k z := by
  intro H locs ls hH hS hl; obtain ⟨d, rfl⟩ := d; subst he; exact lv_istore K.1 K.2.1 d hl hn (z_s1_map i (tI x)) (fun ls' hl' => kk H locs ls' hH hS hl')
theorem zv_lstore_n (K : z_Ok X cc ret own nm) {i : Fin 4} {x : Int64} (lv' : List (Nat × zTV)) (d : z_D cc pc (.lstore_n i) 1 pc') (hn : (i : Nat) + 1 < X.2.2.2.1) (he : z_s2 i (tJ x) lv = lv') (kk : zV X pc' lv' rest h nx k z) : zV X pc lv (tJ x :: rest) h nx k z := by
  intro H locs ls hH hS hl; obtain ⟨d, rfl⟩ := d; subst he; exact lv_lstore_n K.1 K.2.1 d rfl hl hn (z_s2_map i (tJ x)) (fun ls' hl' => kk H locs ls' hH hS hl')
theorem zv_lstore (K : z_Ok X cc ret own nm) {i : Nat} {x : Int64} (lv' : List (Nat × zTV)) (d : z_D cc pc (.lstore i) 2 pc') (hn : i + 1 < X.2.2.2.1) (he : z_s2 i (tJ x) lv = lv') (kk : zV X pc' lv' rest h nx k z) : zV X pc lv (tJ x :: rest) h nx k z := by
  intro H locs ls hH hS hl; obtain ⟨d, rfl⟩ := d; subst he; exact lv_lstore K.1 K.2.1 d hl hn (z_s2_map i (tJ x)) (fun ls' hl' => kk H locs ls' hH hS hl')
theorem zv_astore_n (K : z_Ok X cc ret own nm) {i : Fin 4} {x : Option Nat} (lv' : List (Nat × zTV)) (d : z_D cc pc (.astore_n i) 1 pc') (hn : (i : Nat) < X.2.2.2.1) (he : z_s1 i (tA x) lv = lv') (kk : zV X pc' lv' rest h nx k z) : zV X pc lv (tA x :: rest) h nx k z := by
  intro H locs ls hH hS hl; obtain ⟨d, rfl⟩ := d; subst he
  cases x with
  | none => exact lv_astore_nN K.1 K.2.1 d rfl hl hn (z_s1_map i (tA none)) (fun ls' hl' => kk H locs ls' hH hS hl')
  | some a => exact lv_astore_n K.1 K.2.1 d rfl hl hn (z_s1_map i (tA (some a))) (fun ls' hl' => kk H locs ls' hH hS hl')
theorem zv_astore (K : z_Ok X cc ret own nm) {i : Nat} {x : Option Nat} (lv' : List (Nat × zTV)) (d : z_D cc pc (.astore i) 2 pc') (hn : i < X.2.2.2.1) (he : z_s1 i (tA x) lv = lv') (kk : zV X pc' lv' rest h nx k z) : zV X pc lv (tA x :: rest) h nx k z := by
  intro H locs ls hH hS hl; obtain ⟨d, rfl⟩ := d; subst he
  cases x with
  | none => exact lv_astoreN K.1 K.2.1 d hl hn (z_s1_map i (tA none)) (fun ls' hl' => kk H locs ls' hH hS hl')
  | some a => exact lv_astore K.1 K.2.1 d hl hn (z_s1_map i (tA (some a))) (fun ls' hl' => kk H locs ls' hH hS hl')
theorem zv_iinc (K : z_Ok X cc ret own nm) {i : Nat} {n : Int} {x : Int32} (v : Int32) (j : Nat) (lv' : List (Nat × zTV)) (d : z_D cc pc (.iinc i n) 3 pc') (hj : lv[j]? = some (i, tI x)) (hv : x + Int32.ofInt n = v) (hn : i < X.2.2.2.1) (he : z_s1 i (tI v) lv = lv') (kk : zV X pc' lv' rest h nx k z) : zV X pc lv rest h nx k z := by
  intro H locs ls hH hS hl; obtain ⟨d, rfl⟩ := d; subst he
  exact lv_iinc (k := j) K.1 K.2.1 d hl (by rw [List.getElem?_map, hj]; rfl) hv hn (z_s1_map i (tI v)) (fun ls' hl' => kk H locs ls' hH hS hl')
-- arithmetic
theorem zv_iadd (K : z_Ok X cc ret own nm) {x y : Int32} (d : z_D cc pc .iadd 1 pc') (kk : zV X pc' lv (tI (x + y) :: rest) h nx k z) : zV X pc lv (tI y :: tI x :: rest) h nx k z := by
  intro H locs ls hH hS hl; obtain ⟨d, rfl⟩ := d; exact lv_iadd K.1 K.2.1 d (kk H locs ls hH hS hl)
theorem zv_isub (K : z_Ok X cc ret own nm) {x y : Int32} (d : z_D cc pc .isub 1 pc') (kk : zV X pc' lv (tI (x - y) :: rest) h nx k z) : zV X pc lv (tI y :: tI x :: rest) h nx k z := by
  intro H locs ls hH hS hl; obtain ⟨d, rfl⟩ := d; exact lv_isub K.1 K.2.1 d (kk H locs ls hH hS hl)
theorem zv_imul (K : z_Ok X cc ret own nm) {x y : Int32} (d : z_D cc pc .imul 1 pc') (kk : zV X pc' lv (tI (x * y) :: rest) h nx k z) : zV X pc lv (tI y :: tI x :: rest) h nx k z := by
  intro H locs ls hH hS hl; obtain ⟨d, rfl⟩ := d; exact lv_imul K.1 K.2.1 d (kk H locs ls hH hS hl)
theorem zv_iand (K : z_Ok X cc ret own nm) {x y : Int32} (d : z_D cc pc .iand 1 pc') (kk : zV X pc' lv (tI (x &&& y) :: rest) h nx k z) : zV X pc lv (tI y :: tI x :: rest) h nx k z := by
  intro H locs ls hH hS hl; obtain ⟨d, rfl⟩ := d; exact lv_iand K.1 K.2.1 d (kk H locs ls hH hS hl)
theorem zv_ior (K : z_Ok X cc ret own nm) {x y : Int32} (d : z_D cc pc .ior 1 pc') (kk : zV X pc' lv (tI (x ||| y) :: rest) h nx k z) : zV X pc lv (tI y :: tI x :: rest) h nx k z := by
  intro H locs ls hH hS hl; obtain ⟨d, rfl⟩ := d; exact lv_ior K.1 K.2.1 d (kk H locs ls hH hS hl)
theorem zv_ixor (K : z_Ok X cc ret own nm) {x y : Int32} (d : z_D cc pc .ixor 1 pc') (kk : zV X pc' lv (tI (x ^^^ y) :: rest) h nx k z) : zV X pc lv (tI y :: tI x :: rest) h nx k z := by
  intro H locs ls hH hS hl; obtain ⟨d, rfl⟩ := d; exact lv_ixor K.1 K.2.1 d (kk H locs ls hH hS hl)
theorem zv_idiv (K : z_Ok X cc ret own nm) {x y : Int32} (d : z_D cc pc .idiv 1 pc') (hne : ¬ y = 0) (kk : zV X pc' lv (tI (x / y) :: rest) h nx k z) : zV X pc lv (tI y :: tI x :: rest) h nx k z := by
  intro H locs ls hH hS hl; obtain ⟨d, rfl⟩ := d; exact lv_idiv K.1 K.2.1 d hne (kk H locs ls hH hS hl)
theorem zv_irem (K : z_Ok X cc ret own nm) {x y : Int32} (d : z_D cc pc .irem 1 pc') (hne : ¬ y = 0) (kk : zV X pc' lv (tI (x - x / y * y) :: rest) h nx k z) : zV X pc lv (tI y :: tI x :: rest) h nx k z := by
  intro H locs ls hH hS hl; obtain ⟨d, rfl⟩ := d; exact lv_irem K.1 K.2.1 d hne (kk H locs ls hH hS hl)
theorem zv_ladd (K : z_Ok X cc ret own nm) {x y : Int64} (d : z_D cc pc .ladd 1 pc') (kk : zV X pc' lv (tJ (x + y) :: rest) h nx k z) : zV X pc lv (tJ y :: tJ x :: rest) h nx k z := by
  intro H locs ls hH hS hl; obtain ⟨d, rfl⟩ := d; exact lv_ladd K.1 K.2.1 d (kk H locs ls hH hS hl)
theorem zv_lsub (K : z_Ok X cc ret own nm) {x y : Int64} (d : z_D cc pc .lsub 1 pc') (kk : zV X pc' lv (tJ (x - y) :: rest) h nx k z) : zV X pc lv (tJ y :: tJ x :: rest) h nx k z := by
  intro H locs ls hH hS hl; obtain ⟨d, rfl⟩ := d; exact lv_lsub K.1 K.2.1 d (kk H locs ls hH hS hl)
theorem zv_land (K : z_Ok X cc ret own nm) {x y : Int64} (d : z_D cc pc .land 1 pc') (kk : zV X pc' lv (tJ (x &&& y) :: rest) h nx k z) : zV X pc lv (tJ y :: tJ x :: rest) h nx k z := by
  intro H locs ls hH hS hl; obtain ⟨d, rfl⟩ := d; exact lv_land K.1 K.2.1 d (kk H locs ls hH hS hl)
theorem zv_lor (K : z_Ok X cc ret own nm) {x y : Int64} (d : z_D cc pc .lor 1 pc') (kk : zV X pc' lv (tJ (x ||| y) :: rest) h nx k z) : zV X pc lv (tJ y :: tJ x :: rest) h nx k z := by
  intro H locs ls hH hS hl; obtain ⟨d, rfl⟩ := d; exact lv_lor K.1 K.2.1 d (kk H locs ls hH hS hl)
theorem zv_lxor (K : z_Ok X cc ret own nm) {x y : Int64} (d : z_D cc pc .lxor 1 pc') (kk : zV X pc' lv (tJ (x ^^^ y) :: rest) h nx k z) : zV X pc lv (tJ y :: tJ x :: rest) h nx k z := by
  intro H locs ls hH hS hl; obtain ⟨d, rfl⟩ := d; exact lv_lxor K.1 K.2.1 d (kk H locs ls hH hS hl)
theorem zv_ishl (K : z_Ok X cc ret own nm) {x y : Int32} (d : z_D cc pc .ishl 1 pc') (kk : zV X pc' lv (tI (x <<< (y &&& 31)) :: rest) h nx k z) : zV X pc lv (tI y :: tI x :: rest) h nx k z := by
  intro H locs ls hH hS hl; obtain ⟨d, rfl⟩ := d; exact lv_ishl K.1 K.2.1 d (kk H locs ls hH hS hl)
theorem zv_ishr (K : z_Ok X cc ret own nm) {x y : Int32} (d : z_D cc pc .ishr 1 pc') (kk : zV X pc' lv (tI (x >>> (y &&& 31)) :: rest) h nx k z) : zV X pc lv (tI y :: tI x :: rest) h nx k z := by
  intro H locs ls hH hS hl; obtain ⟨d, rfl⟩ := d; exact lv_ishr K.1 K.2.1 d (kk H locs ls hH hS hl)
theorem zv_i2l (K : z_Ok X cc ret own nm) {x : Int32} (d : z_D cc pc .i2l 1 pc') (kk : zV X pc' lv (tJ x.toInt64 :: rest) h nx k z) : zV X pc lv (tI x :: rest) h nx k z := by
  intro H locs ls hH hS hl; obtain ⟨d, rfl⟩ := d; exact lv_i2l K.1 K.2.1 d rfl (kk H locs ls hH hS hl)
theorem zv_l2i (K : z_Ok X cc ret own nm) {x : Int64} (d : z_D cc pc .l2i 1 pc') (kk : zV X pc' lv (tI x.toInt32 :: rest) h nx k z) : zV X pc lv (tJ x :: rest) h nx k z := by
  intro H locs ls hH hS hl; obtain ⟨d, rfl⟩ := d; exact lv_l2i K.1 K.2.1 d rfl (kk H locs ls hH hS hl)
theorem zv_i2b (K : z_Ok X cc ret own nm) {x : Int32} (d : z_D cc pc .i2b 1 pc') (kk : zV X pc' lv (tI x.toInt8.toInt32 :: rest) h nx k z) : zV X pc lv (tI x :: rest) h nx k z := by
  intro H locs ls hH hS hl; obtain ⟨d, rfl⟩ := d; exact lv_i2b K.1 K.2.1 d rfl (kk H locs ls hH hS hl)
theorem zv_lushr (K : z_Ok X cc ret own nm) {x : Int64} {y : Int32} (d : z_D cc pc .lushr 1 pc') (kk : zV X pc' lv (tJ (x.toUInt64 >>> (y.toInt64.toUInt64 &&& Int64.toUInt64 63)).toInt64 :: rest) h nx k z) : zV X pc lv (tI y :: tJ x :: rest) h nx k z := by
  intro H locs ls hH hS hl; obtain ⟨d, rfl⟩ := d; exact lv_lushr K.1 K.2.1 d rfl (kk H locs ls hH hS hl)
theorem zv_lshl (K : z_Ok X cc ret own nm) {x : Int64} {y : Int32} (d : z_D cc pc .lshl 1 pc') (kk : zV X pc' lv (tJ (x <<< (y.toInt64 &&& 63)) :: rest) h nx k z) : zV X pc lv (tI y :: tJ x :: rest) h nx k z := by
  intro H locs ls hH hS hl; obtain ⟨d, rfl⟩ := d; exact lv_lshl K.1 K.2.1 d rfl (kk H locs ls hH hS hl)
theorem zv_lshr (K : z_Ok X cc ret own nm) {x : Int64} {y : Int32} (d : z_D cc pc .lshr 1 pc') (kk : zV X pc' lv (tJ (x >>> (y.toInt64 &&& 63)) :: rest) h nx k z) : zV X pc lv (tI y :: tJ x :: rest) h nx k z := by
  intro H locs ls hH hS hl; obtain ⟨d, rfl⟩ := d; exact lv_lshr K.1 K.2.1 d rfl (kk H locs ls hH hS hl)
theorem zv_lcmp (K : z_Ok X cc ret own nm) {x y : Int64} (d : z_D cc pc .lcmp 1 pc') (kk : zV X pc' lv (tI (lg_cmp x y) :: rest) h nx k z) : zV X pc lv (tJ y :: tJ x :: rest) h nx k z := by
  intro H locs ls hH hS hl; obtain ⟨d, rfl⟩ := d; exact W.lcmp K.1 K.2.1 d (kk H locs ls hH hS hl)
-- the stack
theorem zv_dup (K : z_Ok X cc ret own nm) {v : zTV} (d : z_D cc pc .dup 1 pc') (hv : z_cat v = 1) (kk : zV X pc' lv (v :: v :: rest) h nx k z) : zV X pc lv (v :: rest) h nx k z := by
  intro H locs ls hH hS hl; obtain ⟨d, rfl⟩ := d; exact lv_dup K.1 K.2.1 d (by rw [z_tv_cat, hv]) (kk H locs ls hH hS hl)
theorem zv_pop (K : z_Ok X cc ret own nm) {v : zTV} (d : z_D cc pc .pop 1 pc') (hv : z_cat v = 1) (kk : zV X pc' lv rest h nx k z) : zV X pc lv (v :: rest) h nx k z := by
  intro H locs ls hH hS hl; obtain ⟨d, rfl⟩ := d; exact lv_pop K.1 K.2.1 d (by rw [z_tv_cat, hv]) (kk H locs ls hH hS hl)
theorem zv_dup2 (K : z_Ok X cc ret own nm) {v w : zTV} (d : z_D cc pc .dup2 1 pc') (hv : z_cat v = 1) (hw : z_cat w = 1) (kk : zV X pc' lv (v :: w :: v :: w :: rest) h nx k z) : zV X pc lv (v :: w :: rest) h nx k z := by
  intro H locs ls hH hS hl; obtain ⟨d, rfl⟩ := d; exact lv_dup2_11 K.1 K.2.1 d (by rw [z_tv_cat, hv]) (by rw [z_tv_cat, hw]) (kk H locs ls hH hS hl)
-- branches
theorem zv_goto (K : z_Ok X cc ret own nm) {off : Int} (tgt : Nat) (d : z_D cc pc (.goto off) 3 pc') (ht : (pc : Int) + off = (tgt : Int)) (kk : zV X tgt lv rest h nx k z) : zV X pc lv rest h nx k z := by
  intro H locs ls hH hS hl; obtain ⟨d, rfl⟩ := d; exact lv_goto K.1 K.2.1 d ht (kk H locs ls hH hS hl)
end ZV
end
section
/-! branches, fields, arrays: with the answer of f beside them -/
section ZW
variable {X : zX} {cc : ByteArray} {ret : Option FieldType} {own nm : String} {pc pc' : Nat} {lv lv' : List (Nat × zTV)} {rest : List zTV} {h : zH} {nx k z : Nat} {α : Type} {T E : Option α} {a : α}
theorem z_ite_inv {c : Prop} (dc : Decidable c) (hf : (@ite _ c dc T E) = some a) {G : Prop} (kt : c → T = some a → G) (kf : ¬ c → E = some a → G) : G := by
  by_cases hc : c
  · rw [if_pos hc] at hf; exact kt hc hf
  · rw [if_neg hc] at hf; exact kf hc hf
theorem zv_if_eq (K : z_Ok X cc ret own nm) {x : Int32} {off : Int} (tgt : Nat) (d : z_D cc pc (.ifCond .eq off) 3 pc') (ht : (pc : Int) + off = (tgt : Int)) (hf : (if x = 0 then T else E) = some a)
    (kt : x = 0 → T = some a → zV X tgt lv rest h nx k z) (kf : ¬ (x = 0) → E = some a → zV X pc' lv rest h nx k z) : zV X pc lv (tI x :: rest) h nx k z := by
  intro H locs ls hH hS hl; obtain ⟨d, rfl⟩ := d
  exact lv_if_eq K.1 K.2.1 d ht (fun c => kt c (by rw [if_pos c] at hf; exact hf) H locs ls hH hS hl) (fun c => kf c (by rw [if_neg c] at hf; exact hf) H locs ls hH hS hl)
theorem zv_if_ne (K : z_Ok X cc ret own nm) {x : Int32} {off : Int} (tgt : Nat) (d : z_D cc pc (.ifCond .ne off) 3 pc') (ht : (pc : Int) + off = (tgt : Int)) (hf : (if x = 0 then E else T) = some a)
    (kt : ¬ x = 0 → T = some a → zV X tgt lv rest h nx k z) (kf : x = 0 → E = some a → zV X pc' lv rest h nx k z) : zV X pc lv (tI x :: rest) h nx k z := by
  intro H locs ls hH hS hl; obtain ⟨d, rfl⟩ := d
  exact lv_if_ne K.1 K.2.1 d ht (fun c => kt c (by rw [if_neg c] at hf; exact hf) H locs ls hH hS hl) (fun c => kf c (by rw [if_pos c] at hf; exact hf) H locs ls hH hS hl)
theorem zv_if_lt (K : z_Ok X cc ret own nm) {x : Int32} {off : Int} (tgt : Nat) (d : z_D cc pc (.ifCond .lt off) 3 pc') (ht : (pc : Int) + off = (tgt : Int)) (hf : (if x < 0 then T else E) = some a)
    (kt : x < 0 → T = some a → zV X tgt lv rest h nx k z) (kf : ¬ (x < 0) → E = some a → zV X pc' lv rest h nx k z) : zV X pc lv (tI x :: rest) h nx k z := by
  intro H locs ls hH hS hl; obtain ⟨d, rfl⟩ := d
  exact lv_if_lt K.1 K.2.1 d ht (fun c => kt c (by rw [if_pos c] at hf; exact hf) H locs ls hH hS hl) (fun c => kf c (by rw [if_neg c] at hf; exact hf) H locs ls hH hS hl)
theorem zv_if_ge (K : z_Ok X cc ret own nm) {x : Int32} {off : Int} (tgt : Nat) (d : z_D cc pc (.ifCond .ge off) 3 pc') (ht : (pc : Int) + off = (tgt : Int)) (hf : (if 0 ≤ x then T else E) = some a)
    (kt : 0 ≤ x → T = some a → zV X tgt lv rest h nx k z) (kf : ¬ (0 ≤ x) → E = some a → zV X pc' lv rest h nx k z) : zV X pc lv (tI x :: rest) h nx k z := by
  intro H locs ls hH hS hl; obtain ⟨d, rfl⟩ := d
  exact lv_if_ge K.1 K.2.1 d ht (fun c => kt c (by rw [if_pos c] at hf; exact hf) H locs ls hH hS hl) (fun c => kf c (by rw [if_neg c] at hf; exact hf) H locs ls hH hS hl)
theorem zv_if_gt (K : z_Ok X cc ret own nm) {x : Int32} {off : Int} (tgt : Nat) (d : z_D cc pc (.ifCond .gt off) 3 pc') (ht : (pc : Int) + off = (tgt : Int)) (hf : (if 0 < x then T else E) = some a)
    (kt : 0 < x → T = some a → zV X tgt lv rest h nx k z) (kf : ¬ (0 < x) → E = some a → zV X pc' lv rest h nx k z) : zV X pc lv (tI x :: rest) h nx k z := by
  intro H locs ls hH hS hl; obtain ⟨d, rfl⟩ := d
  exact lv_if_gt K.1 K.2.1 d ht (fun c => kt c (by rw [if_pos c] at hf; exact hf) H locs ls hH hS hl) (fun c => kf c (by rw [if_neg c] at hf; exact hf) H locs ls hH hS hl)
theorem zv_if_le (K : z_Ok X cc ret own nm) {x : Int32} {off : Int} (tgt : Nat) (d : z_D cc pc (.ifCond .le off) 3 pc') (ht : (pc : Int) + off = (tgt : Int)) (hf : (if x ≤ 0 then T else E) = some a)
    (kt : x ≤ 0 → T = some a → zV X tgt lv rest h nx k z) (kf : ¬ (x ≤ 0) → E = some a → zV X pc' lv rest h nx k z) : zV X pc lv (tI x :: rest) h nx k z := by
  intro H locs ls hH hS hl; obtain ⟨d, rfl⟩ := d
  exact lv_if_le K.1 K.2.1 d ht (fun c => kt c (by rw [if_pos c] at hf; exact hf) H locs ls hH hS hl) (fun c => kf c (by rw [if_neg c] at hf; exact hf) H locs ls hH hS hl)
theorem zv_icmp_eq (K : z_Ok X cc ret own nm) {x y : Int32} {off : Int} (tgt : Nat) (d : z_D cc pc (.if_icmp .eq off) 3 pc') (ht : (pc : Int) + off = (tgt : Int)) (hf : (if x = y then T else E) = some a)
    (kt : x = y → T = some a → zV X tgt lv rest h nx k z) (kf : ¬ (x = y) → E = some a → zV X pc' lv rest h nx k z) : zV X pc lv (tI y :: tI x :: rest) h nx k z := by
  intro H locs ls hH hS hl; obtain ⟨d, rfl⟩ := d
  exact lv_icmp_eq K.1 K.2.1 d ht (fun c => kt c (by rw [if_pos c] at hf; exact hf) H locs ls hH hS hl) (fun c => kf c (by rw [if_neg c] at hf; exact hf) H locs ls hH hS hl)
theorem zv_icmp_ne (K : z_Ok X cc ret own nm) {x y : Int32} {off : Int} (tgt : Nat) (d : z_D cc pc (.if_icmp .ne off) 3 pc') (ht : (pc : Int) + off = (tgt : Int)) (hf : (if x = y then E else T) = some a)
    (kt : ¬ x = y → T = some a → zV X tgt lv rest h nx k z) (kf : x = y → E = some a → zV X pc' lv rest h nx k z) : zV X pc lv (tI y :: tI x :: rest) h nx k z := by
  intro H locs ls hH hS hl; obtain ⟨d, rfl⟩ := d
  exact lv_icmp_ne K.1 K.2.1 d ht (fun c => kt c (by rw [if_neg c] at hf; exact hf) H locs ls hH hS hl) (fun c => kf c (by rw [if_pos c] at hf; exact hf) H locs ls hH hS hl)
theorem zv_icmp_lt (K : z_Ok X cc ret own nm) {x y : Int32} {off : Int} (tgt : Nat) (d : z_D cc pc (.if_icmp .lt off) 3 pc') (ht : (pc : Int) + off = (tgt : Int)) (hf : (if x < y then T else E) = some a)
    (kt : x < y → T = some a → zV X tgt lv rest h nx k z) (kf : ¬ (x < y) → E = some a → zV X pc' lv rest h nx k z) : zV X pc lv (tI y :: tI x :: rest) h nx k z := by
  intro H locs ls hH hS hl; obtain ⟨d, rfl⟩ := d
  exact lv_icmp_lt K.1 K.2.1 d ht (fun c => kt c (by rw [if_pos c] at hf; exact hf) H locs ls hH hS hl) (fun c => kf c (by rw [if_neg c] at hf; exact hf) H locs ls hH hS hl)
theorem zv_icmp_ge (K : z_Ok X cc ret own nm) {x y : Int32} {off : Int} (tgt : Nat) (d : z_D cc pc (.if_icmp .ge off) 3 pc') (ht : (pc : Int) + off = (tgt : Int)) (hf : (if y ≤ x then T else E) = some a)
    (kt : y ≤ x → T = some a → zV X tgt lv rest h nx k z) (kf : ¬ (y ≤ x) → E = some a → zV X pc' lv rest h nx k z) : zV X pc lv (tI y :: tI x :: rest) h nx k z := by
  intro H locs ls hH hS hl; obtain ⟨d, rfl⟩ := d
  exact lv_icmp_ge K.1 K.2.1 d ht (fun c => kt c (by rw [if_pos c] at hf; exact hf) H locs ls hH hS hl) (fun c => kf c (by rw [if_neg c] at hf; exact hf) H locs ls hH hS hl)
theorem zv_icmp_gt (K : z_Ok X cc ret own nm) {x y : Int32} {off : Int} (tgt : Nat) (d : z_D cc pc (.if_icmp .gt off) 3 pc') (ht : (pc : Int) + off = (tgt : Int)) (hf : (if y < x then T else E) = some a)
    (kt : y < x → T = some a → zV X tgt lv rest h nx k z) (kf : ¬ (y < x) → E = some a → zV X pc' lv rest h nx k z) : zV X pc lv (tI y :: tI x :: rest) h nx k z := by
  intro H locs ls hH hS hl; obtain ⟨d, rfl⟩ := d
  exact lv_icmp_gt K.1 K.2.1 d ht (fun c => kt c (by rw [if_pos c] at hf; exact hf) H locs ls hH hS hl) (fun c => kf c (by rw [if_neg c] at hf; exact hf) H locs ls hH hS hl)
theorem zv_icmp_le (K : z_Ok X cc ret own nm) {x y : Int32} {off : Int} (tgt : Nat) (d : z_D cc pc (.if_icmp .le off) 3 pc') (ht : (pc : Int) + off = (tgt : Int)) (hf : (if x ≤ y then T else E) = some a)
    (kt : x ≤ y → T = some a → zV X tgt lv rest h nx k z) (kf : ¬ (x ≤ y) → E = some a → zV X pc' lv rest h nx k z) : zV X pc lv (tI y :: tI x :: rest) h nx k z := by
  intro H locs ls hH hS hl; obtain ⟨d, rfl⟩ := d
  exact lv_icmp_le K.1 K.2.1 d ht (fun c => kt c (by rw [if_pos c] at hf; exact hf) H locs ls hH hS hl) (fun c => kf c (by rw [if_neg c] at hf; exact hf) H locs ls hH hS hl)
theorem zv_ifnull (K : z_Ok X cc ret own nm) {x : Option Nat} {off : Int} (tgt : Nat) (d : z_D cc pc (.ifnull off) 3 pc') (ht : (pc : Int) + off = (tgt : Int)) (hf : (if x = none then T else E) = some a)
    (kt : x = none → T = some a → zV X tgt lv rest h nx k z) (kf : ¬ (x = none) → E = some a → zV X pc' lv rest h nx k z) : zV X pc lv (tA x :: rest) h nx k z := by
  intro H locs ls hH hS hl; obtain ⟨d, rfl⟩ := d
  cases x with
  | none => exact lv_ifnullN K.1 K.2.1 d ht (kt rfl (by rw [if_pos rfl] at hf; exact hf) H locs ls hH hS hl)
  | some q => exact lv_ifnull K.1 K.2.1 d (kf (by simp) (by rw [if_neg (by simp)] at hf; exact hf) H locs ls hH hS hl)
theorem zv_ifnonnull (K : z_Ok X cc ret own nm) {x : Option Nat} {off : Int} (tgt : Nat) (d : z_D cc pc (.ifnonnull off) 3 pc') (ht : (pc : Int) + off = (tgt : Int)) (hf : (if x = none then E else T) = some a)
    (kt : ¬ x = none → T = some a → zV X tgt lv rest h nx k z) (kf : x = none → E = some a → zV X pc' lv rest h nx k z) : zV X pc lv (tA x :: rest) h nx k z := by
  intro H locs ls hH hS hl; obtain ⟨d, rfl⟩ := d
  cases x with
  | none => exact lv_ifnonnullN K.1 K.2.1 d (kf rfl (by rw [if_pos rfl] at hf; exact hf) H locs ls hH hS hl)
  | some q => exact lv_ifnonnull K.1 K.2.1 d ht (kt (by simp) (by rw [if_neg (by simp)] at hf; exact hf) H locs ls hH hS hl)
theorem zv_tswIn (K : z_Ok X cc ret own nm) {dflt lo hi off : Int} {offs : Array Int} {len : Nat} {x : Int32} (c : Int32) (tgt : Nat) (d : z_D cc pc (.tableswitch dflt lo hi offs) len pc') (hx : x = c) (h1 : ¬ c.toInt < lo) (h2 : ¬ hi < c.toInt) (ho : offs[(c.toInt - lo).toNat]? = some off) (ht : (pc : Int) + off = (tgt : Int))
    (kk : zV X tgt lv rest h nx k z) : zV X pc lv (tI x :: rest) h nx k z := by
  intro H locs ls hH hS hl; obtain ⟨d, rfl⟩ := d; subst hx
  exact lv_tableIn K.1 K.2.1 d h1 h2 ho ht (kk H locs ls hH hS hl)
theorem zv_tswOut (K : z_Ok X cc ret own nm) {dflt lo hi : Int} {offs : Array Int} {len : Nat} {x : Int32} (tgt : Nat) (d : z_D cc pc (.tableswitch dflt lo hi offs) len pc') (hx : x.toInt < lo ∨ hi < x.toInt) (ht : (pc : Int) + dflt = (tgt : Int))
    (kk : zV X tgt lv rest h nx k z) : zV X pc lv (tI x :: rest) h nx k z := by
  intro H locs ls hH hS hl; obtain ⟨d, rfl⟩ := d
  exact lv_tableOut K.1 K.2.1 d hx ht (kk H locs ls hH hS hl)
theorem zv_lsw (K : z_Ok X cc ret own nm) {dflt off : Int} {ps : Array (Int × Int)} {len : Nat} {x : Int32} (tgt : Nat) (d : z_D cc pc (.lookupswitch dflt ps) len pc') (hp : (ps.toList.zip (ps.toList.drop 1)).all (fun (a, next) => a.1 < next.1) = true) (ho : Op.lookupswitch.offset ps.toList dflt x.toInt = off) (ht : (pc : Int) + off = (tgt : Int))
    (kk : zV X tgt lv rest h nx k z) : zV X pc lv (tI x :: rest) h nx k z := by
  intro H locs ls hH hS hl; obtain ⟨d, rfl⟩ := d
  exact lv_lookup K.1 K.2.1 d hp ho ht (kk H locs ls hH hS hl)
/-- a field's link, of the own class or of a nest mate's -/
def z_FL (own : String) (idx ci fk : Nat) : Prop := ∃ q : vw_C, vwCl[ci]? = some q ∧ fk < q.2.2 ∧ (Cond.fieldLink own idx (q.2.1 fk).1 (q.2.1 fk).2.1 (q.2.1 fk).2.2.1 ∈ lw_tbl ∨ ∃ host, Cond.fieldLinkNest own idx (q.2.1 fk).1 (q.2.1 fk).2.1 (q.2.1 fk).2.2.1 host ∈ lw_tbl)
theorem z_gF_inv {ci fk : Nat} {r : Option Nat} {v : zTV} (he : z_gF h ci fk r = some v) : ∃ (q : Nat) (fs : List zTV), r = some q ∧ h q = .inr (ci, fs) ∧ fs[fk]? = some v := by
  cases r with
  | none => cases he
  | some q =>
    simp only [z_gF, Option.bind_some] at he
    split at he
    · rename_i c fs hq
      split at he
      · rename_i hc; subst hc; exact ⟨q, fs, rfl, hq, he⟩
      · cases he
    · cases he
theorem z_cls_lt {ci : Nat} {q : vw_C} (hc : vwCl[ci]? = some q) : ci < 12 := (List.getElem?_eq_some_iff.mp hc).1
theorem zv_gF (K : z_Ok X cc ret own nm) {idx ci fk : Nat} {r : Option Nat} {v : zTV} (d : z_D cc pc (.getfield idx) 3 pc') (hL : z_FL own idx ci fk) (he : z_gF h ci fk r = some v) (kk : zV X pc' lv (v :: rest) h nx k z) : zV X pc lv (tA r :: rest) h nx k z := by
  intro H locs ls hH hS hl; obtain ⟨d, rfl⟩ := d
  obtain ⟨q, fs, rfl, hq, hv⟩ := z_gF_inv he
  obtain ⟨qc, hc, hk, hlk⟩ := hL
  have hlt := z_cls_lt hc
  obtain ⟨i1, i2⟩ := z_dom_in hH.1.2.2.2 (a := q) (by rw [hq]; intro e; injection e with e; injection e with e _; omega) (by intro n f e; rw [hq] at e; cases e)
  have hw : (z_ws X.2.2.1 h nx)[q - X.2.2.1.1]? = some (q, .inr (ci, fs.map z_tv)) := by rw [z_ws_get i1 i2, hq]; rfl
  have hv' : (fs.map z_tv)[fk]? = some (z_tv v) := by rw [List.getElem?_map, hv]; rfl
  rcases hlk with hlk | ⟨host, hlk⟩
  · exact va_get K.1 K.2.1 K.2.2.2.2.2.1 (z_in hc) K.2.2.2.2.1 K.2.2.2.2.2.2.2.2.2.2.2.2.1 hH.1.1 _ hw hc fk hk (z_word K hlk rfl) (fun _ e => e) hv' d (kk H locs ls hH hS hl)
  · exact va_getN (host := host) K.1 K.2.1 K.2.2.2.2.2.1 (z_in hc) K.2.2.2.2.1 K.2.2.2.2.2.2.2.2.2.2.2.2.1 hH.1.1 _ hw hc fk hk (z_nword K hlk rfl rfl) (fun _ e => e) hv' d (kk H locs ls hH hS hl)
theorem zv_gI (K : z_Ok X cc ret own nm) {idx ci fk : Nat} {r : Option Nat} {F : Int32 → Option α} (d : z_D cc pc (.getfield idx) 3 pc') (hL : z_FL own idx ci fk) (hf : (z_gI h ci fk r).bind F = some a) (kk : ∀ v, F v = some a → zV X pc' lv (tI v :: rest) h nx k z) : zV X pc lv (tA r :: rest) h nx k z := by
  obtain ⟨v, he, hf⟩ := z_bind_inv hf
  obtain ⟨w, h1, h2⟩ := z_bind_inv he
  rcases w with x | x | x
  · cases h2; exact zv_gF K d hL h1 (kk v hf)
  · cases h2
  · cases h2
theorem zv_gJ (K : z_Ok X cc ret own nm) {idx ci fk : Nat} {r : Option Nat} {F : Int64 → Option α} (d : z_D cc pc (.getfield idx) 3 pc') (hL : z_FL own idx ci fk) (hf : (z_gJ h ci fk r).bind F = some a) (kk : ∀ v, F v = some a → zV X pc' lv (tJ v :: rest) h nx k z) : zV X pc lv (tA r :: rest) h nx k z := by
  obtain ⟨v, he, hf⟩ := z_bind_inv hf
  obtain ⟨w, h1, h2⟩ := z_bind_inv he
  rcases w with x | x | x
  · cases h2
  · cases h2; exact zv_gF K d hL h1 (kk v hf)
  · cases h2
theorem zv_gA (K : z_Ok X cc ret own nm) {idx ci fk : Nat} {r : Option Nat} {F : Option Nat → Option α} (d : z_D cc pc (.getfield idx) 3 pc') (hL : z_FL own idx ci fk) (hf : (z_gA h ci fk r).bind F = some a) (kk : ∀ v, F v = some a → zV X pc' lv (tA v :: rest) h nx k z) : zV X pc lv (tA r :: rest) h nx k z := by
  obtain ⟨v, he, hf⟩ := z_bind_inv hf
  obtain ⟨w, h1, h2⟩ := z_bind_inv he
  rcases w with x | x | x
  · cases h2
  · cases h2
  · cases h2; exact zv_gF K d hL h1 (kk v hf)
theorem z_pF_inv {ci fk : Nat} {r : Option Nat} {v : zTV} {h1 : zH} (he : z_pF h ci fk r v = some h1) : ∃ (q : Nat) (fs : List zTV), r = some q ∧ h q = .inr (ci, fs) ∧ fk < fs.length ∧ h1 = z_up h q (.inr (ci, fs.set fk v)) := by
  cases r with
  | none => cases he
  | some q =>
    simp only [z_pF, Option.bind_some] at he
    split at he
    · rename_i c fs hq
      split at he
      · rename_i hc; obtain ⟨rfl, h2⟩ := hc; cases he; exact ⟨q, fs, rfl, hq, h2, rfl⟩
      · cases he
    · cases he
theorem z_Hp_up {G : zG} {H1 : Heap} {q : Nat} {c : zMC} (hd : z_dom G h nx) (hn : G.1 ≤ nx) (hbt : G.2.1 < G.1 ∧ G.2.2.1 < G.1) (i1 : G.1 ≤ q) (i2 : q < nx) (hP : va_P G.2.2.2.2.2.1 vwCl ((z_ws G h nx).set (q - G.1) (q, z_E G.2.2.2.2.2.2 c)) H1) (hz : nx ≤ H1.size) (hc : z_nk c) : z_Hp G (z_up h q c) nx H1 := by
  rw [z_ws_set i1 i2] at hP
  exact ⟨hP, hz, hn, z_dom_up hd hbt i1 i2 c hc⟩
theorem z_S_tr {A : Nat → Prop} {H0 H H1 : Heap} {locs locs1 : List Loc} (h1 : va_S A H0 H locs) (h2 : va_S A H H1 locs1) : va_S A H0 H1 locs1 :=
  ⟨Nat.le_trans h1.1 h2.1, fun q g1 g2 => (h2.2.1 q (Nat.lt_of_lt_of_le g1 h1.1) g2).trans (h1.2.1 q g1 g2), h2.2.2⟩
theorem z_S_rf {A : Nat → Prop} {H0 H : Heap} {locs : List Loc} (h1 : va_S A H0 H locs) : va_S A H H locs := ⟨Nat.le_refl _, fun _ _ _ => rfl, h1.2.2⟩
/-- what a kit's write leaves: the rest of the walk -/
theorem z_wr {q : Nat} {c : zMC} {H : Heap} {locs : List Loc} {ls : Array Slot} (K : z_Ok X cc ret own nm) (hH : z_Hs X h nx k H) (hS : va_S (z_A X.2.2.1) X.1.2.2.2.1.heap H locs) (hl : lv_has ls X.2.2.2.1 (lv.map z_lm)) (i1 : X.2.2.1.1 ≤ q) (i2 : q < nx) (hc : z_nk c) (kk : zV X pc' lv rest (z_up h q c) nx k z) (H1 : Heap) (locs1 : List Loc)
    (hP : va_P X.2.2.1.2.2.2.2.2.1 vwCl ((z_ws X.2.2.1 h nx).set (q - X.2.2.1.1) (q, z_E X.2.2.1.2.2.2.2.2.2 c)) H1) (hS1 : va_S (z_A X.2.2.1) H H1 locs1) :
    W X.1.1 X.1.2.1 X.1.2.2.1 X.2.1 X.1.2.2.2.1 X.1.2.2.2.2.1 X.1.2.2.2.2.2.1 X.1.2.2.2.2.2.2.1 X.1.2.2.2.2.2.2.2.1 X.1.2.2.2.2.2.2.2.2 H1 locs1 k z X.2.2.2.2 (F0 X.1.2.2.2.2.1 pc' ls (rest.map z_tv)) :=
  kk H1 locs1 ls ⟨z_Hp_up hH.1.2.2.2 hH.1.2.2.1 K.2.2.2.2.2.2.2.2.1.2 i1 i2 hP (Nat.le_trans hH.1.2.1 hS1.1) hc, hH.2⟩ (z_S_tr hS hS1) hl
theorem zv_pF (K : z_Ok X cc ret own nm) {idx ci fk : Nat} {r : Option Nat} {v : zTV} {h1 : zH} (d : z_D cc pc (.putfield idx) 3 pc') (hL : z_FL own idx ci fk) (hfin : ∀ q, vwCl[ci]? = some q → (q.2.1 fk).2.2.2 = false) (hn : narrow (z_ft ci fk) (z_tv v) = z_tv v) (hfit : fits (z_ft ci fk) (z_tv v) = true) (he : z_pF h ci fk r v = some h1) (kk : zV X pc' lv rest h1 nx k z) : zV X pc lv (v :: tA r :: rest) h nx k z := by
  intro H locs ls hH hS hl; obtain ⟨d, rfl⟩ := d
  obtain ⟨q, fs, rfl, hq, hfk, rfl⟩ := z_pF_inv he
  obtain ⟨qc, hc, hk, hlk⟩ := hL
  have hlt := z_cls_lt hc
  obtain ⟨i1, i2⟩ := z_dom_in hH.1.2.2.2 (a := q) (by rw [hq]; intro e; injection e with e; injection e with e _; omega) (by intro n f e; rw [hq] at e; cases e)
  have hw : (z_ws X.2.2.1 h nx)[q - X.2.2.1.1]? = some (q, .inr (ci, fs.map z_tv)) := by rw [z_ws_get i1 i2, hq]; rfl
  have hset : (fs.map z_tv).set fk (z_tv v) = (fs.set fk v).map z_tv := (List.map_set).symm
  have go := z_wr (c := .inr (ci, fs.set fk v)) K hH hS hl i1 i2 (fun n f e => by cases e) kk
  rcases hlk with hlk | ⟨host, hlk⟩
  · refine va_put K.1 K.2.1 K.2.2.2.2.2.1 (z_in hc) (z_ft ci) (z_ft_ok hc).1 (z_ft_ok hc).2 K.2.2.2.2.1 K.2.2.2.2.2.2.2.2.2.2.2.2.1 hH.1.1 z_ws_D (z_S_rf hS) _ hw hc fk hk (z_word K hlk rfl) (fun _ e => e) (hfin _ hc) ((z_ft_ok hc).1 fk hk) hn hfit (by rw [List.length_map]; exact hfk) d (fun H1 locs1 hP _ hS1 => ?_)
    rw [hset] at hP
    exact go H1 locs1 hP hS1
  · refine va_putN (host := host) K.1 K.2.1 K.2.2.2.2.2.1 (z_in hc) (z_ft ci) (z_ft_ok hc).1 (z_ft_ok hc).2 K.2.2.2.2.1 K.2.2.2.2.2.2.2.2.2.2.2.2.1 hH.1.1 z_ws_D (z_S_rf hS) _ hw hc fk hk (z_nword K hlk rfl rfl) (fun _ e => e) (hfin _ hc) ((z_ft_ok hc).1 fk hk) hn hfit (by rw [List.length_map]; exact hfk) d (fun H1 locs1 hP _ hS1 => ?_)
    rw [hset] at hP
    exact go H1 locs1 hP hS1
/-- a final field, in its own class's constructor -/
theorem zv_pX (K : z_Ok X cc ret own "<init>") {idx ci fk : Nat} {r : Option Nat} {v : zTV} {h1 : zH} (d : z_D cc pc (.putfield idx) 3 pc') (hL : ∃ q : vw_C, vwCl[ci]? = some q ∧ fk < q.2.2 ∧ (q.2.1 fk).2.2.2 = true ∧ (q.2.1 fk).1 = own ∧ Cond.fieldLink own idx (q.2.1 fk).1 (q.2.1 fk).2.1 (q.2.1 fk).2.2.1 ∈ lw_tbl) (hn : narrow (z_ft ci fk) (z_tv v) = z_tv v) (hfit : fits (z_ft ci fk) (z_tv v) = true) (he : z_pF h ci fk r v = some h1) (kk : zV X pc' lv rest h1 nx k z) : zV X pc lv (v :: tA r :: rest) h nx k z := by
  intro H locs ls hH hS hl; obtain ⟨d, rfl⟩ := d
  obtain ⟨q, fs, rfl, hq, hfk, rfl⟩ := z_pF_inv he
  obtain ⟨qc, hc, hk, hfin, hdecl, hlk⟩ := hL
  have hlt := z_cls_lt hc
  obtain ⟨i1, i2⟩ := z_dom_in hH.1.2.2.2 (a := q) (by rw [hq]; intro e; injection e with e; injection e with e _; omega) (by intro n f e; rw [hq] at e; cases e)
  have hw : (z_ws X.2.2.1 h nx)[q - X.2.2.1.1]? = some (q, .inr (ci, fs.map z_tv)) := by rw [z_ws_get i1 i2, hq]; rfl
  have hset : (fs.map z_tv).set fk (z_tv v) = (fs.set fk v).map z_tv := (List.map_set).symm
  have go := z_wr (c := .inr (ci, fs.set fk v)) K hH hS hl i1 i2 (fun n f e => by cases e) kk
  refine va_putF K.1 K.2.1 K.2.2.2.2.2.1 (z_in hc) (z_ft ci) (z_ft_ok hc).1 (z_ft_ok hc).2 K.2.2.2.2.1 K.2.2.2.2.2.2.2.2.2.2.2.2.1 hH.1.1 z_ws_D (z_S_rf hS) _ hw hc fk hk (z_word K hlk rfl) (fun _ e => e) hfin K.2.2.2.2.2.2.2.1 hdecl ((z_ft_ok hc).1 fk hk) hn hfit (by rw [List.length_map]; exact hfk) d (fun H1 locs1 hP _ hS1 => ?_)
  rw [hset] at hP
  exact go H1 locs1 hP hS1
theorem zv_pI (K : z_Ok X cc ret own nm) {idx ci fk : Nat} {r : Option Nat} {x : Int32} {F : zH → Option α} (d : z_D cc pc (.putfield idx) 3 pc') (hL : z_FL own idx ci fk) (hfin : ∀ q, vwCl[ci]? = some q → (q.2.1 fk).2.2.2 = false) (hty : z_ft ci fk = .int) (hf : (z_pF h ci fk r (tI x)).bind F = some a) (kk : ∀ h1, F h1 = some a → zV X pc' lv rest h1 nx k z) : zV X pc lv (tI x :: tA r :: rest) h nx k z := by
  obtain ⟨v, he, hf⟩ := z_bind_inv hf
  exact zv_pF K d hL hfin (by rw [hty]; rfl) (by rw [hty]; rfl) he (kk v hf)
theorem zv_pJ (K : z_Ok X cc ret own nm) {idx ci fk : Nat} {r : Option Nat} {x : Int64} {F : zH → Option α} (d : z_D cc pc (.putfield idx) 3 pc') (hL : z_FL own idx ci fk) (hfin : ∀ q, vwCl[ci]? = some q → (q.2.1 fk).2.2.2 = false) (hty : z_ft ci fk = .long) (hf : (z_pF h ci fk r (tJ x)).bind F = some a) (kk : ∀ h1, F h1 = some a → zV X pc' lv rest h1 nx k z) : zV X pc lv (tJ x :: tA r :: rest) h nx k z := by
  obtain ⟨v, he, hf⟩ := z_bind_inv hf
  exact zv_pF K d hL hfin (by rw [hty]; rfl) (by rw [hty]; rfl) he (kk v hf)
theorem z_rf_fits (ty : FieldType) (x : Option Nat) (hty : (∃ C, ty = .object C) ∨ ∃ t, ty = .array t) : narrow ty (z_tv (tA x)) = z_tv (tA x) ∧ fits ty (z_tv (tA x)) = true := by
  rcases hty with ⟨C, rfl⟩ | ⟨t, rfl⟩ <;> cases x <;> exact ⟨rfl, rfl⟩
theorem zv_pA (K : z_Ok X cc ret own nm) {idx ci fk : Nat} {r : Option Nat} {x : Option Nat} {F : zH → Option α} (d : z_D cc pc (.putfield idx) 3 pc') (hL : z_FL own idx ci fk) (hfin : ∀ q, vwCl[ci]? = some q → (q.2.1 fk).2.2.2 = false) (hty : (∃ C, z_ft ci fk = .object C) ∨ ∃ t, z_ft ci fk = .array t) (hf : (z_pF h ci fk r (tA x)).bind F = some a) (kk : ∀ h1, F h1 = some a → zV X pc' lv rest h1 nx k z) : zV X pc lv (tA x :: tA r :: rest) h nx k z := by
  obtain ⟨v, he, hf⟩ := z_bind_inv hf
  exact zv_pF K d hL hfin (z_rf_fits _ x hty).1 (z_rf_fits _ x hty).2 he (kk v hf)
theorem zv_pXA (K : z_Ok X cc ret own "<init>") {idx ci fk : Nat} {r : Option Nat} {x : Option Nat} {F : zH → Option α} (d : z_D cc pc (.putfield idx) 3 pc') (hL : ∃ q : vw_C, vwCl[ci]? = some q ∧ fk < q.2.2 ∧ (q.2.1 fk).2.2.2 = true ∧ (q.2.1 fk).1 = own ∧ Cond.fieldLink own idx (q.2.1 fk).1 (q.2.1 fk).2.1 (q.2.1 fk).2.2.1 ∈ lw_tbl) (hty : (∃ C, z_ft ci fk = .object C) ∨ ∃ t, z_ft ci fk = .array t) (hf : (z_pF h ci fk r (tA x)).bind F = some a) (kk : ∀ h1, F h1 = some a → zV X pc' lv rest h1 nx k z) : zV X pc lv (tA x :: tA r :: rest) h nx k z := by
  obtain ⟨v, he, hf⟩ := z_bind_inv hf
  exact zv_pX K d hL (z_rf_fits _ x hty).1 (z_rf_fits _ x hty).2 he (kk v hf)
theorem zv_pZ (K : z_Ok X cc ret own nm) {idx ci fk : Nat} {r : Option Nat} {x : Int32} {F : zH → Option α} (d : z_D cc pc (.putfield idx) 3 pc') (hL : z_FL own idx ci fk) (hfin : ∀ q, vwCl[ci]? = some q → (q.2.1 fk).2.2.2 = false) (hty : z_ft ci fk = .boolean) (hf : (z_pZ h ci fk r x).bind F = some a) (kk : ∀ h1, F h1 = some a → zV X pc' lv rest h1 nx k z) : zV X pc lv (tI x :: tA r :: rest) h nx k z := by
  obtain ⟨v, he, hf2⟩ := z_bind_inv hf
  unfold z_pZ at he
  split at he
  · rename_i hx
    rcases hx with rfl | rfl
    · exact zv_pF K d hL hfin (by rw [hty]; rfl) (by rw [hty]; rfl) he (kk v hf2)
    · exact zv_pF K d hL hfin (by rw [hty]; rfl) (by rw [hty]; rfl) he (kk v hf2)
  · cases he
end ZW
end
section
section ZA
variable {X : zX} {cc : ByteArray} {ret : Option FieldType} {own nm : String} {pc pc' : Nat} {lv lv' : List (Nat × zTV)} {rest : List zTV} {h : zH} {nx k z : Nat} {α : Type} {T E : Option α} {a : α}
theorem z_own_i {G : zG} {q kd n : Nat} {f : Nat → Int32} (hd : z_dom G h nx) (hq : h q = .inl (kd, n, .inl f)) (hk : kd ≠ 100) : G.1 ≤ q ∧ q < nx :=
  z_dom_in hd (by rw [hq]; intro e; cases e) (by intro n f e; rw [hq] at e; injection e with e; injection e with e _; exact hk e)
theorem z_own_o {G : zG} {q kd n : Nat} {f : (Nat → Int64) ⊕ (Nat → Option Nat)} (hd : z_dom G h nx) (hq : h q = .inl (kd, n, .inr f)) : G.1 ≤ q ∧ q < nx :=
  z_dom_in hd (by rw [hq]; intro e; cases e) (by intro n f e; rw [hq] at e; injection e with e; injection e with _ e; injection e with _ e; cases e)
theorem zv_aI (K : z_Ok X cc ret own nm) {r : Option Nat} {i : Int32} {F : Int32 → Option α} (d : z_D cc pc .iaload 1 pc') (hf : (z_aI h r i).bind F = some a) (kk : ∀ v, F v = some a → zV X pc' lv (tI v :: rest) h nx k z) : zV X pc lv (tI i :: tA r :: rest) h nx k z := by
  obtain ⟨v, he, hf⟩ := z_bind_inv hf
  have kk := kk v hf
  intro H locs ls hH hS hl; obtain ⟨d, rfl⟩ := d
  cases r with
  | none => cases he
  | some q =>
    simp only [z_aI, Option.bind_some] at he
    split at he
    · rename_i kd n f hq
      split at he
      · rename_i hc
        obtain ⟨hkd, hin⟩ := hc
        cases he
        rcases hkd with rfl | rfl
        · obtain ⟨i1, i2⟩ := z_own_i hH.1.2.2.2 hq (by omega)
          exact va_iald K.1 K.2.1 K.2.2.2.2.2.2.2.2.2.2.2.2.1 hH.1.1 _ 0 (by rw [z_ws_get i1 i2, hq]; rfl) rfl hin d (kk H locs ls hH hS hl)
        · by_cases hb : q = X.2.2.1.2.1
          · subst hb
            have e := hq.symm.trans hH.1.2.2.2.1
            injection e with e; injection e with _ e; injection e with e1 e2; injection e2 with e2
            subst e1; subst e2
            exact va_sld (H0 := X.1.2.2.2.1.heap) K.1 K.2.1 K.2.2.2.2.2.2.2.2.2.1 (Nat.lt_of_lt_of_le K.2.2.2.2.2.2.2.2.1.2.1 K.2.2.2.2.2.2.2.2.1.1) (Nat.not_le.mpr K.2.2.2.2.2.2.2.2.1.2.1) hS hin d (kk H locs ls hH hS hl)
          · by_cases ht : q = X.2.2.1.2.2.1
            · subst ht
              have e := hq.symm.trans hH.1.2.2.2.2.1
              injection e with e; injection e with _ e; injection e with e1 e2; injection e2 with e2
              subst e1; subst e2
              exact va_ti K.1 K.2.1 K.2.2.2.2.2.2.2.2.2.2.2.1 hS hin rfl d (kk H locs ls hH hS hl)
            · exact absurd hq (hH.1.2.2.2.2.2.2 q hb ht n f)
      · cases he
    · cases he
theorem zv_aB (K : z_Ok X cc ret own nm) {r : Option Nat} {i : Int32} {F : Int32 → Option α} (d : z_D cc pc .baload 1 pc') (hf : (z_aB h r i).bind F = some a) (kk : ∀ v, F v = some a → zV X pc' lv (tI v :: rest) h nx k z) : zV X pc lv (tI i :: tA r :: rest) h nx k z := by
  obtain ⟨v, he, hf⟩ := z_bind_inv hf
  have kk := kk v hf
  intro H locs ls hH hS hl; obtain ⟨d, rfl⟩ := d
  cases r with
  | none => cases he
  | some q =>
    simp only [z_aB, Option.bind_some] at he
    split at he
    · rename_i kd n f hq
      split at he
      · rename_i hc
        obtain ⟨hkd, hin⟩ := hc
        cases he
        obtain ⟨i1, i2⟩ := z_own_i hH.1.2.2.2 hq (by omega)
        rcases hkd with rfl | rfl
        · exact va_bald K.1 K.2.1 K.2.2.2.2.2.2.2.2.2.2.2.2.1 hH.1.1 _ 1 (by rw [z_ws_get i1 i2, hq]; rfl) rfl hin d (kk H locs ls hH hS hl)
        · exact va_zald K.1 K.2.1 K.2.2.2.2.2.2.2.2.2.2.2.2.1 hH.1.1 _ 2 (by rw [z_ws_get i1 i2, hq]; rfl) rfl hin d (kk H locs ls hH hS hl)
      · cases he
    · cases he
theorem zv_aJ (K : z_Ok X cc ret own nm) {r : Option Nat} {i : Int32} {F : Int64 → Option α} (d : z_D cc pc .laload 1 pc') (hf : (z_aJ h r i).bind F = some a) (kk : ∀ v, F v = some a → zV X pc' lv (tJ v :: rest) h nx k z) : zV X pc lv (tI i :: tA r :: rest) h nx k z := by
  obtain ⟨v, he, hf⟩ := z_bind_inv hf
  have kk := kk v hf
  intro H locs ls hH hS hl; obtain ⟨d, rfl⟩ := d
  cases r with
  | none => cases he
  | some q =>
    simp only [z_aJ, Option.bind_some] at he
    split at he
    · rename_i kd n f hq
      split at he
      · rename_i hc
        obtain ⟨rfl, hin⟩ := hc
        cases he
        obtain ⟨i1, i2⟩ := z_own_o hH.1.2.2.2 hq
        exact va_lald K.1 K.2.1 K.2.2.2.2.2.2.2.2.2.2.2.2.1 hH.1.1 _ 3 (by rw [z_ws_get i1 i2, hq]; rfl) rfl hin d (kk H locs ls hH hS hl)
      · cases he
    · cases he
theorem z_kt {cy : Nat → ClassId} {kd : Nat} (h1 : 4 ≤ kd) (h2 : kd ≤ 8) : ∃ r : vw_C, vwCl[z_kc kd]? = some r ∧ (z_tys cy)[kd]? = some (cy kd, .object r.1) := by
  rcases (show kd = 4 ∨ kd = 5 ∨ kd = 6 ∨ kd = 7 ∨ kd = 8 by omega) with rfl | rfl | rfl | rfl | rfl <;> exact ⟨_, rfl, rfl⟩
theorem zv_aA (K : z_Ok X cc ret own nm) {r : Option Nat} {i : Int32} {F : Option Nat → Option α} (d : z_D cc pc .aaload 1 pc') (hf : (z_aA h r i).bind F = some a) (kk : ∀ v, F v = some a → zV X pc' lv (tA v :: rest) h nx k z) : zV X pc lv (tI i :: tA r :: rest) h nx k z := by
  obtain ⟨v, he, hf⟩ := z_bind_inv hf
  have kk := kk v hf
  intro H locs ls hH hS hl; obtain ⟨d, rfl⟩ := d
  cases r with
  | none => cases he
  | some q =>
    simp only [z_aA, Option.bind_some] at he
    split at he
    · rename_i kd n f hq
      split at he
      · rename_i hc
        obtain ⟨hkd, hin⟩ := hc
        cases he
        obtain ⟨i1, i2⟩ := z_own_o hH.1.2.2.2 hq
        obtain ⟨rr, -, ht⟩ := z_kt (cy := X.2.2.1.2.2.2.2.2.2) hkd.1 hkd.2
        exact va_aldq K.1 K.2.1 K.2.2.2.2.2.2.2.2.2.2.2.2.1 hH.1.1 _ kd (by rw [z_ws_get i1 i2, hq]; rfl) ht hin d (kk H locs ls hH hS hl)
      · cases he
    · cases he
theorem z_tyk {cy : Nat → ClassId} {kd : Nat} (hk : kd ≤ 8) : ∃ ty, (z_tys cy)[kd]? = some (cy kd, ty) := by
  rcases (show kd = 0 ∨ kd = 1 ∨ kd = 2 ∨ kd = 3 ∨ kd = 4 ∨ kd = 5 ∨ kd = 6 ∨ kd = 7 ∨ kd = 8 by omega) with rfl | rfl | rfl | rfl | rfl | rfl | rfl | rfl | rfl <;> exact ⟨_, rfl⟩
theorem zv_len (K : z_Ok X cc ret own nm) {r : Option Nat} {F : Int32 → Option α} (d : z_D cc pc .arraylength 1 pc') (hf : (z_len h r).bind F = some a) (kk : ∀ v, F v = some a → zV X pc' lv (tI v :: rest) h nx k z) : zV X pc lv (tA r :: rest) h nx k z := by
  obtain ⟨v, he, hf⟩ := z_bind_inv hf
  have kk := kk v hf
  intro H locs ls hH hS hl; obtain ⟨d, rfl⟩ := d
  cases r with
  | none => cases he
  | some q =>
    simp only [z_len, Option.bind_some] at he
    split at he
    · rename_i kd n f hq
      split at he
      · rename_i hkd
        cases he
        by_cases hk : kd = 100
        · subst hk
          by_cases hb : q = X.2.2.1.2.1
          · subst hb
            have e := hq.symm.trans hH.1.2.2.2.1
            injection e with e; injection e with _ e; injection e with e1 e2
            subst e1
            exact va_slen (H0 := X.1.2.2.2.1.heap) K.1 K.2.1 K.2.2.2.2.2.2.2.2.2.1 (Nat.lt_of_lt_of_le K.2.2.2.2.2.2.2.2.1.2.1 K.2.2.2.2.2.2.2.2.1.1) (Nat.not_le.mpr K.2.2.2.2.2.2.2.2.1.2.1) hS d (kk H locs ls hH hS hl)
          · by_cases ht : q = X.2.2.1.2.2.1
            · subst ht
              have e := hq.symm.trans hH.1.2.2.2.2.1
              injection e with e; injection e with _ e; injection e with e1 e2
              subst e1
              exact va_tlen K.1 K.2.1 K.2.2.2.2.2.2.2.2.2.2.2.1 hS rfl d (kk H locs ls hH hS hl)
            · exact absurd hq (hH.1.2.2.2.2.2.2 q hb ht n f)
        · have hkd : kd ≤ 8 := by omega
          obtain ⟨i1, i2⟩ := z_own_i hH.1.2.2.2 hq hk
          obtain ⟨ty, hty⟩ := z_tyk (cy := X.2.2.1.2.2.2.2.2.2) hkd
          exact va_alen (x := (n, .inl f)) K.1 K.2.1 K.2.2.2.2.2.2.2.2.2.2.2.2.1 hH.1.1 _ kd (by rw [z_ws_get i1 i2, hq]; rfl) hty rfl d (kk H locs ls hH hS hl)
      · cases he
    · rename_i kd n g hq
      split at he
      · rename_i hkd
        cases he
        obtain ⟨i1, i2⟩ := z_own_o hH.1.2.2.2 hq
        obtain ⟨ty, hty⟩ := z_tyk (cy := X.2.2.1.2.2.2.2.2.2) hkd
        rcases g with f | f
        · exact va_alen (x := (n, .inr (.inl f))) K.1 K.2.1 K.2.2.2.2.2.2.2.2.2.2.2.2.1 hH.1.1 _ kd (by rw [z_ws_get i1 i2, hq]; rfl) hty rfl d (kk H locs ls hH hS hl)
        · exact va_alen (x := (n, .inr (.inr (.inr (.inr f))))) K.1 K.2.1 K.2.2.2.2.2.2.2.2.2.2.2.2.1 hH.1.1 _ kd (by rw [z_ws_get i1 i2, hq]; rfl) hty rfl d (kk H locs ls hH hS hl)
      · cases he
    · cases he
theorem zv_sI (K : z_Ok X cc ret own nm) {r : Option Nat} {i x : Int32} {F : zH → Option α} (d : z_D cc pc .iastore 1 pc') (hf : (z_sI h r i x).bind F = some a) (kk : ∀ h1, F h1 = some a → zV X pc' lv rest h1 nx k z) : zV X pc lv (tI x :: tI i :: tA r :: rest) h nx k z := by
  obtain ⟨v, he, hf⟩ := z_bind_inv hf
  have kk := kk v hf
  intro H locs ls hH hS hl; obtain ⟨d, rfl⟩ := d
  cases r with
  | none => cases he
  | some q =>
    simp only [z_sI, Option.bind_some] at he
    split at he
    · rename_i kd n f hq
      split at he
      · rename_i hc
        obtain ⟨rfl, hin⟩ := hc
        cases he
        obtain ⟨i1, i2⟩ := z_own_i hH.1.2.2.2 hq (by omega)
        exact va_iast K.1 K.2.1 K.2.2.2.2.2.2.2.2.2.2.2.2.1 hH.1.1 z_ws_D (z_S_rf hS) _ 0 (by rw [z_ws_get i1 i2, hq]; rfl) rfl hin d (fun H1 locs1 hP _ hS1 => z_wr K hH hS hl i1 i2 (fun n f e => by injection e with e; injection e with e _; cases e) kk H1 locs1 hP hS1)
      · cases he
    · cases he
theorem zv_sB (K : z_Ok X cc ret own nm) {r : Option Nat} {i x : Int32} {F : zH → Option α} (d : z_D cc pc .bastore 1 pc') (hf : (z_sB h r i x).bind F = some a) (kk : ∀ h1, F h1 = some a → zV X pc' lv rest h1 nx k z) : zV X pc lv (tI x :: tI i :: tA r :: rest) h nx k z := by
  obtain ⟨v, he, hf⟩ := z_bind_inv hf
  have kk := kk v hf
  intro H locs ls hH hS hl; obtain ⟨d, rfl⟩ := d
  cases r with
  | none => cases he
  | some q =>
    simp only [z_sB, Option.bind_some] at he
    split at he
    · rename_i kd n f hq
      split at he
      · rename_i hc
        obtain ⟨hkd, hin⟩ := hc
        cases he
        obtain ⟨i1, i2⟩ := z_own_i hH.1.2.2.2 hq (by omega)
        rcases hkd with rfl | rfl
        · exact va_bast K.1 K.2.1 K.2.2.2.2.2.2.2.2.2.2.2.2.1 hH.1.1 z_ws_D (z_S_rf hS) _ 1 (by rw [z_ws_get i1 i2, hq]; rfl) rfl hin d (fun H1 locs1 hP _ hS1 => z_wr K hH hS hl i1 i2 (fun n f e => by injection e with e; injection e with e _; cases e) kk H1 locs1 hP hS1)
        · exact va_zast K.1 K.2.1 K.2.2.2.2.2.2.2.2.2.2.2.2.1 hH.1.1 z_ws_D (z_S_rf hS) _ 2 (by rw [z_ws_get i1 i2, hq]; rfl) rfl hin d (fun H1 locs1 hP _ hS1 => z_wr K hH hS hl i1 i2 (fun n f e => by injection e with e; injection e with e _; cases e) kk H1 locs1 hP hS1)
      · cases he
    · cases he
theorem zv_sJ (K : z_Ok X cc ret own nm) {r : Option Nat} {i : Int32} {x : Int64} {F : zH → Option α} (d : z_D cc pc .lastore 1 pc') (hf : (z_sJ h r i x).bind F = some a) (kk : ∀ h1, F h1 = some a → zV X pc' lv rest h1 nx k z) : zV X pc lv (tJ x :: tI i :: tA r :: rest) h nx k z := by
  obtain ⟨v, he, hf⟩ := z_bind_inv hf
  have kk := kk v hf
  intro H locs ls hH hS hl; obtain ⟨d, rfl⟩ := d
  cases r with
  | none => cases he
  | some q =>
    simp only [z_sJ, Option.bind_some] at he
    split at he
    · rename_i kd n f hq
      split at he
      · rename_i hc
        obtain ⟨rfl, hin⟩ := hc
        cases he
        obtain ⟨i1, i2⟩ := z_own_o hH.1.2.2.2 hq
        exact va_last K.1 K.2.1 K.2.2.2.2.2.2.2.2.2.2.2.2.1 hH.1.1 z_ws_D (z_S_rf hS) _ 3 (by rw [z_ws_get i1 i2, hq]; rfl) rfl hin d (fun H1 locs1 hP _ hS1 => z_wr K hH hS hl i1 i2 (fun n f e => by injection e with e; injection e with e _; cases e) kk H1 locs1 hP hS1)
      · cases he
    · cases he
theorem zv_sA (K : z_Ok X cc ret own nm) {r : Option Nat} {i : Int32} {x : Option Nat} {F : zH → Option α} (d : z_D cc pc .aastore 1 pc') (hf : (z_sA h r i x).bind F = some a) (kk : ∀ h1, F h1 = some a → zV X pc' lv rest h1 nx k z) : zV X pc lv (tA x :: tI i :: tA r :: rest) h nx k z := by
  obtain ⟨v, he, hf⟩ := z_bind_inv hf
  have kk := kk v hf
  intro H locs ls hH hS hl; obtain ⟨d, rfl⟩ := d
  cases r with
  | none => cases he
  | some q =>
    cases x with
    | none => cases he
    | some w =>
      simp only [z_sA, Option.bind_some] at he
      split at he
      · rename_i kd n f c fs hq hw
        split at he
        · rename_i hc
          obtain ⟨⟨hkd, rfl⟩, hin⟩ := hc
          cases he
          obtain ⟨i1, i2⟩ := z_own_o hH.1.2.2.2 hq
          obtain ⟨rr, hrr, ht⟩ := z_kt (cy := X.2.2.1.2.2.2.2.2.2) hkd.1 hkd.2
          have hlt := z_cls_lt hrr
          obtain ⟨j1, j2⟩ := z_dom_in hH.1.2.2.2 (a := w) (by rw [hw]; intro e; injection e with e; injection e with e _; omega) (by intro n f e; rw [hw] at e; cases e)
          exact va_astq K.1 K.2.1 K.2.2.2.2.2.2.2.2.2.2.2.2.1 hH.1.1 z_ws_D (z_S_rf hS) _ kd (w - X.2.2.1.1) (z_kc kd) (vs := fs.map z_tv) (by rw [z_ws_get i1 i2, hq]; rfl) ht (by rw [z_ws_get j1 j2, hw]; rfl) hrr hin d (fun H1 locs1 hP _ hS1 => z_wr K hH hS hl i1 i2 (fun n f e => by injection e with e; injection e with e _; omega) kk H1 locs1 hP hS1)
        · cases he
      · cases he
/-- System.arraycopy's link -/
def z_AC (own : String) (idx : Nat) : Prop := Cond.methodLink own idx arraycopyName ∈ lw_tbl ∧ Cond.native arraycopyName ∈ lw_tbl ∧ Cond.static arraycopyName ∈ lw_tbl ∧ Cond.initialized "java/lang/System" ∈ lw_tbl
theorem zv_cp (K : z_Ok X cc ret own nm) {idx : Nat} {r w : Option Nat} {sp dp n : Int32} {F : zH → Option α} (d : z_D cc pc (.invokestatic idx) 3 pc') (hL : z_AC own idx) (hR : 1 ≤ X.2.1.frames ∧ 26 ≤ X.2.1.locals) (hrest : (rest.map z_cat).sum ≤ 8) (hf : (z_cp h r sp w dp n).bind F = some a) (kk : ∀ h1, F h1 = some a → zV X pc' lv rest h1 nx k z) : zV X pc lv (tI n :: tI dp :: tA w :: tI sp :: tA r :: rest) h nx k z := by
  obtain ⟨v, he, hf⟩ := z_bind_inv hf
  have kk := kk v hf
  intro H locs ls hH hS hl; obtain ⟨d, rfl⟩ := d
  obtain ⟨l1, l2, l3, l4⟩ := hL
  have hcat : ((rest.map z_tv).map fun v => v.category).sum ≤ 8 := by
    rw [List.map_map]
    have : (fun v => v.category) ∘ z_tv = z_cat := funext z_tv_cat
    rw [this]; exact hrest
  have hlo : ((rest.map z_tv).map fun v => v.category).sum + (nativeFrameWords "java/lang/System" "arraycopy" 5 + 11) ≤ X.2.1.locals := by
    have : nativeFrameWords "java/lang/System" "arraycopy" 5 = 7 := by decide +kernel
    omega
  cases r with
  | none => cases he
  | some q =>
    cases w with
    | none => cases he
    | some b =>
      simp only [z_cp, Option.bind_some] at he
      split at he
      · rename_i ka na f kb nb g hq hb
        split at he
        · rename_i hc
          obtain ⟨⟨rfl, rfl⟩, ⟨c1, c2, c3⟩, c4, c5⟩ := hc
          cases he
          obtain ⟨i1, i2⟩ := z_own_i hH.1.2.2.2 hq (by omega)
          obtain ⟨j1, j2⟩ := z_own_i hH.1.2.2.2 hb (by omega)
          exact va_copyi (ty := .int) K.1 K.2.1 (K.2.2.2.1.trans hl.1.symm) K.2.2.2.2.1 (z_word K l1 rfl) (z_word K l2 rfl) (z_word K l3 rfl) (z_word K l4 rfl) K.2.2.2.2.2.2.2.2.2.2.2.2.1 hH.1.1 z_ws_D (z_S_rf hS) (q - X.2.2.1.1) (b - X.2.2.1.1) 0 0 (by rw [z_ws_get i1 i2, hq]; rfl) (by rw [z_ws_get j1 j2, hb]; rfl) rfl rfl rfl c1 c2 c3 c4 c5 (fun _ _ => rfl) hR.1 hlo d (fun H1 locs1 hP _ hS1 => z_wr K hH hS hl j1 j2 (fun n f e => by injection e with e; injection e with e _; cases e) kk H1 locs1 hP hS1)
        · cases he
      · rename_i ka na f kb nb g hq hb
        split at he
        · rename_i hc
          obtain ⟨⟨rfl, rfl⟩, ⟨c1, c2, c3⟩, c4, c5⟩ := hc
          cases he
          obtain ⟨i1, i2⟩ := z_own_o hH.1.2.2.2 hq
          obtain ⟨j1, j2⟩ := z_own_o hH.1.2.2.2 hb
          exact va_copyl (ty := .long) K.1 K.2.1 (K.2.2.2.1.trans hl.1.symm) K.2.2.2.2.1 (z_word K l1 rfl) (z_word K l2 rfl) (z_word K l3 rfl) (z_word K l4 rfl) K.2.2.2.2.2.2.2.2.2.2.2.2.1 hH.1.1 z_ws_D (z_S_rf hS) (q - X.2.2.1.1) (b - X.2.2.1.1) 3 3 (by rw [z_ws_get i1 i2, hq]; rfl) (by rw [z_ws_get j1 j2, hb]; rfl) rfl rfl rfl c1 c2 c3 c4 c5 (fun _ _ => rfl) hR.1 hlo d (fun H1 locs1 hP _ hS1 => z_wr K hH hS hl j1 j2 (fun n f e => by injection e with e; injection e with e _; cases e) kk H1 locs1 hP hS1)
        · cases he
      · cases he
theorem zv_step (K : z_Ok X cc ret own nm) {idx : Nat} (d : z_D cc pc (.getstatic idx) 3 pc') (hL : Cond.fieldLink own idx "ThinkingArms" "STEP" "[I" ∈ lw_tbl ∨ ∃ host, Cond.fieldLinkNest own idx "ThinkingArms" "STEP" "[I" host ∈ lw_tbl) (kk : zV X pc' lv (tA (some X.2.2.1.2.2.1) :: rest) h nx k z) : zV X pc lv rest h nx k z := by
  intro H locs ls hH hS hl; obtain ⟨d, rfl⟩ := d
  rcases hL with hL | ⟨host, hL⟩
  · exact va_gets K.1 K.2.1 K.2.2.2.2.2.2.2.2.2.2.1 hS K.2.2.2.2.1 (z_word K hL rfl) (fun _ e => e) d (kk H locs ls hH hS hl)
  · exact va_getsN K.1 K.2.1 K.2.2.2.2.2.2.2.2.2.2.1 hS K.2.2.2.2.1 (z_nword K hL rfl rfl) (fun _ e => e) d (kk H locs ls hH hS hl)
end ZA
end
section
/-! new cells, calls, answers, contracts -/
def z_Pc (G : zG) (as : List zTV) (h : zH) (nx : Nat) : Array Value → State → Prop := fun v U => v = (as.map z_tv).toArray ∧ z_Hp G h nx U.heap ∧ U.heap.size = nx ∧ z_St G U
def z_Qc (G : zG) (r : Option zTV) (h : zH) (nx : Nat) : Array Value → State → Outcome → State → Prop := fun _ st o t => o = .returned (r.map z_tv) ∧ z_Hp G h nx t.heap ∧ va_F (z_A G) st t
def z_Ct (l : Launch) (G : zG) (y : MethodName) (cc : ByteArray) (maxL : Nat) (ret : Option FieldType) (rm : Room) (as : List zTV) (h : zH) (nx : Nat) (r : Option zTV) (h' : zH) (nx' mc ms : Nat) : Prop :=
  Met l y (.code y cc maxL ret :: z_tb) rm (z_Pc G as h nx) (z_Qc G r h' nx') mc ms (z_A G)
theorem z_St_go {G : zG} {s U : State} {H : Heap} {locs : List Loc} (h : z_St G s) (hS : va_S (z_A G) s.heap H locs) (hU : U.heap = H) (hW : s.WarmedH U.vm) : z_St G U := by
  obtain ⟨⟨a1, a2, a3⟩, b1, b2, b3, b4, b5, b6⟩ := h
  have hkeep : ∀ a : Nat, a < s.heap.size → ¬ z_A G a → U.heap[a]? = s.heap[a]? := fun a h1 h2 => by rw [hU]; exact hS.2.1 a h1 h2
  refine ⟨⟨by rw [hU]; exact Nat.le_trans a1 hS.1, a2, a3⟩, ?_, ?_, ?_, ?_, ?_, ?_⟩
  · exact (va_X.kept b1 (hkeep _ (by omega) (Nat.not_le.mpr a2))).moved hW.alike
  · exact va_Z.moved hW.alike (va_Z.kept b2 hkeep)
  · exact va_T.moved hW.alike (va_T.kept b3 hkeep)
  · exact va_K.moved hW.alike b4
  · intro w hw
    have h0 := b5 w hw
    have hn := (List.mem_filter.mp hw).2
    cases w <;> first | exact va_Nw.warmF hW h0 | exact va_Nw.warmM hW h0 | (simp [z_isN] at hn)
  · exact ⟨va_AO.moved hW.alike b6.1, va_AO.moved hW.alike b6.2.1, va_AO.moved hW.alike b6.2.2.1, va_AO.moved hW.alike b6.2.2.2.1, va_AO.moved hW.alike b6.2.2.2.2⟩
theorem z_St_blind {G : zG} {U : State} (g : JFrame) (mk : MethodId) (a : Array Value) (h : z_St G U) : z_St G (U.calling g mk a) := by
  obtain ⟨a1, b1, b2, b3, b4, b5, b6⟩ := h
  refine ⟨a1, va_X.moved (u := U) (U := U.calling g mk a) (Vm.Alike.refl U.vm) b1, va_Z.moved (u := U) (U := U.calling g mk a) (Vm.Alike.refl U.vm) b2, va_T.moved (u := U) (U := U.calling g mk a) (Vm.Alike.refl U.vm) b3, va_K.moved (u := U) (U := U.calling g mk a) (Vm.Alike.refl U.vm) b4, fun w hw => ?_, ?_⟩
  · have h0 := b5 w hw
    have hn := (List.mem_filter.mp hw).2
    refine va_Nw.same (u := U) (U := U.calling g mk a) ?_ rfl h0
    cases w <;> first | rfl | (simp [z_isN] at hn)
  · exact ⟨va_AO.moved (u := U) (U := U.calling g mk a) (Vm.Alike.refl U.vm) b6.1, va_AO.moved (u := U) (U := U.calling g mk a) (Vm.Alike.refl U.vm) b6.2.1, va_AO.moved (u := U) (U := U.calling g mk a) (Vm.Alike.refl U.vm) b6.2.2.1, va_AO.moved (u := U) (U := U.calling g mk a) (Vm.Alike.refl U.vm) b6.2.2.2.1, va_AO.moved (u := U) (U := U.calling g mk a) (Vm.Alike.refl U.vm) b6.2.2.2.2⟩
theorem z_Pc_blind (G : zG) (as : List zTV) (h : zH) (nx : Nat) : FrameBlind (z_Pc G as h nx) := fun a U g mk hp => ⟨hp.1, hp.2.1, hp.2.2.1, z_St_blind g mk a hp.2.2.2⟩
theorem z_goodIn {w : Cond} (hm : w ∈ lw_tbl) (hg : goodWord w = true) : GoodIn z_tb (w :: z_tb) := by
  intro v hv
  rcases List.mem_cons.mp hv with rfl | hv
  · exact ⟨List.mem_filter.mpr ⟨hm, hg⟩, good_of_word hg⟩
  · exact ⟨hv, good_of_word (List.mem_filter.mp hv).2⟩
theorem z_szT {p : Program} {l : Launch} {e : Env} {R : Room} {s : State} {m : MethodId} {args : Array Value} {below : List Frame} {meth : Method} {c : Code} {T : State} {locs : List Loc} {cells slots : Nat} (S : Stand p l e R s m args below meth c T locs cells slots) : T.heap.size ≤ s.heap.size + cells := S.same.2.2.1
section ZC
variable {X : zX} {cc : ByteArray} {ret : Option FieldType} {own nm : String} {pc pc' : Nat} {lv lv' : List (Nat × zTV)} {rest : List zTV} {h : zH} {nx k z : Nat} {α : Type} {T E : Option α} {a : α}
theorem z_catsum (l : List zTV) : ((l.map z_tv).map fun v => v.category).sum = (l.map z_cat).sum := by
  rw [List.map_map]
  have : (fun v => v.category) ∘ z_tv = z_cat := funext z_tv_cat
  rw [this]
theorem zv_objInit (K : z_Ok X cc ret own nm) {idx : Nat} {r : Option Nat} {F : Nat → Option α} (d : z_D cc pc (.invokespecial idx) 3 pc') (hL : Cond.methodLink own idx objectInit ∈ lw_tbl) (hI : Cond.instanceMethod objectInit ∈ lw_tbl) (hC : Cond.code objectInit ⟨#[0xb1]⟩ 1 none ∈ lw_tbl) (hR : 1 ≤ X.2.1.frames ∧ 20 ≤ X.2.1.locals) (hrest : (rest.map z_cat).sum ≤ 8) (hf : r.bind F = some a) (kk : ∀ v, F v = some a → zV X pc' lv rest h nx k z) : zV X pc lv (tA r :: rest) h nx k z := by
  obtain ⟨v, he, hf⟩ := z_bind_inv hf
  subst he
  have kk := kk v hf
  intro H locs ls hH hS hl; obtain ⟨d, rfl⟩ := d
  exact W.objInit K.1 K.2.1 K.2.2.2.2.1 (z_word K hL rfl) (z_word K hI rfl) (z_word K hC rfl) rfl (hl.1.trans K.2.2.2.1.symm) rfl d hR.1 (by
    have := z_catsum rest
    show 2 * 0 + _ + 12 ≤ _
    omega) (kk H locs ls hH hS hl)
theorem z_sized {H : Heap} {locs : List Loc} {g : JFrame} (hH : z_Hs X h nx k H) (kk : H.size = nx → W X.1.1 X.1.2.1 X.1.2.2.1 X.2.1 X.1.2.2.2.1 X.1.2.2.2.2.1 X.1.2.2.2.2.2.1 X.1.2.2.2.2.2.2.1 X.1.2.2.2.2.2.2.2.1 X.1.2.2.2.2.2.2.2.2 H locs k z X.2.2.2.2 g) : W X.1.1 X.1.2.1 X.1.2.2.1 X.2.1 X.1.2.2.2.1 X.1.2.2.2.2.1 X.1.2.2.2.2.2.1 X.1.2.2.2.2.2.2.1 X.1.2.2.2.2.2.2.2.1 X.1.2.2.2.2.2.2.2.2 H locs k z X.2.2.2.2 g :=
  fun T hT XX => kk (by have h1 := z_szT XX; rw [hT] at h1; have h2 := hH.1.2.1; have h3 := hH.2; omega) T hT XX
theorem zv_new (K : z_Ok X cc ret own nm) {idx : Nat} (ci : Nat) (q : vw_C) (fs : List zTV) (k' z' : Nat) (d : z_D cc pc (.new idx) 3 pc') (hc : vwCl[ci]? = some q) (hL : Cond.classLink own idx q.1 ∈ lw_tbl) (hI : Cond.instantiable q.1 q.2.2 ∈ lw_tbl) (hT : Cond.initialized q.1 ∈ lw_tbl) (hfs : ∀ j, j < q.2.2 → defaultValue (z_ft ci j) = vp_V (fs.map z_tv) j) (hk : k + 1 = k') (hz : z + q.2.2 = z') (hR : k' ≤ X.2.1.cells ∧ z' ≤ X.2.1.slots)
    (kk : zV X pc' lv (tA (some nx) :: rest) (z_up h nx (.inr (ci, fs))) (nx + 1) k' z') : zV X pc lv rest h nx k z := by
  subst hk; subst hz
  intro H locs ls hH hS hl; obtain ⟨d, rfl⟩ := d
  refine z_sized hH (fun hsz => ?_)
  have hKn := K.2.2.2.2.2.2.2.2.2.2.2.2.1.1 ci _ hc
  refine W.newcK K.1 K.2.1 K.2.2.2.2.1 (z_word K hL rfl) (z_word K hI rfl) (z_word K hT rfl) rfl d hR.1 hR.2 hKn.2.1 hsz (fun H1 kC hkC e1 z1 o1 => ?_)
  have hkp : ∀ (j : Nat) (x : Nat × va_E), (z_ws X.2.2.1 h nx)[j]? = some x → H1[x.1]? = H[x.1]? := fun j x hx => o1 x.1 (by rw [← hsz]; exact (hH.1.1 j x hx).lt)
  have hP1 : va_P X.2.2.1.2.2.2.2.2.1 vwCl (z_ws X.2.2.1 h nx ++ [(nx, z_E X.2.2.1.2.2.2.2.2.2 (.inr (ci, fs)))]) H1 := by
    refine (va_P.kept hH.1.1 hkp).app (fun j x hx => ?_)
    have hj : j < 1 := (List.getElem?_eq_some_iff.mp hx).1
    rw [show j = 0 by omega] at hx
    cases hx
    exact ⟨_, hc, (u_born (z_ft ci) K.2.2.2.2.2.1 (z_in hc) hKn hkC e1 (z_ft_ok hc).1).to hfs⟩
  rw [z_ws_push hH.1.2.2.1] at hP1
  exact kk H1 locs ls ⟨⟨hP1, by omega, by have := hH.1.2.2.1; omega, z_dom_push hH.1.2.2.2 K.2.2.2.2.2.2.2.2.1.2 hH.1.2.2.1 _ (fun n f e => by cases e)⟩, by have := hH.2; omega⟩ ⟨by have := hS.1; omega, fun x h1 h2 => (o1 x (by have := hS.1; omega)).trans (hS.2.1 x h1 h2), hS.2.2⟩ hl
theorem z_newP {kd N : Nat} {c : zMC} {H H1 : Heap} {v : Value} (hP : va_P X.2.2.1.2.2.2.2.2.1 vwCl (z_ws X.2.2.1 h nx) H) (hsz : H.size = nx) (o1 : ∀ q, q < nx → H1[q]? = H[q]?) (hn : X.2.2.1.1 ≤ nx) (hat : va_at X.2.2.1.2.2.2.2.2.1 vwCl (nx, z_E X.2.2.1.2.2.2.2.2.2 c) H1) : va_P X.2.2.1.2.2.2.2.2.1 vwCl (z_ws X.2.2.1 (z_up h nx c) (nx + 1)) H1 := by
  rw [← z_ws_push hn]
  refine (va_P.kept hP (fun j x hx => o1 x.1 (by rw [← hsz]; exact (hP j x hx).lt))).app (fun j x hx => ?_)
  have hj : j < 1 := (List.getElem?_eq_some_iff.mp hx).1
  rw [show j = 0 by omega] at hx
  cases hx
  exact hat
theorem zv_newarr (K : z_Ok X cc ret own nm) {atype : ArrayType} {n : Int32} (kd N : Nat) (c : zMC) (k' z' : Nat) (d : z_D cc pc (.newarray atype) 2 pc') (harr : Cond.arrayClass (newarray.typeOf atype) ∈ lw_tbl) (hkd : ∀ cy, (z_tys cy)[kd]? = some (cy kd, newarray.typeOf atype)) (hra : ∀ U cA, va_RA U cA (newarray.typeOf atype) → U.vm.findClass ("[" ++ (newarray.typeOf atype).toString) = some cA) (hat : ∀ (cy : Nat → ClassId), ∃ x, z_E cy c = .inl (cy kd, x) ∧ ∀ cA, vp_cell cA x = arrV cA N (fun _ => defaultValue (newarray.typeOf atype))) (hnk : z_nk c) (hn : ¬ n < 0) (hN : n.toNatClampNeg = N) (hb : N * componentBytes (newarray.typeOf atype) ≤ 536870912) (hk : k + 1 = k') (hz : z + N = z') (hR : k' ≤ X.2.1.cells ∧ z' ≤ X.2.1.slots)
    (kk : zV X pc' lv (tA (some nx) :: rest) (z_up h nx c) (nx + 1) k' z') : zV X pc lv (tI n :: rest) h nx k z := by
  subst hk; subst hz
  intro H locs ls hH hS hl; obtain ⟨d, rfl⟩ := d
  refine z_sized hH (fun hsz => ?_)
  refine va_newaK K.1 K.2.1 (z_word K harr rfl) rfl d rfl hn hN hb hR.1 hR.2 hsz (fun H1 cA e1 z1 o1 hAr hNm => ?_)
  have hcy := hra _ _ (K.2.2.2.2.2.2.2.2.2.2.2.2.1.2 kd _ (hkd X.2.2.1.2.2.2.2.2.2)).2
  have hcA : cA = X.2.2.1.2.2.2.2.2.2 kd := Option.some.inj (hNm.symm.trans hcy)
  obtain ⟨x, hx1, hx2⟩ := hat X.2.2.1.2.2.2.2.2.2
  have hP1 := z_newP (c := c) (kd := kd) (N := N) (v := .null) hH.1.1 hsz o1 hH.1.2.2.1 (by
    rw [hx1]
    show H1[nx]? = some (vp_cell _ _)
    rw [hx2, ← hcA]
    exact e1)
  exact kk H1 locs ls ⟨⟨hP1, by omega, by have := hH.1.2.2.1; omega, z_dom_push hH.1.2.2.2 K.2.2.2.2.2.2.2.2.1.2 hH.1.2.2.1 _ hnk⟩, by have := hH.2; omega⟩ ⟨by have := hS.1; omega, fun x h1 h2 => (o1 x (by have := hS.1; omega)).trans (hS.2.1 x h1 h2), hS.2.2⟩ hl
theorem zv_newI (K : z_Ok X cc ret own nm) {n : Int32} (N k' z' : Nat) (d : z_D cc pc (.newarray .int) 2 pc') (harr : Cond.arrayClass .int ∈ lw_tbl) (hn : ¬ n < 0) (hN : n.toNatClampNeg = N) (hb : N * 4 ≤ 536870912) (hk : k + 1 = k') (hz : z + N = z') (hR : k' ≤ X.2.1.cells ∧ z' ≤ X.2.1.slots)
    (kk : zV X pc' lv (tA (some nx) :: rest) (z_up h nx (.inl (0, N, .inl (fun _ => 0)))) (nx + 1) k' z') : zV X pc lv (tI n :: rest) h nx k z :=
  zv_newarr K 0 N _ k' z' d harr (fun _ => rfl) (fun _ _ e => e) (fun cy => ⟨(N, .inl (fun _ => 0)), rfl, fun _ => rfl⟩) (fun n f e => by injection e with e; injection e with e _; cases e) hn hN hb hk hz hR kk
theorem zv_newB (K : z_Ok X cc ret own nm) {n : Int32} (N k' z' : Nat) (d : z_D cc pc (.newarray .byte) 2 pc') (harr : Cond.arrayClass .byte ∈ lw_tbl) (hn : ¬ n < 0) (hN : n.toNatClampNeg = N) (hb : N * 1 ≤ 536870912) (hk : k + 1 = k') (hz : z + N = z') (hR : k' ≤ X.2.1.cells ∧ z' ≤ X.2.1.slots)
    (kk : zV X pc' lv (tA (some nx) :: rest) (z_up h nx (.inl (1, N, .inl (fun _ => 0)))) (nx + 1) k' z') : zV X pc lv (tI n :: rest) h nx k z :=
  zv_newarr K 1 N _ k' z' d harr (fun _ => rfl) (fun _ _ e => e) (fun cy => ⟨(N, .inl (fun _ => 0)), rfl, fun _ => rfl⟩) (fun n f e => by injection e with e; injection e with e _; cases e) hn hN hb hk hz hR kk
theorem zv_newZ (K : z_Ok X cc ret own nm) {n : Int32} (N k' z' : Nat) (d : z_D cc pc (.newarray .boolean) 2 pc') (harr : Cond.arrayClass .boolean ∈ lw_tbl) (hn : ¬ n < 0) (hN : n.toNatClampNeg = N) (hb : N * 1 ≤ 536870912) (hk : k + 1 = k') (hz : z + N = z') (hR : k' ≤ X.2.1.cells ∧ z' ≤ X.2.1.slots)
    (kk : zV X pc' lv (tA (some nx) :: rest) (z_up h nx (.inl (2, N, .inl (fun _ => 0)))) (nx + 1) k' z') : zV X pc lv (tI n :: rest) h nx k z :=
  zv_newarr K 2 N _ k' z' d harr (fun _ => rfl) (fun _ _ e => e) (fun cy => ⟨(N, .inl (fun _ => 0)), rfl, fun _ => rfl⟩) (fun n f e => by injection e with e; injection e with e _; cases e) hn hN hb hk hz hR kk
theorem zv_newJ (K : z_Ok X cc ret own nm) {n : Int32} (N k' z' : Nat) (d : z_D cc pc (.newarray .long) 2 pc') (harr : Cond.arrayClass .long ∈ lw_tbl) (hn : ¬ n < 0) (hN : n.toNatClampNeg = N) (hb : N * 8 ≤ 536870912) (hk : k + 1 = k') (hz : z + N = z') (hR : k' ≤ X.2.1.cells ∧ z' ≤ X.2.1.slots)
    (kk : zV X pc' lv (tA (some nx) :: rest) (z_up h nx (.inl (3, N, .inr (.inl (fun _ => 0))))) (nx + 1) k' z') : zV X pc lv (tI n :: rest) h nx k z :=
  zv_newarr K 3 N _ k' z' d harr (fun _ => rfl) (fun _ _ e => e) (fun cy => ⟨(N, .inr (.inl (fun _ => 0))), rfl, fun _ => rfl⟩) (fun n f e => by injection e with e; injection e with e _; cases e) hn hN hb hk hz hR kk
theorem z_over (K : z_Ok X cc ret own nm) {kd : Nat} (h1 : 4 ≤ kd) (h2 : kd ≤ 8) {r : vw_C} (hr : vwCl[z_kc kd]? = some r) : va_AO r.1 X.1.2.2.2.1 := by
  have b6 := K.2.2.2.2.2.2.2.2.2.2.2.2.2.2
  rcases (show kd = 4 ∨ kd = 5 ∨ kd = 6 ∨ kd = 7 ∨ kd = 8 by omega) with rfl | rfl | rfl | rfl | rfl <;> cases hr
  · exact b6.1
  · exact b6.2.1
  · exact b6.2.2.1
  · exact b6.2.2.2.1
  · exact b6.2.2.2.2
theorem zv_newA (K : z_Ok X cc ret own nm) {idx : Nat} {n : Int32} (kd N k' z' : Nat) (r : vw_C) (d : z_D cc pc (.anewarray idx) 3 pc') (hkd : 4 ≤ kd ∧ kd ≤ 8) (hr : vwCl[z_kc kd]? = some r) (hL : Cond.classLink own idx r.1 ∈ lw_tbl) (hn : ¬ n < 0) (hN : n.toNatClampNeg = N) (hb : N * 4 ≤ 536870912) (hk : k + 1 = k') (hz : z + N = z') (hR : k' ≤ X.2.1.cells ∧ z' ≤ X.2.1.slots)
    (kk : zV X pc' lv (tA (some nx) :: rest) (z_up h nx (.inl (kd, N, .inr (.inr (fun _ => none))))) (nx + 1) k' z') : zV X pc lv (tI n :: rest) h nx k z := by
  subst hk; subst hz; subst hN
  intro H locs ls hH hS hl; obtain ⟨d, rfl⟩ := d
  refine z_sized hH (fun hsz => ?_)
  refine W.anew K.1 K.2.1 K.2.2.2.2.1 (z_word K hL rfl) (va_AO.use (z_over K hkd.1 hkd.2 hr)) rfl d rfl hn hb hR.1 hR.2 (fun cA kA comp f1 f2 f3 f4 => ?_)
  obtain ⟨rr, hrr, htt⟩ := z_kt (cy := X.2.2.1.2.2.2.2.2.2) hkd.1 hkd.2
  cases hr.symm.trans hrr
  obtain ⟨kA', comp', g1, g2, g3, g4⟩ := (K.2.2.2.2.2.2.2.2.2.2.2.2.1.2 kd _ htt).2
  have hcA : cA = X.2.2.1.2.2.2.2.2.2 kd := Option.some.inj (f1.symm.trans g4)
  generalize hH1 : H.push ({ cls := cA, slots := Array.replicate n.toNatClampNeg .null, vm := .none } : Cell) = H1
  have z1 : H1.size = H.size + 1 := by rw [← hH1, Array.size_push]
  have e1 : H1[H.size]? = some (arrV cA n.toNatClampNeg (fun _ => .null)) := by rw [← hH1, Array.getElem?_push_size, ← arrV_new]
  have o1 : ∀ q : Nat, q < H.size → H1[q]? = H[q]? := fun q hq => by rw [← hH1, Array.getElem?_push, if_neg (Nat.ne_of_lt hq)]
  rw [hsz] at z1 e1 o1 ⊢
  have hP1 := z_newP (c := .inl (kd, n.toNatClampNeg, .inr (.inr (fun _ => none)))) (kd := kd) (N := 0) (v := .null) hH.1.1 hsz o1 hH.1.2.2.1 (by
    show H1[nx]? = some (vp_cell (X.2.2.1.2.2.2.2.2.2 kd) (n.toNatClampNeg, .inr (.inr (.inr (.inr (fun _ => none))))))
    rw [vp_cell_q, ← hcA]
    exact e1)
  exact kk H1 locs ls ⟨⟨hP1, by omega, by have := hH.1.2.2.1; omega, z_dom_push hH.1.2.2.2 K.2.2.2.2.2.2.2.2.1.2 hH.1.2.2.1 _ (fun n f e => by injection e with e; injection e with _ e; injection e with _ e; cases e)⟩, by have := hH.2; omega⟩ ⟨by have := hS.1; omega, fun x h1 h2 => (o1 x (by have := hS.1; omega)).trans (hS.2.1 x h1 h2), hS.2.2⟩ hl
/-! calls -/
theorem z_pre (K : z_Ok X cc ret own nm) {as : List zTV} {H : Heap} {locs : List Loc} (hH : z_Hs X h nx k H) (hS : va_S (z_A X.2.2.1) X.1.2.2.2.1.heap H locs) (hsz : H.size = nx) : PreS X.1.2.2.2.1 H (z_Pc X.2.2.1 as h nx) (as.map z_tv) :=
  ⟨z_Pc_blind _ _ _ _, fun U hU hW => ⟨rfl, by rw [hU]; exact hH.1, by rw [hU]; exact hsz, z_St_go K.2.2.2.2.2.2.2.2 hS hU hW⟩⟩
theorem z_after {r : Option zTV} {h' : zH} {nx' mc ms : Nat} {H : Heap} {locs : List Loc} {ls : Array Slot} {st0 : List Value} {ar : Array Value} (hr : va_Run X.1.1 X.1.2.1 X.1.2.2.1 X.2.1 X.1.2.2.2.1 X.1.2.2.2.2.1 X.1.2.2.2.2.2.1 X.1.2.2.2.2.2.2.1 X.1.2.2.2.2.2.2.2.1 X.1.2.2.2.2.2.2.2.2 H locs k z mc ms (F0 X.1.2.2.2.2.1 pc ls st0) (rest.map z_tv) (z_Qc X.2.2.1 r h' nx' ar) (z_A X.2.2.1)) (hH : z_Hs X h nx k H) (hS : va_S (z_A X.2.2.1) X.1.2.2.2.1.heap H locs) (hl : lv_has ls X.2.2.2.1 (lv.map z_lm)) (hnx : nx + mc = nx') (kk : zV X (pc + 3) lv (r.toList ++ rest) h' nx' (k + mc) (z + ms)) :
    W X.1.1 X.1.2.1 X.1.2.2.1 X.2.1 X.1.2.2.2.1 X.1.2.2.2.2.1 X.1.2.2.2.2.2.1 X.1.2.2.2.2.2.2.1 X.1.2.2.2.2.2.2.2.1 X.1.2.2.2.2.2.2.2.2 H locs k z X.2.2.2.2 (F0 X.1.2.2.2.2.1 pc ls st0) := by
  intro T hT XX
  obtain ⟨v, st₀, t, T', L, h0, X', hL, e1, e2, ⟨hv, hHp, hF⟩, st⟩ := hr T hT XX
  cases hv
  obtain ⟨hz, hk⟩ := hF
  rw [h0] at hz hk
  obtain ⟨t2, a1, b1⟩ := kk T'.heap (locs ++ L) ls ⟨by rw [e1]; exact hHp, by have := hH.2; omega⟩ ⟨by rw [e1]; exact Nat.le_trans hS.1 hz, fun q g1 g2 => by rw [e1, hk q (Nat.lt_of_lt_of_le g1 hS.1) g2]; exact hS.2.1 q g1 g2, fun q hq => by
      rcases List.mem_append.mp hq with g | g
      · exact hS.2.2 q g
      · exact hL q g⟩ hl T' rfl X'
  refine ⟨t2, st t2 ?_, b1⟩
  have : (r.toList ++ rest).map z_tv = (r.map z_tv).toList ++ rest.map z_tv := by cases r <;> simp
  rw [this] at a1
  exact a1
/-- a method's words, beside its link -/
def z_Md (y : MethodName) (cc2 : ByteArray) (maxL : Nat) (ret2 : Option FieldType) (n : Nat) : Prop := Cond.initialized y.cls ∈ lw_tbl ∧ Cond.code y cc2 maxL ret2 ∈ lw_tbl ∧ (y.cls ≠ "java/lang/invoke/MethodHandle" ∧ y.cls ≠ "java/lang/invoke/VarHandle" ∧ (parseMethodDescriptor y.desc).map (fun d => d.parameters.length) = some n)
def z_Lk (own : String) (idx : Nat) (y : MethodName) : Prop := Cond.methodLink own idx y ∈ lw_tbl ∨ ∃ host, Cond.methodLinkNest own idx y host ∈ lw_tbl
theorem zv_callS (K : z_Ok X cc ret own nm) {idx n maxL mc ms nx' : Nat} {y : MethodName} {cc2 : ByteArray} {ret2 : Option FieldType} {rm : Room} {r : Option zTV} {h' : zH} (as : List zTV) (rest : List zTV) {st : List zTV} (d : z_D cc pc (.invokestatic idx) 3 pc') (hL : z_Lk own idx y) (hM : z_Md y cc2 maxL ret2 n) (hst : Cond.static y ∈ lw_tbl) (hn : as.length = n) (hse : st = as.reverse ++ rest) (hrest : (rest.map z_cat).sum ≤ 8)
    (hc : z_Ct X.1.2.1 X.2.2.1 y cc2 maxL ret2 rm as h nx r h' nx' mc ms) (hrc : rm.cells = mc) (hrs : rm.slots = ms) (hR : rm.frames + 1 ≤ X.2.1.frames ∧ 8 + (maxL + 11) + rm.locals ≤ X.2.1.locals) (hf : k + mc ≤ X.2.1.cells ∧ z + ms ≤ X.2.1.slots) (hnx : nx + mc = nx') (kk : zV X pc' lv (r.toList ++ rest) h' nx' (k + mc) (z + ms)) : zV X pc lv st h nx k z := by
  subst hse
  intro H locs ls hH hS hl; obtain ⟨d, rfl⟩ := d
  intro T0 hT0 XX
  have hsz : H.size = nx := by have h1 := z_szT XX; rw [hT0] at h1; have h2 := hH.1.2.1; have h3 := hH.2; omega
  have hpre := z_pre (as := as) K hH hS hsz
  have hlr : 2 * (F0 X.1.2.2.2.2.1 pc ls (((as.reverse ++ rest).map z_tv))).monitorRoom + ((rest.map z_tv).map fun v => v.category).sum ≤ 8 := by have := z_catsum rest; exact lv_room (by omega)
  have hstk : (as.reverse ++ rest).map z_tv = (as.map z_tv).reverse ++ rest.map z_tv := by rw [List.map_append, List.map_reverse]
  have hG : GoodIn z_tb (Cond.code y cc2 maxL ret2 :: z_tb) := z_goodIn hM.2.1 rfl
  rcases hL with hL | ⟨host, hL⟩
  · exact z_after (ar := (as.map z_tv).toArray) (va_runS (n := n) (g := F0 X.1.2.2.2.2.1 pc ls ((as.reverse ++ rest).map z_tv)) ⟨K.1, K.2.1, K.2.2.2.1, K.2.2.2.2.1, K.2.2.2.2.2.1⟩ hc ⟨callB_of n K.2.2.2.2.2.1 hG rfl hrc hrs (z_word K hM.1 rfl) (z_word K hL rfl) hM.2.2 hR, z_word K hst rfl⟩ hpre rfl (by rw [List.length_map]; exact hn) hl.1 hstk hlr d hf) hH hS hl hnx kk T0 hT0 XX
  · exact z_after (ar := (as.map z_tv).toArray) (va_runSN (n := n) (host := host) (g := F0 X.1.2.2.2.2.1 pc ls ((as.reverse ++ rest).map z_tv)) ⟨K.1, K.2.1, K.2.2.2.1, K.2.2.2.2.1, K.2.2.2.2.2.1⟩ hc ⟨va_cnB n K.2.2.2.2.2.1 hG rfl hrc hrs (va_Nw.of rfl (z_nword K hL rfl rfl)) (z_word K hM.1 rfl) hM.2.2 hR, z_word K hst rfl, trivial⟩ hpre rfl (by rw [List.length_map]; exact hn) hl.1 hstk hlr d hf) hH hS hl hnx kk T0 hT0 XX
theorem z_ck_inv {ci q : Nat} {r : Option Nat} (he : z_ck h ci r = some q) : r = some q ∧ ∃ fs, h q = .inr (ci, fs) := by
  cases r with
  | none => cases he
  | some b =>
    simp only [z_ck, Option.bind_some] at he
    split at he
    · rename_i c fs hq
      split at he
      · rename_i hc; cases he; subst hc; exact ⟨rfl, fs, hq⟩
      · cases he
    · cases he
theorem zv_callV (K : z_Ok X cc ret own nm) {idx n maxL mc ms nx' ci q : Nat} {y : MethodName} {cc2 : ByteArray} {ret2 : Option FieldType} {rm : Room} {r : Option zTV} {h' : zH} {b : Option Nat} {qc : vw_C} (as : List zTV) (rest : List zTV) {st : List zTV} (d : z_D cc pc (.invokevirtual idx) 3 pc') (hL : z_Lk own idx y) (hM : z_Md y cc2 maxL ret2 n) (hi : Cond.instanceMethod y ∈ lw_tbl) (hsl : Cond.selects qc.1 y y ∈ lw_tbl) (hcl : vwCl[ci]? = some qc) (hn : as.length = n) (hse : st = as.reverse ++ tA b :: rest) (hrest : (rest.map z_cat).sum ≤ 8) (hck : z_ck h ci b = some q)
    (hc : z_Ct X.1.2.1 X.2.2.1 y cc2 maxL ret2 rm (tA b :: as) h nx r h' nx' mc ms) (hrc : rm.cells = mc) (hrs : rm.slots = ms) (hR : rm.frames + 1 ≤ X.2.1.frames ∧ 8 + (maxL + 11) + rm.locals ≤ X.2.1.locals) (hf : k + mc ≤ X.2.1.cells ∧ z + ms ≤ X.2.1.slots) (hnx : nx + mc = nx') (kk : zV X pc' lv (r.toList ++ rest) h' nx' (k + mc) (z + ms)) : zV X pc lv st h nx k z := by
  obtain ⟨rfl, fs, hq⟩ := z_ck_inv hck
  subst hse
  intro H locs ls hH hS hl; obtain ⟨d, rfl⟩ := d
  intro T0 hT0 XX
  have hsz : H.size = nx := by have h1 := z_szT XX; rw [hT0] at h1; have h2 := hH.1.2.1; have h3 := hH.2; omega
  have hpre := z_pre (as := tA (some q) :: as) K hH hS hsz
  have hlt := z_cls_lt hcl
  obtain ⟨i1, i2⟩ := z_dom_in hH.1.2.2.2 (a := q) (by rw [hq]; intro e; injection e with e; injection e with e _; omega) (by intro n f e; rw [hq] at e; cases e)
  have hw : (z_ws X.2.2.1 h nx)[q - X.2.2.1.1]? = some (q, .inr (ci, fs.map z_tv)) := by rw [z_ws_get i1 i2, hq]; rfl
  have hpv : PreV X.1.2.2.2.1 H qc.1 q (z_Pc X.2.2.1 (tA (some q) :: as) h nx) (as.map z_tv) := ⟨hpre.1, va_recv K.2.2.2.2.2.2.2.2.2.2.2.2.1 hH.1.1 hcl hw, hpre.2⟩
  have hlr : 2 * (F0 X.1.2.2.2.2.1 pc ls (((as.reverse ++ tA (some q) :: rest).map z_tv))).monitorRoom + ((rest.map z_tv).map fun v => v.category).sum ≤ 8 := by have := z_catsum rest; exact lv_room (by omega)
  have hstk : (as.reverse ++ tA (some q) :: rest).map z_tv = (as.map z_tv).reverse ++ .ref q :: rest.map z_tv := by rw [List.map_append, List.map_reverse]; rfl
  have hG : GoodIn z_tb (Cond.code y cc2 maxL ret2 :: z_tb) := z_goodIn hM.2.1 rfl
  rcases hL with hL | ⟨host, hL⟩
  · exact z_after (ar := (Value.ref q :: as.map z_tv).toArray) (va_runV (n := n) (g := F0 X.1.2.2.2.2.1 pc ls ((as.reverse ++ tA (some q) :: rest).map z_tv)) ⟨K.1, K.2.1, K.2.2.2.1, K.2.2.2.2.1, K.2.2.2.2.2.1⟩ hc ⟨callB_of n K.2.2.2.2.2.1 hG rfl hrc hrs (z_word K hM.1 rfl) (z_word K hL rfl) hM.2.2 hR, z_word K hi rfl, z_word K hsl rfl⟩ hpv rfl (by rw [List.length_map]; exact hn) hl.1 hstk hlr d hf) hH hS hl hnx kk T0 hT0 XX
  · exact z_after (ar := (Value.ref q :: as.map z_tv).toArray) (va_runVN (n := n) (host := host) (g := F0 X.1.2.2.2.2.1 pc ls ((as.reverse ++ tA (some q) :: rest).map z_tv)) ⟨K.1, K.2.1, K.2.2.2.1, K.2.2.2.2.1, K.2.2.2.2.2.1⟩ hc ⟨va_cnB n K.2.2.2.2.2.1 hG rfl hrc hrs (va_Nw.of rfl (z_nword K hL rfl rfl)) (z_word K hM.1 rfl) hM.2.2 hR, z_word K hi rfl, z_word K hsl rfl⟩ hpv rfl (by rw [List.length_map]; exact hn) hl.1 hstk hlr d hf) hH hS hl hnx kk T0 hT0 XX
theorem zv_callI (K : z_Ok X cc ret own nm) {idx n maxL mc ms nx' q : Nat} {y : MethodName} {cc2 : ByteArray} {rm : Room} {r : Option zTV} {h' : zH} {b : Option Nat} (as : List zTV) (rest : List zTV) {st : List zTV} (d : z_D cc pc (.invokespecial idx) 3 pc') (hL : z_Lk own idx y) (hM : z_Md y cc2 maxL none n) (hi : Cond.instanceMethod y ∈ lw_tbl) (hnm : y.name = "<init>") (hn : as.length = n) (hse : st = as.reverse ++ tA b :: rest) (hrest : (rest.map z_cat).sum ≤ 8) (hck : b = some q)
    (hc : z_Ct X.1.2.1 X.2.2.1 y cc2 maxL none rm (tA b :: as) h nx r h' nx' mc ms) (hrc : rm.cells = mc) (hrs : rm.slots = ms) (hR : rm.frames + 1 ≤ X.2.1.frames ∧ 8 + (maxL + 11) + rm.locals ≤ X.2.1.locals) (hf : k + mc ≤ X.2.1.cells ∧ z + ms ≤ X.2.1.slots) (hnx : nx + mc = nx') (kk : zV X pc' lv (r.toList ++ rest) h' nx' (k + mc) (z + ms)) : zV X pc lv st h nx k z := by
  subst hck
  subst hse
  intro H locs ls hH hS hl; obtain ⟨d, rfl⟩ := d
  intro T0 hT0 XX
  have hsz : H.size = nx := by have h1 := z_szT XX; rw [hT0] at h1; have h2 := hH.1.2.1; have h3 := hH.2; omega
  have hpre := z_pre (as := tA (some q) :: as) K hH hS hsz
  have hlr : 2 * (F0 X.1.2.2.2.2.1 pc ls (((as.reverse ++ tA (some q) :: rest).map z_tv))).monitorRoom + ((rest.map z_tv).map fun v => v.category).sum ≤ 8 := by have := z_catsum rest; exact lv_room (by omega)
  have hstk : (as.reverse ++ tA (some q) :: rest).map z_tv = (as.map z_tv).reverse ++ .ref q :: rest.map z_tv := by rw [List.map_append, List.map_reverse]; rfl
  have hG : GoodIn z_tb (Cond.code y cc2 maxL none :: z_tb) := z_goodIn hM.2.1 rfl
  rcases hL with hL | ⟨host, hL⟩
  · exact z_after (ar := (Value.ref q :: as.map z_tv).toArray) (va_runI (n := n) (g := F0 X.1.2.2.2.2.1 pc ls ((as.reverse ++ tA (some q) :: rest).map z_tv)) ⟨K.1, K.2.1, K.2.2.2.1, K.2.2.2.2.1, K.2.2.2.2.2.1⟩ hc ⟨callB_of n K.2.2.2.2.2.1 hG rfl hrc hrs (z_word K hM.1 rfl) (z_word K hL rfl) hM.2.2 hR, hnm, z_word K hi rfl⟩ hpre rfl (by rw [List.length_map]; exact hn) hl.1 hstk hlr d hf) hH hS hl hnx kk T0 hT0 XX
  · exact z_after (ar := (Value.ref q :: as.map z_tv).toArray) (va_runIN (n := n) (host := host) (g := F0 X.1.2.2.2.2.1 pc ls ((as.reverse ++ tA (some q) :: rest).map z_tv)) ⟨K.1, K.2.1, K.2.2.2.1, K.2.2.2.2.1, K.2.2.2.2.2.1⟩ hc ⟨va_cnB n K.2.2.2.2.2.1 hG rfl hrc hrs (va_Nw.of rfl (z_nword K hL rfl rfl)) (z_word K hM.1 rfl) hM.2.2 hR, hnm, z_word K hi rfl⟩ hpre rfl (by rw [List.length_map]; exact hn) hl.1 hstk hlr d hf) hH hS hl hnx kk T0 hT0 XX
/-! answers -/
def z_Rt (X : zX) (r : Option zTV) (h : zH) (nx k z : Nat) : Prop := X.2.2.2.2 = MQ X.1.2.2.2.2.2.2.1 (z_Qc X.2.2.1 r h nx) X.1.2.2.2.2.2.1 X.1.2.2.2.1 k z (z_A X.2.2.1)
theorem zv_iret (K : z_Ok X cc (some .int) own nm) {v : Int32} (d : z_D cc pc .ireturn 1 pc') (hq : z_Rt X (some (tI v)) h nx k z) : zV X pc lv [tI v] h nx k z := by
  intro H locs ls hH hS hl; obtain ⟨d, rfl⟩ := d
  rw [hq]
  exact W.iret K.1 K.2.1 K.2.2.1 (fun t ht hW => ⟨rfl, by rw [ht]; exact hH.1, hS.F ht⟩) hS.2.2 d K.2.2.2.2.2.2.1
theorem zv_zret (K : z_Ok X cc (some .boolean) own nm) {v : Int32} (d : z_D cc pc .ireturn 1 pc') (hv : v = 0 ∨ v = 1) (hq : z_Rt X (some (tI v)) h nx k z) : zV X pc lv [tI v] h nx k z := by
  intro H locs ls hH hS hl; obtain ⟨d, rfl⟩ := d
  rw [hq]
  exact W.zret (ty := .boolean) K.1 K.2.1 K.2.2.1 (by rcases hv with rfl | rfl <;> rfl) (fun t ht hW => ⟨rfl, by rw [ht]; exact hH.1, hS.F ht⟩) hS.2.2 d K.2.2.2.2.2.2.1
theorem zv_lret (K : z_Ok X cc (some .long) own nm) {v : Int64} (d : z_D cc pc .lreturn 1 pc') (hq : z_Rt X (some (tJ v)) h nx k z) : zV X pc lv [tJ v] h nx k z := by
  intro H locs ls hH hS hl; obtain ⟨d, rfl⟩ := d
  rw [hq]
  exact W.lret K.1 K.2.1 K.2.2.1 (fun t ht hW => ⟨rfl, by rw [ht]; exact hH.1, hS.F ht⟩) hS.2.2 d K.2.2.2.2.2.2.1
theorem zv_vret (K : z_Ok X cc none own nm) (d : z_D cc pc .return_ 1 pc') (hq : z_Rt X none h nx k z) : zV X pc lv [] h nx k z := by
  intro H locs ls hH hS hl; obtain ⟨d, rfl⟩ := d
  rw [hq]
  exact W.vret K.1 K.2.1 K.2.2.1 (fun t ht hW => ⟨rfl, by rw [ht]; exact hH.1, hS.F ht⟩) hS.2.2 d K.2.2.2.2.2.2.1
theorem zv_aret {C : String} (K : z_Ok X cc (some (.object C)) own nm) {v : Option Nat} (d : z_D cc pc .areturn 1 pc') (hq : z_Rt X (some (tA v)) h nx k z) : zV X pc lv [tA v] h nx k z := by
  intro H locs ls hH hS hl; obtain ⟨d, rfl⟩ := d
  rw [hq]
  exact W.aret (v := z_tv (tA v)) K.1 K.2.1 K.2.2.1 (Or.inl ⟨C, rfl⟩) (by cases v with
    | none => exact Or.inl rfl
    | some q => exact Or.inr ⟨q, rfl⟩) (fun t ht hW => ⟨rfl, by rw [ht]; exact hH.1, hS.F ht⟩) hS.2.2 d K.2.2.2.2.2.2.1
end ZC
def z_args : Nat → List zTV → List (Nat × zTV)
  | _, [] => []
  | i, v :: vs => (i, v) :: z_args (if z_cat v = 2 then i + 2 else i + 1) vs
theorem z_args_map : ∀ (as : List zTV) (i : Nat), lv_args i (as.map z_tv) = (z_args i as).map z_lm
  | [], _ => rfl
  | v :: vs, i => by
    show (i, z_tv v) :: lv_args (if (z_tv v).category = 2 then i + 2 else i + 1) (vs.map z_tv) = _
    rw [z_tv_cat, z_args_map vs]
    rfl
theorem z_sl_len : ∀ (as : List zTV), (lg_sl (as.map z_tv)).length = (as.map z_cat).sum
  | [] => rfl
  | v :: vs => by
    have ih := z_sl_len vs
    have e : lg_sl ((v :: vs).map z_tv) = (if (z_tv v).category = 2 then [Slot.val (z_tv v), Slot.second] else [Slot.val (z_tv v)]) ++ lg_sl (vs.map z_tv) := rfl
    rw [e, List.length_append, ih, z_tv_cat, List.map_cons, List.sum_cons]
    rcases v with x | x | x <;> rfl
theorem z_enter {l : Launch} {G : zG} {y : MethodName} {cc : ByteArray} {maxL : Nat} {ret : Option FieldType} {rm : Room} {as : List zTV} {h : zH} {nx : Nat} {r : Option zTV} {h' : zH} {nx' mc ms : Nat} (lv0 : List (Nat × zTV)) (hy : plainName y.cls = true) (hlen : (as.map z_cat).sum ≤ maxL) (hlv : z_args 0 as = lv0)
    (body : ∀ X : zX, X.1.2.1 = l → X.2.1 = rm → X.2.2.1 = G → X.2.2.2.1 = maxL → z_Ok X cc ret y.cls y.name → z_Rt X r h' nx' mc ms → zV X 0 lv0 [] h nx 0 0) : z_Ct l G y cc maxL ret rm as h nx r h' nx' mc ms := by
  refine Met.ofW (cc := cc) (maxL := maxL) (ret := ret) hy rfl ?_
  intro p e s m args below meth c s₁ B hml hv
  obtain ⟨rfl, hHp, hsz, hSt⟩ := hv
  have hts := atoms_spec (ws := Cond.code y cc maxL ret :: z_tb) B.pre
  have hown : s.vm.findClass y.cls = some m.cls := findClass_of_methodNamed B.named
  have hl := lv_entry (as.map z_tv) (n := maxL) (by rw [z_sl_len]; exact hlen)
  rw [lg_entry_eq]
  generalize (lg_sl (as.map z_tv) ++ List.replicate (maxL - (lg_sl (as.map z_tv)).length) Slot.unset).toArray = ls at hl ⊢
  rw [z_args_map, hlv] at hl
  exact body ((p, l, e, s, m, (as.map z_tv).toArray, below, meth, c), rm, G, maxL, MQ below (z_Qc G r h' nx') (as.map z_tv).toArray s mc ms (z_A G)) rfl rfl rfl rfl ⟨B.exec, B.bytes, B.returns, hml, hown, fun w hw => hts w (List.mem_cons_of_mem _ hw), B.notSynchronized, (name_of_methodNamed B.named B.method).1, hSt⟩ rfl s.heap [] ls ⟨hHp, hsz⟩ va_S.rf hl
end
section
/-! what the printed walks take -/
def z_Xo (X : zX) (rm : Room) (L : Nat) : Prop := X.2.1 = rm ∧ X.2.2.2.1 = L
theorem z_lt {n m i : Nat} (h : n = m) (hi : i < m) : i < n := h ▸ hi
theorem z_le {n m i : Nat} (h : n = m) (hi : i ≤ m) : i ≤ n := h ▸ hi
theorem z_fr {X : zX} {rm : Room} {L : Nat} (h : z_Xo X rm L) : X.2.1.frames = rm.frames := by rw [h.1]
theorem z_lo {X : zX} {rm : Room} {L : Nat} (h : z_Xo X rm L) : X.2.1.locals = rm.locals := by rw [h.1]
def z_P0I (X : zX) (nx : Nat) (x : Int32 × zH) : Prop := z_Rt X (some (tI x.1)) x.2 nx 0 0
def z_P0J (X : zX) (nx : Nat) (x : Int64 × zH) : Prop := z_Rt X (some (tJ x.1)) x.2 nx 0 0
def z_P0A (X : zX) (nx : Nat) (x : Option Nat × zH) : Prop := z_Rt X (some (tA x.1)) x.2 nx 0 0
def z_P0V (X : zX) (nx : Nat) (x : zH) : Prop := z_Rt X none x nx 0 0
def z_P0Im (X : zX) (nx0 z0 : Nat) (nz : Nat × Nat) (x : Int32 × zH) : Prop := z_Rt X (some (tI x.1)) x.2 nz.1 (nz.1 - nx0) (nz.2 - z0)
def z_P0Am (X : zX) (nx0 z0 : Nat) (nz : Nat × Nat) (x : Option Nat × zH) : Prop := z_Rt X (some (tA x.1)) x.2 nz.1 (nz.1 - nx0) (nz.2 - z0)
def z_P0Vm (X : zX) (nx0 z0 : Nat) (nz : Nat × Nat) (x : zH) : Prop := z_Rt X none x nz.1 (nz.1 - nx0) (nz.2 - z0)
def z_PL {σ α : Type} (P : σ → Prop) (Q : α → Prop) : σ ⊕ α → Prop
  | .inl s => P s
  | .inr a => Q a
theorem z_PL_of {σ α : Type} {P : σ → Prop} {Q : α → Prop} {x : α} {y : σ ⊕ α} (hy : match y with
    | .inl s' => P s'
    | .inr b => b = x) (hp : Q x) : z_PL P Q y := by
  cases y with
  | inl s => exact hy
  | inr b =>
    have hy : b = x := hy
    subst hy
    exact hp
def z_i1 {σ α : Type} (x : Option α) : Option (σ ⊕ α) := x.map Sum.inr
theorem z_i1_inv {σ α : Type} {x : Option α} {y : σ ⊕ α} (h : z_i1 x = some y) : ∃ a, x = some a ∧ y = Sum.inr a := by
  cases x with
  | none => cases h
  | some a => cases h; exact ⟨a, rfl, rfl⟩
theorem z_i1_some {σ α : Type} (a : α) : (z_i1 (some a) : Option (σ ⊕ α)) = some (Sum.inr a) := rfl
def z_i1m {σ α : Type} (x : Option ((Nat × Nat) × α)) : Option ((Nat × Nat) × (σ ⊕ α)) := x.map fun p => (p.1, Sum.inr p.2)
theorem z_i1m_inv {σ α : Type} {x : Option ((Nat × Nat) × α)} {y : (Nat × Nat) × (σ ⊕ α)} (h : z_i1m x = some y) : ∃ a, x = some a ∧ y = (a.1, Sum.inr a.2) := by
  cases x with
  | none => cases h
  | some a => cases h; exact ⟨a, rfl, rfl⟩
def z_ds {σ α : Type} (y : (Nat × Nat) × (σ ⊕ α)) : ((Nat × Nat) × σ) ⊕ ((Nat × Nat) × α) := match y.2 with
  | .inl s => .inl (y.1, s)
  | .inr a => .inr (y.1, a)
def z_Pm {α : Type} (X : zX) (nx0 z0 : Nat) (P : Nat × Nat → α → Prop) (x : (Nat × Nat) × α) : Prop := (x.1.1 ≤ nx0 + X.2.1.cells ∧ x.1.2 ≤ z0 + X.2.1.slots) ∧ P x.1 x.2
theorem z_bd {α : Type} {X : zX} {nx0 z0 n1 z1 : Nat} {P : Nat × Nat → α → Prop} {x : (Nat × Nat) × α} (hp : z_Pm X nx0 z0 P x) (hb : n1 ≤ x.1.1 ∧ z1 ≤ x.1.2) : n1 - nx0 ≤ X.2.1.cells ∧ z1 - z0 ≤ X.2.1.slots := by
  obtain ⟨⟨h1, h2⟩, -⟩ := hp
  omega
theorem z_itm {σ α : Type} {body : (Nat × Nat) × σ → Option ((Nat × Nat) × (σ ⊕ α))} {P : σ → Nat × Nat → Prop} {Q : Nat × Nat → α → Prop} {X : zX} {nx0 z0 : Nat}
    (step : ∀ (s : σ) (nz : Nat × Nat) (y : (Nat × Nat) × (σ ⊕ α)), (nx0 ≤ nz.1 ∧ z0 ≤ nz.2) → body (nz, s) = some y → z_Pm X nx0 z0 (fun nz => z_PL (fun s => P s nz) (Q nz)) y → P s nz)
    (mono : ∀ (s : σ) (nz : Nat × Nat) (y : (Nat × Nat) × (σ ⊕ α)), body (nz, s) = some y → nz.1 ≤ y.1.1 ∧ nz.2 ≤ y.1.2)
    {s : σ} {nz : Nat × Nat} {x : (Nat × Nat) × α} (hm : nx0 ≤ nz.1 ∧ z0 ≤ nz.2) (hp : z_Pm X nx0 z0 Q x) (hf : z_it (fun q => (body q).map z_ds) (nz, s) = some x) : P s nz := by
  have key : ∀ q : (Nat × Nat) × σ, z_it (fun q => (body q).map z_ds) q = some x → ((nx0 ≤ q.1.1 ∧ z0 ≤ q.1.2) → P q.2 q.1) ∧ q.1.1 ≤ nx0 + X.2.1.cells ∧ q.1.2 ≤ z0 + X.2.1.slots := by
    intro q hq
    refine z_it_ind (P := fun q : (Nat × Nat) × σ => ((nx0 ≤ q.1.1 ∧ z0 ≤ q.1.2) → P q.2 q.1) ∧ q.1.1 ≤ nx0 + X.2.1.cells ∧ q.1.2 ≤ z0 + X.2.1.slots) (fun q' w hb hw => ?_) hq
    obtain ⟨nz', s'⟩ := q'
    cases hbb : body (nz', s') with
    | none => simp [hbb] at hb
    | some y =>
      rw [hbb] at hb
      have hb : some (z_ds y) = some w := hb
      cases hb
      have hmo := mono s' nz' y hbb
      obtain ⟨ny, y2⟩ := y
      cases y2 with
      | inl t =>
        have hw : ((nx0 ≤ ny.1 ∧ z0 ≤ ny.2) → P t ny) ∧ ny.1 ≤ nx0 + X.2.1.cells ∧ ny.2 ≤ z0 + X.2.1.slots := hw
        refine ⟨fun h0 => step s' nz' _ h0 hbb ⟨hw.2, hw.1 ?_⟩, ?_, ?_⟩
        · have h0' : nx0 ≤ nz'.1 ∧ z0 ≤ nz'.2 := h0
          have hmo' : nz'.1 ≤ ny.1 ∧ nz'.2 ≤ ny.2 := hmo
          omega
        · have hmo' : nz'.1 ≤ ny.1 ∧ nz'.2 ≤ ny.2 := hmo
          show nz'.1 ≤ _
          omega
        · have hmo' : nz'.1 ≤ ny.1 ∧ nz'.2 ≤ ny.2 := hmo
          show nz'.2 ≤ _
          omega
      | inr b =>
        have hw : (ny, b) = x := hw
        subst hw
        have hmo' : nz'.1 ≤ ny.1 ∧ nz'.2 ≤ ny.2 := hmo
        have hp1 : ny.1 ≤ nx0 + X.2.1.cells ∧ ny.2 ≤ z0 + X.2.1.slots := hp.1
        refine ⟨fun h0 => step s' nz' _ h0 hbb ⟨hp.1, hp.2⟩, ?_, ?_⟩
        · show nz'.1 ≤ _
          omega
        · show nz'.2 ≤ _
          omega
  exact (key (nz, s) hf).1 hm
theorem z_itmo {σ α : Type} {body : (Nat × Nat) × σ → Option ((Nat × Nat) × (σ ⊕ α))}
    (mono : ∀ (s : σ) (nz : Nat × Nat) (y : (Nat × Nat) × (σ ⊕ α)), body (nz, s) = some y → nz.1 ≤ y.1.1 ∧ nz.2 ≤ y.1.2)
    {s : σ} {nz : Nat × Nat} {x : (Nat × Nat) × α} (hf : z_it (fun q => (body q).map z_ds) (nz, s) = some x) : nz.1 ≤ x.1.1 ∧ nz.2 ≤ x.1.2 := by
  refine z_it_ind (P := fun q : (Nat × Nat) × σ => q.1.1 ≤ x.1.1 ∧ q.1.2 ≤ x.1.2) (fun q' w hb hw => ?_) hf
  obtain ⟨nz', s'⟩ := q'
  cases hbb : body (nz', s') with
  | none => simp [hbb] at hb
  | some y =>
    rw [hbb] at hb
    have hb : some (z_ds y) = some w := hb
    cases hb
    have hmo := mono s' nz' y hbb
    obtain ⟨ny, y2⟩ := y
    have hmo' : nz'.1 ≤ ny.1 ∧ nz'.2 ≤ ny.2 := hmo
    cases y2 with
    | inl t =>
      have hw : ny.1 ≤ x.1.1 ∧ ny.2 ≤ x.1.2 := hw
      show nz'.1 ≤ x.1.1 ∧ nz'.2 ≤ x.1.2
      omega
    | inr b =>
      have hw : (ny, b) = x := hw
      subst hw
      exact hmo'
section ZK
variable {X : zX} {cc : ByteArray} {ret : Option FieldType} {own nm : String} {pc pc' : Nat} {lv : List (Nat × zTV)} {h : zH} {nx k z : Nat}
theorem zv_cS0 (K : z_Ok X cc ret own nm) {idx n maxL : Nat} {y : MethodName} {cc2 : ByteArray} {ret2 : Option FieldType} {rm : Room} {r : Option zTV} {h' : zH} (as : List zTV) (rest : List zTV) {st : List zTV} (d : z_D cc pc (.invokestatic idx) 3 pc') (hL : z_Lk own idx y) (hM : z_Md y cc2 maxL ret2 n) (hst : Cond.static y ∈ lw_tbl) (hn : as.length = n) (hse : st = as.reverse ++ rest) (hrest : (rest.map z_cat).sum ≤ 8)
    (hc : z_Ct X.1.2.1 X.2.2.1 y cc2 maxL ret2 rm as h nx r h' nx 0 0) (hrc : rm.cells = 0) (hrs : rm.slots = 0) (hR : rm.frames + 1 ≤ X.2.1.frames ∧ 8 + (maxL + 11) + rm.locals ≤ X.2.1.locals) (hk : k ≤ X.2.1.cells ∧ z ≤ X.2.1.slots) (kk : zV X pc' lv (r.toList ++ rest) h' nx k z) : zV X pc lv st h nx k z :=
  zv_callS K as rest d hL hM hst hn hse hrest hc hrc hrs hR hk rfl kk
theorem zv_cV0 (K : z_Ok X cc ret own nm) {idx n maxL ci q : Nat} {y : MethodName} {cc2 : ByteArray} {ret2 : Option FieldType} {rm : Room} {r : Option zTV} {h' : zH} {b : Option Nat} {qc : vw_C} (as : List zTV) (rest : List zTV) {st : List zTV} (d : z_D cc pc (.invokevirtual idx) 3 pc') (hL : z_Lk own idx y) (hM : z_Md y cc2 maxL ret2 n) (hi : Cond.instanceMethod y ∈ lw_tbl) (hsl : Cond.selects y.cls y y ∈ lw_tbl) (hcl : vwCl[ci]? = some qc) (hqc : qc.1 = y.cls) (hn : as.length = n) (hse : st = as.reverse ++ tA b :: rest) (hrest : (rest.map z_cat).sum ≤ 8) (hck : z_ck h ci b = some q)
    (hc : z_Ct X.1.2.1 X.2.2.1 y cc2 maxL ret2 rm (tA b :: as) h nx r h' nx 0 0) (hrc : rm.cells = 0) (hrs : rm.slots = 0) (hR : rm.frames + 1 ≤ X.2.1.frames ∧ 8 + (maxL + 11) + rm.locals ≤ X.2.1.locals) (hk : k ≤ X.2.1.cells ∧ z ≤ X.2.1.slots) (kk : zV X pc' lv (r.toList ++ rest) h' nx k z) : zV X pc lv st h nx k z :=
  zv_callV K as rest d hL hM hi (by rw [hqc]; exact hsl) hcl hn hse hrest hck hc hrc hrs hR hk rfl kk
theorem zv_cI0 (K : z_Ok X cc ret own nm) {idx n maxL q : Nat} {y : MethodName} {cc2 : ByteArray} {rm : Room} {r : Option zTV} {h' : zH} {b : Option Nat} (as : List zTV) (rest : List zTV) {st : List zTV} (d : z_D cc pc (.invokespecial idx) 3 pc') (hL : z_Lk own idx y) (hM : z_Md y cc2 maxL none n) (hi : Cond.instanceMethod y ∈ lw_tbl) (hnm : y.name = "<init>") (hn : as.length = n) (hse : st = as.reverse ++ tA b :: rest) (hrest : (rest.map z_cat).sum ≤ 8) (hck : b = some q)
    (hc : z_Ct X.1.2.1 X.2.2.1 y cc2 maxL none rm (tA b :: as) h nx r h' nx 0 0) (hrc : rm.cells = 0) (hrs : rm.slots = 0) (hR : rm.frames + 1 ≤ X.2.1.frames ∧ 8 + (maxL + 11) + rm.locals ≤ X.2.1.locals) (hk : k ≤ X.2.1.cells ∧ z ≤ X.2.1.slots) (kk : zV X pc' lv (r.toList ++ rest) h' nx k z) : zV X pc lv st h nx k z :=
  zv_callI K as rest d hL hM hi hnm hn hse hrest hck hc hrc hrs hR hk rfl kk
theorem zv_cV1 (K : z_Ok X cc ret own nm) {idx n maxL mc ms nx' ci q : Nat} {y : MethodName} {cc2 : ByteArray} {ret2 : Option FieldType} {rm : Room} {r : Option zTV} {h' : zH} {b : Option Nat} {qc : vw_C} (as : List zTV) (rest : List zTV) {st : List zTV} (k' z' : Nat) (d : z_D cc pc (.invokevirtual idx) 3 pc') (hL : z_Lk own idx y) (hM : z_Md y cc2 maxL ret2 n) (hi : Cond.instanceMethod y ∈ lw_tbl) (hsl : Cond.selects y.cls y y ∈ lw_tbl) (hcl : vwCl[ci]? = some qc) (hqc : qc.1 = y.cls) (hn : as.length = n) (hse : st = as.reverse ++ tA b :: rest) (hrest : (rest.map z_cat).sum ≤ 8) (hck : z_ck h ci b = some q)
    (hc : z_Ct X.1.2.1 X.2.2.1 y cc2 maxL ret2 rm (tA b :: as) h nx r h' nx' mc ms) (hrc : rm.cells = mc) (hrs : rm.slots = ms) (hR : rm.frames + 1 ≤ X.2.1.frames ∧ 8 + (maxL + 11) + rm.locals ≤ X.2.1.locals) (hnx : nx + mc = nx') (hk : k + mc = k') (hz : z + ms = z') (hf : k' ≤ X.2.1.cells ∧ z' ≤ X.2.1.slots) (kk : zV X pc' lv (r.toList ++ rest) h' nx' k' z') : zV X pc lv st h nx k z := by
  subst hk; subst hz
  exact zv_callV K as rest d hL hM hi (by rw [hqc]; exact hsl) hcl hn hse hrest hck hc hrc hrs hR hf hnx kk
theorem zv_cI1 (K : z_Ok X cc ret own nm) {idx n maxL mc ms nx' q : Nat} {y : MethodName} {cc2 : ByteArray} {rm : Room} {r : Option zTV} {h' : zH} {b : Option Nat} (as : List zTV) (rest : List zTV) {st : List zTV} (k' z' : Nat) (d : z_D cc pc (.invokespecial idx) 3 pc') (hL : z_Lk own idx y) (hM : z_Md y cc2 maxL none n) (hi : Cond.instanceMethod y ∈ lw_tbl) (hnm : y.name = "<init>") (hn : as.length = n) (hse : st = as.reverse ++ tA b :: rest) (hrest : (rest.map z_cat).sum ≤ 8) (hck : b = some q)
    (hc : z_Ct X.1.2.1 X.2.2.1 y cc2 maxL none rm (tA b :: as) h nx r h' nx' mc ms) (hrc : rm.cells = mc) (hrs : rm.slots = ms) (hR : rm.frames + 1 ≤ X.2.1.frames ∧ 8 + (maxL + 11) + rm.locals ≤ X.2.1.locals) (hnx : nx + mc = nx') (hk : k + mc = k') (hz : z + ms = z') (hf : k' ≤ X.2.1.cells ∧ z' ≤ X.2.1.slots) (kk : zV X pc' lv (r.toList ++ rest) h' nx' k' z') : zV X pc lv st h nx k z := by
  subst hk; subst hz
  exact zv_callI K as rest d hL hM hi hnm hn hse hrest hck hc hrc hrs hR hf hnx kk
end ZK
end
section
theorem fl_X0_15 : z_FL RX0 15 0 5 := ⟨_, rfl, by decide, Or.inl (List.mem_of_getElem? (i := 121) (by decide +kernel))⟩
theorem fl_X0_18 : z_FL RX0 18 0 6 := ⟨_, rfl, by decide, Or.inl (List.mem_of_getElem? (i := 124) (by decide +kernel))⟩
theorem fl_X0_21 : z_FL RX0 21 0 7 := ⟨_, rfl, by decide, Or.inl (List.mem_of_getElem? (i := 127) (by decide +kernel))⟩
theorem fl_X0_27 : z_FL RX0 27 0 0 := ⟨_, rfl, by decide, Or.inl (List.mem_of_getElem? (i := 103) (by decide +kernel))⟩
theorem fl_X0_31 : z_FL RX0 31 0 1 := ⟨_, rfl, by decide, Or.inl (List.mem_of_getElem? (i := 107) (by decide +kernel))⟩
theorem fl_X0_34 : z_FL RX0 34 0 2 := ⟨_, rfl, by decide, Or.inl (List.mem_of_getElem? (i := 110) (by decide +kernel))⟩
theorem fl_X0_37 : z_FL RX0 37 0 3 := ⟨_, rfl, by decide, Or.inl (List.mem_of_getElem? (i := 114) (by decide +kernel))⟩
theorem fl_X0_9 : z_FL RX0 9 0 4 := ⟨_, rfl, by decide, Or.inl (List.mem_of_getElem? (i := 117) (by decide +kernel))⟩
theorem fl_X10_10 : z_FL RX10 10 10 0 := ⟨_, rfl, by decide, Or.inl (List.mem_of_getElem? (i := 336) (by decide +kernel))⟩
theorem fl_X10_113 : z_FL RX10 113 6 6 := ⟨_, rfl, by decide, Or.inr ⟨"ThinkingArms", List.mem_of_getElem? (i := 199) (by decide +kernel)⟩⟩
theorem fl_X10_123 : z_FL RX10 123 6 3 := ⟨_, rfl, by decide, Or.inr ⟨"ThinkingArms", List.mem_of_getElem? (i := 192) (by decide +kernel)⟩⟩
theorem fl_X10_127 : z_FL RX10 127 0 4 := ⟨_, rfl, by decide, Or.inr ⟨"ThinkingArms", List.mem_of_getElem? (i := 119) (by decide +kernel)⟩⟩
theorem fl_X10_132 : z_FL RX10 132 0 5 := ⟨_, rfl, by decide, Or.inr ⟨"ThinkingArms", List.mem_of_getElem? (i := 122) (by decide +kernel)⟩⟩
theorem fl_X10_135 : z_FL RX10 135 0 6 := ⟨_, rfl, by decide, Or.inr ⟨"ThinkingArms", List.mem_of_getElem? (i := 125) (by decide +kernel)⟩⟩
theorem fl_X10_138 : z_FL RX10 138 0 7 := ⟨_, rfl, by decide, Or.inr ⟨"ThinkingArms", List.mem_of_getElem? (i := 128) (by decide +kernel)⟩⟩
theorem fl_X10_150 : z_FL RX10 150 6 5 := ⟨_, rfl, by decide, Or.inr ⟨"ThinkingArms", List.mem_of_getElem? (i := 197) (by decide +kernel)⟩⟩
theorem fl_X10_154 : z_FL RX10 154 8 1 := ⟨_, rfl, by decide, Or.inr ⟨"ThinkingArms", List.mem_of_getElem? (i := 163) (by decide +kernel)⟩⟩
theorem fl_X10_16 : z_FL RX10 16 10 1 := ⟨_, rfl, by decide, Or.inl (List.mem_of_getElem? (i := 337) (by decide +kernel))⟩
theorem fl_X10_163 : z_FL RX10 163 8 0 := ⟨_, rfl, by decide, Or.inr ⟨"ThinkingArms", List.mem_of_getElem? (i := 159) (by decide +kernel)⟩⟩
theorem fl_X10_166 : z_FL RX10 166 8 3 := ⟨_, rfl, by decide, Or.inr ⟨"ThinkingArms", List.mem_of_getElem? (i := 168) (by decide +kernel)⟩⟩
theorem fl_X10_169 : z_FL RX10 169 8 4 := ⟨_, rfl, by decide, Or.inr ⟨"ThinkingArms", List.mem_of_getElem? (i := 171) (by decide +kernel)⟩⟩
theorem fl_X10_194 : z_FL RX10 194 10 4 := ⟨_, rfl, by decide, Or.inl (List.mem_of_getElem? (i := 340) (by decide +kernel))⟩
theorem fl_X10_201 : z_FL RX10 201 4 4 := ⟨_, rfl, by decide, Or.inr ⟨"ThinkingArms", List.mem_of_getElem? (i := 237) (by decide +kernel)⟩⟩
theorem fl_X10_204 : z_FL RX10 204 0 3 := ⟨_, rfl, by decide, Or.inr ⟨"ThinkingArms", List.mem_of_getElem? (i := 115) (by decide +kernel)⟩⟩
theorem fl_X10_208 : z_FL RX10 208 5 1 := ⟨_, rfl, by decide, Or.inr ⟨"ThinkingArms", List.mem_of_getElem? (i := 569) (by decide +kernel)⟩⟩
theorem fl_X10_213 : z_FL RX10 213 0 2 := ⟨_, rfl, by decide, Or.inr ⟨"ThinkingArms", List.mem_of_getElem? (i := 112) (by decide +kernel)⟩⟩
theorem fl_X10_216 : z_FL RX10 216 6 7 := ⟨_, rfl, by decide, Or.inr ⟨"ThinkingArms", List.mem_of_getElem? (i := 201) (by decide +kernel)⟩⟩
theorem fl_X10_22 : z_FL RX10 22 10 2 := ⟨_, rfl, by decide, Or.inl (List.mem_of_getElem? (i := 338) (by decide +kernel))⟩
theorem fl_X10_229 : z_FL RX10 229 0 1 := ⟨_, rfl, by decide, Or.inr ⟨"ThinkingArms", List.mem_of_getElem? (i := 108) (by decide +kernel)⟩⟩
theorem fl_X10_232 : z_FL RX10 232 0 0 := ⟨_, rfl, by decide, Or.inr ⟨"ThinkingArms", List.mem_of_getElem? (i := 105) (by decide +kernel)⟩⟩
theorem fl_X10_235 : z_FL RX10 235 6 8 := ⟨_, rfl, by decide, Or.inr ⟨"ThinkingArms", List.mem_of_getElem? (i := 203) (by decide +kernel)⟩⟩
theorem fl_X10_241 : z_FL RX10 241 3 4 := ⟨_, rfl, by decide, Or.inr ⟨"ThinkingArms", List.mem_of_getElem? (i := 262) (by decide +kernel)⟩⟩
theorem fl_X10_244 : z_FL RX10 244 3 5 := ⟨_, rfl, by decide, Or.inr ⟨"ThinkingArms", List.mem_of_getElem? (i := 264) (by decide +kernel)⟩⟩
theorem fl_X10_247 : z_FL RX10 247 3 2 := ⟨_, rfl, by decide, Or.inr ⟨"ThinkingArms", List.mem_of_getElem? (i := 259) (by decide +kernel)⟩⟩
theorem fl_X10_254 : z_FL RX10 254 9 0 := ⟨_, rfl, by decide, Or.inr ⟨"ThinkingArms", List.mem_of_getElem? (i := 302) (by decide +kernel)⟩⟩
theorem fl_X10_26 : z_FL RX10 26 10 3 := ⟨_, rfl, by decide, Or.inl (List.mem_of_getElem? (i := 339) (by decide +kernel))⟩
theorem fl_X10_268 : z_FL RX10 268 7 2 := ⟨_, rfl, by decide, Or.inr ⟨"ThinkingArms", List.mem_of_getElem? (i := 328) (by decide +kernel)⟩⟩
theorem fl_X10_280 : z_FL RX10 280 7 1 := ⟨_, rfl, by decide, Or.inr ⟨"ThinkingArms", List.mem_of_getElem? (i := 326) (by decide +kernel)⟩⟩
theorem fl_X10_289 : z_FL RX10 289 7 0 := ⟨_, rfl, by decide, Or.inr ⟨"ThinkingArms", List.mem_of_getElem? (i := 324) (by decide +kernel)⟩⟩
theorem fl_X10_33 : z_FL RX10 33 10 5 := ⟨_, rfl, by decide, Or.inl (List.mem_of_getElem? (i := 341) (by decide +kernel))⟩
theorem fl_X10_40 : z_FL RX10 40 10 6 := ⟨_, rfl, by decide, Or.inl (List.mem_of_getElem? (i := 342) (by decide +kernel))⟩
theorem fl_X10_47 : z_FL RX10 47 10 7 := ⟨_, rfl, by decide, Or.inl (List.mem_of_getElem? (i := 343) (by decide +kernel))⟩
theorem fl_X10_51 : z_FL RX10 51 10 8 := ⟨_, rfl, by decide, Or.inl (List.mem_of_getElem? (i := 344) (by decide +kernel))⟩
theorem fl_X10_68 : z_FL RX10 68 6 0 := ⟨_, rfl, by decide, Or.inr ⟨"ThinkingArms", List.mem_of_getElem? (i := 186) (by decide +kernel)⟩⟩
theorem fl_X10_99 : z_FL RX10 99 6 4 := ⟨_, rfl, by decide, Or.inr ⟨"ThinkingArms", List.mem_of_getElem? (i := 194) (by decide +kernel)⟩⟩
theorem fl_X11_13 : z_FL RX11 13 11 1 := ⟨_, rfl, by decide, Or.inl (List.mem_of_getElem? (i := 898) (by decide +kernel))⟩
theorem fl_X11_135 : z_FL RX11 135 11 4 := ⟨_, rfl, by decide, Or.inl (List.mem_of_getElem? (i := 901) (by decide +kernel))⟩
theorem fl_X11_139 : z_FL RX11 139 11 10 := ⟨_, rfl, by decide, Or.inl (List.mem_of_getElem? (i := 907) (by decide +kernel))⟩
theorem fl_X11_149 : z_FL RX11 149 11 14 := ⟨_, rfl, by decide, Or.inl (List.mem_of_getElem? (i := 911) (by decide +kernel))⟩
theorem fl_X11_16 : z_FL RX11 16 11 2 := ⟨_, rfl, by decide, Or.inl (List.mem_of_getElem? (i := 899) (by decide +kernel))⟩
theorem fl_X11_182 : z_FL RX11 182 11 19 := ⟨_, rfl, by decide, Or.inl (List.mem_of_getElem? (i := 916) (by decide +kernel))⟩
theorem fl_X11_20 : z_FL RX11 20 11 3 := ⟨_, rfl, by decide, Or.inl (List.mem_of_getElem? (i := 900) (by decide +kernel))⟩
theorem fl_X11_23 : z_FL RX11 23 11 5 := ⟨_, rfl, by decide, Or.inl (List.mem_of_getElem? (i := 902) (by decide +kernel))⟩
theorem fl_X11_26 : z_FL RX11 26 11 6 := ⟨_, rfl, by decide, Or.inl (List.mem_of_getElem? (i := 903) (by decide +kernel))⟩
theorem fl_X11_29 : z_FL RX11 29 11 7 := ⟨_, rfl, by decide, Or.inl (List.mem_of_getElem? (i := 904) (by decide +kernel))⟩
theorem fl_X11_32 : z_FL RX11 32 11 8 := ⟨_, rfl, by decide, Or.inl (List.mem_of_getElem? (i := 905) (by decide +kernel))⟩
theorem fl_X11_35 : z_FL RX11 35 11 9 := ⟨_, rfl, by decide, Or.inl (List.mem_of_getElem? (i := 906) (by decide +kernel))⟩
theorem fl_X11_38 : z_FL RX11 38 11 11 := ⟨_, rfl, by decide, Or.inl (List.mem_of_getElem? (i := 908) (by decide +kernel))⟩
theorem fl_X11_41 : z_FL RX11 41 11 12 := ⟨_, rfl, by decide, Or.inl (List.mem_of_getElem? (i := 909) (by decide +kernel))⟩
theorem fl_X11_44 : z_FL RX11 44 11 13 := ⟨_, rfl, by decide, Or.inl (List.mem_of_getElem? (i := 910) (by decide +kernel))⟩
theorem fl_X11_47 : z_FL RX11 47 11 15 := ⟨_, rfl, by decide, Or.inl (List.mem_of_getElem? (i := 912) (by decide +kernel))⟩
theorem fl_X11_50 : z_FL RX11 50 11 16 := ⟨_, rfl, by decide, Or.inl (List.mem_of_getElem? (i := 913) (by decide +kernel))⟩
theorem fl_X11_53 : z_FL RX11 53 11 17 := ⟨_, rfl, by decide, Or.inl (List.mem_of_getElem? (i := 914) (by decide +kernel))⟩
theorem fl_X11_56 : z_FL RX11 56 11 18 := ⟨_, rfl, by decide, Or.inl (List.mem_of_getElem? (i := 915) (by decide +kernel))⟩
theorem fl_X11_59 : z_FL RX11 59 11 20 := ⟨_, rfl, by decide, Or.inl (List.mem_of_getElem? (i := 917) (by decide +kernel))⟩
theorem fl_X11_62 : z_FL RX11 62 11 21 := ⟨_, rfl, by decide, Or.inl (List.mem_of_getElem? (i := 918) (by decide +kernel))⟩
theorem fl_X11_7 : z_FL RX11 7 11 0 := ⟨_, rfl, by decide, Or.inl (List.mem_of_getElem? (i := 897) (by decide +kernel))⟩
theorem fl_X1_15 : z_FL RX1 15 1 3 := ⟨_, rfl, by decide, Or.inl (List.mem_of_getElem? (i := 624) (by decide +kernel))⟩
theorem fl_X1_19 : z_FL RX1 19 1 2 := ⟨_, rfl, by decide, Or.inl (List.mem_of_getElem? (i := 622) (by decide +kernel))⟩
theorem fl_X1_27 : z_FL RX1 27 1 1 := ⟨_, rfl, by decide, Or.inl (List.mem_of_getElem? (i := 620) (by decide +kernel))⟩
theorem fl_X1_30 : z_FL RX1 30 1 4 := ⟨_, rfl, by decide, Or.inl (List.mem_of_getElem? (i := 626) (by decide +kernel))⟩
theorem fl_X1_9 : z_FL RX1 9 1 0 := ⟨_, rfl, by decide, Or.inl (List.mem_of_getElem? (i := 618) (by decide +kernel))⟩
theorem fl_X3_15 : z_FL RX3 15 3 1 := ⟨_, rfl, by decide, Or.inl (List.mem_of_getElem? (i := 257) (by decide +kernel))⟩
theorem fl_X3_18 : z_FL RX3 18 3 2 := ⟨_, rfl, by decide, Or.inl (List.mem_of_getElem? (i := 258) (by decide +kernel))⟩
theorem fl_X3_21 : z_FL RX3 21 3 3 := ⟨_, rfl, by decide, Or.inl (List.mem_of_getElem? (i := 260) (by decide +kernel))⟩
theorem fl_X3_30 : z_FL RX3 30 6 0 := ⟨_, rfl, by decide, Or.inr ⟨"ThinkingArms", List.mem_of_getElem? (i := 185) (by decide +kernel)⟩⟩
theorem fl_X3_36 : z_FL RX3 36 6 1 := ⟨_, rfl, by decide, Or.inr ⟨"ThinkingArms", List.mem_of_getElem? (i := 187) (by decide +kernel)⟩⟩
theorem fl_X3_39 : z_FL RX3 39 3 6 := ⟨_, rfl, by decide, Or.inl (List.mem_of_getElem? (i := 265) (by decide +kernel))⟩
theorem fl_X3_43 : z_FL RX3 43 0 4 := ⟨_, rfl, by decide, Or.inr ⟨"ThinkingArms", List.mem_of_getElem? (i := 118) (by decide +kernel)⟩⟩
theorem fl_X3_46 : z_FL RX3 46 3 7 := ⟨_, rfl, by decide, Or.inl (List.mem_of_getElem? (i := 266) (by decide +kernel))⟩
theorem fl_X3_49 : z_FL RX3 49 0 0 := ⟨_, rfl, by decide, Or.inr ⟨"ThinkingArms", List.mem_of_getElem? (i := 104) (by decide +kernel)⟩⟩
theorem fl_X3_50 : z_FL RX3 50 3 8 := ⟨_, rfl, by decide, Or.inl (List.mem_of_getElem? (i := 267) (by decide +kernel))⟩
theorem fl_X3_53 : z_FL RX3 53 3 9 := ⟨_, rfl, by decide, Or.inl (List.mem_of_getElem? (i := 268) (by decide +kernel))⟩
theorem fl_X3_62 : z_FL RX3 62 3 10 := ⟨_, rfl, by decide, Or.inl (List.mem_of_getElem? (i := 269) (by decide +kernel))⟩
theorem fl_X3_81 : z_FL RX3 81 3 4 := ⟨_, rfl, by decide, Or.inl (List.mem_of_getElem? (i := 261) (by decide +kernel))⟩
theorem fl_X3_84 : z_FL RX3 84 3 5 := ⟨_, rfl, by decide, Or.inl (List.mem_of_getElem? (i := 263) (by decide +kernel))⟩
theorem fl_X3_9 : z_FL RX3 9 3 0 := ⟨_, rfl, by decide, Or.inl (List.mem_of_getElem? (i := 256) (by decide +kernel))⟩
theorem fl_X4_101 : z_FL RX4 101 1 1 := ⟨_, rfl, by decide, Or.inr ⟨"ThinkingArms", List.mem_of_getElem? (i := 621) (by decide +kernel)⟩⟩
theorem fl_X4_104 : z_FL RX4 104 1 3 := ⟨_, rfl, by decide, Or.inr ⟨"ThinkingArms", List.mem_of_getElem? (i := 625) (by decide +kernel)⟩⟩
theorem fl_X4_110 : z_FL RX4 110 1 2 := ⟨_, rfl, by decide, Or.inr ⟨"ThinkingArms", List.mem_of_getElem? (i := 623) (by decide +kernel)⟩⟩
theorem fl_X4_15 : z_FL RX4 15 4 1 := ⟨_, rfl, by decide, Or.inl (List.mem_of_getElem? (i := 233) (by decide +kernel))⟩
theorem fl_X4_19 : z_FL RX4 19 4 4 := ⟨_, rfl, by decide, Or.inl (List.mem_of_getElem? (i := 236) (by decide +kernel))⟩
theorem fl_X4_29 : z_FL RX4 29 5 0 := ⟨_, rfl, by decide, Or.inr ⟨"ThinkingArms", List.mem_of_getElem? (i := 565) (by decide +kernel)⟩⟩
theorem fl_X4_33 : z_FL RX4 33 5 1 := ⟨_, rfl, by decide, Or.inr ⟨"ThinkingArms", List.mem_of_getElem? (i := 568) (by decide +kernel)⟩⟩
theorem fl_X4_44 : z_FL RX4 44 4 3 := ⟨_, rfl, by decide, Or.inl (List.mem_of_getElem? (i := 235) (by decide +kernel))⟩
theorem fl_X4_57 : z_FL RX4 57 2 0 := ⟨_, rfl, by decide, Or.inr ⟨"ThinkingArms", List.mem_of_getElem? (i := 586) (by decide +kernel)⟩⟩
theorem fl_X4_68 : z_FL RX4 68 2 3 := ⟨_, rfl, by decide, Or.inr ⟨"ThinkingArms", List.mem_of_getElem? (i := 593) (by decide +kernel)⟩⟩
theorem fl_X4_74 : z_FL RX4 74 4 2 := ⟨_, rfl, by decide, Or.inl (List.mem_of_getElem? (i := 234) (by decide +kernel))⟩
theorem fl_X4_77 : z_FL RX4 77 2 1 := ⟨_, rfl, by decide, Or.inr ⟨"ThinkingArms", List.mem_of_getElem? (i := 588) (by decide +kernel)⟩⟩
theorem fl_X4_81 : z_FL RX4 81 2 2 := ⟨_, rfl, by decide, Or.inr ⟨"ThinkingArms", List.mem_of_getElem? (i := 591) (by decide +kernel)⟩⟩
theorem fl_X4_9 : z_FL RX4 9 4 0 := ⟨_, rfl, by decide, Or.inl (List.mem_of_getElem? (i := 232) (by decide +kernel))⟩
theorem fl_X4_91 : z_FL RX4 91 1 4 := ⟨_, rfl, by decide, Or.inr ⟨"ThinkingArms", List.mem_of_getElem? (i := 627) (by decide +kernel)⟩⟩
theorem fl_X4_96 : z_FL RX4 96 1 0 := ⟨_, rfl, by decide, Or.inr ⟨"ThinkingArms", List.mem_of_getElem? (i := 619) (by decide +kernel)⟩⟩
theorem fl_X5_11 : z_FL RX5 11 5 0 := ⟨_, rfl, by decide, Or.inl (List.mem_of_getElem? (i := 564) (by decide +kernel))⟩
theorem fl_X5_17 : z_FL RX5 17 5 1 := ⟨_, rfl, by decide, Or.inl (List.mem_of_getElem? (i := 567) (by decide +kernel))⟩
theorem fl_X5_21 : z_FL RX5 21 2 0 := ⟨_, rfl, by decide, Or.inr ⟨"ThinkingArms", List.mem_of_getElem? (i := 585) (by decide +kernel)⟩⟩
theorem fl_X6_119 : z_FL RX6 119 0 0 := ⟨_, rfl, by decide, Or.inr ⟨"ThinkingArms", List.mem_of_getElem? (i := 106) (by decide +kernel)⟩⟩
theorem fl_X6_122 : z_FL RX6 122 0 8 := ⟨_, rfl, by decide, Or.inr ⟨"ThinkingArms", List.mem_of_getElem? (i := 131) (by decide +kernel)⟩⟩
theorem fl_X6_129 : z_FL RX6 129 0 7 := ⟨_, rfl, by decide, Or.inr ⟨"ThinkingArms", List.mem_of_getElem? (i := 129) (by decide +kernel)⟩⟩
theorem fl_X6_132 : z_FL RX6 132 0 2 := ⟨_, rfl, by decide, Or.inr ⟨"ThinkingArms", List.mem_of_getElem? (i := 113) (by decide +kernel)⟩⟩
theorem fl_X6_138 : z_FL RX6 138 0 3 := ⟨_, rfl, by decide, Or.inr ⟨"ThinkingArms", List.mem_of_getElem? (i := 116) (by decide +kernel)⟩⟩
theorem fl_X6_151 : z_FL RX6 151 0 5 := ⟨_, rfl, by decide, Or.inr ⟨"ThinkingArms", List.mem_of_getElem? (i := 123) (by decide +kernel)⟩⟩
theorem fl_X6_154 : z_FL RX6 154 0 6 := ⟨_, rfl, by decide, Or.inr ⟨"ThinkingArms", List.mem_of_getElem? (i := 126) (by decide +kernel)⟩⟩
theorem fl_X6_161 : z_FL RX6 161 0 1 := ⟨_, rfl, by decide, Or.inr ⟨"ThinkingArms", List.mem_of_getElem? (i := 109) (by decide +kernel)⟩⟩
theorem fl_X6_164 : z_FL RX6 164 5 0 := ⟨_, rfl, by decide, Or.inr ⟨"ThinkingArms", List.mem_of_getElem? (i := 566) (by decide +kernel)⟩⟩
theorem fl_X6_168 : z_FL RX6 168 2 3 := ⟨_, rfl, by decide, Or.inr ⟨"ThinkingArms", List.mem_of_getElem? (i := 594) (by decide +kernel)⟩⟩
theorem fl_X6_17 : z_FL RX6 17 6 3 := ⟨_, rfl, by decide, Or.inl (List.mem_of_getElem? (i := 190) (by decide +kernel))⟩
theorem fl_X6_173 : z_FL RX6 173 2 2 := ⟨_, rfl, by decide, Or.inr ⟨"ThinkingArms", List.mem_of_getElem? (i := 592) (by decide +kernel)⟩⟩
theorem fl_X6_176 : z_FL RX6 176 2 1 := ⟨_, rfl, by decide, Or.inr ⟨"ThinkingArms", List.mem_of_getElem? (i := 589) (by decide +kernel)⟩⟩
theorem fl_X6_23 : z_FL RX6 23 6 5 := ⟨_, rfl, by decide, Or.inl (List.mem_of_getElem? (i := 195) (by decide +kernel))⟩
theorem fl_X6_27 : z_FL RX6 27 6 7 := ⟨_, rfl, by decide, Or.inl (List.mem_of_getElem? (i := 200) (by decide +kernel))⟩
theorem fl_X6_33 : z_FL RX6 33 6 0 := ⟨_, rfl, by decide, Or.inl (List.mem_of_getElem? (i := 184) (by decide +kernel))⟩
theorem fl_X6_37 : z_FL RX6 37 6 1 := ⟨_, rfl, by decide, Or.inl (List.mem_of_getElem? (i := 188) (by decide +kernel))⟩
theorem fl_X6_46 : z_FL RX6 46 6 4 := ⟨_, rfl, by decide, Or.inl (List.mem_of_getElem? (i := 193) (by decide +kernel))⟩
theorem fl_X6_53 : z_FL RX6 53 6 6 := ⟨_, rfl, by decide, Or.inl (List.mem_of_getElem? (i := 198) (by decide +kernel))⟩
theorem fl_X6_59 : z_FL RX6 59 6 8 := ⟨_, rfl, by decide, Or.inl (List.mem_of_getElem? (i := 202) (by decide +kernel))⟩
theorem fl_X6_78 : z_FL RX6 78 8 0 := ⟨_, rfl, by decide, Or.inr ⟨"ThinkingArms", List.mem_of_getElem? (i := 160) (by decide +kernel)⟩⟩
theorem fl_X6_85 : z_FL RX6 85 8 1 := ⟨_, rfl, by decide, Or.inr ⟨"ThinkingArms", List.mem_of_getElem? (i := 164) (by decide +kernel)⟩⟩
theorem fl_X6_88 : z_FL RX6 88 8 2 := ⟨_, rfl, by decide, Or.inr ⟨"ThinkingArms", List.mem_of_getElem? (i := 166) (by decide +kernel)⟩⟩
theorem fl_X6_9 : z_FL RX6 9 6 2 := ⟨_, rfl, by decide, Or.inl (List.mem_of_getElem? (i := 189) (by decide +kernel))⟩
theorem fl_X6_91 : z_FL RX6 91 8 3 := ⟨_, rfl, by decide, Or.inr ⟨"ThinkingArms", List.mem_of_getElem? (i := 169) (by decide +kernel)⟩⟩
theorem fl_X6_94 : z_FL RX6 94 0 4 := ⟨_, rfl, by decide, Or.inr ⟨"ThinkingArms", List.mem_of_getElem? (i := 120) (by decide +kernel)⟩⟩
theorem fl_X6_97 : z_FL RX6 97 8 4 := ⟨_, rfl, by decide, Or.inr ⟨"ThinkingArms", List.mem_of_getElem? (i := 172) (by decide +kernel)⟩⟩
theorem fl_X7_11 : z_FL RX7 11 7 0 := ⟨_, rfl, by decide, Or.inl (List.mem_of_getElem? (i := 323) (by decide +kernel))⟩
theorem fl_X7_15 : z_FL RX7 15 7 2 := ⟨_, rfl, by decide, Or.inl (List.mem_of_getElem? (i := 327) (by decide +kernel))⟩
theorem fl_X7_19 : z_FL RX7 19 7 1 := ⟨_, rfl, by decide, Or.inl (List.mem_of_getElem? (i := 325) (by decide +kernel))⟩
theorem fl_X8_13 : z_FL RX8 13 8 1 := ⟨_, rfl, by decide, Or.inl (List.mem_of_getElem? (i := 161) (by decide +kernel))⟩
theorem fl_X8_16 : z_FL RX8 16 8 2 := ⟨_, rfl, by decide, Or.inl (List.mem_of_getElem? (i := 165) (by decide +kernel))⟩
theorem fl_X8_19 : z_FL RX8 19 8 3 := ⟨_, rfl, by decide, Or.inl (List.mem_of_getElem? (i := 167) (by decide +kernel))⟩
theorem fl_X8_22 : z_FL RX8 22 8 4 := ⟨_, rfl, by decide, Or.inl (List.mem_of_getElem? (i := 170) (by decide +kernel))⟩
theorem fl_X8_7 : z_FL RX8 7 8 0 := ⟨_, rfl, by decide, Or.inl (List.mem_of_getElem? (i := 158) (by decide +kernel))⟩
theorem fl_X9_17 : z_FL RX9 17 9 1 := ⟨_, rfl, by decide, Or.inl (List.mem_of_getElem? (i := 303) (by decide +kernel))⟩
theorem fl_X9_22 : z_FL RX9 22 9 2 := ⟨_, rfl, by decide, Or.inl (List.mem_of_getElem? (i := 304) (by decide +kernel))⟩
theorem fl_X9_26 : z_FL RX9 26 9 3 := ⟨_, rfl, by decide, Or.inl (List.mem_of_getElem? (i := 305) (by decide +kernel))⟩
theorem fl_X9_29 : z_FL RX9 29 9 4 := ⟨_, rfl, by decide, Or.inl (List.mem_of_getElem? (i := 306) (by decide +kernel))⟩
theorem fl_X9_40 : z_FL RX9 40 6 3 := ⟨_, rfl, by decide, Or.inr ⟨"ThinkingArms", List.mem_of_getElem? (i := 191) (by decide +kernel)⟩⟩
theorem fl_X9_44 : z_FL RX9 44 0 2 := ⟨_, rfl, by decide, Or.inr ⟨"ThinkingArms", List.mem_of_getElem? (i := 111) (by decide +kernel)⟩⟩
theorem fl_X9_49 : z_FL RX9 49 6 5 := ⟨_, rfl, by decide, Or.inr ⟨"ThinkingArms", List.mem_of_getElem? (i := 196) (by decide +kernel)⟩⟩
theorem fl_X9_53 : z_FL RX9 53 8 1 := ⟨_, rfl, by decide, Or.inr ⟨"ThinkingArms", List.mem_of_getElem? (i := 162) (by decide +kernel)⟩⟩
theorem fl_X9_9 : z_FL RX9 9 9 0 := ⟨_, rfl, by decide, Or.inl (List.mem_of_getElem? (i := 301) (by decide +kernel))⟩
theorem fx_X0_15 : ∃ q : vw_C, vwCl[0]? = some q ∧ 5 < q.2.2 ∧ (q.2.1 5).2.2.2 = true ∧ (q.2.1 5).1 = RX0 ∧ Cond.fieldLink RX0 15 (q.2.1 5).1 (q.2.1 5).2.1 (q.2.1 5).2.2.1 ∈ lw_tbl := ⟨_, rfl, by decide, rfl, rfl, List.mem_of_getElem? (i := 121) (by decide +kernel)⟩
theorem fx_X0_18 : ∃ q : vw_C, vwCl[0]? = some q ∧ 6 < q.2.2 ∧ (q.2.1 6).2.2.2 = true ∧ (q.2.1 6).1 = RX0 ∧ Cond.fieldLink RX0 18 (q.2.1 6).1 (q.2.1 6).2.1 (q.2.1 6).2.2.1 ∈ lw_tbl := ⟨_, rfl, by decide, rfl, rfl, List.mem_of_getElem? (i := 124) (by decide +kernel)⟩
theorem fx_X0_21 : ∃ q : vw_C, vwCl[0]? = some q ∧ 7 < q.2.2 ∧ (q.2.1 7).2.2.2 = true ∧ (q.2.1 7).1 = RX0 ∧ Cond.fieldLink RX0 21 (q.2.1 7).1 (q.2.1 7).2.1 (q.2.1 7).2.2.1 ∈ lw_tbl := ⟨_, rfl, by decide, rfl, rfl, List.mem_of_getElem? (i := 127) (by decide +kernel)⟩
theorem fx_X0_24 : ∃ q : vw_C, vwCl[0]? = some q ∧ 8 < q.2.2 ∧ (q.2.1 8).2.2.2 = true ∧ (q.2.1 8).1 = RX0 ∧ Cond.fieldLink RX0 24 (q.2.1 8).1 (q.2.1 8).2.1 (q.2.1 8).2.2.1 ∈ lw_tbl := ⟨_, rfl, by decide, rfl, rfl, List.mem_of_getElem? (i := 130) (by decide +kernel)⟩
theorem fx_X0_9 : ∃ q : vw_C, vwCl[0]? = some q ∧ 4 < q.2.2 ∧ (q.2.1 4).2.2.2 = true ∧ (q.2.1 4).1 = RX0 ∧ Cond.fieldLink RX0 9 (q.2.1 4).1 (q.2.1 4).2.1 (q.2.1 4).2.2.1 ∈ lw_tbl := ⟨_, rfl, by decide, rfl, rfl, List.mem_of_getElem? (i := 117) (by decide +kernel)⟩
theorem fx_X10_10 : ∃ q : vw_C, vwCl[10]? = some q ∧ 0 < q.2.2 ∧ (q.2.1 0).2.2.2 = true ∧ (q.2.1 0).1 = RX10 ∧ Cond.fieldLink RX10 10 (q.2.1 0).1 (q.2.1 0).2.1 (q.2.1 0).2.2.1 ∈ lw_tbl := ⟨_, rfl, by decide, rfl, rfl, List.mem_of_getElem? (i := 336) (by decide +kernel)⟩
theorem fx_X10_16 : ∃ q : vw_C, vwCl[10]? = some q ∧ 1 < q.2.2 ∧ (q.2.1 1).2.2.2 = true ∧ (q.2.1 1).1 = RX10 ∧ Cond.fieldLink RX10 16 (q.2.1 1).1 (q.2.1 1).2.1 (q.2.1 1).2.2.1 ∈ lw_tbl := ⟨_, rfl, by decide, rfl, rfl, List.mem_of_getElem? (i := 337) (by decide +kernel)⟩
theorem fx_X10_22 : ∃ q : vw_C, vwCl[10]? = some q ∧ 2 < q.2.2 ∧ (q.2.1 2).2.2.2 = true ∧ (q.2.1 2).1 = RX10 ∧ Cond.fieldLink RX10 22 (q.2.1 2).1 (q.2.1 2).2.1 (q.2.1 2).2.2.1 ∈ lw_tbl := ⟨_, rfl, by decide, rfl, rfl, List.mem_of_getElem? (i := 338) (by decide +kernel)⟩
theorem fx_X10_26 : ∃ q : vw_C, vwCl[10]? = some q ∧ 3 < q.2.2 ∧ (q.2.1 3).2.2.2 = true ∧ (q.2.1 3).1 = RX10 ∧ Cond.fieldLink RX10 26 (q.2.1 3).1 (q.2.1 3).2.1 (q.2.1 3).2.2.1 ∈ lw_tbl := ⟨_, rfl, by decide, rfl, rfl, List.mem_of_getElem? (i := 339) (by decide +kernel)⟩
theorem fx_X10_33 : ∃ q : vw_C, vwCl[10]? = some q ∧ 5 < q.2.2 ∧ (q.2.1 5).2.2.2 = true ∧ (q.2.1 5).1 = RX10 ∧ Cond.fieldLink RX10 33 (q.2.1 5).1 (q.2.1 5).2.1 (q.2.1 5).2.2.1 ∈ lw_tbl := ⟨_, rfl, by decide, rfl, rfl, List.mem_of_getElem? (i := 341) (by decide +kernel)⟩
theorem fx_X10_40 : ∃ q : vw_C, vwCl[10]? = some q ∧ 6 < q.2.2 ∧ (q.2.1 6).2.2.2 = true ∧ (q.2.1 6).1 = RX10 ∧ Cond.fieldLink RX10 40 (q.2.1 6).1 (q.2.1 6).2.1 (q.2.1 6).2.2.1 ∈ lw_tbl := ⟨_, rfl, by decide, rfl, rfl, List.mem_of_getElem? (i := 342) (by decide +kernel)⟩
theorem fx_X10_47 : ∃ q : vw_C, vwCl[10]? = some q ∧ 7 < q.2.2 ∧ (q.2.1 7).2.2.2 = true ∧ (q.2.1 7).1 = RX10 ∧ Cond.fieldLink RX10 47 (q.2.1 7).1 (q.2.1 7).2.1 (q.2.1 7).2.2.1 ∈ lw_tbl := ⟨_, rfl, by decide, rfl, rfl, List.mem_of_getElem? (i := 343) (by decide +kernel)⟩
theorem fx_X10_51 : ∃ q : vw_C, vwCl[10]? = some q ∧ 8 < q.2.2 ∧ (q.2.1 8).2.2.2 = true ∧ (q.2.1 8).1 = RX10 ∧ Cond.fieldLink RX10 51 (q.2.1 8).1 (q.2.1 8).2.1 (q.2.1 8).2.2.1 ∈ lw_tbl := ⟨_, rfl, by decide, rfl, rfl, List.mem_of_getElem? (i := 344) (by decide +kernel)⟩
theorem fx_X11_13 : ∃ q : vw_C, vwCl[11]? = some q ∧ 1 < q.2.2 ∧ (q.2.1 1).2.2.2 = true ∧ (q.2.1 1).1 = RX11 ∧ Cond.fieldLink RX11 13 (q.2.1 1).1 (q.2.1 1).2.1 (q.2.1 1).2.2.1 ∈ lw_tbl := ⟨_, rfl, by decide, rfl, rfl, List.mem_of_getElem? (i := 898) (by decide +kernel)⟩
theorem fx_X11_16 : ∃ q : vw_C, vwCl[11]? = some q ∧ 2 < q.2.2 ∧ (q.2.1 2).2.2.2 = true ∧ (q.2.1 2).1 = RX11 ∧ Cond.fieldLink RX11 16 (q.2.1 2).1 (q.2.1 2).2.1 (q.2.1 2).2.2.1 ∈ lw_tbl := ⟨_, rfl, by decide, rfl, rfl, List.mem_of_getElem? (i := 899) (by decide +kernel)⟩
theorem fx_X11_20 : ∃ q : vw_C, vwCl[11]? = some q ∧ 3 < q.2.2 ∧ (q.2.1 3).2.2.2 = true ∧ (q.2.1 3).1 = RX11 ∧ Cond.fieldLink RX11 20 (q.2.1 3).1 (q.2.1 3).2.1 (q.2.1 3).2.2.1 ∈ lw_tbl := ⟨_, rfl, by decide, rfl, rfl, List.mem_of_getElem? (i := 900) (by decide +kernel)⟩
theorem fx_X11_23 : ∃ q : vw_C, vwCl[11]? = some q ∧ 5 < q.2.2 ∧ (q.2.1 5).2.2.2 = true ∧ (q.2.1 5).1 = RX11 ∧ Cond.fieldLink RX11 23 (q.2.1 5).1 (q.2.1 5).2.1 (q.2.1 5).2.2.1 ∈ lw_tbl := ⟨_, rfl, by decide, rfl, rfl, List.mem_of_getElem? (i := 902) (by decide +kernel)⟩
theorem fx_X11_26 : ∃ q : vw_C, vwCl[11]? = some q ∧ 6 < q.2.2 ∧ (q.2.1 6).2.2.2 = true ∧ (q.2.1 6).1 = RX11 ∧ Cond.fieldLink RX11 26 (q.2.1 6).1 (q.2.1 6).2.1 (q.2.1 6).2.2.1 ∈ lw_tbl := ⟨_, rfl, by decide, rfl, rfl, List.mem_of_getElem? (i := 903) (by decide +kernel)⟩
theorem fx_X11_29 : ∃ q : vw_C, vwCl[11]? = some q ∧ 7 < q.2.2 ∧ (q.2.1 7).2.2.2 = true ∧ (q.2.1 7).1 = RX11 ∧ Cond.fieldLink RX11 29 (q.2.1 7).1 (q.2.1 7).2.1 (q.2.1 7).2.2.1 ∈ lw_tbl := ⟨_, rfl, by decide, rfl, rfl, List.mem_of_getElem? (i := 904) (by decide +kernel)⟩
theorem fx_X11_32 : ∃ q : vw_C, vwCl[11]? = some q ∧ 8 < q.2.2 ∧ (q.2.1 8).2.2.2 = true ∧ (q.2.1 8).1 = RX11 ∧ Cond.fieldLink RX11 32 (q.2.1 8).1 (q.2.1 8).2.1 (q.2.1 8).2.2.1 ∈ lw_tbl := ⟨_, rfl, by decide, rfl, rfl, List.mem_of_getElem? (i := 905) (by decide +kernel)⟩
theorem fx_X11_35 : ∃ q : vw_C, vwCl[11]? = some q ∧ 9 < q.2.2 ∧ (q.2.1 9).2.2.2 = true ∧ (q.2.1 9).1 = RX11 ∧ Cond.fieldLink RX11 35 (q.2.1 9).1 (q.2.1 9).2.1 (q.2.1 9).2.2.1 ∈ lw_tbl := ⟨_, rfl, by decide, rfl, rfl, List.mem_of_getElem? (i := 906) (by decide +kernel)⟩
theorem fx_X11_38 : ∃ q : vw_C, vwCl[11]? = some q ∧ 11 < q.2.2 ∧ (q.2.1 11).2.2.2 = true ∧ (q.2.1 11).1 = RX11 ∧ Cond.fieldLink RX11 38 (q.2.1 11).1 (q.2.1 11).2.1 (q.2.1 11).2.2.1 ∈ lw_tbl := ⟨_, rfl, by decide, rfl, rfl, List.mem_of_getElem? (i := 908) (by decide +kernel)⟩
theorem fx_X11_41 : ∃ q : vw_C, vwCl[11]? = some q ∧ 12 < q.2.2 ∧ (q.2.1 12).2.2.2 = true ∧ (q.2.1 12).1 = RX11 ∧ Cond.fieldLink RX11 41 (q.2.1 12).1 (q.2.1 12).2.1 (q.2.1 12).2.2.1 ∈ lw_tbl := ⟨_, rfl, by decide, rfl, rfl, List.mem_of_getElem? (i := 909) (by decide +kernel)⟩
theorem fx_X11_44 : ∃ q : vw_C, vwCl[11]? = some q ∧ 13 < q.2.2 ∧ (q.2.1 13).2.2.2 = true ∧ (q.2.1 13).1 = RX11 ∧ Cond.fieldLink RX11 44 (q.2.1 13).1 (q.2.1 13).2.1 (q.2.1 13).2.2.1 ∈ lw_tbl := ⟨_, rfl, by decide, rfl, rfl, List.mem_of_getElem? (i := 910) (by decide +kernel)⟩
theorem fx_X11_47 : ∃ q : vw_C, vwCl[11]? = some q ∧ 15 < q.2.2 ∧ (q.2.1 15).2.2.2 = true ∧ (q.2.1 15).1 = RX11 ∧ Cond.fieldLink RX11 47 (q.2.1 15).1 (q.2.1 15).2.1 (q.2.1 15).2.2.1 ∈ lw_tbl := ⟨_, rfl, by decide, rfl, rfl, List.mem_of_getElem? (i := 912) (by decide +kernel)⟩
theorem fx_X11_50 : ∃ q : vw_C, vwCl[11]? = some q ∧ 16 < q.2.2 ∧ (q.2.1 16).2.2.2 = true ∧ (q.2.1 16).1 = RX11 ∧ Cond.fieldLink RX11 50 (q.2.1 16).1 (q.2.1 16).2.1 (q.2.1 16).2.2.1 ∈ lw_tbl := ⟨_, rfl, by decide, rfl, rfl, List.mem_of_getElem? (i := 913) (by decide +kernel)⟩
theorem fx_X11_53 : ∃ q : vw_C, vwCl[11]? = some q ∧ 17 < q.2.2 ∧ (q.2.1 17).2.2.2 = true ∧ (q.2.1 17).1 = RX11 ∧ Cond.fieldLink RX11 53 (q.2.1 17).1 (q.2.1 17).2.1 (q.2.1 17).2.2.1 ∈ lw_tbl := ⟨_, rfl, by decide, rfl, rfl, List.mem_of_getElem? (i := 914) (by decide +kernel)⟩
theorem fx_X11_56 : ∃ q : vw_C, vwCl[11]? = some q ∧ 18 < q.2.2 ∧ (q.2.1 18).2.2.2 = true ∧ (q.2.1 18).1 = RX11 ∧ Cond.fieldLink RX11 56 (q.2.1 18).1 (q.2.1 18).2.1 (q.2.1 18).2.2.1 ∈ lw_tbl := ⟨_, rfl, by decide, rfl, rfl, List.mem_of_getElem? (i := 915) (by decide +kernel)⟩
theorem fx_X11_59 : ∃ q : vw_C, vwCl[11]? = some q ∧ 20 < q.2.2 ∧ (q.2.1 20).2.2.2 = true ∧ (q.2.1 20).1 = RX11 ∧ Cond.fieldLink RX11 59 (q.2.1 20).1 (q.2.1 20).2.1 (q.2.1 20).2.2.1 ∈ lw_tbl := ⟨_, rfl, by decide, rfl, rfl, List.mem_of_getElem? (i := 917) (by decide +kernel)⟩
theorem fx_X11_62 : ∃ q : vw_C, vwCl[11]? = some q ∧ 21 < q.2.2 ∧ (q.2.1 21).2.2.2 = true ∧ (q.2.1 21).1 = RX11 ∧ Cond.fieldLink RX11 62 (q.2.1 21).1 (q.2.1 21).2.1 (q.2.1 21).2.2.1 ∈ lw_tbl := ⟨_, rfl, by decide, rfl, rfl, List.mem_of_getElem? (i := 918) (by decide +kernel)⟩
theorem fx_X11_7 : ∃ q : vw_C, vwCl[11]? = some q ∧ 0 < q.2.2 ∧ (q.2.1 0).2.2.2 = true ∧ (q.2.1 0).1 = RX11 ∧ Cond.fieldLink RX11 7 (q.2.1 0).1 (q.2.1 0).2.1 (q.2.1 0).2.2.1 ∈ lw_tbl := ⟨_, rfl, by decide, rfl, rfl, List.mem_of_getElem? (i := 897) (by decide +kernel)⟩
theorem fx_X2_15 : ∃ q : vw_C, vwCl[2]? = some q ∧ 2 < q.2.2 ∧ (q.2.1 2).2.2.2 = true ∧ (q.2.1 2).1 = RX2 ∧ Cond.fieldLink RX2 15 (q.2.1 2).1 (q.2.1 2).2.1 (q.2.1 2).2.2.1 ∈ lw_tbl := ⟨_, rfl, by decide, rfl, rfl, List.mem_of_getElem? (i := 590) (by decide +kernel)⟩
theorem fx_X2_9 : ∃ q : vw_C, vwCl[2]? = some q ∧ 1 < q.2.2 ∧ (q.2.1 1).2.2.2 = true ∧ (q.2.1 1).1 = RX2 ∧ Cond.fieldLink RX2 9 (q.2.1 1).1 (q.2.1 1).2.1 (q.2.1 1).2.2.1 ∈ lw_tbl := ⟨_, rfl, by decide, rfl, rfl, List.mem_of_getElem? (i := 587) (by decide +kernel)⟩
theorem fx_X3_15 : ∃ q : vw_C, vwCl[3]? = some q ∧ 1 < q.2.2 ∧ (q.2.1 1).2.2.2 = true ∧ (q.2.1 1).1 = RX3 ∧ Cond.fieldLink RX3 15 (q.2.1 1).1 (q.2.1 1).2.1 (q.2.1 1).2.2.1 ∈ lw_tbl := ⟨_, rfl, by decide, rfl, rfl, List.mem_of_getElem? (i := 257) (by decide +kernel)⟩
theorem fx_X3_18 : ∃ q : vw_C, vwCl[3]? = some q ∧ 2 < q.2.2 ∧ (q.2.1 2).2.2.2 = true ∧ (q.2.1 2).1 = RX3 ∧ Cond.fieldLink RX3 18 (q.2.1 2).1 (q.2.1 2).2.1 (q.2.1 2).2.2.1 ∈ lw_tbl := ⟨_, rfl, by decide, rfl, rfl, List.mem_of_getElem? (i := 258) (by decide +kernel)⟩
theorem fx_X3_21 : ∃ q : vw_C, vwCl[3]? = some q ∧ 3 < q.2.2 ∧ (q.2.1 3).2.2.2 = true ∧ (q.2.1 3).1 = RX3 ∧ Cond.fieldLink RX3 21 (q.2.1 3).1 (q.2.1 3).2.1 (q.2.1 3).2.2.1 ∈ lw_tbl := ⟨_, rfl, by decide, rfl, rfl, List.mem_of_getElem? (i := 260) (by decide +kernel)⟩
theorem fx_X3_9 : ∃ q : vw_C, vwCl[3]? = some q ∧ 0 < q.2.2 ∧ (q.2.1 0).2.2.2 = true ∧ (q.2.1 0).1 = RX3 ∧ Cond.fieldLink RX3 9 (q.2.1 0).1 (q.2.1 0).2.1 (q.2.1 0).2.2.1 ∈ lw_tbl := ⟨_, rfl, by decide, rfl, rfl, List.mem_of_getElem? (i := 256) (by decide +kernel)⟩
theorem fx_X5_11 : ∃ q : vw_C, vwCl[5]? = some q ∧ 0 < q.2.2 ∧ (q.2.1 0).2.2.2 = true ∧ (q.2.1 0).1 = RX5 ∧ Cond.fieldLink RX5 11 (q.2.1 0).1 (q.2.1 0).2.1 (q.2.1 0).2.2.1 ∈ lw_tbl := ⟨_, rfl, by decide, rfl, rfl, List.mem_of_getElem? (i := 564) (by decide +kernel)⟩
theorem fx_X6_17 : ∃ q : vw_C, vwCl[6]? = some q ∧ 3 < q.2.2 ∧ (q.2.1 3).2.2.2 = true ∧ (q.2.1 3).1 = RX6 ∧ Cond.fieldLink RX6 17 (q.2.1 3).1 (q.2.1 3).2.1 (q.2.1 3).2.2.1 ∈ lw_tbl := ⟨_, rfl, by decide, rfl, rfl, List.mem_of_getElem? (i := 190) (by decide +kernel)⟩
theorem fx_X6_23 : ∃ q : vw_C, vwCl[6]? = some q ∧ 5 < q.2.2 ∧ (q.2.1 5).2.2.2 = true ∧ (q.2.1 5).1 = RX6 ∧ Cond.fieldLink RX6 23 (q.2.1 5).1 (q.2.1 5).2.1 (q.2.1 5).2.2.1 ∈ lw_tbl := ⟨_, rfl, by decide, rfl, rfl, List.mem_of_getElem? (i := 195) (by decide +kernel)⟩
theorem fx_X6_9 : ∃ q : vw_C, vwCl[6]? = some q ∧ 2 < q.2.2 ∧ (q.2.1 2).2.2.2 = true ∧ (q.2.1 2).1 = RX6 ∧ Cond.fieldLink RX6 9 (q.2.1 2).1 (q.2.1 2).2.1 (q.2.1 2).2.2.1 ∈ lw_tbl := ⟨_, rfl, by decide, rfl, rfl, List.mem_of_getElem? (i := 189) (by decide +kernel)⟩
theorem fx_X7_15 : ∃ q : vw_C, vwCl[7]? = some q ∧ 2 < q.2.2 ∧ (q.2.1 2).2.2.2 = true ∧ (q.2.1 2).1 = RX7 ∧ Cond.fieldLink RX7 15 (q.2.1 2).1 (q.2.1 2).2.1 (q.2.1 2).2.2.1 ∈ lw_tbl := ⟨_, rfl, by decide, rfl, rfl, List.mem_of_getElem? (i := 327) (by decide +kernel)⟩
theorem fx_X9_17 : ∃ q : vw_C, vwCl[9]? = some q ∧ 1 < q.2.2 ∧ (q.2.1 1).2.2.2 = true ∧ (q.2.1 1).1 = RX9 ∧ Cond.fieldLink RX9 17 (q.2.1 1).1 (q.2.1 1).2.1 (q.2.1 1).2.2.1 ∈ lw_tbl := ⟨_, rfl, by decide, rfl, rfl, List.mem_of_getElem? (i := 303) (by decide +kernel)⟩
theorem fx_X9_9 : ∃ q : vw_C, vwCl[9]? = some q ∧ 0 < q.2.2 ∧ (q.2.1 0).2.2.2 = true ∧ (q.2.1 0).1 = RX9 ∧ Cond.fieldLink RX9 9 (q.2.1 0).1 (q.2.1 0).2.1 (q.2.1 0).2.2.1 ∈ lw_tbl := ⟨_, rfl, by decide, rfl, rfl, List.mem_of_getElem? (i := 301) (by decide +kernel)⟩
theorem ff_0_0 : ∀ q : vw_C, vwCl[0]? = some q → (q.2.1 0).2.2.2 = false := fun q e => by cases e; rfl
theorem ff_0_1 : ∀ q : vw_C, vwCl[0]? = some q → (q.2.1 1).2.2.2 = false := fun q e => by cases e; rfl
theorem ff_0_2 : ∀ q : vw_C, vwCl[0]? = some q → (q.2.1 2).2.2.2 = false := fun q e => by cases e; rfl
theorem ff_0_3 : ∀ q : vw_C, vwCl[0]? = some q → (q.2.1 3).2.2.2 = false := fun q e => by cases e; rfl
theorem ff_1_0 : ∀ q : vw_C, vwCl[1]? = some q → (q.2.1 0).2.2.2 = false := fun q e => by cases e; rfl
theorem ff_1_1 : ∀ q : vw_C, vwCl[1]? = some q → (q.2.1 1).2.2.2 = false := fun q e => by cases e; rfl
theorem ff_1_2 : ∀ q : vw_C, vwCl[1]? = some q → (q.2.1 2).2.2.2 = false := fun q e => by cases e; rfl
theorem ff_1_3 : ∀ q : vw_C, vwCl[1]? = some q → (q.2.1 3).2.2.2 = false := fun q e => by cases e; rfl
theorem ff_1_4 : ∀ q : vw_C, vwCl[1]? = some q → (q.2.1 4).2.2.2 = false := fun q e => by cases e; rfl
theorem ff_2_0 : ∀ q : vw_C, vwCl[2]? = some q → (q.2.1 0).2.2.2 = false := fun q e => by cases e; rfl
theorem ff_2_3 : ∀ q : vw_C, vwCl[2]? = some q → (q.2.1 3).2.2.2 = false := fun q e => by cases e; rfl
theorem ff_3_4 : ∀ q : vw_C, vwCl[3]? = some q → (q.2.1 4).2.2.2 = false := fun q e => by cases e; rfl
theorem ff_3_5 : ∀ q : vw_C, vwCl[3]? = some q → (q.2.1 5).2.2.2 = false := fun q e => by cases e; rfl
theorem ff_3_6 : ∀ q : vw_C, vwCl[3]? = some q → (q.2.1 6).2.2.2 = false := fun q e => by cases e; rfl
theorem ff_3_7 : ∀ q : vw_C, vwCl[3]? = some q → (q.2.1 7).2.2.2 = false := fun q e => by cases e; rfl
theorem ff_3_8 : ∀ q : vw_C, vwCl[3]? = some q → (q.2.1 8).2.2.2 = false := fun q e => by cases e; rfl
theorem ff_3_9 : ∀ q : vw_C, vwCl[3]? = some q → (q.2.1 9).2.2.2 = false := fun q e => by cases e; rfl
theorem ff_3_10 : ∀ q : vw_C, vwCl[3]? = some q → (q.2.1 10).2.2.2 = false := fun q e => by cases e; rfl
theorem ff_4_0 : ∀ q : vw_C, vwCl[4]? = some q → (q.2.1 0).2.2.2 = false := fun q e => by cases e; rfl
theorem ff_4_1 : ∀ q : vw_C, vwCl[4]? = some q → (q.2.1 1).2.2.2 = false := fun q e => by cases e; rfl
theorem ff_4_2 : ∀ q : vw_C, vwCl[4]? = some q → (q.2.1 2).2.2.2 = false := fun q e => by cases e; rfl
theorem ff_4_3 : ∀ q : vw_C, vwCl[4]? = some q → (q.2.1 3).2.2.2 = false := fun q e => by cases e; rfl
theorem ff_4_4 : ∀ q : vw_C, vwCl[4]? = some q → (q.2.1 4).2.2.2 = false := fun q e => by cases e; rfl
theorem ff_5_1 : ∀ q : vw_C, vwCl[5]? = some q → (q.2.1 1).2.2.2 = false := fun q e => by cases e; rfl
theorem ff_6_0 : ∀ q : vw_C, vwCl[6]? = some q → (q.2.1 0).2.2.2 = false := fun q e => by cases e; rfl
theorem ff_6_1 : ∀ q : vw_C, vwCl[6]? = some q → (q.2.1 1).2.2.2 = false := fun q e => by cases e; rfl
theorem ff_6_4 : ∀ q : vw_C, vwCl[6]? = some q → (q.2.1 4).2.2.2 = false := fun q e => by cases e; rfl
theorem ff_6_6 : ∀ q : vw_C, vwCl[6]? = some q → (q.2.1 6).2.2.2 = false := fun q e => by cases e; rfl
theorem ff_6_7 : ∀ q : vw_C, vwCl[6]? = some q → (q.2.1 7).2.2.2 = false := fun q e => by cases e; rfl
theorem ff_6_8 : ∀ q : vw_C, vwCl[6]? = some q → (q.2.1 8).2.2.2 = false := fun q e => by cases e; rfl
theorem ff_7_0 : ∀ q : vw_C, vwCl[7]? = some q → (q.2.1 0).2.2.2 = false := fun q e => by cases e; rfl
theorem ff_7_1 : ∀ q : vw_C, vwCl[7]? = some q → (q.2.1 1).2.2.2 = false := fun q e => by cases e; rfl
theorem ff_8_0 : ∀ q : vw_C, vwCl[8]? = some q → (q.2.1 0).2.2.2 = false := fun q e => by cases e; rfl
theorem ff_8_1 : ∀ q : vw_C, vwCl[8]? = some q → (q.2.1 1).2.2.2 = false := fun q e => by cases e; rfl
theorem ff_8_2 : ∀ q : vw_C, vwCl[8]? = some q → (q.2.1 2).2.2.2 = false := fun q e => by cases e; rfl
theorem ff_8_3 : ∀ q : vw_C, vwCl[8]? = some q → (q.2.1 3).2.2.2 = false := fun q e => by cases e; rfl
theorem ff_8_4 : ∀ q : vw_C, vwCl[8]? = some q → (q.2.1 4).2.2.2 = false := fun q e => by cases e; rfl
theorem ff_9_2 : ∀ q : vw_C, vwCl[9]? = some q → (q.2.1 2).2.2.2 = false := fun q e => by cases e; rfl
theorem ff_9_3 : ∀ q : vw_C, vwCl[9]? = some q → (q.2.1 3).2.2.2 = false := fun q e => by cases e; rfl
theorem ff_9_4 : ∀ q : vw_C, vwCl[9]? = some q → (q.2.1 4).2.2.2 = false := fun q e => by cases e; rfl
theorem ff_10_4 : ∀ q : vw_C, vwCl[10]? = some q → (q.2.1 4).2.2.2 = false := fun q e => by cases e; rfl
theorem ff_11_4 : ∀ q : vw_C, vwCl[11]? = some q → (q.2.1 4).2.2.2 = false := fun q e => by cases e; rfl
theorem ff_11_10 : ∀ q : vw_C, vwCl[11]? = some q → (q.2.1 10).2.2.2 = false := fun q e => by cases e; rfl
theorem ff_11_14 : ∀ q : vw_C, vwCl[11]? = some q → (q.2.1 14).2.2.2 = false := fun q e => by cases e; rfl
theorem ff_11_19 : ∀ q : vw_C, vwCl[11]? = some q → (q.2.1 19).2.2.2 = false := fun q e => by cases e; rfl
theorem lk_J7_13 : z_Lk RJ7 13 yJ7_rangeCheck_23922 := Or.inl (List.mem_of_getElem? (i := 777) (by decide +kernel))
theorem lk_L_100 : z_Lk RL 100 yX11_fewest := Or.inl (List.mem_of_getElem? (i := 1174) (by decide +kernel))
theorem lk_L_101 : z_Lk RL 101 yX10_image := Or.inl (List.mem_of_getElem? (i := 832) (by decide +kernel))
theorem lk_L_104 : z_Lk RL 104 yX11_image := Or.inl (List.mem_of_getElem? (i := 1182) (by decide +kernel))
theorem lk_L_105 : z_Lk RL 105 yX10_restore := Or.inl (List.mem_of_getElem? (i := 841) (by decide +kernel))
theorem lk_L_108 : z_Lk RL 108 yX11_restore := Or.inl (List.mem_of_getElem? (i := 1186) (by decide +kernel))
theorem lk_L_109 : z_Lk RL 109 yX10_film := Or.inl (List.mem_of_getElem? (i := 845) (by decide +kernel))
theorem lk_L_112 : z_Lk RL 112 yX11_film := Or.inl (List.mem_of_getElem? (i := 1190) (by decide +kernel))
theorem lk_L_113 : z_Lk RL 113 yX10_differs := Or.inl (List.mem_of_getElem? (i := 853) (by decide +kernel))
theorem lk_L_116 : z_Lk RL 116 yX11_differs := Or.inl (List.mem_of_getElem? (i := 1198) (by decide +kernel))
theorem lk_L_117 : z_Lk RL 117 yX10_sheet := Or.inl (List.mem_of_getElem? (i := 857) (by decide +kernel))
theorem lk_L_12 : z_Lk RL 12 yX11_init := Or.inl (List.mem_of_getElem? (i := 893) (by decide +kernel))
theorem lk_L_120 : z_Lk RL 120 yX11_sheet := Or.inl (List.mem_of_getElem? (i := 1202) (by decide +kernel))
theorem lk_L_121 : z_Lk RL 121 yX10_drop := Or.inl (List.mem_of_getElem? (i := 869) (by decide +kernel))
theorem lk_L_124 : z_Lk RL 124 yX11_drop := Or.inl (List.mem_of_getElem? (i := 1206) (by decide +kernel))
theorem lk_L_125 : z_Lk RL 125 yX10_item := Or.inl (List.mem_of_getElem? (i := 878) (by decide +kernel))
theorem lk_L_128 : z_Lk RL 128 yX11_item := Or.inl (List.mem_of_getElem? (i := 1210) (by decide +kernel))
theorem lk_L_129 : z_Lk RL 129 yX10_copy := Or.inl (List.mem_of_getElem? (i := 885) (by decide +kernel))
theorem lk_L_13 : z_Lk RL 13 yX10_wall := Or.inl (List.mem_of_getElem? (i := 364) (by decide +kernel))
theorem lk_L_133 : z_Lk RL 133 yX11_copy := Or.inl (List.mem_of_getElem? (i := 1214) (by decide +kernel))
theorem lk_L_17 : z_Lk RL 17 yX11_wall := Or.inl (List.mem_of_getElem? (i := 965) (by decide +kernel))
theorem lk_L_18 : z_Lk RL 18 yX10_walls := Or.inl (List.mem_of_getElem? (i := 383) (by decide +kernel))
theorem lk_L_22 : z_Lk RL 22 yX11_walls := Or.inl (List.mem_of_getElem? (i := 997) (by decide +kernel))
theorem lk_L_23 : z_Lk RL 23 yX10_arm := Or.inl (List.mem_of_getElem? (i := 413) (by decide +kernel))
theorem lk_L_27 : z_Lk RL 27 yX11_arm := Or.inl (List.mem_of_getElem? (i := 1004) (by decide +kernel))
theorem lk_L_28 : z_Lk RL 28 yX10_thing := Or.inl (List.mem_of_getElem? (i := 447) (by decide +kernel))
theorem lk_L_32 : z_Lk RL 32 yX11_thing := Or.inl (List.mem_of_getElem? (i := 1018) (by decide +kernel))
theorem lk_L_33 : z_Lk RL 33 yX10_piece := Or.inl (List.mem_of_getElem? (i := 463) (by decide +kernel))
theorem lk_L_36 : z_Lk RL 36 yX11_piece := Or.inl (List.mem_of_getElem? (i := 1022) (by decide +kernel))
theorem lk_L_37 : z_Lk RL 37 yX10_told := Or.inl (List.mem_of_getElem? (i := 487) (by decide +kernel))
theorem lk_L_41 : z_Lk RL 41 yX11_told := Or.inl (List.mem_of_getElem? (i := 1042) (by decide +kernel))
theorem lk_L_42 : z_Lk RL 42 yX10_form := Or.inl (List.mem_of_getElem? (i := 499) (by decide +kernel))
theorem lk_L_45 : z_Lk RL 45 yX11_form := Or.inl (List.mem_of_getElem? (i := 1050) (by decide +kernel))
theorem lk_L_46 : z_Lk RL 46 yX10_flip := Or.inl (List.mem_of_getElem? (i := 511) (by decide +kernel))
theorem lk_L_49 : z_Lk RL 49 yX11_flip := Or.inl (List.mem_of_getElem? (i := 1061) (by decide +kernel))
theorem lk_L_52 : z_Lk RL 52 yX10_type := Or.inl (List.mem_of_getElem? (i := 537) (by decide +kernel))
theorem lk_L_56 : z_Lk RL 56 yX11_type := Or.inl (List.mem_of_getElem? (i := 1073) (by decide +kernel))
theorem lk_L_57 : z_Lk RL 57 yX10_rules := Or.inl (List.mem_of_getElem? (i := 544) (by decide +kernel))
theorem lk_L_60 : z_Lk RL 60 yX11_rules := Or.inl (List.mem_of_getElem? (i := 1078) (by decide +kernel))
theorem lk_L_61 : z_Lk RL 61 yX10_head := Or.inl (List.mem_of_getElem? (i := 667) (by decide +kernel))
theorem lk_L_64 : z_Lk RL 64 yX11_head := Or.inl (List.mem_of_getElem? (i := 1086) (by decide +kernel))
theorem lk_L_65 : z_Lk RL 65 yX10_skin := Or.inl (List.mem_of_getElem? (i := 671) (by decide +kernel))
theorem lk_L_68 : z_Lk RL 68 yX11_skin := Or.inl (List.mem_of_getElem? (i := 1090) (by decide +kernel))
theorem lk_L_69 : z_Lk RL 69 yX10_ticks := Or.inl (List.mem_of_getElem? (i := 675) (by decide +kernel))
theorem lk_L_72 : z_Lk RL 72 yX11_ticks := Or.inl (List.mem_of_getElem? (i := 1094) (by decide +kernel))
theorem lk_L_73 : z_Lk RL 73 yX10_finds := Or.inl (List.mem_of_getElem? (i := 737) (by decide +kernel))
theorem lk_L_76 : z_Lk RL 76 yX11_finds := Or.inl (List.mem_of_getElem? (i := 1138) (by decide +kernel))
theorem lk_L_77 : z_Lk RL 77 yX10_cut := Or.inl (List.mem_of_getElem? (i := 742) (by decide +kernel))
theorem lk_L_80 : z_Lk RL 80 yX11_cut := Or.inl (List.mem_of_getElem? (i := 1142) (by decide +kernel))
theorem lk_L_81 : z_Lk RL 81 yX10_count := Or.inl (List.mem_of_getElem? (i := 746) (by decide +kernel))
theorem lk_L_84 : z_Lk RL 84 yX11_count := Or.inl (List.mem_of_getElem? (i := 1146) (by decide +kernel))
theorem lk_L_85 : z_Lk RL 85 yX10_forms := Or.inl (List.mem_of_getElem? (i := 750) (by decide +kernel))
theorem lk_L_88 : z_Lk RL 88 yX11_forms := Or.inl (List.mem_of_getElem? (i := 1150) (by decide +kernel))
theorem lk_L_89 : z_Lk RL 89 yX10_reach := Or.inl (List.mem_of_getElem? (i := 798) (by decide +kernel))
theorem lk_L_9 : z_Lk RL 9 yX10_init := Or.inl (List.mem_of_getElem? (i := 82) (by decide +kernel))
theorem lk_L_92 : z_Lk RL 92 yX11_reach := Or.inl (List.mem_of_getElem? (i := 1166) (by decide +kernel))
theorem lk_L_93 : z_Lk RL 93 yX10_far := Or.inl (List.mem_of_getElem? (i := 802) (by decide +kernel))
theorem lk_L_96 : z_Lk RL 96 yX11_far := Or.inl (List.mem_of_getElem? (i := 1170) (by decide +kernel))
theorem lk_L_97 : z_Lk RL 97 yX10_fewest := Or.inl (List.mem_of_getElem? (i := 806) (by decide +kernel))
theorem lk_X0_47 : z_Lk RX0 47 yJ7_fill_53178 := Or.inl (List.mem_of_getElem? (i := 444) (by decide +kernel))
theorem lk_X0_53 : z_Lk RX0 53 yX0_isCut := Or.inl (List.mem_of_getElem? (i := 479) (by decide +kernel))
theorem lk_X0_57 : z_Lk RX0 57 yX10_sideOf := Or.inr ⟨"ThinkingArms", List.mem_of_getElem? (i := 508) (by decide +kernel)⟩
theorem lk_X10_103 : z_Lk RX10 103 yX6_addArm := Or.inl (List.mem_of_getElem? (i := 433) (by decide +kernel))
theorem lk_X10_107 : z_Lk RX10 107 yX10_isDigit := Or.inl (List.mem_of_getElem? (i := 451) (by decide +kernel))
theorem lk_X10_110 : z_Lk RX10 110 yX6_lyingCells := Or.inl (List.mem_of_getElem? (i := 454) (by decide +kernel))
theorem lk_X10_116 : z_Lk RX10 116 yX6_addThing := Or.inl (List.mem_of_getElem? (i := 455) (by decide +kernel))
theorem lk_X10_120 : z_Lk RX10 120 yX10_isPiece := Or.inl (List.mem_of_getElem? (i := 467) (by decide +kernel))
theorem lk_X10_141 : z_Lk RX10 141 yX0_isCutOff := Or.inl (List.mem_of_getElem? (i := 475) (by decide +kernel))
theorem lk_X10_144 : z_Lk RX10 144 yX0_isTip := Or.inl (List.mem_of_getElem? (i := 483) (by decide +kernel))
theorem lk_X10_147 : z_Lk RX10 147 yX10_isThing := Or.inl (List.mem_of_getElem? (i := 491) (by decide +kernel))
theorem lk_X10_159 : z_Lk RX10 159 yX6_cellOfThing := Or.inl (List.mem_of_getElem? (i := 495) (by decide +kernel))
theorem lk_X10_172 : z_Lk RX10 172 yX10_isArm := Or.inl (List.mem_of_getElem? (i := 471) (by decide +kernel))
theorem lk_X10_175 : z_Lk RX10 175 yX0_isCut := Or.inl (List.mem_of_getElem? (i := 503) (by decide +kernel))
theorem lk_X10_179 : z_Lk RX10 179 yX0_formNow := Or.inl (List.mem_of_getElem? (i := 504) (by decide +kernel))
theorem lk_X10_183 : z_Lk RX10 183 yX0_canEverMove := Or.inl (List.mem_of_getElem? (i := 515) (by decide +kernel))
theorem lk_X10_186 : z_Lk RX10 186 yX6_move := Or.inl (List.mem_of_getElem? (i := 519) (by decide +kernel))
theorem lk_X10_190 : z_Lk RX10 190 yX10_byteOf := Or.inl (List.mem_of_getElem? (i := 541) (by decide +kernel))
theorem lk_X10_197 : z_Lk RX10 197 yX4_read := Or.inl (List.mem_of_getElem? (i := 548) (by decide +kernel))
theorem lk_X10_219 : z_Lk RX10 219 yX6_tick := Or.inl (List.mem_of_getElem? (i := 679) (by decide +kernel))
theorem lk_X10_222 : z_Lk RX10 222 yX6_countThings := Or.inl (List.mem_of_getElem? (i := 733) (by decide +kernel))
theorem lk_X10_225 : z_Lk RX10 225 yX6_clauseFor := Or.inl (List.mem_of_getElem? (i := 741) (by decide +kernel))
theorem lk_X10_238 : z_Lk RX10 238 yX10_refusesReach := Or.inl (List.mem_of_getElem? (i := 754) (by decide +kernel))
theorem lk_X10_250 : z_Lk RX10 250 yX9_search := Or.inl (List.mem_of_getElem? (i := 810) (by decide +kernel))
theorem lk_X10_257 : z_Lk RX10 257 yX10_isImage := Or.inl (List.mem_of_getElem? (i := 836) (by decide +kernel))
theorem lk_X10_260 : z_Lk RX10 260 yX6_become := Or.inl (List.mem_of_getElem? (i := 840) (by decide +kernel))
theorem lk_X10_264 : z_Lk RX10 264 yX10_refusesFilm := Or.inl (List.mem_of_getElem? (i := 849) (by decide +kernel))
theorem lk_X10_271 : z_Lk RX10 271 yX10_isLane := Or.inl (List.mem_of_getElem? (i := 861) (by decide +kernel))
theorem lk_X10_274 : z_Lk RX10 274 yX7_begin := Or.inl (List.mem_of_getElem? (i := 864) (by decide +kernel))
theorem lk_X10_277 : z_Lk RX10 277 yX7_holdsNothing := Or.inl (List.mem_of_getElem? (i := 873) (by decide +kernel))
theorem lk_X10_283 : z_Lk RX10 283 yX7_forget := Or.inl (List.mem_of_getElem? (i := 874) (by decide +kernel))
theorem lk_X10_286 : z_Lk RX10 286 yX10_narrowed := Or.inl (List.mem_of_getElem? (i := 882) (by decide +kernel))
theorem lk_X10_292 : z_Lk RX10 292 yX7_spans := Or.inl (List.mem_of_getElem? (i := 889) (by decide +kernel))
theorem lk_X10_301 : z_Lk RX10 301 yX3_search := Or.inl (List.mem_of_getElem? (i := 758) (by decide +kernel))
theorem lk_X10_32 : z_Lk RX10 32 yX4_init := Or.inr ⟨"ThinkingArms", List.mem_of_getElem? (i := 228) (by decide +kernel)⟩
theorem lk_X10_39 : z_Lk RX10 39 yX3_init := Or.inr ⟨"ThinkingArms", List.mem_of_getElem? (i := 252) (by decide +kernel)⟩
theorem lk_X10_46 : z_Lk RX10 46 yX9_init := Or.inl (List.mem_of_getElem? (i := 295) (by decide +kernel))
theorem lk_X10_55 : z_Lk RX10 55 yX7_init := Or.inr ⟨"ThinkingArms", List.mem_of_getElem? (i := 319) (by decide +kernel)⟩
theorem lk_X10_56 : z_Lk RX10 56 yX10_isCell := Or.inl (List.mem_of_getElem? (i := 368) (by decide +kernel))
theorem lk_X10_60 : z_Lk RX10 60 yX10_cellOf := Or.inl (List.mem_of_getElem? (i := 371) (by decide +kernel))
theorem lk_X10_64 : z_Lk RX10 64 yX6_inUse := Or.inl (List.mem_of_getElem? (i := 374) (by decide +kernel))
theorem lk_X10_74 : z_Lk RX10 74 yX10_isSheet := Or.inl (List.mem_of_getElem? (i := 387) (by decide +kernel))
theorem lk_X10_78 : z_Lk RX10 78 yX7_refuses := Or.inl (List.mem_of_getElem? (i := 391) (by decide +kernel))
theorem lk_X10_82 : z_Lk RX10 82 yX7_asCells := Or.inl (List.mem_of_getElem? (i := 403) (by decide +kernel))
theorem lk_X10_85 : z_Lk RX10 85 yJ13_bitCount_95d88 := Or.inl (List.mem_of_getElem? (i := 407) (by decide +kernel))
theorem lk_X10_9 : z_Lk RX10 9 yX6_init := Or.inl (List.mem_of_getElem? (i := 90) (by decide +kernel))
theorem lk_X10_91 : z_Lk RX10 91 yX10_formsOf := Or.inl (List.mem_of_getElem? (i := 417) (by decide +kernel))
theorem lk_X10_95 : z_Lk RX10 95 yX6_canLie := Or.inl (List.mem_of_getElem? (i := 420) (by decide +kernel))
theorem lk_X11_100 : z_Lk RX11 100 yX11_isSheet := Or.inl (List.mem_of_getElem? (i := 1001) (by decide +kernel))
theorem lk_X11_103 : z_Lk RX11 103 yX11_power := Or.inl (List.mem_of_getElem? (i := 1008) (by decide +kernel))
theorem lk_X11_106 : z_Lk RX11 106 yX11_isFree := Or.inl (List.mem_of_getElem? (i := 1014) (by decide +kernel))
theorem lk_X11_109 : z_Lk RX11 109 yX11_cutOf := Or.inl (List.mem_of_getElem? (i := 1034) (by decide +kernel))
theorem lk_X11_112 : z_Lk RX11 112 yX11_isPiece := Or.inl (List.mem_of_getElem? (i := 1026) (by decide +kernel))
theorem lk_X11_115 : z_Lk RX11 115 yX11_isTip := Or.inl (List.mem_of_getElem? (i := 1038) (by decide +kernel))
theorem lk_X11_118 : z_Lk RX11 118 yX11_isThing := Or.inl (List.mem_of_getElem? (i := 1046) (by decide +kernel))
theorem lk_X11_121 : z_Lk RX11 121 yX11_formOf := Or.inl (List.mem_of_getElem? (i := 1054) (by decide +kernel))
theorem lk_X11_124 : z_Lk RX11 124 yX11_sideTo := Or.inl (List.mem_of_getElem? (i := 1058) (by decide +kernel))
theorem lk_X11_127 : z_Lk RX11 127 yX11_flipped := Or.inl (List.mem_of_getElem? (i := 1069) (by decide +kernel))
theorem lk_X11_130 : z_Lk RX11 130 yX11_goesTo := Or.inl (List.mem_of_getElem? (i := 1065) (by decide +kernel))
theorem lk_X11_142 : z_Lk RX11 142 yX11_faultOf := Or.inl (List.mem_of_getElem? (i := 1082) (by decide +kernel))
theorem lk_X11_146 : z_Lk RX11 146 yX11_isNear := Or.inl (List.mem_of_getElem? (i := 1114) (by decide +kernel))
theorem lk_X11_152 : z_Lk RX11 152 yX11_claims := Or.inl (List.mem_of_getElem? (i := 1110) (by decide +kernel))
theorem lk_X11_156 : z_Lk RX11 156 yX11_holdsTest := Or.inl (List.mem_of_getElem? (i := 1106) (by decide +kernel))
theorem lk_X11_159 : z_Lk RX11 159 yX11_grab := Or.inl (List.mem_of_getElem? (i := 1122) (by decide +kernel))
theorem lk_X11_163 : z_Lk RX11 163 yX11_pass := Or.inl (List.mem_of_getElem? (i := 1126) (by decide +kernel))
theorem lk_X11_166 : z_Lk RX11 166 yX11_letGo := Or.inl (List.mem_of_getElem? (i := 1130) (by decide +kernel))
theorem lk_X11_169 : z_Lk RX11 169 yX11_findsOf := Or.inl (List.mem_of_getElem? (i := 1102) (by decide +kernel))
theorem lk_X11_172 : z_Lk RX11 172 yX11_act := Or.inl (List.mem_of_getElem? (i := 1118) (by decide +kernel))
theorem lk_X11_176 : z_Lk RX11 176 yX11_tick := Or.inl (List.mem_of_getElem? (i := 1098) (by decide +kernel))
theorem lk_X11_179 : z_Lk RX11 179 yX11_things := Or.inl (List.mem_of_getElem? (i := 1134) (by decide +kernel))
theorem lk_X11_185 : z_Lk RX11 185 yX11_come := Or.inl (List.mem_of_getElem? (i := 1158) (by decide +kernel))
theorem lk_X11_188 : z_Lk RX11 188 yX11_lay := Or.inl (List.mem_of_getElem? (i := 1162) (by decide +kernel))
theorem lk_X11_191 : z_Lk RX11 191 yX11_layReach := Or.inl (List.mem_of_getElem? (i := 1154) (by decide +kernel))
theorem lk_X11_195 : z_Lk RX11 195 yX11_eats := Or.inl (List.mem_of_getElem? (i := 1178) (by decide +kernel))
theorem lk_X11_199 : z_Lk RX11 199 yX11_bars := Or.inl (List.mem_of_getElem? (i := 1194) (by decide +kernel))
theorem lk_X11_65 : z_Lk RX11 65 yX11_in := Or.inl (List.mem_of_getElem? (i := 972) (by decide +kernel))
theorem lk_X11_69 : z_Lk RX11 69 yX11_of := Or.inl (List.mem_of_getElem? (i := 983) (by decide +kernel))
theorem lk_X11_73 : z_Lk RX11 73 yX11_isArm := Or.inl (List.mem_of_getElem? (i := 1030) (by decide +kernel))
theorem lk_X11_77 : z_Lk RX11 77 yX11_pieces := Or.inl (List.mem_of_getElem? (i := 979) (by decide +kernel))
theorem lk_X11_81 : z_Lk RX11 81 yX11_cell := Or.inl (List.mem_of_getElem? (i := 986) (by decide +kernel))
theorem lk_X11_84 : z_Lk RX11 84 yX11_thingAt := Or.inl (List.mem_of_getElem? (i := 994) (by decide +kernel))
theorem lk_X11_87 : z_Lk RX11 87 yX11_isCell := Or.inl (List.mem_of_getElem? (i := 969) (by decide +kernel))
theorem lk_X11_91 : z_Lk RX11 91 yX11_beside := Or.inl (List.mem_of_getElem? (i := 1011) (by decide +kernel))
theorem lk_X11_94 : z_Lk RX11 94 yX11_hasPiece := Or.inl (List.mem_of_getElem? (i := 975) (by decide +kernel))
theorem lk_X11_97 : z_Lk RX11 97 yX11_lyingAt := Or.inl (List.mem_of_getElem? (i := 990) (by decide +kernel))
theorem lk_X1_23 : z_Lk RX1 23 yX1_holds := Or.inl (List.mem_of_getElem? (i := 703) (by decide +kernel))
theorem lk_X3_101 : z_Lk RX3 101 yX3_seeTurns := Or.inl (List.mem_of_getElem? (i := 793) (by decide +kernel))
theorem lk_X3_105 : z_Lk RX3 105 yX10_beside := Or.inr ⟨"ThinkingArms", List.mem_of_getElem? (i := 797) (by decide +kernel)⟩
theorem lk_X3_24 : z_Lk RX3 24 yX0_formNow := Or.inl (List.mem_of_getElem? (i := 762) (by decide +kernel))
theorem lk_X3_56 : z_Lk RX3 56 yX3_layOut := Or.inl (List.mem_of_getElem? (i := 763) (by decide +kernel))
theorem lk_X3_65 : z_Lk RX3 65 yX3_searchAnew := Or.inl (List.mem_of_getElem? (i := 769) (by decide +kernel))
theorem lk_X3_68 : z_Lk RX3 68 yX10_formsOf := Or.inr ⟨"ThinkingArms", List.mem_of_getElem? (i := 773) (by decide +kernel)⟩
theorem lk_X3_72 : z_Lk RX3 72 yJ7_fill_fda19 := Or.inl (List.mem_of_getElem? (i := 774) (by decide +kernel))
theorem lk_X3_78 : z_Lk RX3 78 yJ7_fill_53178 := Or.inl (List.mem_of_getElem? (i := 780) (by decide +kernel))
theorem lk_X3_87 : z_Lk RX3 87 yX3_see := Or.inl (List.mem_of_getElem? (i := 781) (by decide +kernel))
theorem lk_X3_91 : z_Lk RX3 91 yX3_goOnFrom := Or.inl (List.mem_of_getElem? (i := 785) (by decide +kernel))
theorem lk_X3_97 : z_Lk RX3 97 yX3_seeFlip := Or.inl (List.mem_of_getElem? (i := 789) (by decide +kernel))
theorem lk_X4_100 : z_Lk RX4 100 yX1_init := Or.inr ⟨"ThinkingArms", List.mem_of_getElem? (i := 614) (by decide +kernel)⟩
theorem lk_X4_107 : z_Lk RX4 107 yX4_readSense := Or.inl (List.mem_of_getElem? (i := 651) (by decide +kernel))
theorem lk_X4_113 : z_Lk RX4 113 yX10_isDigit := Or.inr ⟨"ThinkingArms", List.mem_of_getElem? (i := 659) (by decide +kernel)⟩
theorem lk_X4_22 : z_Lk RX4 22 yX4_goTo := Or.inl (List.mem_of_getElem? (i := 552) (by decide +kernel))
theorem lk_X4_28 : z_Lk RX4 28 yX5_init := Or.inr ⟨"ThinkingArms", List.mem_of_getElem? (i := 558) (by decide +kernel)⟩
theorem lk_X4_36 : z_Lk RX4 36 yX4_readClause := Or.inl (List.mem_of_getElem? (i := 575) (by decide +kernel))
theorem lk_X4_40 : z_Lk RX4 40 yX4_takes := Or.inl (List.mem_of_getElem? (i := 639) (by decide +kernel))
theorem lk_X4_47 : z_Lk RX4 47 yX4_fail := Or.inl (List.mem_of_getElem? (i := 647) (by decide +kernel))
theorem lk_X4_52 : z_Lk RX4 52 yX2_init := Or.inr ⟨"ThinkingArms", List.mem_of_getElem? (i := 581) (by decide +kernel)⟩
theorem lk_X4_53 : z_Lk RX4 53 yX4_readTest := Or.inl (List.mem_of_getElem? (i := 604) (by decide +kernel))
theorem lk_X4_61 : z_Lk RX4 61 yX4_need := Or.inl (List.mem_of_getElem? (i := 643) (by decide +kernel))
theorem lk_X4_64 : z_Lk RX4 64 yX4_readAct := Or.inl (List.mem_of_getElem? (i := 660) (by decide +kernel))
theorem lk_X4_71 : z_Lk RX4 71 yX4_isAct := Or.inl (List.mem_of_getElem? (i := 664) (by decide +kernel))
theorem lk_X4_84 : z_Lk RX4 84 yX4_readDigit := Or.inl (List.mem_of_getElem? (i := 655) (by decide +kernel))
theorem lk_X4_88 : z_Lk RX4 88 yX4_readClaim := Or.inl (List.mem_of_getElem? (i := 608) (by decide +kernel))
theorem lk_X5_25 : z_Lk RX5 25 yX1_holds := Or.inr ⟨"ThinkingArms", List.mem_of_getElem? (i := 700) (by decide +kernel)⟩
theorem lk_X6_102 : z_Lk RX6 102 yX0_isTip := Or.inl (List.mem_of_getElem? (i := 523) (by decide +kernel))
theorem lk_X6_105 : z_Lk RX6 105 yX6_turned := Or.inl (List.mem_of_getElem? (i := 524) (by decide +kernel))
theorem lk_X6_108 : z_Lk RX6 108 yX6_flipped := Or.inl (List.mem_of_getElem? (i := 529) (by decide +kernel))
theorem lk_X6_112 : z_Lk RX6 112 yX10_sideOf := Or.inr ⟨"ThinkingArms", List.mem_of_getElem? (i := 528) (by decide +kernel)⟩
theorem lk_X6_115 : z_Lk RX6 115 yX10_touchByCorner := Or.inr ⟨"ThinkingArms", List.mem_of_getElem? (i := 533) (by decide +kernel)⟩
theorem lk_X6_125 : z_Lk RX6 125 yX6_clauseFor := Or.inl (List.mem_of_getElem? (i := 683) (by decide +kernel))
theorem lk_X6_135 : z_Lk RX6 135 yX6_doActs := Or.inl (List.mem_of_getElem? (i := 704) (by decide +kernel))
theorem lk_X6_142 : z_Lk RX6 142 yX6_senses := Or.inl (List.mem_of_getElem? (i := 687) (by decide +kernel))
theorem lk_X6_145 : z_Lk RX6 145 yX5_firstFor := Or.inl (List.mem_of_getElem? (i := 696) (by decide +kernel))
theorem lk_X6_157 : z_Lk RX6 157 yX10_near := Or.inr ⟨"ThinkingArms", List.mem_of_getElem? (i := 691) (by decide +kernel)⟩
theorem lk_X6_179 : z_Lk RX6 179 yX6_move := Or.inl (List.mem_of_getElem? (i := 708) (by decide +kernel))
theorem lk_X6_183 : z_Lk RX6 183 yX6_grab := Or.inl (List.mem_of_getElem? (i := 709) (by decide +kernel))
theorem lk_X6_186 : z_Lk RX6 186 yX6_passOn := Or.inl (List.mem_of_getElem? (i := 725) (by decide +kernel))
theorem lk_X6_189 : z_Lk RX6 189 yX6_letGo := Or.inl (List.mem_of_getElem? (i := 729) (by decide +kernel))
theorem lk_X6_193 : z_Lk RX6 193 yX6_lyingAt := Or.inl (List.mem_of_getElem? (i := 713) (by decide +kernel))
theorem lk_X6_196 : z_Lk RX6 196 yX6_lift := Or.inl (List.mem_of_getElem? (i := 717) (by decide +kernel))
theorem lk_X6_200 : z_Lk RX6 200 yX6_give := Or.inl (List.mem_of_getElem? (i := 721) (by decide +kernel))
theorem lk_X6_31 : z_Lk RX6 31 yX0_init := Or.inr ⟨"ThinkingArms", List.mem_of_getElem? (i := 99) (by decide +kernel)⟩
theorem lk_X6_32 : z_Lk RX6 32 yX8_init := Or.inr ⟨"ThinkingArms", List.mem_of_getElem? (i := 154) (by decide +kernel)⟩
theorem lk_X6_49 : z_Lk RX6 49 yX0_become := Or.inl (List.mem_of_getElem? (i := 819) (by decide +kernel))
theorem lk_X6_56 : z_Lk RX6 56 yX8_become := Or.inl (List.mem_of_getElem? (i := 823) (by decide +kernel))
theorem lk_X6_62 : z_Lk RX6 62 yX6_lyingCells := Or.inl (List.mem_of_getElem? (i := 378) (by decide +kernel))
theorem lk_X6_66 : z_Lk RX6 66 yX10_beside := Or.inr ⟨"ThinkingArms", List.mem_of_getElem? (i := 424) (by decide +kernel)⟩
theorem lk_X6_70 : z_Lk RX6 70 yX6_isFree := Or.inl (List.mem_of_getElem? (i := 429) (by decide +kernel))
theorem lk_X6_74 : z_Lk RX6 74 yX0_begin := Or.inl (List.mem_of_getElem? (i := 437) (by decide +kernel))
theorem lk_X6_81 : z_Lk RX6 81 yX6_lay := Or.inl (List.mem_of_getElem? (i := 459) (by decide +kernel))
theorem lk_X7_22 : z_Lk RX7 22 yJ7_fill_53178 := Or.inl (List.mem_of_getElem? (i := 868) (by decide +kernel))
theorem lk_X7_28 : z_Lk RX7 28 yX7_holdsNothing := Or.inl (List.mem_of_getElem? (i := 395) (by decide +kernel))
theorem lk_X7_32 : z_Lk RX7 32 yX7_spans := Or.inl (List.mem_of_getElem? (i := 399) (by decide +kernel))
theorem lk_X9_21 : z_Lk RX9 21 yX6_init := Or.inl (List.mem_of_getElem? (i := 300) (by decide +kernel))
theorem lk_X9_32 : z_Lk RX9 32 yX6_become := Or.inl (List.mem_of_getElem? (i := 814) (by decide +kernel))
theorem lk_X9_36 : z_Lk RX9 36 yX9_isEatenBy := Or.inl (List.mem_of_getElem? (i := 827) (by decide +kernel))
theorem lk_X9_58 : z_Lk RX9 58 yX6_tick := Or.inl (List.mem_of_getElem? (i := 831) (by decide +kernel))
theorem md_J13_bitCount_95d88 : z_Md yJ13_bitCount_95d88 cJ13_bitCount_95d88 2 (some .int) 1 := ⟨List.mem_of_getElem? (i := 74) (by decide +kernel), List.mem_of_getElem? (i := 409) (by decide +kernel), by decide +kernel⟩
theorem md_J7_fill_53178 : z_Md yJ7_fill_53178 cJ7_fill_53178 4 none 2 := ⟨List.mem_of_getElem? (i := 76) (by decide +kernel), List.mem_of_getElem? (i := 446) (by decide +kernel), by decide +kernel⟩
theorem md_J7_fill_fda19 : z_Md yJ7_fill_fda19 cJ7_fill_fda19 5 none 4 := ⟨List.mem_of_getElem? (i := 76) (by decide +kernel), List.mem_of_getElem? (i := 776) (by decide +kernel), by decide +kernel⟩
theorem md_J7_rangeCheck_23922 : z_Md yJ7_rangeCheck_23922 cJ7_rangeCheck_23922 3 none 3 := ⟨List.mem_of_getElem? (i := 76) (by decide +kernel), List.mem_of_getElem? (i := 779) (by decide +kernel), by decide +kernel⟩
theorem md_X0_become : z_Md yX0_become cX0_become 2 none 1 := ⟨List.mem_of_getElem? (i := 67) (by decide +kernel), List.mem_of_getElem? (i := 822) (by decide +kernel), by decide +kernel⟩
theorem md_X0_begin : z_Md yX0_begin cX0_begin 3 none 2 := ⟨List.mem_of_getElem? (i := 67) (by decide +kernel), List.mem_of_getElem? (i := 440) (by decide +kernel), by decide +kernel⟩
theorem md_X0_canEverMove : z_Md yX0_canEverMove cX0_canEverMove 2 (some .boolean) 1 := ⟨List.mem_of_getElem? (i := 67) (by decide +kernel), List.mem_of_getElem? (i := 518) (by decide +kernel), by decide +kernel⟩
theorem md_X0_formNow : z_Md yX0_formNow cX0_formNow 3 (some .int) 0 := ⟨List.mem_of_getElem? (i := 67) (by decide +kernel), List.mem_of_getElem? (i := 507) (by decide +kernel), by decide +kernel⟩
theorem md_X0_init : z_Md yX0_init cX0_init 1 none 0 := ⟨List.mem_of_getElem? (i := 67) (by decide +kernel), List.mem_of_getElem? (i := 101) (by decide +kernel), by decide +kernel⟩
theorem md_X0_isCut : z_Md yX0_isCut cX0_isCut 1 (some .boolean) 0 := ⟨List.mem_of_getElem? (i := 67) (by decide +kernel), List.mem_of_getElem? (i := 482) (by decide +kernel), by decide +kernel⟩
theorem md_X0_isCutOff : z_Md yX0_isCutOff cX0_isCutOff 2 (some .boolean) 1 := ⟨List.mem_of_getElem? (i := 67) (by decide +kernel), List.mem_of_getElem? (i := 478) (by decide +kernel), by decide +kernel⟩
theorem md_X0_isTip : z_Md yX0_isTip cX0_isTip 2 (some .boolean) 1 := ⟨List.mem_of_getElem? (i := 67) (by decide +kernel), List.mem_of_getElem? (i := 486) (by decide +kernel), by decide +kernel⟩
theorem md_X10_arm : z_Md yX10_arm cX10_arm 5 (some .int) 4 := ⟨List.mem_of_getElem? (i := 65) (by decide +kernel), List.mem_of_getElem? (i := 416) (by decide +kernel), by decide +kernel⟩
theorem md_X10_beside : z_Md yX10_beside cX10_beside 5 (some .int) 2 := ⟨List.mem_of_getElem? (i := 65) (by decide +kernel), List.mem_of_getElem? (i := 426) (by decide +kernel), by decide +kernel⟩
theorem md_X10_byteOf : z_Md yX10_byteOf cX10_byteOf 3 (some .int) 2 := ⟨List.mem_of_getElem? (i := 65) (by decide +kernel), List.mem_of_getElem? (i := 543) (by decide +kernel), by decide +kernel⟩
theorem md_X10_cellOf : z_Md yX10_cellOf cX10_cellOf 2 (some .int) 2 := ⟨List.mem_of_getElem? (i := 65) (by decide +kernel), List.mem_of_getElem? (i := 373) (by decide +kernel), by decide +kernel⟩
theorem md_X10_copy : z_Md yX10_copy cX10_copy 8 (some .int) 5 := ⟨List.mem_of_getElem? (i := 65) (by decide +kernel), List.mem_of_getElem? (i := 888) (by decide +kernel), by decide +kernel⟩
theorem md_X10_count : z_Md yX10_count cX10_count 2 (some .int) 1 := ⟨List.mem_of_getElem? (i := 65) (by decide +kernel), List.mem_of_getElem? (i := 749) (by decide +kernel), by decide +kernel⟩
theorem md_X10_cut : z_Md yX10_cut cX10_cut 4 (some .int) 2 := ⟨List.mem_of_getElem? (i := 65) (by decide +kernel), List.mem_of_getElem? (i := 745) (by decide +kernel), by decide +kernel⟩
theorem md_X10_differs : z_Md yX10_differs cX10_differs 8 (some .int) 4 := ⟨List.mem_of_getElem? (i := 65) (by decide +kernel), List.mem_of_getElem? (i := 856) (by decide +kernel), by decide +kernel⟩
theorem md_X10_drop : z_Md yX10_drop cX10_drop 3 (some .int) 1 := ⟨List.mem_of_getElem? (i := 65) (by decide +kernel), List.mem_of_getElem? (i := 872) (by decide +kernel), by decide +kernel⟩
theorem md_X10_far : z_Md yX10_far cX10_far 5 (some .int) 3 := ⟨List.mem_of_getElem? (i := 65) (by decide +kernel), List.mem_of_getElem? (i := 805) (by decide +kernel), by decide +kernel⟩
theorem md_X10_fewest : z_Md yX10_fewest cX10_fewest 6 (some .int) 4 := ⟨List.mem_of_getElem? (i := 65) (by decide +kernel), List.mem_of_getElem? (i := 809) (by decide +kernel), by decide +kernel⟩
theorem md_X10_film : z_Md yX10_film cX10_film 8 (some .int) 4 := ⟨List.mem_of_getElem? (i := 65) (by decide +kernel), List.mem_of_getElem? (i := 848) (by decide +kernel), by decide +kernel⟩
theorem md_X10_finds : z_Md yX10_finds cX10_finds 3 (some .int) 2 := ⟨List.mem_of_getElem? (i := 65) (by decide +kernel), List.mem_of_getElem? (i := 740) (by decide +kernel), by decide +kernel⟩
theorem md_X10_flip : z_Md yX10_flip cX10_flip 3 (some .int) 2 := ⟨List.mem_of_getElem? (i := 65) (by decide +kernel), List.mem_of_getElem? (i := 514) (by decide +kernel), by decide +kernel⟩
theorem md_X10_form : z_Md yX10_form cX10_form 2 (some .int) 1 := ⟨List.mem_of_getElem? (i := 65) (by decide +kernel), List.mem_of_getElem? (i := 502) (by decide +kernel), by decide +kernel⟩
theorem md_X10_forms : z_Md yX10_forms cX10_forms 3 (some .int) 1 := ⟨List.mem_of_getElem? (i := 65) (by decide +kernel), List.mem_of_getElem? (i := 753) (by decide +kernel), by decide +kernel⟩
theorem md_X10_formsOf : z_Md yX10_formsOf cX10_formsOf 1 (some .int) 1 := ⟨List.mem_of_getElem? (i := 65) (by decide +kernel), List.mem_of_getElem? (i := 419) (by decide +kernel), by decide +kernel⟩
theorem md_X10_head : z_Md yX10_head cX10_head 4 (some .int) 2 := ⟨List.mem_of_getElem? (i := 65) (by decide +kernel), List.mem_of_getElem? (i := 670) (by decide +kernel), by decide +kernel⟩
theorem md_X10_image : z_Md yX10_image cX10_image 2 (some .int) 1 := ⟨List.mem_of_getElem? (i := 65) (by decide +kernel), List.mem_of_getElem? (i := 835) (by decide +kernel), by decide +kernel⟩
theorem md_X10_init : z_Md yX10_init cX10_init 2 none 0 := ⟨List.mem_of_getElem? (i := 65) (by decide +kernel), List.mem_of_getElem? (i := 84) (by decide +kernel), by decide +kernel⟩
theorem md_X10_isArm : z_Md yX10_isArm cX10_isArm 2 (some .boolean) 1 := ⟨List.mem_of_getElem? (i := 65) (by decide +kernel), List.mem_of_getElem? (i := 474) (by decide +kernel), by decide +kernel⟩
theorem md_X10_isCell : z_Md yX10_isCell cX10_isCell 2 (some .boolean) 2 := ⟨List.mem_of_getElem? (i := 65) (by decide +kernel), List.mem_of_getElem? (i := 370) (by decide +kernel), by decide +kernel⟩
theorem md_X10_isDigit : z_Md yX10_isDigit cX10_isDigit 1 (some .boolean) 1 := ⟨List.mem_of_getElem? (i := 65) (by decide +kernel), List.mem_of_getElem? (i := 453) (by decide +kernel), by decide +kernel⟩
theorem md_X10_isImage : z_Md yX10_isImage cX10_isImage 2 (some .boolean) 1 := ⟨List.mem_of_getElem? (i := 65) (by decide +kernel), List.mem_of_getElem? (i := 839) (by decide +kernel), by decide +kernel⟩
theorem md_X10_isLane : z_Md yX10_isLane cX10_isLane 1 (some .boolean) 1 := ⟨List.mem_of_getElem? (i := 65) (by decide +kernel), List.mem_of_getElem? (i := 863) (by decide +kernel), by decide +kernel⟩
theorem md_X10_isPiece : z_Md yX10_isPiece cX10_isPiece 3 (some .boolean) 2 := ⟨List.mem_of_getElem? (i := 65) (by decide +kernel), List.mem_of_getElem? (i := 470) (by decide +kernel), by decide +kernel⟩
theorem md_X10_isSheet : z_Md yX10_isSheet cX10_isSheet 2 (some .boolean) 1 := ⟨List.mem_of_getElem? (i := 65) (by decide +kernel), List.mem_of_getElem? (i := 390) (by decide +kernel), by decide +kernel⟩
theorem md_X10_isThing : z_Md yX10_isThing cX10_isThing 2 (some .boolean) 1 := ⟨List.mem_of_getElem? (i := 65) (by decide +kernel), List.mem_of_getElem? (i := 494) (by decide +kernel), by decide +kernel⟩
theorem md_X10_item : z_Md yX10_item cX10_item 6 (some .int) 4 := ⟨List.mem_of_getElem? (i := 65) (by decide +kernel), List.mem_of_getElem? (i := 881) (by decide +kernel), by decide +kernel⟩
theorem md_X10_narrowed : z_Md yX10_narrowed cX10_narrowed 2 (some .int) 2 := ⟨List.mem_of_getElem? (i := 65) (by decide +kernel), List.mem_of_getElem? (i := 884) (by decide +kernel), by decide +kernel⟩
theorem md_X10_near : z_Md yX10_near cX10_near 5 (some .long) 1 := ⟨List.mem_of_getElem? (i := 65) (by decide +kernel), List.mem_of_getElem? (i := 693) (by decide +kernel), by decide +kernel⟩
theorem md_X10_piece : z_Md yX10_piece cX10_piece 5 (some .int) 3 := ⟨List.mem_of_getElem? (i := 65) (by decide +kernel), List.mem_of_getElem? (i := 466) (by decide +kernel), by decide +kernel⟩
theorem md_X10_reach : z_Md yX10_reach cX10_reach 3 (some .int) 1 := ⟨List.mem_of_getElem? (i := 65) (by decide +kernel), List.mem_of_getElem? (i := 801) (by decide +kernel), by decide +kernel⟩
theorem md_X10_refusesFilm : z_Md yX10_refusesFilm cX10_refusesFilm 5 (some .int) 4 := ⟨List.mem_of_getElem? (i := 65) (by decide +kernel), List.mem_of_getElem? (i := 852) (by decide +kernel), by decide +kernel⟩
theorem md_X10_refusesReach : z_Md yX10_refusesReach cX10_refusesReach 2 (some .int) 1 := ⟨List.mem_of_getElem? (i := 65) (by decide +kernel), List.mem_of_getElem? (i := 757) (by decide +kernel), by decide +kernel⟩
theorem md_X10_restore : z_Md yX10_restore cX10_restore 2 (some .int) 1 := ⟨List.mem_of_getElem? (i := 65) (by decide +kernel), List.mem_of_getElem? (i := 844) (by decide +kernel), by decide +kernel⟩
theorem md_X10_rules : z_Md yX10_rules cX10_rules 3 (some .int) 1 := ⟨List.mem_of_getElem? (i := 65) (by decide +kernel), List.mem_of_getElem? (i := 547) (by decide +kernel), by decide +kernel⟩
theorem md_X10_sheet : z_Md yX10_sheet cX10_sheet 4 (some .int) 3 := ⟨List.mem_of_getElem? (i := 65) (by decide +kernel), List.mem_of_getElem? (i := 860) (by decide +kernel), by decide +kernel⟩
theorem md_X10_sideOf : z_Md yX10_sideOf cX10_sideOf 2 (some .int) 2 := ⟨List.mem_of_getElem? (i := 65) (by decide +kernel), List.mem_of_getElem? (i := 510) (by decide +kernel), by decide +kernel⟩
theorem md_X10_skin : z_Md yX10_skin cX10_skin 3 (some .int) 1 := ⟨List.mem_of_getElem? (i := 65) (by decide +kernel), List.mem_of_getElem? (i := 674) (by decide +kernel), by decide +kernel⟩
theorem md_X10_thing : z_Md yX10_thing cX10_thing 5 (some .int) 3 := ⟨List.mem_of_getElem? (i := 65) (by decide +kernel), List.mem_of_getElem? (i := 450) (by decide +kernel), by decide +kernel⟩
theorem md_X10_ticks : z_Md yX10_ticks cX10_ticks 3 (some .int) 1 := ⟨List.mem_of_getElem? (i := 65) (by decide +kernel), List.mem_of_getElem? (i := 678) (by decide +kernel), by decide +kernel⟩
theorem md_X10_told : z_Md yX10_told cX10_told 4 (some .int) 2 := ⟨List.mem_of_getElem? (i := 65) (by decide +kernel), List.mem_of_getElem? (i := 490) (by decide +kernel), by decide +kernel⟩
theorem md_X10_touchByCorner : z_Md yX10_touchByCorner cX10_touchByCorner 4 (some .boolean) 2 := ⟨List.mem_of_getElem? (i := 65) (by decide +kernel), List.mem_of_getElem? (i := 535) (by decide +kernel), by decide +kernel⟩
theorem md_X10_type : z_Md yX10_type cX10_type 6 (some .int) 2 := ⟨List.mem_of_getElem? (i := 65) (by decide +kernel), List.mem_of_getElem? (i := 540) (by decide +kernel), by decide +kernel⟩
theorem md_X10_wall : z_Md yX10_wall cX10_wall 7 (some .int) 3 := ⟨List.mem_of_getElem? (i := 65) (by decide +kernel), List.mem_of_getElem? (i := 367) (by decide +kernel), by decide +kernel⟩
theorem md_X10_walls : z_Md yX10_walls cX10_walls 5 (some .int) 1 := ⟨List.mem_of_getElem? (i := 65) (by decide +kernel), List.mem_of_getElem? (i := 386) (by decide +kernel), by decide +kernel⟩
theorem md_X11_act : z_Md yX11_act cX11_act 9 (some .int) 3 := ⟨List.mem_of_getElem? (i := 73) (by decide +kernel), List.mem_of_getElem? (i := 1121) (by decide +kernel), by decide +kernel⟩
theorem md_X11_arm : z_Md yX11_arm cX11_arm 9 (some .int) 4 := ⟨List.mem_of_getElem? (i := 73) (by decide +kernel), List.mem_of_getElem? (i := 1007) (by decide +kernel), by decide +kernel⟩
theorem md_X11_bars : z_Md yX11_bars cX11_bars 5 (some .int) 4 := ⟨List.mem_of_getElem? (i := 73) (by decide +kernel), List.mem_of_getElem? (i := 1197) (by decide +kernel), by decide +kernel⟩
theorem md_X11_beside : z_Md yX11_beside cX11_beside 4 (some .int) 2 := ⟨List.mem_of_getElem? (i := 73) (by decide +kernel), List.mem_of_getElem? (i := 1013) (by decide +kernel), by decide +kernel⟩
theorem md_X11_cell : z_Md yX11_cell cX11_cell 3 (some .int) 2 := ⟨List.mem_of_getElem? (i := 73) (by decide +kernel), List.mem_of_getElem? (i := 989) (by decide +kernel), by decide +kernel⟩
theorem md_X11_claims : z_Md yX11_claims cX11_claims 5 (some .boolean) 4 := ⟨List.mem_of_getElem? (i := 73) (by decide +kernel), List.mem_of_getElem? (i := 1113) (by decide +kernel), by decide +kernel⟩
theorem md_X11_come : z_Md yX11_come cX11_come 4 none 2 := ⟨List.mem_of_getElem? (i := 73) (by decide +kernel), List.mem_of_getElem? (i := 1161) (by decide +kernel), by decide +kernel⟩
theorem md_X11_copy : z_Md yX11_copy cX11_copy 7 (some .int) 5 := ⟨List.mem_of_getElem? (i := 73) (by decide +kernel), List.mem_of_getElem? (i := 1217) (by decide +kernel), by decide +kernel⟩
theorem md_X11_count : z_Md yX11_count cX11_count 4 (some .int) 1 := ⟨List.mem_of_getElem? (i := 73) (by decide +kernel), List.mem_of_getElem? (i := 1149) (by decide +kernel), by decide +kernel⟩
theorem md_X11_cut : z_Md yX11_cut cX11_cut 3 (some .int) 2 := ⟨List.mem_of_getElem? (i := 73) (by decide +kernel), List.mem_of_getElem? (i := 1145) (by decide +kernel), by decide +kernel⟩
theorem md_X11_cutOf : z_Md yX11_cutOf cX11_cutOf 2 (some .int) 1 := ⟨List.mem_of_getElem? (i := 73) (by decide +kernel), List.mem_of_getElem? (i := 1037) (by decide +kernel), by decide +kernel⟩
theorem md_X11_differs : z_Md yX11_differs cX11_differs 7 (some .int) 4 := ⟨List.mem_of_getElem? (i := 73) (by decide +kernel), List.mem_of_getElem? (i := 1201) (by decide +kernel), by decide +kernel⟩
theorem md_X11_drop : z_Md yX11_drop cX11_drop 2 (some .int) 1 := ⟨List.mem_of_getElem? (i := 73) (by decide +kernel), List.mem_of_getElem? (i := 1209) (by decide +kernel), by decide +kernel⟩
theorem md_X11_eats : z_Md yX11_eats cX11_eats 9 (some .boolean) 5 := ⟨List.mem_of_getElem? (i := 73) (by decide +kernel), List.mem_of_getElem? (i := 1181) (by decide +kernel), by decide +kernel⟩
theorem md_X11_far : z_Md yX11_far cX11_far 4 (some .int) 3 := ⟨List.mem_of_getElem? (i := 73) (by decide +kernel), List.mem_of_getElem? (i := 1173) (by decide +kernel), by decide +kernel⟩
theorem md_X11_faultOf : z_Md yX11_faultOf cX11_faultOf 8 (some .int) 0 := ⟨List.mem_of_getElem? (i := 73) (by decide +kernel), List.mem_of_getElem? (i := 1085) (by decide +kernel), by decide +kernel⟩
theorem md_X11_fewest : z_Md yX11_fewest cX11_fewest 7 (some .int) 4 := ⟨List.mem_of_getElem? (i := 73) (by decide +kernel), List.mem_of_getElem? (i := 1177) (by decide +kernel), by decide +kernel⟩
theorem md_X11_film : z_Md yX11_film cX11_film 7 (some .int) 4 := ⟨List.mem_of_getElem? (i := 73) (by decide +kernel), List.mem_of_getElem? (i := 1193) (by decide +kernel), by decide +kernel⟩
theorem md_X11_finds : z_Md yX11_finds cX11_finds 3 (some .int) 2 := ⟨List.mem_of_getElem? (i := 73) (by decide +kernel), List.mem_of_getElem? (i := 1141) (by decide +kernel), by decide +kernel⟩
theorem md_X11_findsOf : z_Md yX11_findsOf cX11_findsOf 5 (some .int) 2 := ⟨List.mem_of_getElem? (i := 73) (by decide +kernel), List.mem_of_getElem? (i := 1105) (by decide +kernel), by decide +kernel⟩
theorem md_X11_flip : z_Md yX11_flip cX11_flip 4 (some .int) 2 := ⟨List.mem_of_getElem? (i := 73) (by decide +kernel), List.mem_of_getElem? (i := 1064) (by decide +kernel), by decide +kernel⟩
theorem md_X11_flipped : z_Md yX11_flipped cX11_flipped 8 (some .int) 2 := ⟨List.mem_of_getElem? (i := 73) (by decide +kernel), List.mem_of_getElem? (i := 1072) (by decide +kernel), by decide +kernel⟩
theorem md_X11_form : z_Md yX11_form cX11_form 2 (some .int) 1 := ⟨List.mem_of_getElem? (i := 73) (by decide +kernel), List.mem_of_getElem? (i := 1053) (by decide +kernel), by decide +kernel⟩
theorem md_X11_formOf : z_Md yX11_formOf cX11_formOf 4 (some .int) 1 := ⟨List.mem_of_getElem? (i := 73) (by decide +kernel), List.mem_of_getElem? (i := 1057) (by decide +kernel), by decide +kernel⟩
theorem md_X11_forms : z_Md yX11_forms cX11_forms 2 (some .int) 1 := ⟨List.mem_of_getElem? (i := 73) (by decide +kernel), List.mem_of_getElem? (i := 1153) (by decide +kernel), by decide +kernel⟩
theorem md_X11_goesTo : z_Md yX11_goesTo cX11_goesTo 7 (some .int) 2 := ⟨List.mem_of_getElem? (i := 73) (by decide +kernel), List.mem_of_getElem? (i := 1068) (by decide +kernel), by decide +kernel⟩
theorem md_X11_grab : z_Md yX11_grab cX11_grab 6 none 2 := ⟨List.mem_of_getElem? (i := 73) (by decide +kernel), List.mem_of_getElem? (i := 1125) (by decide +kernel), by decide +kernel⟩
theorem md_X11_hasPiece : z_Md yX11_hasPiece cX11_hasPiece 4 (some .boolean) 1 := ⟨List.mem_of_getElem? (i := 73) (by decide +kernel), List.mem_of_getElem? (i := 978) (by decide +kernel), by decide +kernel⟩
theorem md_X11_head : z_Md yX11_head cX11_head 4 (some .int) 2 := ⟨List.mem_of_getElem? (i := 73) (by decide +kernel), List.mem_of_getElem? (i := 1089) (by decide +kernel), by decide +kernel⟩
theorem md_X11_holdsTest : z_Md yX11_holdsTest cX11_holdsTest 9 (some .boolean) 2 := ⟨List.mem_of_getElem? (i := 73) (by decide +kernel), List.mem_of_getElem? (i := 1109) (by decide +kernel), by decide +kernel⟩
theorem md_X11_image : z_Md yX11_image cX11_image 3 (some .int) 1 := ⟨List.mem_of_getElem? (i := 73) (by decide +kernel), List.mem_of_getElem? (i := 1185) (by decide +kernel), by decide +kernel⟩
theorem md_X11_in : z_Md yX11_in cX11_in 3 (some .boolean) 3 := ⟨List.mem_of_getElem? (i := 73) (by decide +kernel), List.mem_of_getElem? (i := 974) (by decide +kernel), by decide +kernel⟩
theorem md_X11_init : z_Md yX11_init cX11_init 2 none 0 := ⟨List.mem_of_getElem? (i := 73) (by decide +kernel), List.mem_of_getElem? (i := 895) (by decide +kernel), by decide +kernel⟩
theorem md_X11_isArm : z_Md yX11_isArm cX11_isArm 2 (some .boolean) 1 := ⟨List.mem_of_getElem? (i := 73) (by decide +kernel), List.mem_of_getElem? (i := 1033) (by decide +kernel), by decide +kernel⟩
theorem md_X11_isCell : z_Md yX11_isCell cX11_isCell 2 (some .boolean) 2 := ⟨List.mem_of_getElem? (i := 73) (by decide +kernel), List.mem_of_getElem? (i := 971) (by decide +kernel), by decide +kernel⟩
theorem md_X11_isFree : z_Md yX11_isFree cX11_isFree 2 (some .boolean) 1 := ⟨List.mem_of_getElem? (i := 73) (by decide +kernel), List.mem_of_getElem? (i := 1017) (by decide +kernel), by decide +kernel⟩
theorem md_X11_isNear : z_Md yX11_isNear cX11_isNear 7 (some .boolean) 2 := ⟨List.mem_of_getElem? (i := 73) (by decide +kernel), List.mem_of_getElem? (i := 1117) (by decide +kernel), by decide +kernel⟩
theorem md_X11_isPiece : z_Md yX11_isPiece cX11_isPiece 3 (some .boolean) 2 := ⟨List.mem_of_getElem? (i := 73) (by decide +kernel), List.mem_of_getElem? (i := 1029) (by decide +kernel), by decide +kernel⟩
theorem md_X11_isSheet : z_Md yX11_isSheet cX11_isSheet 1 (some .boolean) 1 := ⟨List.mem_of_getElem? (i := 73) (by decide +kernel), List.mem_of_getElem? (i := 1003) (by decide +kernel), by decide +kernel⟩
theorem md_X11_isThing : z_Md yX11_isThing cX11_isThing 2 (some .boolean) 1 := ⟨List.mem_of_getElem? (i := 73) (by decide +kernel), List.mem_of_getElem? (i := 1049) (by decide +kernel), by decide +kernel⟩
theorem md_X11_isTip : z_Md yX11_isTip cX11_isTip 3 (some .boolean) 2 := ⟨List.mem_of_getElem? (i := 73) (by decide +kernel), List.mem_of_getElem? (i := 1041) (by decide +kernel), by decide +kernel⟩
theorem md_X11_item : z_Md yX11_item cX11_item 5 (some .int) 4 := ⟨List.mem_of_getElem? (i := 73) (by decide +kernel), List.mem_of_getElem? (i := 1213) (by decide +kernel), by decide +kernel⟩
theorem md_X11_lay : z_Md yX11_lay cX11_lay 4 none 2 := ⟨List.mem_of_getElem? (i := 73) (by decide +kernel), List.mem_of_getElem? (i := 1165) (by decide +kernel), by decide +kernel⟩
theorem md_X11_layReach : z_Md yX11_layReach cX11_layReach 10 none 1 := ⟨List.mem_of_getElem? (i := 73) (by decide +kernel), List.mem_of_getElem? (i := 1157) (by decide +kernel), by decide +kernel⟩
theorem md_X11_letGo : z_Md yX11_letGo cX11_letGo 4 none 2 := ⟨List.mem_of_getElem? (i := 73) (by decide +kernel), List.mem_of_getElem? (i := 1133) (by decide +kernel), by decide +kernel⟩
theorem md_X11_lyingAt : z_Md yX11_lyingAt cX11_lyingAt 3 (some .int) 1 := ⟨List.mem_of_getElem? (i := 73) (by decide +kernel), List.mem_of_getElem? (i := 993) (by decide +kernel), by decide +kernel⟩
theorem md_X11_of : z_Md yX11_of cX11_of 2 (some .int) 2 := ⟨List.mem_of_getElem? (i := 73) (by decide +kernel), List.mem_of_getElem? (i := 985) (by decide +kernel), by decide +kernel⟩
theorem md_X11_pass : z_Md yX11_pass cX11_pass 4 none 2 := ⟨List.mem_of_getElem? (i := 73) (by decide +kernel), List.mem_of_getElem? (i := 1129) (by decide +kernel), by decide +kernel⟩
theorem md_X11_piece : z_Md yX11_piece cX11_piece 4 (some .int) 3 := ⟨List.mem_of_getElem? (i := 73) (by decide +kernel), List.mem_of_getElem? (i := 1025) (by decide +kernel), by decide +kernel⟩
theorem md_X11_pieces : z_Md yX11_pieces cX11_pieces 2 (some .int) 1 := ⟨List.mem_of_getElem? (i := 73) (by decide +kernel), List.mem_of_getElem? (i := 982) (by decide +kernel), by decide +kernel⟩
theorem md_X11_power : z_Md yX11_power cX11_power 1 (some .int) 1 := ⟨List.mem_of_getElem? (i := 73) (by decide +kernel), List.mem_of_getElem? (i := 1010) (by decide +kernel), by decide +kernel⟩
theorem md_X11_reach : z_Md yX11_reach cX11_reach 4 (some .int) 1 := ⟨List.mem_of_getElem? (i := 73) (by decide +kernel), List.mem_of_getElem? (i := 1169) (by decide +kernel), by decide +kernel⟩
theorem md_X11_restore : z_Md yX11_restore cX11_restore 3 (some .int) 1 := ⟨List.mem_of_getElem? (i := 73) (by decide +kernel), List.mem_of_getElem? (i := 1189) (by decide +kernel), by decide +kernel⟩
theorem md_X11_rules : z_Md yX11_rules cX11_rules 6 (some .int) 1 := ⟨List.mem_of_getElem? (i := 73) (by decide +kernel), List.mem_of_getElem? (i := 1081) (by decide +kernel), by decide +kernel⟩
theorem md_X11_sheet : z_Md yX11_sheet cX11_sheet 5 (some .int) 3 := ⟨List.mem_of_getElem? (i := 73) (by decide +kernel), List.mem_of_getElem? (i := 1205) (by decide +kernel), by decide +kernel⟩
theorem md_X11_sideTo : z_Md yX11_sideTo cX11_sideTo 3 (some .int) 2 := ⟨List.mem_of_getElem? (i := 73) (by decide +kernel), List.mem_of_getElem? (i := 1060) (by decide +kernel), by decide +kernel⟩
theorem md_X11_skin : z_Md yX11_skin cX11_skin 3 (some .int) 1 := ⟨List.mem_of_getElem? (i := 73) (by decide +kernel), List.mem_of_getElem? (i := 1093) (by decide +kernel), by decide +kernel⟩
theorem md_X11_thing : z_Md yX11_thing cX11_thing 6 (some .int) 3 := ⟨List.mem_of_getElem? (i := 73) (by decide +kernel), List.mem_of_getElem? (i := 1021) (by decide +kernel), by decide +kernel⟩
theorem md_X11_thingAt : z_Md yX11_thingAt cX11_thingAt 1 (some .int) 1 := ⟨List.mem_of_getElem? (i := 73) (by decide +kernel), List.mem_of_getElem? (i := 996) (by decide +kernel), by decide +kernel⟩
theorem md_X11_things : z_Md yX11_things cX11_things 4 (some .int) 1 := ⟨List.mem_of_getElem? (i := 73) (by decide +kernel), List.mem_of_getElem? (i := 1137) (by decide +kernel), by decide +kernel⟩
theorem md_X11_tick : z_Md yX11_tick cX11_tick 3 none 0 := ⟨List.mem_of_getElem? (i := 73) (by decide +kernel), List.mem_of_getElem? (i := 1101) (by decide +kernel), by decide +kernel⟩
theorem md_X11_ticks : z_Md yX11_ticks cX11_ticks 3 (some .int) 1 := ⟨List.mem_of_getElem? (i := 73) (by decide +kernel), List.mem_of_getElem? (i := 1097) (by decide +kernel), by decide +kernel⟩
theorem md_X11_told : z_Md yX11_told cX11_told 5 (some .int) 2 := ⟨List.mem_of_getElem? (i := 73) (by decide +kernel), List.mem_of_getElem? (i := 1045) (by decide +kernel), by decide +kernel⟩
theorem md_X11_type : z_Md yX11_type cX11_type 5 (some .int) 2 := ⟨List.mem_of_getElem? (i := 73) (by decide +kernel), List.mem_of_getElem? (i := 1076) (by decide +kernel), by decide +kernel⟩
theorem md_X11_wall : z_Md yX11_wall cX11_wall 6 (some .int) 3 := ⟨List.mem_of_getElem? (i := 73) (by decide +kernel), List.mem_of_getElem? (i := 968) (by decide +kernel), by decide +kernel⟩
theorem md_X11_walls : z_Md yX11_walls cX11_walls 4 (some .int) 1 := ⟨List.mem_of_getElem? (i := 73) (by decide +kernel), List.mem_of_getElem? (i := 1000) (by decide +kernel), by decide +kernel⟩
theorem md_X1_holds : z_Md yX1_holds cX1_holds 6 (some .boolean) 3 := ⟨List.mem_of_getElem? (i := 79) (by decide +kernel), List.mem_of_getElem? (i := 702) (by decide +kernel), by decide +kernel⟩
theorem md_X1_init : z_Md yX1_init cX1_init 1 none 0 := ⟨List.mem_of_getElem? (i := 79) (by decide +kernel), List.mem_of_getElem? (i := 616) (by decide +kernel), by decide +kernel⟩
theorem md_X2_init : z_Md yX2_init cX2_init 1 none 0 := ⟨List.mem_of_getElem? (i := 78) (by decide +kernel), List.mem_of_getElem? (i := 583) (by decide +kernel), by decide +kernel⟩
theorem md_X3_goOnFrom : z_Md yX3_goOnFrom cX3_goOnFrom 7 none 2 := ⟨List.mem_of_getElem? (i := 70) (by decide +kernel), List.mem_of_getElem? (i := 788) (by decide +kernel), by decide +kernel⟩
theorem md_X3_init : z_Md yX3_init cX3_init 1 none 0 := ⟨List.mem_of_getElem? (i := 70) (by decide +kernel), List.mem_of_getElem? (i := 254) (by decide +kernel), by decide +kernel⟩
theorem md_X3_layOut : z_Md yX3_layOut cX3_layOut 5 (some .long) 1 := ⟨List.mem_of_getElem? (i := 70) (by decide +kernel), List.mem_of_getElem? (i := 766) (by decide +kernel), by decide +kernel⟩
theorem md_X3_search : z_Md yX3_search cX3_search 6 none 2 := ⟨List.mem_of_getElem? (i := 70) (by decide +kernel), List.mem_of_getElem? (i := 761) (by decide +kernel), by decide +kernel⟩
theorem md_X3_searchAnew : z_Md yX3_searchAnew cX3_searchAnew 2 none 0 := ⟨List.mem_of_getElem? (i := 70) (by decide +kernel), List.mem_of_getElem? (i := 772) (by decide +kernel), by decide +kernel⟩
theorem md_X3_see : z_Md yX3_see cX3_see 3 none 2 := ⟨List.mem_of_getElem? (i := 70) (by decide +kernel), List.mem_of_getElem? (i := 784) (by decide +kernel), by decide +kernel⟩
theorem md_X3_seeFlip : z_Md yX3_seeFlip cX3_seeFlip 11 none 4 := ⟨List.mem_of_getElem? (i := 70) (by decide +kernel), List.mem_of_getElem? (i := 792) (by decide +kernel), by decide +kernel⟩
theorem md_X3_seeTurns : z_Md yX3_seeTurns cX3_seeTurns 8 none 3 := ⟨List.mem_of_getElem? (i := 70) (by decide +kernel), List.mem_of_getElem? (i := 796) (by decide +kernel), by decide +kernel⟩
theorem md_X4_fail : z_Md yX4_fail cX4_fail 1 none 0 := ⟨List.mem_of_getElem? (i := 69) (by decide +kernel), List.mem_of_getElem? (i := 650) (by decide +kernel), by decide +kernel⟩
theorem md_X4_goTo : z_Md yX4_goTo cX4_goTo 2 none 1 := ⟨List.mem_of_getElem? (i := 69) (by decide +kernel), List.mem_of_getElem? (i := 555) (by decide +kernel), by decide +kernel⟩
theorem md_X4_init : z_Md yX4_init cX4_init 1 none 0 := ⟨List.mem_of_getElem? (i := 69) (by decide +kernel), List.mem_of_getElem? (i := 230) (by decide +kernel), by decide +kernel⟩
theorem md_X4_isAct : z_Md yX4_isAct cX4_isAct 1 (some .boolean) 1 := ⟨List.mem_of_getElem? (i := 69) (by decide +kernel), List.mem_of_getElem? (i := 666) (by decide +kernel), by decide +kernel⟩
theorem md_X4_need : z_Md yX4_need cX4_need 2 none 1 := ⟨List.mem_of_getElem? (i := 69) (by decide +kernel), List.mem_of_getElem? (i := 646) (by decide +kernel), by decide +kernel⟩
theorem md_X4_read : z_Md yX4_read cX4_read 4 (some (.object "ThinkingArms$Rules")) 2 := ⟨List.mem_of_getElem? (i := 69) (by decide +kernel), List.mem_of_getElem? (i := 551) (by decide +kernel), by decide +kernel⟩
theorem md_X4_readAct : z_Md yX4_readAct cX4_readAct 3 none 1 := ⟨List.mem_of_getElem? (i := 69) (by decide +kernel), List.mem_of_getElem? (i := 663) (by decide +kernel), by decide +kernel⟩
theorem md_X4_readClaim : z_Md yX4_readClaim cX4_readClaim 3 (some (.object "ThinkingArms$Claim")) 1 := ⟨List.mem_of_getElem? (i := 69) (by decide +kernel), List.mem_of_getElem? (i := 611) (by decide +kernel), by decide +kernel⟩
theorem md_X4_readClause : z_Md yX4_readClause cX4_readClause 2 (some (.object "ThinkingArms$Clause")) 0 := ⟨List.mem_of_getElem? (i := 69) (by decide +kernel), List.mem_of_getElem? (i := 578) (by decide +kernel), by decide +kernel⟩
theorem md_X4_readDigit : z_Md yX4_readDigit cX4_readDigit 2 (some .int) 0 := ⟨List.mem_of_getElem? (i := 69) (by decide +kernel), List.mem_of_getElem? (i := 658) (by decide +kernel), by decide +kernel⟩
theorem md_X4_readSense : z_Md yX4_readSense cX4_readSense 1 (some .int) 0 := ⟨List.mem_of_getElem? (i := 69) (by decide +kernel), List.mem_of_getElem? (i := 654) (by decide +kernel), by decide +kernel⟩
theorem md_X4_readTest : z_Md yX4_readTest cX4_readTest 6 (some (.object "ThinkingArms$Claim")) 1 := ⟨List.mem_of_getElem? (i := 69) (by decide +kernel), List.mem_of_getElem? (i := 607) (by decide +kernel), by decide +kernel⟩
theorem md_X4_takes : z_Md yX4_takes cX4_takes 2 (some .boolean) 1 := ⟨List.mem_of_getElem? (i := 69) (by decide +kernel), List.mem_of_getElem? (i := 642) (by decide +kernel), by decide +kernel⟩
theorem md_X5_firstFor : z_Md yX5_firstFor cX5_firstFor 3 (some .int) 1 := ⟨List.mem_of_getElem? (i := 77) (by decide +kernel), List.mem_of_getElem? (i := 699) (by decide +kernel), by decide +kernel⟩
theorem md_X5_init : z_Md yX5_init cX5_init 1 none 0 := ⟨List.mem_of_getElem? (i := 77) (by decide +kernel), List.mem_of_getElem? (i := 560) (by decide +kernel), by decide +kernel⟩
theorem md_X6_addArm : z_Md yX6_addArm cX6_addArm 4 none 2 := ⟨List.mem_of_getElem? (i := 66) (by decide +kernel), List.mem_of_getElem? (i := 436) (by decide +kernel), by decide +kernel⟩
theorem md_X6_addThing : z_Md yX6_addThing cX6_addThing 3 none 2 := ⟨List.mem_of_getElem? (i := 66) (by decide +kernel), List.mem_of_getElem? (i := 458) (by decide +kernel), by decide +kernel⟩
theorem md_X6_become : z_Md yX6_become cX6_become 3 none 1 := ⟨List.mem_of_getElem? (i := 66) (by decide +kernel), List.mem_of_getElem? (i := 817) (by decide +kernel), by decide +kernel⟩
theorem md_X6_canLie : z_Md yX6_canLie cX6_canLie 9 (some .boolean) 4 := ⟨List.mem_of_getElem? (i := 66) (by decide +kernel), List.mem_of_getElem? (i := 423) (by decide +kernel), by decide +kernel⟩
theorem md_X6_cellOfThing : z_Md yX6_cellOfThing cX6_cellOfThing 2 (some .int) 1 := ⟨List.mem_of_getElem? (i := 66) (by decide +kernel), List.mem_of_getElem? (i := 498) (by decide +kernel), by decide +kernel⟩
theorem md_X6_clauseFor : z_Md yX6_clauseFor cX6_clauseFor 3 (some .int) 2 := ⟨List.mem_of_getElem? (i := 66) (by decide +kernel), List.mem_of_getElem? (i := 686) (by decide +kernel), by decide +kernel⟩
theorem md_X6_countThings : z_Md yX6_countThings cX6_countThings 4 (some .int) 1 := ⟨List.mem_of_getElem? (i := 66) (by decide +kernel), List.mem_of_getElem? (i := 736) (by decide +kernel), by decide +kernel⟩
theorem md_X6_doActs : z_Md yX6_doActs cX6_doActs 9 (some .int) 2 := ⟨List.mem_of_getElem? (i := 66) (by decide +kernel), List.mem_of_getElem? (i := 707) (by decide +kernel), by decide +kernel⟩
theorem md_X6_flipped : z_Md yX6_flipped cX6_flipped 5 (some .int) 3 := ⟨List.mem_of_getElem? (i := 66) (by decide +kernel), List.mem_of_getElem? (i := 532) (by decide +kernel), by decide +kernel⟩
theorem md_X6_give : z_Md yX6_give cX6_give 4 none 3 := ⟨List.mem_of_getElem? (i := 66) (by decide +kernel), List.mem_of_getElem? (i := 724) (by decide +kernel), by decide +kernel⟩
theorem md_X6_grab : z_Md yX6_grab cX6_grab 6 none 2 := ⟨List.mem_of_getElem? (i := 66) (by decide +kernel), List.mem_of_getElem? (i := 712) (by decide +kernel), by decide +kernel⟩
theorem md_X6_inUse : z_Md yX6_inUse cX6_inUse 1 (some .long) 0 := ⟨List.mem_of_getElem? (i := 66) (by decide +kernel), List.mem_of_getElem? (i := 377) (by decide +kernel), by decide +kernel⟩
theorem md_X6_init : z_Md yX6_init cX6_init 2 none 0 := ⟨List.mem_of_getElem? (i := 66) (by decide +kernel), List.mem_of_getElem? (i := 92) (by decide +kernel), by decide +kernel⟩
theorem md_X6_isFree : z_Md yX6_isFree cX6_isFree 2 (some .boolean) 1 := ⟨List.mem_of_getElem? (i := 66) (by decide +kernel), List.mem_of_getElem? (i := 432) (by decide +kernel), by decide +kernel⟩
theorem md_X6_lay : z_Md yX6_lay cX6_lay 3 none 2 := ⟨List.mem_of_getElem? (i := 66) (by decide +kernel), List.mem_of_getElem? (i := 462) (by decide +kernel), by decide +kernel⟩
theorem md_X6_letGo : z_Md yX6_letGo cX6_letGo 4 none 2 := ⟨List.mem_of_getElem? (i := 66) (by decide +kernel), List.mem_of_getElem? (i := 732) (by decide +kernel), by decide +kernel⟩
theorem md_X6_lift : z_Md yX6_lift cX6_lift 2 none 1 := ⟨List.mem_of_getElem? (i := 66) (by decide +kernel), List.mem_of_getElem? (i := 720) (by decide +kernel), by decide +kernel⟩
theorem md_X6_lyingAt : z_Md yX6_lyingAt cX6_lyingAt 3 (some .int) 1 := ⟨List.mem_of_getElem? (i := 66) (by decide +kernel), List.mem_of_getElem? (i := 716) (by decide +kernel), by decide +kernel⟩
theorem md_X6_lyingCells : z_Md yX6_lyingCells cX6_lyingCells 1 (some .long) 0 := ⟨List.mem_of_getElem? (i := 66) (by decide +kernel), List.mem_of_getElem? (i := 381) (by decide +kernel), by decide +kernel⟩
theorem md_X6_move : z_Md yX6_move cX6_move 4 (some .boolean) 2 := ⟨List.mem_of_getElem? (i := 66) (by decide +kernel), List.mem_of_getElem? (i := 522) (by decide +kernel), by decide +kernel⟩
theorem md_X6_passOn : z_Md yX6_passOn cX6_passOn 6 none 2 := ⟨List.mem_of_getElem? (i := 66) (by decide +kernel), List.mem_of_getElem? (i := 728) (by decide +kernel), by decide +kernel⟩
theorem md_X6_senses : z_Md yX6_senses cX6_senses 7 (some .int) 2 := ⟨List.mem_of_getElem? (i := 66) (by decide +kernel), List.mem_of_getElem? (i := 690) (by decide +kernel), by decide +kernel⟩
theorem md_X6_tick : z_Md yX6_tick cX6_tick 3 none 0 := ⟨List.mem_of_getElem? (i := 66) (by decide +kernel), List.mem_of_getElem? (i := 682) (by decide +kernel), by decide +kernel⟩
theorem md_X6_turned : z_Md yX6_turned cX6_turned 6 (some .int) 2 := ⟨List.mem_of_getElem? (i := 66) (by decide +kernel), List.mem_of_getElem? (i := 527) (by decide +kernel), by decide +kernel⟩
theorem md_X7_asCells : z_Md yX7_asCells cX7_asCells 4 (some .long) 0 := ⟨List.mem_of_getElem? (i := 72) (by decide +kernel), List.mem_of_getElem? (i := 406) (by decide +kernel), by decide +kernel⟩
theorem md_X7_begin : z_Md yX7_begin cX7_begin 3 none 2 := ⟨List.mem_of_getElem? (i := 72) (by decide +kernel), List.mem_of_getElem? (i := 867) (by decide +kernel), by decide +kernel⟩
theorem md_X7_forget : z_Md yX7_forget cX7_forget 1 none 0 := ⟨List.mem_of_getElem? (i := 72) (by decide +kernel), List.mem_of_getElem? (i := 877) (by decide +kernel), by decide +kernel⟩
theorem md_X7_holdsNothing : z_Md yX7_holdsNothing cX7_holdsNothing 1 (some .boolean) 0 := ⟨List.mem_of_getElem? (i := 72) (by decide +kernel), List.mem_of_getElem? (i := 398) (by decide +kernel), by decide +kernel⟩
theorem md_X7_init : z_Md yX7_init cX7_init 1 none 0 := ⟨List.mem_of_getElem? (i := 72) (by decide +kernel), List.mem_of_getElem? (i := 321) (by decide +kernel), by decide +kernel⟩
theorem md_X7_refuses : z_Md yX7_refuses cX7_refuses 4 (some .int) 3 := ⟨List.mem_of_getElem? (i := 72) (by decide +kernel), List.mem_of_getElem? (i := 394) (by decide +kernel), by decide +kernel⟩
theorem md_X7_spans : z_Md yX7_spans cX7_spans 3 (some .boolean) 2 := ⟨List.mem_of_getElem? (i := 72) (by decide +kernel), List.mem_of_getElem? (i := 402) (by decide +kernel), by decide +kernel⟩
theorem md_X8_become : z_Md yX8_become cX8_become 2 none 1 := ⟨List.mem_of_getElem? (i := 68) (by decide +kernel), List.mem_of_getElem? (i := 826) (by decide +kernel), by decide +kernel⟩
theorem md_X8_init : z_Md yX8_init cX8_init 1 none 0 := ⟨List.mem_of_getElem? (i := 68) (by decide +kernel), List.mem_of_getElem? (i := 156) (by decide +kernel), by decide +kernel⟩
theorem md_X9_init : z_Md yX9_init cX9_init 2 none 0 := ⟨List.mem_of_getElem? (i := 71) (by decide +kernel), List.mem_of_getElem? (i := 297) (by decide +kernel), by decide +kernel⟩
theorem md_X9_isEatenBy : z_Md yX9_isEatenBy cX9_isEatenBy 9 (some .boolean) 2 := ⟨List.mem_of_getElem? (i := 71) (by decide +kernel), List.mem_of_getElem? (i := 830) (by decide +kernel), by decide +kernel⟩
theorem md_X9_search : z_Md yX9_search cX9_search 6 (some .int) 4 := ⟨List.mem_of_getElem? (i := 71) (by decide +kernel), List.mem_of_getElem? (i := 813) (by decide +kernel), by decide +kernel⟩
theorem st_J13_bitCount_95d88 : Cond.static yJ13_bitCount_95d88 ∈ lw_tbl := List.mem_of_getElem? (i := 408) (by decide +kernel)
theorem st_J7_fill_53178 : Cond.static yJ7_fill_53178 ∈ lw_tbl := List.mem_of_getElem? (i := 445) (by decide +kernel)
theorem st_J7_fill_fda19 : Cond.static yJ7_fill_fda19 ∈ lw_tbl := List.mem_of_getElem? (i := 775) (by decide +kernel)
theorem st_J7_rangeCheck_23922 : Cond.static yJ7_rangeCheck_23922 ∈ lw_tbl := List.mem_of_getElem? (i := 778) (by decide +kernel)
theorem st_X10_beside : Cond.static yX10_beside ∈ lw_tbl := List.mem_of_getElem? (i := 425) (by decide +kernel)
theorem st_X10_byteOf : Cond.static yX10_byteOf ∈ lw_tbl := List.mem_of_getElem? (i := 542) (by decide +kernel)
theorem st_X10_cellOf : Cond.static yX10_cellOf ∈ lw_tbl := List.mem_of_getElem? (i := 372) (by decide +kernel)
theorem st_X10_formsOf : Cond.static yX10_formsOf ∈ lw_tbl := List.mem_of_getElem? (i := 418) (by decide +kernel)
theorem st_X10_isCell : Cond.static yX10_isCell ∈ lw_tbl := List.mem_of_getElem? (i := 369) (by decide +kernel)
theorem st_X10_isDigit : Cond.static yX10_isDigit ∈ lw_tbl := List.mem_of_getElem? (i := 452) (by decide +kernel)
theorem st_X10_isLane : Cond.static yX10_isLane ∈ lw_tbl := List.mem_of_getElem? (i := 862) (by decide +kernel)
theorem st_X10_narrowed : Cond.static yX10_narrowed ∈ lw_tbl := List.mem_of_getElem? (i := 883) (by decide +kernel)
theorem st_X10_near : Cond.static yX10_near ∈ lw_tbl := List.mem_of_getElem? (i := 692) (by decide +kernel)
theorem st_X10_sideOf : Cond.static yX10_sideOf ∈ lw_tbl := List.mem_of_getElem? (i := 509) (by decide +kernel)
theorem st_X10_touchByCorner : Cond.static yX10_touchByCorner ∈ lw_tbl := List.mem_of_getElem? (i := 534) (by decide +kernel)
theorem st_X11_beside : Cond.static yX11_beside ∈ lw_tbl := List.mem_of_getElem? (i := 1012) (by decide +kernel)
theorem st_X11_in : Cond.static yX11_in ∈ lw_tbl := List.mem_of_getElem? (i := 973) (by decide +kernel)
theorem st_X11_isCell : Cond.static yX11_isCell ∈ lw_tbl := List.mem_of_getElem? (i := 970) (by decide +kernel)
theorem st_X11_isSheet : Cond.static yX11_isSheet ∈ lw_tbl := List.mem_of_getElem? (i := 1002) (by decide +kernel)
theorem st_X11_of : Cond.static yX11_of ∈ lw_tbl := List.mem_of_getElem? (i := 984) (by decide +kernel)
theorem st_X11_power : Cond.static yX11_power ∈ lw_tbl := List.mem_of_getElem? (i := 1009) (by decide +kernel)
theorem st_X11_sideTo : Cond.static yX11_sideTo ∈ lw_tbl := List.mem_of_getElem? (i := 1059) (by decide +kernel)
theorem st_X11_thingAt : Cond.static yX11_thingAt ∈ lw_tbl := List.mem_of_getElem? (i := 995) (by decide +kernel)
theorem st_X1_holds : Cond.static yX1_holds ∈ lw_tbl := List.mem_of_getElem? (i := 701) (by decide +kernel)
theorem st_X4_isAct : Cond.static yX4_isAct ∈ lw_tbl := List.mem_of_getElem? (i := 665) (by decide +kernel)
theorem im_X0_become : Cond.instanceMethod yX0_become ∈ lw_tbl := List.mem_of_getElem? (i := 820) (by decide +kernel)
theorem im_X0_begin : Cond.instanceMethod yX0_begin ∈ lw_tbl := List.mem_of_getElem? (i := 438) (by decide +kernel)
theorem im_X0_canEverMove : Cond.instanceMethod yX0_canEverMove ∈ lw_tbl := List.mem_of_getElem? (i := 516) (by decide +kernel)
theorem im_X0_formNow : Cond.instanceMethod yX0_formNow ∈ lw_tbl := List.mem_of_getElem? (i := 505) (by decide +kernel)
theorem im_X0_init : Cond.instanceMethod yX0_init ∈ lw_tbl := List.mem_of_getElem? (i := 100) (by decide +kernel)
theorem im_X0_isCut : Cond.instanceMethod yX0_isCut ∈ lw_tbl := List.mem_of_getElem? (i := 480) (by decide +kernel)
theorem im_X0_isCutOff : Cond.instanceMethod yX0_isCutOff ∈ lw_tbl := List.mem_of_getElem? (i := 476) (by decide +kernel)
theorem im_X0_isTip : Cond.instanceMethod yX0_isTip ∈ lw_tbl := List.mem_of_getElem? (i := 484) (by decide +kernel)
theorem im_X10_arm : Cond.instanceMethod yX10_arm ∈ lw_tbl := List.mem_of_getElem? (i := 414) (by decide +kernel)
theorem im_X10_copy : Cond.instanceMethod yX10_copy ∈ lw_tbl := List.mem_of_getElem? (i := 886) (by decide +kernel)
theorem im_X10_count : Cond.instanceMethod yX10_count ∈ lw_tbl := List.mem_of_getElem? (i := 747) (by decide +kernel)
theorem im_X10_cut : Cond.instanceMethod yX10_cut ∈ lw_tbl := List.mem_of_getElem? (i := 743) (by decide +kernel)
theorem im_X10_differs : Cond.instanceMethod yX10_differs ∈ lw_tbl := List.mem_of_getElem? (i := 854) (by decide +kernel)
theorem im_X10_drop : Cond.instanceMethod yX10_drop ∈ lw_tbl := List.mem_of_getElem? (i := 870) (by decide +kernel)
theorem im_X10_far : Cond.instanceMethod yX10_far ∈ lw_tbl := List.mem_of_getElem? (i := 803) (by decide +kernel)
theorem im_X10_fewest : Cond.instanceMethod yX10_fewest ∈ lw_tbl := List.mem_of_getElem? (i := 807) (by decide +kernel)
theorem im_X10_film : Cond.instanceMethod yX10_film ∈ lw_tbl := List.mem_of_getElem? (i := 846) (by decide +kernel)
theorem im_X10_finds : Cond.instanceMethod yX10_finds ∈ lw_tbl := List.mem_of_getElem? (i := 738) (by decide +kernel)
theorem im_X10_flip : Cond.instanceMethod yX10_flip ∈ lw_tbl := List.mem_of_getElem? (i := 512) (by decide +kernel)
theorem im_X10_form : Cond.instanceMethod yX10_form ∈ lw_tbl := List.mem_of_getElem? (i := 500) (by decide +kernel)
theorem im_X10_forms : Cond.instanceMethod yX10_forms ∈ lw_tbl := List.mem_of_getElem? (i := 751) (by decide +kernel)
theorem im_X10_head : Cond.instanceMethod yX10_head ∈ lw_tbl := List.mem_of_getElem? (i := 668) (by decide +kernel)
theorem im_X10_image : Cond.instanceMethod yX10_image ∈ lw_tbl := List.mem_of_getElem? (i := 833) (by decide +kernel)
theorem im_X10_init : Cond.instanceMethod yX10_init ∈ lw_tbl := List.mem_of_getElem? (i := 83) (by decide +kernel)
theorem im_X10_isArm : Cond.instanceMethod yX10_isArm ∈ lw_tbl := List.mem_of_getElem? (i := 473) (by decide +kernel)
theorem im_X10_isImage : Cond.instanceMethod yX10_isImage ∈ lw_tbl := List.mem_of_getElem? (i := 838) (by decide +kernel)
theorem im_X10_isPiece : Cond.instanceMethod yX10_isPiece ∈ lw_tbl := List.mem_of_getElem? (i := 469) (by decide +kernel)
theorem im_X10_isSheet : Cond.instanceMethod yX10_isSheet ∈ lw_tbl := List.mem_of_getElem? (i := 389) (by decide +kernel)
theorem im_X10_isThing : Cond.instanceMethod yX10_isThing ∈ lw_tbl := List.mem_of_getElem? (i := 493) (by decide +kernel)
theorem im_X10_item : Cond.instanceMethod yX10_item ∈ lw_tbl := List.mem_of_getElem? (i := 879) (by decide +kernel)
theorem im_X10_piece : Cond.instanceMethod yX10_piece ∈ lw_tbl := List.mem_of_getElem? (i := 464) (by decide +kernel)
theorem im_X10_reach : Cond.instanceMethod yX10_reach ∈ lw_tbl := List.mem_of_getElem? (i := 799) (by decide +kernel)
theorem im_X10_refusesFilm : Cond.instanceMethod yX10_refusesFilm ∈ lw_tbl := List.mem_of_getElem? (i := 851) (by decide +kernel)
theorem im_X10_refusesReach : Cond.instanceMethod yX10_refusesReach ∈ lw_tbl := List.mem_of_getElem? (i := 756) (by decide +kernel)
theorem im_X10_restore : Cond.instanceMethod yX10_restore ∈ lw_tbl := List.mem_of_getElem? (i := 842) (by decide +kernel)
theorem im_X10_rules : Cond.instanceMethod yX10_rules ∈ lw_tbl := List.mem_of_getElem? (i := 545) (by decide +kernel)
theorem im_X10_sheet : Cond.instanceMethod yX10_sheet ∈ lw_tbl := List.mem_of_getElem? (i := 858) (by decide +kernel)
theorem im_X10_skin : Cond.instanceMethod yX10_skin ∈ lw_tbl := List.mem_of_getElem? (i := 672) (by decide +kernel)
theorem im_X10_thing : Cond.instanceMethod yX10_thing ∈ lw_tbl := List.mem_of_getElem? (i := 448) (by decide +kernel)
theorem im_X10_ticks : Cond.instanceMethod yX10_ticks ∈ lw_tbl := List.mem_of_getElem? (i := 676) (by decide +kernel)
theorem im_X10_told : Cond.instanceMethod yX10_told ∈ lw_tbl := List.mem_of_getElem? (i := 488) (by decide +kernel)
theorem im_X10_type : Cond.instanceMethod yX10_type ∈ lw_tbl := List.mem_of_getElem? (i := 538) (by decide +kernel)
theorem im_X10_wall : Cond.instanceMethod yX10_wall ∈ lw_tbl := List.mem_of_getElem? (i := 365) (by decide +kernel)
theorem im_X10_walls : Cond.instanceMethod yX10_walls ∈ lw_tbl := List.mem_of_getElem? (i := 384) (by decide +kernel)
theorem im_X11_act : Cond.instanceMethod yX11_act ∈ lw_tbl := List.mem_of_getElem? (i := 1120) (by decide +kernel)
theorem im_X11_arm : Cond.instanceMethod yX11_arm ∈ lw_tbl := List.mem_of_getElem? (i := 1005) (by decide +kernel)
theorem im_X11_bars : Cond.instanceMethod yX11_bars ∈ lw_tbl := List.mem_of_getElem? (i := 1196) (by decide +kernel)
theorem im_X11_cell : Cond.instanceMethod yX11_cell ∈ lw_tbl := List.mem_of_getElem? (i := 988) (by decide +kernel)
theorem im_X11_claims : Cond.instanceMethod yX11_claims ∈ lw_tbl := List.mem_of_getElem? (i := 1112) (by decide +kernel)
theorem im_X11_come : Cond.instanceMethod yX11_come ∈ lw_tbl := List.mem_of_getElem? (i := 1160) (by decide +kernel)
theorem im_X11_copy : Cond.instanceMethod yX11_copy ∈ lw_tbl := List.mem_of_getElem? (i := 1215) (by decide +kernel)
theorem im_X11_count : Cond.instanceMethod yX11_count ∈ lw_tbl := List.mem_of_getElem? (i := 1147) (by decide +kernel)
theorem im_X11_cut : Cond.instanceMethod yX11_cut ∈ lw_tbl := List.mem_of_getElem? (i := 1143) (by decide +kernel)
theorem im_X11_cutOf : Cond.instanceMethod yX11_cutOf ∈ lw_tbl := List.mem_of_getElem? (i := 1036) (by decide +kernel)
theorem im_X11_differs : Cond.instanceMethod yX11_differs ∈ lw_tbl := List.mem_of_getElem? (i := 1199) (by decide +kernel)
theorem im_X11_drop : Cond.instanceMethod yX11_drop ∈ lw_tbl := List.mem_of_getElem? (i := 1207) (by decide +kernel)
theorem im_X11_eats : Cond.instanceMethod yX11_eats ∈ lw_tbl := List.mem_of_getElem? (i := 1180) (by decide +kernel)
theorem im_X11_far : Cond.instanceMethod yX11_far ∈ lw_tbl := List.mem_of_getElem? (i := 1171) (by decide +kernel)
theorem im_X11_faultOf : Cond.instanceMethod yX11_faultOf ∈ lw_tbl := List.mem_of_getElem? (i := 1084) (by decide +kernel)
theorem im_X11_fewest : Cond.instanceMethod yX11_fewest ∈ lw_tbl := List.mem_of_getElem? (i := 1175) (by decide +kernel)
theorem im_X11_film : Cond.instanceMethod yX11_film ∈ lw_tbl := List.mem_of_getElem? (i := 1191) (by decide +kernel)
theorem im_X11_finds : Cond.instanceMethod yX11_finds ∈ lw_tbl := List.mem_of_getElem? (i := 1139) (by decide +kernel)
theorem im_X11_findsOf : Cond.instanceMethod yX11_findsOf ∈ lw_tbl := List.mem_of_getElem? (i := 1104) (by decide +kernel)
theorem im_X11_flip : Cond.instanceMethod yX11_flip ∈ lw_tbl := List.mem_of_getElem? (i := 1062) (by decide +kernel)
theorem im_X11_flipped : Cond.instanceMethod yX11_flipped ∈ lw_tbl := List.mem_of_getElem? (i := 1071) (by decide +kernel)
theorem im_X11_form : Cond.instanceMethod yX11_form ∈ lw_tbl := List.mem_of_getElem? (i := 1051) (by decide +kernel)
theorem im_X11_formOf : Cond.instanceMethod yX11_formOf ∈ lw_tbl := List.mem_of_getElem? (i := 1056) (by decide +kernel)
theorem im_X11_forms : Cond.instanceMethod yX11_forms ∈ lw_tbl := List.mem_of_getElem? (i := 1151) (by decide +kernel)
theorem im_X11_goesTo : Cond.instanceMethod yX11_goesTo ∈ lw_tbl := List.mem_of_getElem? (i := 1067) (by decide +kernel)
theorem im_X11_grab : Cond.instanceMethod yX11_grab ∈ lw_tbl := List.mem_of_getElem? (i := 1124) (by decide +kernel)
theorem im_X11_hasPiece : Cond.instanceMethod yX11_hasPiece ∈ lw_tbl := List.mem_of_getElem? (i := 977) (by decide +kernel)
theorem im_X11_head : Cond.instanceMethod yX11_head ∈ lw_tbl := List.mem_of_getElem? (i := 1087) (by decide +kernel)
theorem im_X11_holdsTest : Cond.instanceMethod yX11_holdsTest ∈ lw_tbl := List.mem_of_getElem? (i := 1108) (by decide +kernel)
theorem im_X11_image : Cond.instanceMethod yX11_image ∈ lw_tbl := List.mem_of_getElem? (i := 1183) (by decide +kernel)
theorem im_X11_init : Cond.instanceMethod yX11_init ∈ lw_tbl := List.mem_of_getElem? (i := 894) (by decide +kernel)
theorem im_X11_isArm : Cond.instanceMethod yX11_isArm ∈ lw_tbl := List.mem_of_getElem? (i := 1032) (by decide +kernel)
theorem im_X11_isFree : Cond.instanceMethod yX11_isFree ∈ lw_tbl := List.mem_of_getElem? (i := 1016) (by decide +kernel)
theorem im_X11_isNear : Cond.instanceMethod yX11_isNear ∈ lw_tbl := List.mem_of_getElem? (i := 1116) (by decide +kernel)
theorem im_X11_isPiece : Cond.instanceMethod yX11_isPiece ∈ lw_tbl := List.mem_of_getElem? (i := 1028) (by decide +kernel)
theorem im_X11_isThing : Cond.instanceMethod yX11_isThing ∈ lw_tbl := List.mem_of_getElem? (i := 1048) (by decide +kernel)
theorem im_X11_isTip : Cond.instanceMethod yX11_isTip ∈ lw_tbl := List.mem_of_getElem? (i := 1040) (by decide +kernel)
theorem im_X11_item : Cond.instanceMethod yX11_item ∈ lw_tbl := List.mem_of_getElem? (i := 1211) (by decide +kernel)
theorem im_X11_lay : Cond.instanceMethod yX11_lay ∈ lw_tbl := List.mem_of_getElem? (i := 1164) (by decide +kernel)
theorem im_X11_layReach : Cond.instanceMethod yX11_layReach ∈ lw_tbl := List.mem_of_getElem? (i := 1156) (by decide +kernel)
theorem im_X11_letGo : Cond.instanceMethod yX11_letGo ∈ lw_tbl := List.mem_of_getElem? (i := 1132) (by decide +kernel)
theorem im_X11_lyingAt : Cond.instanceMethod yX11_lyingAt ∈ lw_tbl := List.mem_of_getElem? (i := 992) (by decide +kernel)
theorem im_X11_pass : Cond.instanceMethod yX11_pass ∈ lw_tbl := List.mem_of_getElem? (i := 1128) (by decide +kernel)
theorem im_X11_piece : Cond.instanceMethod yX11_piece ∈ lw_tbl := List.mem_of_getElem? (i := 1023) (by decide +kernel)
theorem im_X11_pieces : Cond.instanceMethod yX11_pieces ∈ lw_tbl := List.mem_of_getElem? (i := 981) (by decide +kernel)
theorem im_X11_reach : Cond.instanceMethod yX11_reach ∈ lw_tbl := List.mem_of_getElem? (i := 1167) (by decide +kernel)
theorem im_X11_restore : Cond.instanceMethod yX11_restore ∈ lw_tbl := List.mem_of_getElem? (i := 1187) (by decide +kernel)
theorem im_X11_rules : Cond.instanceMethod yX11_rules ∈ lw_tbl := List.mem_of_getElem? (i := 1079) (by decide +kernel)
theorem im_X11_sheet : Cond.instanceMethod yX11_sheet ∈ lw_tbl := List.mem_of_getElem? (i := 1203) (by decide +kernel)
theorem im_X11_skin : Cond.instanceMethod yX11_skin ∈ lw_tbl := List.mem_of_getElem? (i := 1091) (by decide +kernel)
theorem im_X11_thing : Cond.instanceMethod yX11_thing ∈ lw_tbl := List.mem_of_getElem? (i := 1019) (by decide +kernel)
theorem im_X11_things : Cond.instanceMethod yX11_things ∈ lw_tbl := List.mem_of_getElem? (i := 1136) (by decide +kernel)
theorem im_X11_tick : Cond.instanceMethod yX11_tick ∈ lw_tbl := List.mem_of_getElem? (i := 1100) (by decide +kernel)
theorem im_X11_ticks : Cond.instanceMethod yX11_ticks ∈ lw_tbl := List.mem_of_getElem? (i := 1095) (by decide +kernel)
theorem im_X11_told : Cond.instanceMethod yX11_told ∈ lw_tbl := List.mem_of_getElem? (i := 1043) (by decide +kernel)
theorem im_X11_type : Cond.instanceMethod yX11_type ∈ lw_tbl := List.mem_of_getElem? (i := 1074) (by decide +kernel)
theorem im_X11_wall : Cond.instanceMethod yX11_wall ∈ lw_tbl := List.mem_of_getElem? (i := 966) (by decide +kernel)
theorem im_X11_walls : Cond.instanceMethod yX11_walls ∈ lw_tbl := List.mem_of_getElem? (i := 998) (by decide +kernel)
theorem im_X1_init : Cond.instanceMethod yX1_init ∈ lw_tbl := List.mem_of_getElem? (i := 615) (by decide +kernel)
theorem im_X2_init : Cond.instanceMethod yX2_init ∈ lw_tbl := List.mem_of_getElem? (i := 582) (by decide +kernel)
theorem im_X3_goOnFrom : Cond.instanceMethod yX3_goOnFrom ∈ lw_tbl := List.mem_of_getElem? (i := 787) (by decide +kernel)
theorem im_X3_init : Cond.instanceMethod yX3_init ∈ lw_tbl := List.mem_of_getElem? (i := 253) (by decide +kernel)
theorem im_X3_layOut : Cond.instanceMethod yX3_layOut ∈ lw_tbl := List.mem_of_getElem? (i := 765) (by decide +kernel)
theorem im_X3_search : Cond.instanceMethod yX3_search ∈ lw_tbl := List.mem_of_getElem? (i := 759) (by decide +kernel)
theorem im_X3_searchAnew : Cond.instanceMethod yX3_searchAnew ∈ lw_tbl := List.mem_of_getElem? (i := 771) (by decide +kernel)
theorem im_X3_see : Cond.instanceMethod yX3_see ∈ lw_tbl := List.mem_of_getElem? (i := 783) (by decide +kernel)
theorem im_X3_seeFlip : Cond.instanceMethod yX3_seeFlip ∈ lw_tbl := List.mem_of_getElem? (i := 791) (by decide +kernel)
theorem im_X3_seeTurns : Cond.instanceMethod yX3_seeTurns ∈ lw_tbl := List.mem_of_getElem? (i := 795) (by decide +kernel)
theorem im_X4_fail : Cond.instanceMethod yX4_fail ∈ lw_tbl := List.mem_of_getElem? (i := 649) (by decide +kernel)
theorem im_X4_goTo : Cond.instanceMethod yX4_goTo ∈ lw_tbl := List.mem_of_getElem? (i := 554) (by decide +kernel)
theorem im_X4_init : Cond.instanceMethod yX4_init ∈ lw_tbl := List.mem_of_getElem? (i := 229) (by decide +kernel)
theorem im_X4_need : Cond.instanceMethod yX4_need ∈ lw_tbl := List.mem_of_getElem? (i := 645) (by decide +kernel)
theorem im_X4_read : Cond.instanceMethod yX4_read ∈ lw_tbl := List.mem_of_getElem? (i := 549) (by decide +kernel)
theorem im_X4_readAct : Cond.instanceMethod yX4_readAct ∈ lw_tbl := List.mem_of_getElem? (i := 662) (by decide +kernel)
theorem im_X4_readClaim : Cond.instanceMethod yX4_readClaim ∈ lw_tbl := List.mem_of_getElem? (i := 610) (by decide +kernel)
theorem im_X4_readClause : Cond.instanceMethod yX4_readClause ∈ lw_tbl := List.mem_of_getElem? (i := 577) (by decide +kernel)
theorem im_X4_readDigit : Cond.instanceMethod yX4_readDigit ∈ lw_tbl := List.mem_of_getElem? (i := 657) (by decide +kernel)
theorem im_X4_readSense : Cond.instanceMethod yX4_readSense ∈ lw_tbl := List.mem_of_getElem? (i := 653) (by decide +kernel)
theorem im_X4_readTest : Cond.instanceMethod yX4_readTest ∈ lw_tbl := List.mem_of_getElem? (i := 606) (by decide +kernel)
theorem im_X4_takes : Cond.instanceMethod yX4_takes ∈ lw_tbl := List.mem_of_getElem? (i := 641) (by decide +kernel)
theorem im_X5_firstFor : Cond.instanceMethod yX5_firstFor ∈ lw_tbl := List.mem_of_getElem? (i := 697) (by decide +kernel)
theorem im_X5_init : Cond.instanceMethod yX5_init ∈ lw_tbl := List.mem_of_getElem? (i := 559) (by decide +kernel)
theorem im_X6_addArm : Cond.instanceMethod yX6_addArm ∈ lw_tbl := List.mem_of_getElem? (i := 434) (by decide +kernel)
theorem im_X6_addThing : Cond.instanceMethod yX6_addThing ∈ lw_tbl := List.mem_of_getElem? (i := 456) (by decide +kernel)
theorem im_X6_become : Cond.instanceMethod yX6_become ∈ lw_tbl := List.mem_of_getElem? (i := 815) (by decide +kernel)
theorem im_X6_canLie : Cond.instanceMethod yX6_canLie ∈ lw_tbl := List.mem_of_getElem? (i := 421) (by decide +kernel)
theorem im_X6_cellOfThing : Cond.instanceMethod yX6_cellOfThing ∈ lw_tbl := List.mem_of_getElem? (i := 496) (by decide +kernel)
theorem im_X6_clauseFor : Cond.instanceMethod yX6_clauseFor ∈ lw_tbl := List.mem_of_getElem? (i := 684) (by decide +kernel)
theorem im_X6_countThings : Cond.instanceMethod yX6_countThings ∈ lw_tbl := List.mem_of_getElem? (i := 734) (by decide +kernel)
theorem im_X6_doActs : Cond.instanceMethod yX6_doActs ∈ lw_tbl := List.mem_of_getElem? (i := 706) (by decide +kernel)
theorem im_X6_flipped : Cond.instanceMethod yX6_flipped ∈ lw_tbl := List.mem_of_getElem? (i := 531) (by decide +kernel)
theorem im_X6_give : Cond.instanceMethod yX6_give ∈ lw_tbl := List.mem_of_getElem? (i := 723) (by decide +kernel)
theorem im_X6_grab : Cond.instanceMethod yX6_grab ∈ lw_tbl := List.mem_of_getElem? (i := 711) (by decide +kernel)
theorem im_X6_inUse : Cond.instanceMethod yX6_inUse ∈ lw_tbl := List.mem_of_getElem? (i := 375) (by decide +kernel)
theorem im_X6_init : Cond.instanceMethod yX6_init ∈ lw_tbl := List.mem_of_getElem? (i := 91) (by decide +kernel)
theorem im_X6_isFree : Cond.instanceMethod yX6_isFree ∈ lw_tbl := List.mem_of_getElem? (i := 430) (by decide +kernel)
theorem im_X6_lay : Cond.instanceMethod yX6_lay ∈ lw_tbl := List.mem_of_getElem? (i := 461) (by decide +kernel)
theorem im_X6_letGo : Cond.instanceMethod yX6_letGo ∈ lw_tbl := List.mem_of_getElem? (i := 731) (by decide +kernel)
theorem im_X6_lift : Cond.instanceMethod yX6_lift ∈ lw_tbl := List.mem_of_getElem? (i := 719) (by decide +kernel)
theorem im_X6_lyingAt : Cond.instanceMethod yX6_lyingAt ∈ lw_tbl := List.mem_of_getElem? (i := 715) (by decide +kernel)
theorem im_X6_lyingCells : Cond.instanceMethod yX6_lyingCells ∈ lw_tbl := List.mem_of_getElem? (i := 379) (by decide +kernel)
theorem im_X6_move : Cond.instanceMethod yX6_move ∈ lw_tbl := List.mem_of_getElem? (i := 520) (by decide +kernel)
theorem im_X6_passOn : Cond.instanceMethod yX6_passOn ∈ lw_tbl := List.mem_of_getElem? (i := 727) (by decide +kernel)
theorem im_X6_senses : Cond.instanceMethod yX6_senses ∈ lw_tbl := List.mem_of_getElem? (i := 689) (by decide +kernel)
theorem im_X6_tick : Cond.instanceMethod yX6_tick ∈ lw_tbl := List.mem_of_getElem? (i := 680) (by decide +kernel)
theorem im_X6_turned : Cond.instanceMethod yX6_turned ∈ lw_tbl := List.mem_of_getElem? (i := 526) (by decide +kernel)
theorem im_X7_asCells : Cond.instanceMethod yX7_asCells ∈ lw_tbl := List.mem_of_getElem? (i := 404) (by decide +kernel)
theorem im_X7_begin : Cond.instanceMethod yX7_begin ∈ lw_tbl := List.mem_of_getElem? (i := 865) (by decide +kernel)
theorem im_X7_forget : Cond.instanceMethod yX7_forget ∈ lw_tbl := List.mem_of_getElem? (i := 875) (by decide +kernel)
theorem im_X7_holdsNothing : Cond.instanceMethod yX7_holdsNothing ∈ lw_tbl := List.mem_of_getElem? (i := 396) (by decide +kernel)
theorem im_X7_init : Cond.instanceMethod yX7_init ∈ lw_tbl := List.mem_of_getElem? (i := 320) (by decide +kernel)
theorem im_X7_refuses : Cond.instanceMethod yX7_refuses ∈ lw_tbl := List.mem_of_getElem? (i := 392) (by decide +kernel)
theorem im_X7_spans : Cond.instanceMethod yX7_spans ∈ lw_tbl := List.mem_of_getElem? (i := 400) (by decide +kernel)
theorem im_X8_become : Cond.instanceMethod yX8_become ∈ lw_tbl := List.mem_of_getElem? (i := 824) (by decide +kernel)
theorem im_X8_init : Cond.instanceMethod yX8_init ∈ lw_tbl := List.mem_of_getElem? (i := 155) (by decide +kernel)
theorem im_X9_init : Cond.instanceMethod yX9_init ∈ lw_tbl := List.mem_of_getElem? (i := 296) (by decide +kernel)
theorem im_X9_isEatenBy : Cond.instanceMethod yX9_isEatenBy ∈ lw_tbl := List.mem_of_getElem? (i := 829) (by decide +kernel)
theorem im_X9_search : Cond.instanceMethod yX9_search ∈ lw_tbl := List.mem_of_getElem? (i := 811) (by decide +kernel)
theorem sl_X0_become : Cond.selects yX0_become.cls yX0_become yX0_become ∈ lw_tbl := List.mem_of_getElem? (i := 821) (by decide +kernel)
theorem sl_X0_begin : Cond.selects yX0_begin.cls yX0_begin yX0_begin ∈ lw_tbl := List.mem_of_getElem? (i := 439) (by decide +kernel)
theorem sl_X0_canEverMove : Cond.selects yX0_canEverMove.cls yX0_canEverMove yX0_canEverMove ∈ lw_tbl := List.mem_of_getElem? (i := 517) (by decide +kernel)
theorem sl_X0_formNow : Cond.selects yX0_formNow.cls yX0_formNow yX0_formNow ∈ lw_tbl := List.mem_of_getElem? (i := 506) (by decide +kernel)
theorem sl_X0_isCut : Cond.selects yX0_isCut.cls yX0_isCut yX0_isCut ∈ lw_tbl := List.mem_of_getElem? (i := 481) (by decide +kernel)
theorem sl_X0_isCutOff : Cond.selects yX0_isCutOff.cls yX0_isCutOff yX0_isCutOff ∈ lw_tbl := List.mem_of_getElem? (i := 477) (by decide +kernel)
theorem sl_X0_isTip : Cond.selects yX0_isTip.cls yX0_isTip yX0_isTip ∈ lw_tbl := List.mem_of_getElem? (i := 485) (by decide +kernel)
theorem sl_X10_arm : Cond.selects yX10_arm.cls yX10_arm yX10_arm ∈ lw_tbl := List.mem_of_getElem? (i := 415) (by decide +kernel)
theorem sl_X10_copy : Cond.selects yX10_copy.cls yX10_copy yX10_copy ∈ lw_tbl := List.mem_of_getElem? (i := 887) (by decide +kernel)
theorem sl_X10_count : Cond.selects yX10_count.cls yX10_count yX10_count ∈ lw_tbl := List.mem_of_getElem? (i := 748) (by decide +kernel)
theorem sl_X10_cut : Cond.selects yX10_cut.cls yX10_cut yX10_cut ∈ lw_tbl := List.mem_of_getElem? (i := 744) (by decide +kernel)
theorem sl_X10_differs : Cond.selects yX10_differs.cls yX10_differs yX10_differs ∈ lw_tbl := List.mem_of_getElem? (i := 855) (by decide +kernel)
theorem sl_X10_drop : Cond.selects yX10_drop.cls yX10_drop yX10_drop ∈ lw_tbl := List.mem_of_getElem? (i := 871) (by decide +kernel)
theorem sl_X10_far : Cond.selects yX10_far.cls yX10_far yX10_far ∈ lw_tbl := List.mem_of_getElem? (i := 804) (by decide +kernel)
theorem sl_X10_fewest : Cond.selects yX10_fewest.cls yX10_fewest yX10_fewest ∈ lw_tbl := List.mem_of_getElem? (i := 808) (by decide +kernel)
theorem sl_X10_film : Cond.selects yX10_film.cls yX10_film yX10_film ∈ lw_tbl := List.mem_of_getElem? (i := 847) (by decide +kernel)
theorem sl_X10_finds : Cond.selects yX10_finds.cls yX10_finds yX10_finds ∈ lw_tbl := List.mem_of_getElem? (i := 739) (by decide +kernel)
theorem sl_X10_flip : Cond.selects yX10_flip.cls yX10_flip yX10_flip ∈ lw_tbl := List.mem_of_getElem? (i := 513) (by decide +kernel)
theorem sl_X10_form : Cond.selects yX10_form.cls yX10_form yX10_form ∈ lw_tbl := List.mem_of_getElem? (i := 501) (by decide +kernel)
theorem sl_X10_forms : Cond.selects yX10_forms.cls yX10_forms yX10_forms ∈ lw_tbl := List.mem_of_getElem? (i := 752) (by decide +kernel)
theorem sl_X10_head : Cond.selects yX10_head.cls yX10_head yX10_head ∈ lw_tbl := List.mem_of_getElem? (i := 669) (by decide +kernel)
theorem sl_X10_image : Cond.selects yX10_image.cls yX10_image yX10_image ∈ lw_tbl := List.mem_of_getElem? (i := 834) (by decide +kernel)
theorem sl_X10_isArm : Cond.selects yX10_isArm.cls yX10_isArm yX10_isArm ∈ lw_tbl := List.mem_of_getElem? (i := 3) (by decide +kernel)
theorem sl_X10_isImage : Cond.selects yX10_isImage.cls yX10_isImage yX10_isImage ∈ lw_tbl := List.mem_of_getElem? (i := 33) (by decide +kernel)
theorem sl_X10_isPiece : Cond.selects yX10_isPiece.cls yX10_isPiece yX10_isPiece ∈ lw_tbl := List.mem_of_getElem? (i := 2) (by decide +kernel)
theorem sl_X10_isSheet : Cond.selects yX10_isSheet.cls yX10_isSheet yX10_isSheet ∈ lw_tbl := List.mem_of_getElem? (i := 0) (by decide +kernel)
theorem sl_X10_isThing : Cond.selects yX10_isThing.cls yX10_isThing yX10_isThing ∈ lw_tbl := List.mem_of_getElem? (i := 4) (by decide +kernel)
theorem sl_X10_item : Cond.selects yX10_item.cls yX10_item yX10_item ∈ lw_tbl := List.mem_of_getElem? (i := 880) (by decide +kernel)
theorem sl_X10_piece : Cond.selects yX10_piece.cls yX10_piece yX10_piece ∈ lw_tbl := List.mem_of_getElem? (i := 465) (by decide +kernel)
theorem sl_X10_reach : Cond.selects yX10_reach.cls yX10_reach yX10_reach ∈ lw_tbl := List.mem_of_getElem? (i := 800) (by decide +kernel)
theorem sl_X10_refusesFilm : Cond.selects yX10_refusesFilm.cls yX10_refusesFilm yX10_refusesFilm ∈ lw_tbl := List.mem_of_getElem? (i := 34) (by decide +kernel)
theorem sl_X10_refusesReach : Cond.selects yX10_refusesReach.cls yX10_refusesReach yX10_refusesReach ∈ lw_tbl := List.mem_of_getElem? (i := 25) (by decide +kernel)
theorem sl_X10_restore : Cond.selects yX10_restore.cls yX10_restore yX10_restore ∈ lw_tbl := List.mem_of_getElem? (i := 843) (by decide +kernel)
theorem sl_X10_rules : Cond.selects yX10_rules.cls yX10_rules yX10_rules ∈ lw_tbl := List.mem_of_getElem? (i := 546) (by decide +kernel)
theorem sl_X10_sheet : Cond.selects yX10_sheet.cls yX10_sheet yX10_sheet ∈ lw_tbl := List.mem_of_getElem? (i := 859) (by decide +kernel)
theorem sl_X10_skin : Cond.selects yX10_skin.cls yX10_skin yX10_skin ∈ lw_tbl := List.mem_of_getElem? (i := 673) (by decide +kernel)
theorem sl_X10_thing : Cond.selects yX10_thing.cls yX10_thing yX10_thing ∈ lw_tbl := List.mem_of_getElem? (i := 449) (by decide +kernel)
theorem sl_X10_ticks : Cond.selects yX10_ticks.cls yX10_ticks yX10_ticks ∈ lw_tbl := List.mem_of_getElem? (i := 677) (by decide +kernel)
theorem sl_X10_told : Cond.selects yX10_told.cls yX10_told yX10_told ∈ lw_tbl := List.mem_of_getElem? (i := 489) (by decide +kernel)
theorem sl_X10_type : Cond.selects yX10_type.cls yX10_type yX10_type ∈ lw_tbl := List.mem_of_getElem? (i := 539) (by decide +kernel)
theorem sl_X10_wall : Cond.selects yX10_wall.cls yX10_wall yX10_wall ∈ lw_tbl := List.mem_of_getElem? (i := 366) (by decide +kernel)
theorem sl_X10_walls : Cond.selects yX10_walls.cls yX10_walls yX10_walls ∈ lw_tbl := List.mem_of_getElem? (i := 385) (by decide +kernel)
theorem sl_X11_act : Cond.selects yX11_act.cls yX11_act yX11_act ∈ lw_tbl := List.mem_of_getElem? (i := 54) (by decide +kernel)
theorem sl_X11_arm : Cond.selects yX11_arm.cls yX11_arm yX11_arm ∈ lw_tbl := List.mem_of_getElem? (i := 1006) (by decide +kernel)
theorem sl_X11_bars : Cond.selects yX11_bars.cls yX11_bars yX11_bars ∈ lw_tbl := List.mem_of_getElem? (i := 63) (by decide +kernel)
theorem sl_X11_cell : Cond.selects yX11_cell.cls yX11_cell yX11_cell ∈ lw_tbl := List.mem_of_getElem? (i := 37) (by decide +kernel)
theorem sl_X11_claims : Cond.selects yX11_claims.cls yX11_claims yX11_claims ∈ lw_tbl := List.mem_of_getElem? (i := 52) (by decide +kernel)
theorem sl_X11_come : Cond.selects yX11_come.cls yX11_come yX11_come ∈ lw_tbl := List.mem_of_getElem? (i := 60) (by decide +kernel)
theorem sl_X11_copy : Cond.selects yX11_copy.cls yX11_copy yX11_copy ∈ lw_tbl := List.mem_of_getElem? (i := 1216) (by decide +kernel)
theorem sl_X11_count : Cond.selects yX11_count.cls yX11_count yX11_count ∈ lw_tbl := List.mem_of_getElem? (i := 1148) (by decide +kernel)
theorem sl_X11_cut : Cond.selects yX11_cut.cls yX11_cut yX11_cut ∈ lw_tbl := List.mem_of_getElem? (i := 1144) (by decide +kernel)
theorem sl_X11_cutOf : Cond.selects yX11_cutOf.cls yX11_cutOf yX11_cutOf ∈ lw_tbl := List.mem_of_getElem? (i := 42) (by decide +kernel)
theorem sl_X11_differs : Cond.selects yX11_differs.cls yX11_differs yX11_differs ∈ lw_tbl := List.mem_of_getElem? (i := 1200) (by decide +kernel)
theorem sl_X11_drop : Cond.selects yX11_drop.cls yX11_drop yX11_drop ∈ lw_tbl := List.mem_of_getElem? (i := 1208) (by decide +kernel)
theorem sl_X11_eats : Cond.selects yX11_eats.cls yX11_eats yX11_eats ∈ lw_tbl := List.mem_of_getElem? (i := 62) (by decide +kernel)
theorem sl_X11_far : Cond.selects yX11_far.cls yX11_far yX11_far ∈ lw_tbl := List.mem_of_getElem? (i := 1172) (by decide +kernel)
theorem sl_X11_faultOf : Cond.selects yX11_faultOf.cls yX11_faultOf yX11_faultOf ∈ lw_tbl := List.mem_of_getElem? (i := 48) (by decide +kernel)
theorem sl_X11_fewest : Cond.selects yX11_fewest.cls yX11_fewest yX11_fewest ∈ lw_tbl := List.mem_of_getElem? (i := 1176) (by decide +kernel)
theorem sl_X11_film : Cond.selects yX11_film.cls yX11_film yX11_film ∈ lw_tbl := List.mem_of_getElem? (i := 1192) (by decide +kernel)
theorem sl_X11_finds : Cond.selects yX11_finds.cls yX11_finds yX11_finds ∈ lw_tbl := List.mem_of_getElem? (i := 1140) (by decide +kernel)
theorem sl_X11_findsOf : Cond.selects yX11_findsOf.cls yX11_findsOf yX11_findsOf ∈ lw_tbl := List.mem_of_getElem? (i := 50) (by decide +kernel)
theorem sl_X11_flip : Cond.selects yX11_flip.cls yX11_flip yX11_flip ∈ lw_tbl := List.mem_of_getElem? (i := 1063) (by decide +kernel)
theorem sl_X11_flipped : Cond.selects yX11_flipped.cls yX11_flipped yX11_flipped ∈ lw_tbl := List.mem_of_getElem? (i := 47) (by decide +kernel)
theorem sl_X11_form : Cond.selects yX11_form.cls yX11_form yX11_form ∈ lw_tbl := List.mem_of_getElem? (i := 1052) (by decide +kernel)
theorem sl_X11_formOf : Cond.selects yX11_formOf.cls yX11_formOf yX11_formOf ∈ lw_tbl := List.mem_of_getElem? (i := 45) (by decide +kernel)
theorem sl_X11_forms : Cond.selects yX11_forms.cls yX11_forms yX11_forms ∈ lw_tbl := List.mem_of_getElem? (i := 1152) (by decide +kernel)
theorem sl_X11_goesTo : Cond.selects yX11_goesTo.cls yX11_goesTo yX11_goesTo ∈ lw_tbl := List.mem_of_getElem? (i := 46) (by decide +kernel)
theorem sl_X11_grab : Cond.selects yX11_grab.cls yX11_grab yX11_grab ∈ lw_tbl := List.mem_of_getElem? (i := 55) (by decide +kernel)
theorem sl_X11_hasPiece : Cond.selects yX11_hasPiece.cls yX11_hasPiece yX11_hasPiece ∈ lw_tbl := List.mem_of_getElem? (i := 35) (by decide +kernel)
theorem sl_X11_head : Cond.selects yX11_head.cls yX11_head yX11_head ∈ lw_tbl := List.mem_of_getElem? (i := 1088) (by decide +kernel)
theorem sl_X11_holdsTest : Cond.selects yX11_holdsTest.cls yX11_holdsTest yX11_holdsTest ∈ lw_tbl := List.mem_of_getElem? (i := 51) (by decide +kernel)
theorem sl_X11_image : Cond.selects yX11_image.cls yX11_image yX11_image ∈ lw_tbl := List.mem_of_getElem? (i := 1184) (by decide +kernel)
theorem sl_X11_isArm : Cond.selects yX11_isArm.cls yX11_isArm yX11_isArm ∈ lw_tbl := List.mem_of_getElem? (i := 41) (by decide +kernel)
theorem sl_X11_isFree : Cond.selects yX11_isFree.cls yX11_isFree yX11_isFree ∈ lw_tbl := List.mem_of_getElem? (i := 39) (by decide +kernel)
theorem sl_X11_isNear : Cond.selects yX11_isNear.cls yX11_isNear yX11_isNear ∈ lw_tbl := List.mem_of_getElem? (i := 53) (by decide +kernel)
theorem sl_X11_isPiece : Cond.selects yX11_isPiece.cls yX11_isPiece yX11_isPiece ∈ lw_tbl := List.mem_of_getElem? (i := 40) (by decide +kernel)
theorem sl_X11_isThing : Cond.selects yX11_isThing.cls yX11_isThing yX11_isThing ∈ lw_tbl := List.mem_of_getElem? (i := 44) (by decide +kernel)
theorem sl_X11_isTip : Cond.selects yX11_isTip.cls yX11_isTip yX11_isTip ∈ lw_tbl := List.mem_of_getElem? (i := 43) (by decide +kernel)
theorem sl_X11_item : Cond.selects yX11_item.cls yX11_item yX11_item ∈ lw_tbl := List.mem_of_getElem? (i := 1212) (by decide +kernel)
theorem sl_X11_lay : Cond.selects yX11_lay.cls yX11_lay yX11_lay ∈ lw_tbl := List.mem_of_getElem? (i := 61) (by decide +kernel)
theorem sl_X11_layReach : Cond.selects yX11_layReach.cls yX11_layReach yX11_layReach ∈ lw_tbl := List.mem_of_getElem? (i := 59) (by decide +kernel)
theorem sl_X11_letGo : Cond.selects yX11_letGo.cls yX11_letGo yX11_letGo ∈ lw_tbl := List.mem_of_getElem? (i := 57) (by decide +kernel)
theorem sl_X11_lyingAt : Cond.selects yX11_lyingAt.cls yX11_lyingAt yX11_lyingAt ∈ lw_tbl := List.mem_of_getElem? (i := 38) (by decide +kernel)
theorem sl_X11_pass : Cond.selects yX11_pass.cls yX11_pass yX11_pass ∈ lw_tbl := List.mem_of_getElem? (i := 56) (by decide +kernel)
theorem sl_X11_piece : Cond.selects yX11_piece.cls yX11_piece yX11_piece ∈ lw_tbl := List.mem_of_getElem? (i := 1024) (by decide +kernel)
theorem sl_X11_pieces : Cond.selects yX11_pieces.cls yX11_pieces yX11_pieces ∈ lw_tbl := List.mem_of_getElem? (i := 36) (by decide +kernel)
theorem sl_X11_reach : Cond.selects yX11_reach.cls yX11_reach yX11_reach ∈ lw_tbl := List.mem_of_getElem? (i := 1168) (by decide +kernel)
theorem sl_X11_restore : Cond.selects yX11_restore.cls yX11_restore yX11_restore ∈ lw_tbl := List.mem_of_getElem? (i := 1188) (by decide +kernel)
theorem sl_X11_rules : Cond.selects yX11_rules.cls yX11_rules yX11_rules ∈ lw_tbl := List.mem_of_getElem? (i := 1080) (by decide +kernel)
theorem sl_X11_sheet : Cond.selects yX11_sheet.cls yX11_sheet yX11_sheet ∈ lw_tbl := List.mem_of_getElem? (i := 1204) (by decide +kernel)
theorem sl_X11_skin : Cond.selects yX11_skin.cls yX11_skin yX11_skin ∈ lw_tbl := List.mem_of_getElem? (i := 1092) (by decide +kernel)
theorem sl_X11_thing : Cond.selects yX11_thing.cls yX11_thing yX11_thing ∈ lw_tbl := List.mem_of_getElem? (i := 1020) (by decide +kernel)
theorem sl_X11_things : Cond.selects yX11_things.cls yX11_things yX11_things ∈ lw_tbl := List.mem_of_getElem? (i := 58) (by decide +kernel)
theorem sl_X11_tick : Cond.selects yX11_tick.cls yX11_tick yX11_tick ∈ lw_tbl := List.mem_of_getElem? (i := 49) (by decide +kernel)
theorem sl_X11_ticks : Cond.selects yX11_ticks.cls yX11_ticks yX11_ticks ∈ lw_tbl := List.mem_of_getElem? (i := 1096) (by decide +kernel)
theorem sl_X11_told : Cond.selects yX11_told.cls yX11_told yX11_told ∈ lw_tbl := List.mem_of_getElem? (i := 1044) (by decide +kernel)
theorem sl_X11_type : Cond.selects yX11_type.cls yX11_type yX11_type ∈ lw_tbl := List.mem_of_getElem? (i := 1075) (by decide +kernel)
theorem sl_X11_wall : Cond.selects yX11_wall.cls yX11_wall yX11_wall ∈ lw_tbl := List.mem_of_getElem? (i := 967) (by decide +kernel)
theorem sl_X11_walls : Cond.selects yX11_walls.cls yX11_walls yX11_walls ∈ lw_tbl := List.mem_of_getElem? (i := 999) (by decide +kernel)
theorem sl_X3_goOnFrom : Cond.selects yX3_goOnFrom.cls yX3_goOnFrom yX3_goOnFrom ∈ lw_tbl := List.mem_of_getElem? (i := 29) (by decide +kernel)
theorem sl_X3_layOut : Cond.selects yX3_layOut.cls yX3_layOut yX3_layOut ∈ lw_tbl := List.mem_of_getElem? (i := 26) (by decide +kernel)
theorem sl_X3_search : Cond.selects yX3_search.cls yX3_search yX3_search ∈ lw_tbl := List.mem_of_getElem? (i := 760) (by decide +kernel)
theorem sl_X3_searchAnew : Cond.selects yX3_searchAnew.cls yX3_searchAnew yX3_searchAnew ∈ lw_tbl := List.mem_of_getElem? (i := 27) (by decide +kernel)
theorem sl_X3_see : Cond.selects yX3_see.cls yX3_see yX3_see ∈ lw_tbl := List.mem_of_getElem? (i := 28) (by decide +kernel)
theorem sl_X3_seeFlip : Cond.selects yX3_seeFlip.cls yX3_seeFlip yX3_seeFlip ∈ lw_tbl := List.mem_of_getElem? (i := 30) (by decide +kernel)
theorem sl_X3_seeTurns : Cond.selects yX3_seeTurns.cls yX3_seeTurns yX3_seeTurns ∈ lw_tbl := List.mem_of_getElem? (i := 31) (by decide +kernel)
theorem sl_X4_fail : Cond.selects yX4_fail.cls yX4_fail yX4_fail ∈ lw_tbl := List.mem_of_getElem? (i := 13) (by decide +kernel)
theorem sl_X4_goTo : Cond.selects yX4_goTo.cls yX4_goTo yX4_goTo ∈ lw_tbl := List.mem_of_getElem? (i := 7) (by decide +kernel)
theorem sl_X4_need : Cond.selects yX4_need.cls yX4_need yX4_need ∈ lw_tbl := List.mem_of_getElem? (i := 12) (by decide +kernel)
theorem sl_X4_read : Cond.selects yX4_read.cls yX4_read yX4_read ∈ lw_tbl := List.mem_of_getElem? (i := 550) (by decide +kernel)
theorem sl_X4_readAct : Cond.selects yX4_readAct.cls yX4_readAct yX4_readAct ∈ lw_tbl := List.mem_of_getElem? (i := 16) (by decide +kernel)
theorem sl_X4_readClaim : Cond.selects yX4_readClaim.cls yX4_readClaim yX4_readClaim ∈ lw_tbl := List.mem_of_getElem? (i := 10) (by decide +kernel)
theorem sl_X4_readClause : Cond.selects yX4_readClause.cls yX4_readClause yX4_readClause ∈ lw_tbl := List.mem_of_getElem? (i := 8) (by decide +kernel)
theorem sl_X4_readDigit : Cond.selects yX4_readDigit.cls yX4_readDigit yX4_readDigit ∈ lw_tbl := List.mem_of_getElem? (i := 15) (by decide +kernel)
theorem sl_X4_readSense : Cond.selects yX4_readSense.cls yX4_readSense yX4_readSense ∈ lw_tbl := List.mem_of_getElem? (i := 14) (by decide +kernel)
theorem sl_X4_readTest : Cond.selects yX4_readTest.cls yX4_readTest yX4_readTest ∈ lw_tbl := List.mem_of_getElem? (i := 9) (by decide +kernel)
theorem sl_X4_takes : Cond.selects yX4_takes.cls yX4_takes yX4_takes ∈ lw_tbl := List.mem_of_getElem? (i := 11) (by decide +kernel)
theorem sl_X5_firstFor : Cond.selects yX5_firstFor.cls yX5_firstFor yX5_firstFor ∈ lw_tbl := List.mem_of_getElem? (i := 698) (by decide +kernel)
theorem sl_X6_addArm : Cond.selects yX6_addArm.cls yX6_addArm yX6_addArm ∈ lw_tbl := List.mem_of_getElem? (i := 435) (by decide +kernel)
theorem sl_X6_addThing : Cond.selects yX6_addThing.cls yX6_addThing yX6_addThing ∈ lw_tbl := List.mem_of_getElem? (i := 457) (by decide +kernel)
theorem sl_X6_become : Cond.selects yX6_become.cls yX6_become yX6_become ∈ lw_tbl := List.mem_of_getElem? (i := 816) (by decide +kernel)
theorem sl_X6_canLie : Cond.selects yX6_canLie.cls yX6_canLie yX6_canLie ∈ lw_tbl := List.mem_of_getElem? (i := 422) (by decide +kernel)
theorem sl_X6_cellOfThing : Cond.selects yX6_cellOfThing.cls yX6_cellOfThing yX6_cellOfThing ∈ lw_tbl := List.mem_of_getElem? (i := 497) (by decide +kernel)
theorem sl_X6_clauseFor : Cond.selects yX6_clauseFor.cls yX6_clauseFor yX6_clauseFor ∈ lw_tbl := List.mem_of_getElem? (i := 685) (by decide +kernel)
theorem sl_X6_countThings : Cond.selects yX6_countThings.cls yX6_countThings yX6_countThings ∈ lw_tbl := List.mem_of_getElem? (i := 735) (by decide +kernel)
theorem sl_X6_doActs : Cond.selects yX6_doActs.cls yX6_doActs yX6_doActs ∈ lw_tbl := List.mem_of_getElem? (i := 18) (by decide +kernel)
theorem sl_X6_flipped : Cond.selects yX6_flipped.cls yX6_flipped yX6_flipped ∈ lw_tbl := List.mem_of_getElem? (i := 6) (by decide +kernel)
theorem sl_X6_give : Cond.selects yX6_give.cls yX6_give yX6_give ∈ lw_tbl := List.mem_of_getElem? (i := 22) (by decide +kernel)
theorem sl_X6_grab : Cond.selects yX6_grab.cls yX6_grab yX6_grab ∈ lw_tbl := List.mem_of_getElem? (i := 19) (by decide +kernel)
theorem sl_X6_inUse : Cond.selects yX6_inUse.cls yX6_inUse yX6_inUse ∈ lw_tbl := List.mem_of_getElem? (i := 376) (by decide +kernel)
theorem sl_X6_isFree : Cond.selects yX6_isFree.cls yX6_isFree yX6_isFree ∈ lw_tbl := List.mem_of_getElem? (i := 431) (by decide +kernel)
theorem sl_X6_lay : Cond.selects yX6_lay.cls yX6_lay yX6_lay ∈ lw_tbl := List.mem_of_getElem? (i := 1) (by decide +kernel)
theorem sl_X6_letGo : Cond.selects yX6_letGo.cls yX6_letGo yX6_letGo ∈ lw_tbl := List.mem_of_getElem? (i := 24) (by decide +kernel)
theorem sl_X6_lift : Cond.selects yX6_lift.cls yX6_lift yX6_lift ∈ lw_tbl := List.mem_of_getElem? (i := 21) (by decide +kernel)
theorem sl_X6_lyingAt : Cond.selects yX6_lyingAt.cls yX6_lyingAt yX6_lyingAt ∈ lw_tbl := List.mem_of_getElem? (i := 20) (by decide +kernel)
theorem sl_X6_lyingCells : Cond.selects yX6_lyingCells.cls yX6_lyingCells yX6_lyingCells ∈ lw_tbl := List.mem_of_getElem? (i := 380) (by decide +kernel)
theorem sl_X6_move : Cond.selects yX6_move.cls yX6_move yX6_move ∈ lw_tbl := List.mem_of_getElem? (i := 521) (by decide +kernel)
theorem sl_X6_passOn : Cond.selects yX6_passOn.cls yX6_passOn yX6_passOn ∈ lw_tbl := List.mem_of_getElem? (i := 23) (by decide +kernel)
theorem sl_X6_senses : Cond.selects yX6_senses.cls yX6_senses yX6_senses ∈ lw_tbl := List.mem_of_getElem? (i := 17) (by decide +kernel)
theorem sl_X6_tick : Cond.selects yX6_tick.cls yX6_tick yX6_tick ∈ lw_tbl := List.mem_of_getElem? (i := 681) (by decide +kernel)
theorem sl_X6_turned : Cond.selects yX6_turned.cls yX6_turned yX6_turned ∈ lw_tbl := List.mem_of_getElem? (i := 5) (by decide +kernel)
theorem sl_X7_asCells : Cond.selects yX7_asCells.cls yX7_asCells yX7_asCells ∈ lw_tbl := List.mem_of_getElem? (i := 405) (by decide +kernel)
theorem sl_X7_begin : Cond.selects yX7_begin.cls yX7_begin yX7_begin ∈ lw_tbl := List.mem_of_getElem? (i := 866) (by decide +kernel)
theorem sl_X7_forget : Cond.selects yX7_forget.cls yX7_forget yX7_forget ∈ lw_tbl := List.mem_of_getElem? (i := 876) (by decide +kernel)
theorem sl_X7_holdsNothing : Cond.selects yX7_holdsNothing.cls yX7_holdsNothing yX7_holdsNothing ∈ lw_tbl := List.mem_of_getElem? (i := 397) (by decide +kernel)
theorem sl_X7_refuses : Cond.selects yX7_refuses.cls yX7_refuses yX7_refuses ∈ lw_tbl := List.mem_of_getElem? (i := 393) (by decide +kernel)
theorem sl_X7_spans : Cond.selects yX7_spans.cls yX7_spans yX7_spans ∈ lw_tbl := List.mem_of_getElem? (i := 401) (by decide +kernel)
theorem sl_X8_become : Cond.selects yX8_become.cls yX8_become yX8_become ∈ lw_tbl := List.mem_of_getElem? (i := 825) (by decide +kernel)
theorem sl_X9_isEatenBy : Cond.selects yX9_isEatenBy.cls yX9_isEatenBy yX9_isEatenBy ∈ lw_tbl := List.mem_of_getElem? (i := 32) (by decide +kernel)
theorem sl_X9_search : Cond.selects yX9_search.cls yX9_search yX9_search ∈ lw_tbl := List.mem_of_getElem? (i := 812) (by decide +kernel)
theorem kl_J13_314 : Cond.constantLong RJ13 314 (6148914691236517205 : Int64) ∈ lw_tbl := List.mem_of_getElem? (i := 410) (by decide +kernel)
theorem kl_J13_316 : Cond.constantLong RJ13 316 (3689348814741910323 : Int64) ∈ lw_tbl := List.mem_of_getElem? (i := 411) (by decide +kernel)
theorem kl_J13_318 : Cond.constantLong RJ13 318 (1085102592571150095 : Int64) ∈ lw_tbl := List.mem_of_getElem? (i := 412) (by decide +kernel)
theorem kl_L_50 : Cond.constantLong RL 50 (4294967295 : Int64) ∈ lw_tbl := List.mem_of_getElem? (i := 1218) (by decide +kernel)
theorem kl_X10_307 : Cond.constantLong RX10 307 (9187201950435737471 : Int64) ∈ lw_tbl := List.mem_of_getElem? (i := 694) (by decide +kernel)
theorem kl_X10_309 : Cond.constantLong RX10 309 (-72340172838076674 : Int64) ∈ lw_tbl := List.mem_of_getElem? (i := 695) (by decide +kernel)
theorem kl_X10_72 : Cond.constantLong RX10 72 (-1 : Int64) ∈ lw_tbl := List.mem_of_getElem? (i := 382) (by decide +kernel)
theorem kl_X11_133 : Cond.constantLong RX11 133 (255 : Int64) ∈ lw_tbl := List.mem_of_getElem? (i := 1077) (by decide +kernel)
theorem kl_X3_60 : Cond.constantLong RX3 60 (-1 : Int64) ∈ lw_tbl := List.mem_of_getElem? (i := 768) (by decide +kernel)
theorem kl_X6_100 : Cond.constantLong RX6 100 (-1 : Int64) ∈ lw_tbl := List.mem_of_getElem? (i := 536) (by decide +kernel)
theorem cl_L_10 : Cond.classLink RL 10 RX11 ∈ lw_tbl := List.mem_of_getElem? (i := 891) (by decide +kernel)
theorem cl_L_7 : Cond.classLink RL 7 RX10 ∈ lw_tbl := List.mem_of_getElem? (i := 80) (by decide +kernel)
theorem cl_X10_20 : Cond.classLink RX10 20 RX7 ∈ lw_tbl := List.mem_of_getElem? (i := 224) (by decide +kernel)
theorem cl_X10_30 : Cond.classLink RX10 30 RX4 ∈ lw_tbl := List.mem_of_getElem? (i := 226) (by decide +kernel)
theorem cl_X10_37 : Cond.classLink RX10 37 RX3 ∈ lw_tbl := List.mem_of_getElem? (i := 250) (by decide +kernel)
theorem cl_X10_44 : Cond.classLink RX10 44 RX9 ∈ lw_tbl := List.mem_of_getElem? (i := 293) (by decide +kernel)
theorem cl_X10_7 : Cond.classLink RX10 7 RX6 ∈ lw_tbl := List.mem_of_getElem? (i := 88) (by decide +kernel)
theorem cl_X4_26 : Cond.classLink RX4 26 RX5 ∈ lw_tbl := List.mem_of_getElem? (i := 556) (by decide +kernel)
theorem cl_X4_50 : Cond.classLink RX4 50 RX2 ∈ lw_tbl := List.mem_of_getElem? (i := 579) (by decide +kernel)
theorem cl_X4_92 : Cond.classLink RX4 92 RX1 ∈ lw_tbl := List.mem_of_getElem? (i := 612) (by decide +kernel)
theorem cl_X5_9 : Cond.classLink RX5 9 RX2 ∈ lw_tbl := List.mem_of_getElem? (i := 562) (by decide +kernel)
theorem cl_X6_15 : Cond.classLink RX6 15 RX0 ∈ lw_tbl := List.mem_of_getElem? (i := 94) (by decide +kernel)
theorem cl_X6_21 : Cond.classLink RX6 21 RX8 ∈ lw_tbl := List.mem_of_getElem? (i := 96) (by decide +kernel)
theorem cl_X9_15 : Cond.classLink RX9 15 RX6 ∈ lw_tbl := List.mem_of_getElem? (i := 299) (by decide +kernel)
theorem ac_X0_41 : z_AC RX0 41 := ⟨List.mem_of_getElem? (i := 441) (by decide +kernel), List.mem_of_getElem? (i := 443) (by decide +kernel), List.mem_of_getElem? (i := 442) (by decide +kernel), List.mem_of_getElem? (i := 75) (by decide +kernel)⟩
theorem ac_X10_295 : z_AC RX10 295 := ⟨List.mem_of_getElem? (i := 890) (by decide +kernel), List.mem_of_getElem? (i := 443) (by decide +kernel), List.mem_of_getElem? (i := 442) (by decide +kernel), List.mem_of_getElem? (i := 75) (by decide +kernel)⟩
theorem ac_X6_40 : z_AC RX6 40 := ⟨List.mem_of_getElem? (i := 818) (by decide +kernel), List.mem_of_getElem? (i := 443) (by decide +kernel), List.mem_of_getElem? (i := 442) (by decide +kernel), List.mem_of_getElem? (i := 75) (by decide +kernel)⟩
theorem oi_X0_3 : Cond.methodLink RX0 3 objectInit ∈ lw_tbl := List.mem_of_getElem? (i := 102) (by decide +kernel)
theorem oi_X10_1 : Cond.methodLink RX10 1 objectInit ∈ lw_tbl := List.mem_of_getElem? (i := 85) (by decide +kernel)
theorem oi_X11_1 : Cond.methodLink RX11 1 objectInit ∈ lw_tbl := List.mem_of_getElem? (i := 896) (by decide +kernel)
theorem oi_X1_3 : Cond.methodLink RX1 3 objectInit ∈ lw_tbl := List.mem_of_getElem? (i := 617) (by decide +kernel)
theorem oi_X2_3 : Cond.methodLink RX2 3 objectInit ∈ lw_tbl := List.mem_of_getElem? (i := 584) (by decide +kernel)
theorem oi_X3_3 : Cond.methodLink RX3 3 objectInit ∈ lw_tbl := List.mem_of_getElem? (i := 255) (by decide +kernel)
theorem oi_X4_3 : Cond.methodLink RX4 3 objectInit ∈ lw_tbl := List.mem_of_getElem? (i := 231) (by decide +kernel)
theorem oi_X5_3 : Cond.methodLink RX5 3 objectInit ∈ lw_tbl := List.mem_of_getElem? (i := 561) (by decide +kernel)
theorem oi_X6_3 : Cond.methodLink RX6 3 objectInit ∈ lw_tbl := List.mem_of_getElem? (i := 93) (by decide +kernel)
theorem oi_X7_3 : Cond.methodLink RX7 3 objectInit ∈ lw_tbl := List.mem_of_getElem? (i := 322) (by decide +kernel)
theorem oi_X8_1 : Cond.methodLink RX8 1 objectInit ∈ lw_tbl := List.mem_of_getElem? (i := 157) (by decide +kernel)
theorem oi_X9_3 : Cond.methodLink RX9 3 objectInit ∈ lw_tbl := List.mem_of_getElem? (i := 298) (by decide +kernel)
theorem oi_im : Cond.instanceMethod objectInit ∈ lw_tbl := List.mem_of_getElem? (i := 86) (by decide +kernel)
theorem oi_co : Cond.code objectInit ⟨#[0xb1]⟩ 1 none ∈ lw_tbl := List.mem_of_getElem? (i := 87) (by decide +kernel)
theorem sp_X10_304 : Cond.fieldLink RX10 304 "ThinkingArms" "STEP" "[I" ∈ lw_tbl ∨ ∃ host, Cond.fieldLinkNest RX10 304 "ThinkingArms" "STEP" "[I" host ∈ lw_tbl := Or.inl (List.mem_of_getElem? (i := 427) (by decide +kernel))
theorem sp_X3_94 : Cond.fieldLink RX3 94 "ThinkingArms" "STEP" "[I" ∈ lw_tbl ∨ ∃ host, Cond.fieldLinkNest RX3 94 "ThinkingArms" "STEP" "[I" host ∈ lw_tbl := Or.inr ⟨"ThinkingArms", List.mem_of_getElem? (i := 767) (by decide +kernel)⟩
theorem nb_0 : Cond.instantiable RX0 9 ∈ lw_tbl := List.mem_of_getElem? (i := 98) (by decide +kernel)
theorem nt_0 : Cond.initialized RX0 ∈ lw_tbl := List.mem_of_getElem? (i := 67) (by decide +kernel)
theorem df_0 : ∀ j, j < 9 → defaultValue (z_ft 0 j) = vp_V (([tI 0, tI 0, tI 0, tA none, tA none, tA none, tA none, tA none, tA none] : List zTV).map z_tv) j := fun j hj => match j, hj with
  | 0, _ => rfl
  | 1, _ => rfl
  | 2, _ => rfl
  | 3, _ => rfl
  | 4, _ => rfl
  | 5, _ => rfl
  | 6, _ => rfl
  | 7, _ => rfl
  | 8, _ => rfl
  | n + 9, hj => absurd hj (by omega)
theorem nb_1 : Cond.instantiable RX1 5 ∈ lw_tbl := List.mem_of_getElem? (i := 613) (by decide +kernel)
theorem nt_1 : Cond.initialized RX1 ∈ lw_tbl := List.mem_of_getElem? (i := 79) (by decide +kernel)
theorem df_1 : ∀ j, j < 5 → defaultValue (z_ft 1 j) = vp_V (([tI 0, tI 0, tI 0, tA none, tA none] : List zTV).map z_tv) j := fun j hj => match j, hj with
  | 0, _ => rfl
  | 1, _ => rfl
  | 2, _ => rfl
  | 3, _ => rfl
  | 4, _ => rfl
  | n + 5, hj => absurd hj (by omega)
theorem nb_2 : Cond.instantiable RX2 4 ∈ lw_tbl := List.mem_of_getElem? (i := 580) (by decide +kernel)
theorem nt_2 : Cond.initialized RX2 ∈ lw_tbl := List.mem_of_getElem? (i := 78) (by decide +kernel)
theorem df_2 : ∀ j, j < 4 → defaultValue (z_ft 2 j) = vp_V (([tA none, tA none, tA none, tI 0] : List zTV).map z_tv) j := fun j hj => match j, hj with
  | 0, _ => rfl
  | 1, _ => rfl
  | 2, _ => rfl
  | 3, _ => rfl
  | n + 4, hj => absurd hj (by omega)
theorem nb_3 : Cond.instantiable RX3 11 ∈ lw_tbl := List.mem_of_getElem? (i := 251) (by decide +kernel)
theorem nt_3 : Cond.initialized RX3 ∈ lw_tbl := List.mem_of_getElem? (i := 70) (by decide +kernel)
theorem df_3 : ∀ j, j < 11 → defaultValue (z_ft 3 j) = vp_V (([tA none, tA none, tA none, tA none, tI 0, tI 0, tI 0, tI 0, tI 0, tJ 0, tJ 0] : List zTV).map z_tv) j := fun j hj => match j, hj with
  | 0, _ => rfl
  | 1, _ => rfl
  | 2, _ => rfl
  | 3, _ => rfl
  | 4, _ => rfl
  | 5, _ => rfl
  | 6, _ => rfl
  | 7, _ => rfl
  | 8, _ => rfl
  | 9, _ => rfl
  | 10, _ => rfl
  | n + 11, hj => absurd hj (by omega)
theorem nb_4 : Cond.instantiable RX4 5 ∈ lw_tbl := List.mem_of_getElem? (i := 227) (by decide +kernel)
theorem nt_4 : Cond.initialized RX4 ∈ lw_tbl := List.mem_of_getElem? (i := 69) (by decide +kernel)
theorem df_4 : ∀ j, j < 5 → defaultValue (z_ft 4 j) = vp_V (([tA none, tI 0, tI 0, tI 0, tI 0] : List zTV).map z_tv) j := fun j hj => match j, hj with
  | 0, _ => rfl
  | 1, _ => rfl
  | 2, _ => rfl
  | 3, _ => rfl
  | 4, _ => rfl
  | n + 5, hj => absurd hj (by omega)
theorem nb_5 : Cond.instantiable RX5 2 ∈ lw_tbl := List.mem_of_getElem? (i := 557) (by decide +kernel)
theorem nt_5 : Cond.initialized RX5 ∈ lw_tbl := List.mem_of_getElem? (i := 77) (by decide +kernel)
theorem df_5 : ∀ j, j < 2 → defaultValue (z_ft 5 j) = vp_V (([tA none, tI 0] : List zTV).map z_tv) j := fun j hj => match j, hj with
  | 0, _ => rfl
  | 1, _ => rfl
  | n + 2, hj => absurd hj (by omega)
theorem nb_6 : Cond.instantiable RX6 9 ∈ lw_tbl := List.mem_of_getElem? (i := 89) (by decide +kernel)
theorem nt_6 : Cond.initialized RX6 ∈ lw_tbl := List.mem_of_getElem? (i := 66) (by decide +kernel)
theorem df_6 : ∀ j, j < 9 → defaultValue (z_ft 6 j) = vp_V (([tJ 0, tJ 0, tA none, tA none, tI 0, tA none, tI 0, tI 0, tI 0] : List zTV).map z_tv) j := fun j hj => match j, hj with
  | 0, _ => rfl
  | 1, _ => rfl
  | 2, _ => rfl
  | 3, _ => rfl
  | 4, _ => rfl
  | 5, _ => rfl
  | 6, _ => rfl
  | 7, _ => rfl
  | 8, _ => rfl
  | n + 9, hj => absurd hj (by omega)
theorem nb_7 : Cond.instantiable RX7 3 ∈ lw_tbl := List.mem_of_getElem? (i := 318) (by decide +kernel)
theorem nt_7 : Cond.initialized RX7 ∈ lw_tbl := List.mem_of_getElem? (i := 72) (by decide +kernel)
theorem df_7 : ∀ j, j < 3 → defaultValue (z_ft 7 j) = vp_V (([tI 0, tI 0, tA none] : List zTV).map z_tv) j := fun j hj => match j, hj with
  | 0, _ => rfl
  | 1, _ => rfl
  | 2, _ => rfl
  | n + 3, hj => absurd hj (by omega)
theorem nb_8 : Cond.instantiable RX8 5 ∈ lw_tbl := List.mem_of_getElem? (i := 153) (by decide +kernel)
theorem nt_8 : Cond.initialized RX8 ∈ lw_tbl := List.mem_of_getElem? (i := 68) (by decide +kernel)
theorem df_8 : ∀ j, j < 5 → defaultValue (z_ft 8 j) = vp_V (([tI 0, tI 0, tI 0, tI 0, tI 0] : List zTV).map z_tv) j := fun j hj => match j, hj with
  | 0, _ => rfl
  | 1, _ => rfl
  | 2, _ => rfl
  | 3, _ => rfl
  | 4, _ => rfl
  | n + 5, hj => absurd hj (by omega)
theorem nb_9 : Cond.instantiable RX9 5 ∈ lw_tbl := List.mem_of_getElem? (i := 294) (by decide +kernel)
theorem nt_9 : Cond.initialized RX9 ∈ lw_tbl := List.mem_of_getElem? (i := 71) (by decide +kernel)
theorem df_9 : ∀ j, j < 5 → defaultValue (z_ft 9 j) = vp_V (([tA none, tA none, tI 0, tI 0, tI 0] : List zTV).map z_tv) j := fun j hj => match j, hj with
  | 0, _ => rfl
  | 1, _ => rfl
  | 2, _ => rfl
  | 3, _ => rfl
  | 4, _ => rfl
  | n + 5, hj => absurd hj (by omega)
theorem nb_10 : Cond.instantiable RX10 9 ∈ lw_tbl := List.mem_of_getElem? (i := 81) (by decide +kernel)
theorem nt_10 : Cond.initialized RX10 ∈ lw_tbl := List.mem_of_getElem? (i := 65) (by decide +kernel)
theorem df_10 : ∀ j, j < 9 → defaultValue (z_ft 10 j) = vp_V (([tA none, tA none, tA none, tA none, tI 0, tA none, tA none, tA none, tA none] : List zTV).map z_tv) j := fun j hj => match j, hj with
  | 0, _ => rfl
  | 1, _ => rfl
  | 2, _ => rfl
  | 3, _ => rfl
  | 4, _ => rfl
  | 5, _ => rfl
  | 6, _ => rfl
  | 7, _ => rfl
  | 8, _ => rfl
  | n + 9, hj => absurd hj (by omega)
theorem nb_11 : Cond.instantiable RX11 22 ∈ lw_tbl := List.mem_of_getElem? (i := 892) (by decide +kernel)
theorem nt_11 : Cond.initialized RX11 ∈ lw_tbl := List.mem_of_getElem? (i := 73) (by decide +kernel)
theorem df_11 : ∀ j, j < 22 → defaultValue (z_ft 11 j) = vp_V (([tA none, tA none, tA none, tA none, tI 0, tA none, tA none, tA none, tA none, tA none, tI 0, tA none, tA none, tA none, tI 0, tA none, tA none, tA none, tA none, tI 0, tA none, tA none] : List zTV).map z_tv) j := fun j hj => match j, hj with
  | 0, _ => rfl
  | 1, _ => rfl
  | 2, _ => rfl
  | 3, _ => rfl
  | 4, _ => rfl
  | 5, _ => rfl
  | 6, _ => rfl
  | 7, _ => rfl
  | 8, _ => rfl
  | 9, _ => rfl
  | 10, _ => rfl
  | 11, _ => rfl
  | 12, _ => rfl
  | 13, _ => rfl
  | 14, _ => rfl
  | 15, _ => rfl
  | 16, _ => rfl
  | 17, _ => rfl
  | 18, _ => rfl
  | 19, _ => rfl
  | 20, _ => rfl
  | 21, _ => rfl
  | n + 22, hj => absurd hj (by omega)
theorem ar_int : Cond.arrayClass .int ∈ lw_tbl := List.mem_of_getElem? (i := 152) (by decide +kernel)
theorem ar_byte : Cond.arrayClass .byte ∈ lw_tbl := List.mem_of_getElem? (i := 249) (by decide +kernel)
theorem ar_boolean : Cond.arrayClass .boolean ∈ lw_tbl := List.mem_of_getElem? (i := 964) (by decide +kernel)
theorem ar_long : Cond.arrayClass .long ∈ lw_tbl := List.mem_of_getElem? (i := 151) (by decide +kernel)
end
