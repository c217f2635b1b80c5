/-! the names -/
-- ===== PART A: goes FIRST, ahead of the names: the tables' words, and 'selects' of the private methods out of them =====
/-- a private method of a class that the tables say can be made, by its rows of tables_1 -/
def lw_okq (q : MethodName × Nat) : Prop := (q.1.cls ≠ "java/lang/invoke/MethodHandle" ∧ q.1.cls ≠ "java/lang/invoke/VarHandle") ∧ Cond.instantiable q.1.cls q.2 ∈ tables_1 ∧ Cond.privateMethod q.1 ∈ tables_1 ∧ Cond.instanceMethod q.1 ∈ tables_1
theorem lw_p0 : lw_okq (⟨"ThinkingArms", "isSheet", "(I)Z"⟩, 9) := ⟨⟨by decide +kernel, by decide +kernel⟩, List.mem_of_getElem? (i := 17) (by decide +kernel), List.mem_of_getElem? (i := 324) (by decide +kernel), List.mem_of_getElem? (i := 325) (by decide +kernel)⟩
theorem lw_p1 : lw_okq (⟨"ThinkingArms$Sea", "lay", "(II)V"⟩, 9) := ⟨⟨by decide +kernel, by decide +kernel⟩, List.mem_of_getElem? (i := 25) (by decide +kernel), List.mem_of_getElem? (i := 396) (by decide +kernel), List.mem_of_getElem? (i := 397) (by decide +kernel)⟩
theorem lw_p2 : lw_okq (⟨"ThinkingArms", "isPiece", "(II)Z"⟩, 9) := ⟨⟨by decide +kernel, by decide +kernel⟩, List.mem_of_getElem? (i := 17) (by decide +kernel), List.mem_of_getElem? (i := 404) (by decide +kernel), List.mem_of_getElem? (i := 405) (by decide +kernel)⟩
theorem lw_p3 : lw_okq (⟨"ThinkingArms", "isArm", "(I)Z"⟩, 9) := ⟨⟨by decide +kernel, by decide +kernel⟩, List.mem_of_getElem? (i := 17) (by decide +kernel), List.mem_of_getElem? (i := 408) (by decide +kernel), List.mem_of_getElem? (i := 409) (by decide +kernel)⟩
theorem lw_p4 : lw_okq (⟨"ThinkingArms", "isThing", "(I)Z"⟩, 9) := ⟨⟨by decide +kernel, by decide +kernel⟩, List.mem_of_getElem? (i := 17) (by decide +kernel), List.mem_of_getElem? (i := 428) (by decide +kernel), List.mem_of_getElem? (i := 429) (by decide +kernel)⟩
theorem lw_p5 : lw_okq (⟨"ThinkingArms$Sea", "turned", "(II)I"⟩, 9) := ⟨⟨by decide +kernel, by decide +kernel⟩, List.mem_of_getElem? (i := 25) (by decide +kernel), List.mem_of_getElem? (i := 461) (by decide +kernel), List.mem_of_getElem? (i := 462) (by decide +kernel)⟩
theorem lw_p6 : lw_okq (⟨"ThinkingArms$Sea", "flipped", "(III)I"⟩, 9) := ⟨⟨by decide +kernel, by decide +kernel⟩, List.mem_of_getElem? (i := 25) (by decide +kernel), List.mem_of_getElem? (i := 466) (by decide +kernel), List.mem_of_getElem? (i := 467) (by decide +kernel)⟩
theorem lw_p7 : lw_okq (⟨"ThinkingArms$RuleReader", "goTo", "(I)V"⟩, 5) := ⟨⟨by decide +kernel, by decide +kernel⟩, List.mem_of_getElem? (i := 163) (by decide +kernel), List.mem_of_getElem? (i := 489) (by decide +kernel), List.mem_of_getElem? (i := 490) (by decide +kernel)⟩
theorem lw_p8 : lw_okq (⟨"ThinkingArms$RuleReader", "readClause", "()LThinkingArms$Clause;"⟩, 5) := ⟨⟨by decide +kernel, by decide +kernel⟩, List.mem_of_getElem? (i := 163) (by decide +kernel), List.mem_of_getElem? (i := 512) (by decide +kernel), List.mem_of_getElem? (i := 513) (by decide +kernel)⟩
theorem lw_p9 : lw_okq (⟨"ThinkingArms$RuleReader", "readTest", "(I)LThinkingArms$Claim;"⟩, 5) := ⟨⟨by decide +kernel, by decide +kernel⟩, List.mem_of_getElem? (i := 163) (by decide +kernel), List.mem_of_getElem? (i := 541) (by decide +kernel), List.mem_of_getElem? (i := 542) (by decide +kernel)⟩
theorem lw_p10 : lw_okq (⟨"ThinkingArms$RuleReader", "readClaim", "(I)LThinkingArms$Claim;"⟩, 5) := ⟨⟨by decide +kernel, by decide +kernel⟩, List.mem_of_getElem? (i := 163) (by decide +kernel), List.mem_of_getElem? (i := 545) (by decide +kernel), List.mem_of_getElem? (i := 546) (by decide +kernel)⟩
theorem lw_p11 : lw_okq (⟨"ThinkingArms$RuleReader", "takes", "(I)Z"⟩, 5) := ⟨⟨by decide +kernel, by decide +kernel⟩, List.mem_of_getElem? (i := 163) (by decide +kernel), List.mem_of_getElem? (i := 576) (by decide +kernel), List.mem_of_getElem? (i := 577) (by decide +kernel)⟩
theorem lw_p12 : lw_okq (⟨"ThinkingArms$RuleReader", "need", "(I)V"⟩, 5) := ⟨⟨by decide +kernel, by decide +kernel⟩, List.mem_of_getElem? (i := 163) (by decide +kernel), List.mem_of_getElem? (i := 580) (by decide +kernel), List.mem_of_getElem? (i := 581) (by decide +kernel)⟩
theorem lw_p13 : lw_okq (⟨"ThinkingArms$RuleReader", "fail", "()V"⟩, 5) := ⟨⟨by decide +kernel, by decide +kernel⟩, List.mem_of_getElem? (i := 163) (by decide +kernel), List.mem_of_getElem? (i := 584) (by decide +kernel), List.mem_of_getElem? (i := 585) (by decide +kernel)⟩
theorem lw_p14 : lw_okq (⟨"ThinkingArms$RuleReader", "readSense", "()I"⟩, 5) := ⟨⟨by decide +kernel, by decide +kernel⟩, List.mem_of_getElem? (i := 163) (by decide +kernel), List.mem_of_getElem? (i := 588) (by decide +kernel), List.mem_of_getElem? (i := 589) (by decide +kernel)⟩
theorem lw_p15 : lw_okq (⟨"ThinkingArms$RuleReader", "readDigit", "()I"⟩, 5) := ⟨⟨by decide +kernel, by decide +kernel⟩, List.mem_of_getElem? (i := 163) (by decide +kernel), List.mem_of_getElem? (i := 592) (by decide +kernel), List.mem_of_getElem? (i := 593) (by decide +kernel)⟩
def lw_privs_1 : List (MethodName × Nat) := [(⟨"ThinkingArms", "isSheet", "(I)Z"⟩, 9), (⟨"ThinkingArms$Sea", "lay", "(II)V"⟩, 9), (⟨"ThinkingArms", "isPiece", "(II)Z"⟩, 9), (⟨"ThinkingArms", "isArm", "(I)Z"⟩, 9), (⟨"ThinkingArms", "isThing", "(I)Z"⟩, 9), (⟨"ThinkingArms$Sea", "turned", "(II)I"⟩, 9), (⟨"ThinkingArms$Sea", "flipped", "(III)I"⟩, 9), (⟨"ThinkingArms$RuleReader", "goTo", "(I)V"⟩, 5), (⟨"ThinkingArms$RuleReader", "readClause", "()LThinkingArms$Clause;"⟩, 5), (⟨"ThinkingArms$RuleReader", "readTest", "(I)LThinkingArms$Claim;"⟩, 5), (⟨"ThinkingArms$RuleReader", "readClaim", "(I)LThinkingArms$Claim;"⟩, 5), (⟨"ThinkingArms$RuleReader", "takes", "(I)Z"⟩, 5), (⟨"ThinkingArms$RuleReader", "need", "(I)V"⟩, 5), (⟨"ThinkingArms$RuleReader", "fail", "()V"⟩, 5), (⟨"ThinkingArms$RuleReader", "readSense", "()I"⟩, 5), (⟨"ThinkingArms$RuleReader", "readDigit", "()I"⟩, 5)]
theorem lw_r1 : ∀ q ∈ lw_privs_1, lw_okq q := List.forall_mem_cons.mpr ⟨lw_p0, List.forall_mem_cons.mpr ⟨lw_p1, List.forall_mem_cons.mpr ⟨lw_p2, List.forall_mem_cons.mpr ⟨lw_p3, List.forall_mem_cons.mpr ⟨lw_p4, List.forall_mem_cons.mpr ⟨lw_p5, List.forall_mem_cons.mpr ⟨lw_p6, List.forall_mem_cons.mpr ⟨lw_p7, List.forall_mem_cons.mpr ⟨lw_p8, List.forall_mem_cons.mpr ⟨lw_p9, List.forall_mem_cons.mpr ⟨lw_p10, List.forall_mem_cons.mpr ⟨lw_p11, List.forall_mem_cons.mpr ⟨lw_p12, List.forall_mem_cons.mpr ⟨lw_p13, List.forall_mem_cons.mpr ⟨lw_p14, List.forall_mem_cons.mpr ⟨lw_p15, fun _ h => absurd h List.not_mem_nil⟩⟩⟩⟩⟩⟩⟩⟩⟩⟩⟩⟩⟩⟩⟩⟩
theorem lw_p16 : lw_okq (⟨"ThinkingArms$RuleReader", "readAct", "(LThinkingArms$Clause;)V"⟩, 5) := ⟨⟨by decide +kernel, by decide +kernel⟩, List.mem_of_getElem? (i := 163) (by decide +kernel), List.mem_of_getElem? (i := 597) (by decide +kernel), List.mem_of_getElem? (i := 598) (by decide +kernel)⟩
theorem lw_p17 : lw_okq (⟨"ThinkingArms$Sea", "senses", "(LThinkingArms$Arm;I)I"⟩, 9) := ⟨⟨by decide +kernel, by decide +kernel⟩, List.mem_of_getElem? (i := 25) (by decide +kernel), List.mem_of_getElem? (i := 624) (by decide +kernel), List.mem_of_getElem? (i := 625) (by decide +kernel)⟩
theorem lw_p18 : lw_okq (⟨"ThinkingArms$Sea", "doActs", "(II)I"⟩, 9) := ⟨⟨by decide +kernel, by decide +kernel⟩, List.mem_of_getElem? (i := 25) (by decide +kernel), List.mem_of_getElem? (i := 641) (by decide +kernel), List.mem_of_getElem? (i := 642) (by decide +kernel)⟩
theorem lw_p19 : lw_okq (⟨"ThinkingArms$Sea", "grab", "(II)V"⟩, 9) := ⟨⟨by decide +kernel, by decide +kernel⟩, List.mem_of_getElem? (i := 25) (by decide +kernel), List.mem_of_getElem? (i := 646) (by decide +kernel), List.mem_of_getElem? (i := 647) (by decide +kernel)⟩
theorem lw_p20 : lw_okq (⟨"ThinkingArms$Sea", "lyingAt", "(I)I"⟩, 9) := ⟨⟨by decide +kernel, by decide +kernel⟩, List.mem_of_getElem? (i := 25) (by decide +kernel), List.mem_of_getElem? (i := 650) (by decide +kernel), List.mem_of_getElem? (i := 651) (by decide +kernel)⟩
theorem lw_p21 : lw_okq (⟨"ThinkingArms$Sea", "lift", "(I)V"⟩, 9) := ⟨⟨by decide +kernel, by decide +kernel⟩, List.mem_of_getElem? (i := 25) (by decide +kernel), List.mem_of_getElem? (i := 654) (by decide +kernel), List.mem_of_getElem? (i := 655) (by decide +kernel)⟩
theorem lw_p22 : lw_okq (⟨"ThinkingArms$Sea", "give", "(III)V"⟩, 9) := ⟨⟨by decide +kernel, by decide +kernel⟩, List.mem_of_getElem? (i := 25) (by decide +kernel), List.mem_of_getElem? (i := 658) (by decide +kernel), List.mem_of_getElem? (i := 659) (by decide +kernel)⟩
theorem lw_p23 : lw_okq (⟨"ThinkingArms$Sea", "passOn", "(II)V"⟩, 9) := ⟨⟨by decide +kernel, by decide +kernel⟩, List.mem_of_getElem? (i := 25) (by decide +kernel), List.mem_of_getElem? (i := 662) (by decide +kernel), List.mem_of_getElem? (i := 663) (by decide +kernel)⟩
theorem lw_p24 : lw_okq (⟨"ThinkingArms$Sea", "letGo", "(LThinkingArms$Arm;I)V"⟩, 9) := ⟨⟨by decide +kernel, by decide +kernel⟩, List.mem_of_getElem? (i := 25) (by decide +kernel), List.mem_of_getElem? (i := 666) (by decide +kernel), List.mem_of_getElem? (i := 667) (by decide +kernel)⟩
theorem lw_p25 : lw_okq (⟨"ThinkingArms", "refusesReach", "(I)I"⟩, 9) := ⟨⟨by decide +kernel, by decide +kernel⟩, List.mem_of_getElem? (i := 17) (by decide +kernel), List.mem_of_getElem? (i := 691) (by decide +kernel), List.mem_of_getElem? (i := 692) (by decide +kernel)⟩
theorem lw_p26 : lw_okq (⟨"ThinkingArms$Reaching", "layOut", "(I)J"⟩, 11) := ⟨⟨by decide +kernel, by decide +kernel⟩, List.mem_of_getElem? (i := 187) (by decide +kernel), List.mem_of_getElem? (i := 700) (by decide +kernel), List.mem_of_getElem? (i := 701) (by decide +kernel)⟩
theorem lw_p27 : lw_okq (⟨"ThinkingArms$Reaching", "searchAnew", "()V"⟩, 11) := ⟨⟨by decide +kernel, by decide +kernel⟩, List.mem_of_getElem? (i := 187) (by decide +kernel), List.mem_of_getElem? (i := 706) (by decide +kernel), List.mem_of_getElem? (i := 707) (by decide +kernel)⟩
theorem lw_p28 : lw_okq (⟨"ThinkingArms$Reaching", "see", "(II)V"⟩, 11) := ⟨⟨by decide +kernel, by decide +kernel⟩, List.mem_of_getElem? (i := 187) (by decide +kernel), List.mem_of_getElem? (i := 718) (by decide +kernel), List.mem_of_getElem? (i := 719) (by decide +kernel)⟩
theorem lw_p29 : lw_okq (⟨"ThinkingArms$Reaching", "goOnFrom", "(II)V"⟩, 11) := ⟨⟨by decide +kernel, by decide +kernel⟩, List.mem_of_getElem? (i := 187) (by decide +kernel), List.mem_of_getElem? (i := 722) (by decide +kernel), List.mem_of_getElem? (i := 723) (by decide +kernel)⟩
theorem lw_p30 : lw_okq (⟨"ThinkingArms$Reaching", "seeFlip", "(IIJI)V"⟩, 11) := ⟨⟨by decide +kernel, by decide +kernel⟩, List.mem_of_getElem? (i := 187) (by decide +kernel), List.mem_of_getElem? (i := 726) (by decide +kernel), List.mem_of_getElem? (i := 727) (by decide +kernel)⟩
theorem lw_p31 : lw_okq (⟨"ThinkingArms$Reaching", "seeTurns", "(IJI)V"⟩, 11) := ⟨⟨by decide +kernel, by decide +kernel⟩, List.mem_of_getElem? (i := 187) (by decide +kernel), List.mem_of_getElem? (i := 730) (by decide +kernel), List.mem_of_getElem? (i := 731) (by decide +kernel)⟩
def lw_privs_2 : List (MethodName × Nat) := [(⟨"ThinkingArms$RuleReader", "readAct", "(LThinkingArms$Clause;)V"⟩, 5), (⟨"ThinkingArms$Sea", "senses", "(LThinkingArms$Arm;I)I"⟩, 9), (⟨"ThinkingArms$Sea", "doActs", "(II)I"⟩, 9), (⟨"ThinkingArms$Sea", "grab", "(II)V"⟩, 9), (⟨"ThinkingArms$Sea", "lyingAt", "(I)I"⟩, 9), (⟨"ThinkingArms$Sea", "lift", "(I)V"⟩, 9), (⟨"ThinkingArms$Sea", "give", "(III)V"⟩, 9), (⟨"ThinkingArms$Sea", "passOn", "(II)V"⟩, 9), (⟨"ThinkingArms$Sea", "letGo", "(LThinkingArms$Arm;I)V"⟩, 9), (⟨"ThinkingArms", "refusesReach", "(I)I"⟩, 9), (⟨"ThinkingArms$Reaching", "layOut", "(I)J"⟩, 11), (⟨"ThinkingArms$Reaching", "searchAnew", "()V"⟩, 11), (⟨"ThinkingArms$Reaching", "see", "(II)V"⟩, 11), (⟨"ThinkingArms$Reaching", "goOnFrom", "(II)V"⟩, 11), (⟨"ThinkingArms$Reaching", "seeFlip", "(IIJI)V"⟩, 11), (⟨"ThinkingArms$Reaching", "seeTurns", "(IJI)V"⟩, 11)]
theorem lw_r2 : ∀ q ∈ lw_privs_2, lw_okq q := List.forall_mem_cons.mpr ⟨lw_p16, List.forall_mem_cons.mpr ⟨lw_p17, List.forall_mem_cons.mpr ⟨lw_p18, List.forall_mem_cons.mpr ⟨lw_p19, List.forall_mem_cons.mpr ⟨lw_p20, List.forall_mem_cons.mpr ⟨lw_p21, List.forall_mem_cons.mpr ⟨lw_p22, List.forall_mem_cons.mpr ⟨lw_p23, List.forall_mem_cons.mpr ⟨lw_p24, List.forall_mem_cons.mpr ⟨lw_p25, List.forall_mem_cons.mpr ⟨lw_p26, List.forall_mem_cons.mpr ⟨lw_p27, List.forall_mem_cons.mpr ⟨lw_p28, List.forall_mem_cons.mpr ⟨lw_p29, List.forall_mem_cons.mpr ⟨lw_p30, List.forall_mem_cons.mpr ⟨lw_p31, fun _ h => absurd h List.not_mem_nil⟩⟩⟩⟩⟩⟩⟩⟩⟩⟩⟩⟩⟩⟩⟩⟩
theorem lw_p32 : lw_okq (⟨"ThinkingArms$WordSearch", "isEatenBy", "(II)Z"⟩, 5) := ⟨⟨by decide +kernel, by decide +kernel⟩, List.mem_of_getElem? (i := 230) (by decide +kernel), List.mem_of_getElem? (i := 764) (by decide +kernel), List.mem_of_getElem? (i := 765) (by decide +kernel)⟩
theorem lw_p33 : lw_okq (⟨"ThinkingArms", "isImage", "(I)Z"⟩, 9) := ⟨⟨by decide +kernel, by decide +kernel⟩, List.mem_of_getElem? (i := 17) (by decide +kernel), List.mem_of_getElem? (i := 773) (by decide +kernel), List.mem_of_getElem? (i := 774) (by decide +kernel)⟩
theorem lw_p34 : lw_okq (⟨"ThinkingArms", "refusesFilm", "(IIII)I"⟩, 9) := ⟨⟨by decide +kernel, by decide +kernel⟩, List.mem_of_getElem? (i := 17) (by decide +kernel), List.mem_of_getElem? (i := 786) (by decide +kernel), List.mem_of_getElem? (i := 787) (by decide +kernel)⟩
theorem lw_p35 : lw_okq (⟨"ThinkingArmsModel", "hasPiece", "(I)Z"⟩, 22) := ⟨⟨by decide +kernel, by decide +kernel⟩, List.mem_of_getElem? (i := 828) (by decide +kernel), List.mem_of_getElem? (i := 912) (by decide +kernel), List.mem_of_getElem? (i := 913) (by decide +kernel)⟩
theorem lw_p36 : lw_okq (⟨"ThinkingArmsModel", "pieces", "(I)I"⟩, 22) := ⟨⟨by decide +kernel, by decide +kernel⟩, List.mem_of_getElem? (i := 828) (by decide +kernel), List.mem_of_getElem? (i := 916) (by decide +kernel), List.mem_of_getElem? (i := 917) (by decide +kernel)⟩
theorem lw_p37 : lw_okq (⟨"ThinkingArmsModel", "cell", "(II)I"⟩, 22) := ⟨⟨by decide +kernel, by decide +kernel⟩, List.mem_of_getElem? (i := 828) (by decide +kernel), List.mem_of_getElem? (i := 923) (by decide +kernel), List.mem_of_getElem? (i := 924) (by decide +kernel)⟩
theorem lw_p38 : lw_okq (⟨"ThinkingArmsModel", "lyingAt", "(I)I"⟩, 22) := ⟨⟨by decide +kernel, by decide +kernel⟩, List.mem_of_getElem? (i := 828) (by decide +kernel), List.mem_of_getElem? (i := 927) (by decide +kernel), List.mem_of_getElem? (i := 928) (by decide +kernel)⟩
theorem lw_p39 : lw_okq (⟨"ThinkingArmsModel", "isFree", "(I)Z"⟩, 22) := ⟨⟨by decide +kernel, by decide +kernel⟩, List.mem_of_getElem? (i := 828) (by decide +kernel), List.mem_of_getElem? (i := 951) (by decide +kernel), List.mem_of_getElem? (i := 952) (by decide +kernel)⟩
theorem lw_p40 : lw_okq (⟨"ThinkingArmsModel", "isPiece", "(II)Z"⟩, 22) := ⟨⟨by decide +kernel, by decide +kernel⟩, List.mem_of_getElem? (i := 828) (by decide +kernel), List.mem_of_getElem? (i := 963) (by decide +kernel), List.mem_of_getElem? (i := 964) (by decide +kernel)⟩
theorem lw_p41 : lw_okq (⟨"ThinkingArmsModel", "isArm", "(I)Z"⟩, 22) := ⟨⟨by decide +kernel, by decide +kernel⟩, List.mem_of_getElem? (i := 828) (by decide +kernel), List.mem_of_getElem? (i := 967) (by decide +kernel), List.mem_of_getElem? (i := 968) (by decide +kernel)⟩
theorem lw_p42 : lw_okq (⟨"ThinkingArmsModel", "cutOf", "(I)I"⟩, 22) := ⟨⟨by decide +kernel, by decide +kernel⟩, List.mem_of_getElem? (i := 828) (by decide +kernel), List.mem_of_getElem? (i := 971) (by decide +kernel), List.mem_of_getElem? (i := 972) (by decide +kernel)⟩
theorem lw_p43 : lw_okq (⟨"ThinkingArmsModel", "isTip", "(II)Z"⟩, 22) := ⟨⟨by decide +kernel, by decide +kernel⟩, List.mem_of_getElem? (i := 828) (by decide +kernel), List.mem_of_getElem? (i := 975) (by decide +kernel), List.mem_of_getElem? (i := 976) (by decide +kernel)⟩
theorem lw_p44 : lw_okq (⟨"ThinkingArmsModel", "isThing", "(I)Z"⟩, 22) := ⟨⟨by decide +kernel, by decide +kernel⟩, List.mem_of_getElem? (i := 828) (by decide +kernel), List.mem_of_getElem? (i := 983) (by decide +kernel), List.mem_of_getElem? (i := 984) (by decide +kernel)⟩
theorem lw_p45 : lw_okq (⟨"ThinkingArmsModel", "formOf", "(I)I"⟩, 22) := ⟨⟨by decide +kernel, by decide +kernel⟩, List.mem_of_getElem? (i := 828) (by decide +kernel), List.mem_of_getElem? (i := 991) (by decide +kernel), List.mem_of_getElem? (i := 992) (by decide +kernel)⟩
theorem lw_p46 : lw_okq (⟨"ThinkingArmsModel", "goesTo", "(II)I"⟩, 22) := ⟨⟨by decide +kernel, by decide +kernel⟩, List.mem_of_getElem? (i := 828) (by decide +kernel), List.mem_of_getElem? (i := 1002) (by decide +kernel), List.mem_of_getElem? (i := 1003) (by decide +kernel)⟩
theorem lw_p47 : lw_okq (⟨"ThinkingArmsModel", "flipped", "(II)I"⟩, 22) := ⟨⟨by decide +kernel, by decide +kernel⟩, List.mem_of_getElem? (i := 828) (by decide +kernel), List.mem_of_getElem? (i := 1006) (by decide +kernel), List.mem_of_getElem? (i := 1007) (by decide +kernel)⟩
def lw_privs_3 : List (MethodName × Nat) := [(⟨"ThinkingArms$WordSearch", "isEatenBy", "(II)Z"⟩, 5), (⟨"ThinkingArms", "isImage", "(I)Z"⟩, 9), (⟨"ThinkingArms", "refusesFilm", "(IIII)I"⟩, 9), (⟨"ThinkingArmsModel", "hasPiece", "(I)Z"⟩, 22), (⟨"ThinkingArmsModel", "pieces", "(I)I"⟩, 22), (⟨"ThinkingArmsModel", "cell", "(II)I"⟩, 22), (⟨"ThinkingArmsModel", "lyingAt", "(I)I"⟩, 22), (⟨"ThinkingArmsModel", "isFree", "(I)Z"⟩, 22), (⟨"ThinkingArmsModel", "isPiece", "(II)Z"⟩, 22), (⟨"ThinkingArmsModel", "isArm", "(I)Z"⟩, 22), (⟨"ThinkingArmsModel", "cutOf", "(I)I"⟩, 22), (⟨"ThinkingArmsModel", "isTip", "(II)Z"⟩, 22), (⟨"ThinkingArmsModel", "isThing", "(I)Z"⟩, 22), (⟨"ThinkingArmsModel", "formOf", "(I)I"⟩, 22), (⟨"ThinkingArmsModel", "goesTo", "(II)I"⟩, 22), (⟨"ThinkingArmsModel", "flipped", "(II)I"⟩, 22)]
theorem lw_r3 : ∀ q ∈ lw_privs_3, lw_okq q := List.forall_mem_cons.mpr ⟨lw_p32, List.forall_mem_cons.mpr ⟨lw_p33, List.forall_mem_cons.mpr ⟨lw_p34, List.forall_mem_cons.mpr ⟨lw_p35, List.forall_mem_cons.mpr ⟨lw_p36, List.forall_mem_cons.mpr ⟨lw_p37, List.forall_mem_cons.mpr ⟨lw_p38, List.forall_mem_cons.mpr ⟨lw_p39, List.forall_mem_cons.mpr ⟨lw_p40, List.forall_mem_cons.mpr ⟨lw_p41, List.forall_mem_cons.mpr ⟨lw_p42, List.forall_mem_cons.mpr ⟨lw_p43, List.forall_mem_cons.mpr ⟨lw_p44, List.forall_mem_cons.mpr ⟨lw_p45, List.forall_mem_cons.mpr ⟨lw_p46, List.forall_mem_cons.mpr ⟨lw_p47, fun _ h => absurd h List.not_mem_nil⟩⟩⟩⟩⟩⟩⟩⟩⟩⟩⟩⟩⟩⟩⟩⟩
theorem lw_p48 : lw_okq (⟨"ThinkingArmsModel", "faultOf", "()I"⟩, 22) := ⟨⟨by decide +kernel, by decide +kernel⟩, List.mem_of_getElem? (i := 828) (by decide +kernel), List.mem_of_getElem? (i := 1019) (by decide +kernel), List.mem_of_getElem? (i := 1020) (by decide +kernel)⟩
theorem lw_p49 : lw_okq (⟨"ThinkingArmsModel", "tick", "()V"⟩, 22) := ⟨⟨by decide +kernel, by decide +kernel⟩, List.mem_of_getElem? (i := 828) (by decide +kernel), List.mem_of_getElem? (i := 1035) (by decide +kernel), List.mem_of_getElem? (i := 1036) (by decide +kernel)⟩
theorem lw_p50 : lw_okq (⟨"ThinkingArmsModel", "findsOf", "(II)I"⟩, 22) := ⟨⟨by decide +kernel, by decide +kernel⟩, List.mem_of_getElem? (i := 828) (by decide +kernel), List.mem_of_getElem? (i := 1039) (by decide +kernel), List.mem_of_getElem? (i := 1040) (by decide +kernel)⟩
theorem lw_p51 : lw_okq (⟨"ThinkingArmsModel", "holdsTest", "(II)Z"⟩, 22) := ⟨⟨by decide +kernel, by decide +kernel⟩, List.mem_of_getElem? (i := 828) (by decide +kernel), List.mem_of_getElem? (i := 1043) (by decide +kernel), List.mem_of_getElem? (i := 1044) (by decide +kernel)⟩
theorem lw_p52 : lw_okq (⟨"ThinkingArmsModel", "claims", "(IIII)Z"⟩, 22) := ⟨⟨by decide +kernel, by decide +kernel⟩, List.mem_of_getElem? (i := 828) (by decide +kernel), List.mem_of_getElem? (i := 1047) (by decide +kernel), List.mem_of_getElem? (i := 1048) (by decide +kernel)⟩
theorem lw_p53 : lw_okq (⟨"ThinkingArmsModel", "isNear", "(II)Z"⟩, 22) := ⟨⟨by decide +kernel, by decide +kernel⟩, List.mem_of_getElem? (i := 828) (by decide +kernel), List.mem_of_getElem? (i := 1051) (by decide +kernel), List.mem_of_getElem? (i := 1052) (by decide +kernel)⟩
theorem lw_p54 : lw_okq (⟨"ThinkingArmsModel", "act", "(III)I"⟩, 22) := ⟨⟨by decide +kernel, by decide +kernel⟩, List.mem_of_getElem? (i := 828) (by decide +kernel), List.mem_of_getElem? (i := 1055) (by decide +kernel), List.mem_of_getElem? (i := 1056) (by decide +kernel)⟩
theorem lw_p55 : lw_okq (⟨"ThinkingArmsModel", "grab", "(II)V"⟩, 22) := ⟨⟨by decide +kernel, by decide +kernel⟩, List.mem_of_getElem? (i := 828) (by decide +kernel), List.mem_of_getElem? (i := 1059) (by decide +kernel), List.mem_of_getElem? (i := 1060) (by decide +kernel)⟩
theorem lw_p56 : lw_okq (⟨"ThinkingArmsModel", "pass", "(II)V"⟩, 22) := ⟨⟨by decide +kernel, by decide +kernel⟩, List.mem_of_getElem? (i := 828) (by decide +kernel), List.mem_of_getElem? (i := 1063) (by decide +kernel), List.mem_of_getElem? (i := 1064) (by decide +kernel)⟩
theorem lw_p57 : lw_okq (⟨"ThinkingArmsModel", "letGo", "(II)V"⟩, 22) := ⟨⟨by decide +kernel, by decide +kernel⟩, List.mem_of_getElem? (i := 828) (by decide +kernel), List.mem_of_getElem? (i := 1067) (by decide +kernel), List.mem_of_getElem? (i := 1068) (by decide +kernel)⟩
theorem lw_p58 : lw_okq (⟨"ThinkingArmsModel", "things", "(I)I"⟩, 22) := ⟨⟨by decide +kernel, by decide +kernel⟩, List.mem_of_getElem? (i := 828) (by decide +kernel), List.mem_of_getElem? (i := 1071) (by decide +kernel), List.mem_of_getElem? (i := 1072) (by decide +kernel)⟩
theorem lw_p59 : lw_okq (⟨"ThinkingArmsModel", "layReach", "(I)V"⟩, 22) := ⟨⟨by decide +kernel, by decide +kernel⟩, List.mem_of_getElem? (i := 828) (by decide +kernel), List.mem_of_getElem? (i := 1091) (by decide +kernel), List.mem_of_getElem? (i := 1092) (by decide +kernel)⟩
theorem lw_p60 : lw_okq (⟨"ThinkingArmsModel", "come", "(II)V"⟩, 22) := ⟨⟨by decide +kernel, by decide +kernel⟩, List.mem_of_getElem? (i := 828) (by decide +kernel), List.mem_of_getElem? (i := 1095) (by decide +kernel), List.mem_of_getElem? (i := 1096) (by decide +kernel)⟩
theorem lw_p61 : lw_okq (⟨"ThinkingArmsModel", "lay", "(II)V"⟩, 22) := ⟨⟨by decide +kernel, by decide +kernel⟩, List.mem_of_getElem? (i := 828) (by decide +kernel), List.mem_of_getElem? (i := 1099) (by decide +kernel), List.mem_of_getElem? (i := 1100) (by decide +kernel)⟩
theorem lw_p62 : lw_okq (⟨"ThinkingArmsModel", "eats", "(IIIII)Z"⟩, 22) := ⟨⟨by decide +kernel, by decide +kernel⟩, List.mem_of_getElem? (i := 828) (by decide +kernel), List.mem_of_getElem? (i := 1115) (by decide +kernel), List.mem_of_getElem? (i := 1116) (by decide +kernel)⟩
theorem lw_p63 : lw_okq (⟨"ThinkingArmsModel", "bars", "(IIII)I"⟩, 22) := ⟨⟨by decide +kernel, by decide +kernel⟩, List.mem_of_getElem? (i := 828) (by decide +kernel), List.mem_of_getElem? (i := 1131) (by decide +kernel), List.mem_of_getElem? (i := 1132) (by decide +kernel)⟩
def lw_privs_4 : List (MethodName × Nat) := [(⟨"ThinkingArmsModel", "faultOf", "()I"⟩, 22), (⟨"ThinkingArmsModel", "tick", "()V"⟩, 22), (⟨"ThinkingArmsModel", "findsOf", "(II)I"⟩, 22), (⟨"ThinkingArmsModel", "holdsTest", "(II)Z"⟩, 22), (⟨"ThinkingArmsModel", "claims", "(IIII)Z"⟩, 22), (⟨"ThinkingArmsModel", "isNear", "(II)Z"⟩, 22), (⟨"ThinkingArmsModel", "act", "(III)I"⟩, 22), (⟨"ThinkingArmsModel", "grab", "(II)V"⟩, 22), (⟨"ThinkingArmsModel", "pass", "(II)V"⟩, 22), (⟨"ThinkingArmsModel", "letGo", "(II)V"⟩, 22), (⟨"ThinkingArmsModel", "things", "(I)I"⟩, 22), (⟨"ThinkingArmsModel", "layReach", "(I)V"⟩, 22), (⟨"ThinkingArmsModel", "come", "(II)V"⟩, 22), (⟨"ThinkingArmsModel", "lay", "(II)V"⟩, 22), (⟨"ThinkingArmsModel", "eats", "(IIIII)Z"⟩, 22), (⟨"ThinkingArmsModel", "bars", "(IIII)I"⟩, 22)]
theorem lw_r4 : ∀ q ∈ lw_privs_4, lw_okq q := List.forall_mem_cons.mpr ⟨lw_p48, List.forall_mem_cons.mpr ⟨lw_p49, List.forall_mem_cons.mpr ⟨lw_p50, List.forall_mem_cons.mpr ⟨lw_p51, List.forall_mem_cons.mpr ⟨lw_p52, List.forall_mem_cons.mpr ⟨lw_p53, List.forall_mem_cons.mpr ⟨lw_p54, List.forall_mem_cons.mpr ⟨lw_p55, List.forall_mem_cons.mpr ⟨lw_p56, List.forall_mem_cons.mpr ⟨lw_p57, List.forall_mem_cons.mpr ⟨lw_p58, List.forall_mem_cons.mpr ⟨lw_p59, List.forall_mem_cons.mpr ⟨lw_p60, List.forall_mem_cons.mpr ⟨lw_p61, List.forall_mem_cons.mpr ⟨lw_p62, List.forall_mem_cons.mpr ⟨lw_p63, fun _ h => absurd h List.not_mem_nil⟩⟩⟩⟩⟩⟩⟩⟩⟩⟩⟩⟩⟩⟩⟩⟩
def lw_privs : List (MethodName × Nat) := lw_privs_1 ++ (lw_privs_2 ++ (lw_privs_3 ++ (lw_privs_4)))
def lw_tbl : List Cond := k2_sels lw_privs ++ tables_1
theorem lw_privs_ok : ∀ q ∈ lw_privs, lw_okq q := by
  show ∀ q ∈ lw_privs_1 ++ (lw_privs_2 ++ (lw_privs_3 ++ (lw_privs_4))), lw_okq q
  exact List.forall_mem_append.mpr ⟨lw_r1, List.forall_mem_append.mpr ⟨lw_r2, List.forall_mem_append.mpr ⟨lw_r3, lw_r4⟩⟩⟩
-- ===== end of PART A
def RX0 : String := "ThinkingArms$Arm"
def TX0 : u_T := fun k => match k with
  | 0 => ("ThinkingArms$Arm", "size", "I", false)
  | 1 => ("ThinkingArms$Arm", "firstCut", "I", false)
  | 2 => ("ThinkingArms$Arm", "headWord", "I", false)
  | 3 => ("ThinkingArms$Arm", "rules", "LThinkingArms$Rules;", false)
  | 4 => ("ThinkingArms$Arm", "cell", "[I", true)
  | 5 => ("ThinkingArms$Arm", "memory", "[I", true)
  | 6 => ("ThinkingArms$Arm", "holds", "[I", true)
  | 7 => ("ThinkingArms$Arm", "said", "[I", true)
  | _ => ("ThinkingArms$Arm", "found", "[I", true)
def tyX0 : Nat → FieldType := fun k => match k with
  | 0 => .int
  | 1 => .int
  | 2 => .int
  | 3 => .object "ThinkingArms$Rules"
  | 4 => .array .int
  | 5 => .array .int
  | 6 => .array .int
  | 7 => .array .int
  | _ => .array .int
abbrev wsX00 : List Cond := u_ws RX0 TX0 9
theorem nmX0 : ∀ a, a < 9 → ∀ b, b < 9 → a ≠ b → (TX0 a).2.1 ≠ (TX0 b).2.1 := by decide +kernel
theorem tyX0_ok : ∀ k, k < 9 → parseFieldDescriptor (TX0 k).2.2.1 = some (tyX0 k) := by decide +kernel
abbrev cX0_init : ByteArray := prog_2_method_1_code
def yX0_init : MethodName := ⟨RX0, "<init>", "()V"⟩
abbrev cX0_begin : ByteArray := prog_2_method_2_code
def yX0_begin : MethodName := ⟨RX0, "begin", "([II)V"⟩
abbrev cX0_become : ByteArray := prog_2_method_3_code
def yX0_become : MethodName := ⟨RX0, "become", "(LThinkingArms$Arm;)V"⟩
abbrev cX0_isCut : ByteArray := prog_2_method_4_code
def yX0_isCut : MethodName := ⟨RX0, "isCut", "()Z"⟩
abbrev cX0_isCutOff : ByteArray := prog_2_method_5_code
def yX0_isCutOff : MethodName := ⟨RX0, "isCutOff", "(I)Z"⟩
abbrev cX0_isTip : ByteArray := prog_2_method_6_code
def yX0_isTip : MethodName := ⟨RX0, "isTip", "(I)Z"⟩
abbrev cX0_canEverMove : ByteArray := prog_2_method_7_code
def yX0_canEverMove : MethodName := ⟨RX0, "canEverMove", "(I)Z"⟩
abbrev cX0_formNow : ByteArray := prog_2_method_8_code
def yX0_formNow : MethodName := ⟨RX0, "formNow", "()I"⟩
def RX1 : String := "ThinkingArms$Claim"
def TX1 : u_T := fun k => match k with
  | 0 => ("ThinkingArms$Claim", "beginsCase", "Z", false)
  | 1 => ("ThinkingArms$Claim", "not", "Z", false)
  | 2 => ("ThinkingArms$Claim", "bit", "I", false)
  | 3 => ("ThinkingArms$Claim", "inside", "LThinkingArms$Claim;", false)
  | _ => ("ThinkingArms$Claim", "next", "LThinkingArms$Claim;", false)
def tyX1 : Nat → FieldType := fun k => match k with
  | 0 => .boolean
  | 1 => .boolean
  | 2 => .int
  | 3 => .object "ThinkingArms$Claim"
  | _ => .object "ThinkingArms$Claim"
abbrev wsX10 : List Cond := u_ws RX1 TX1 5
theorem nmX1 : ∀ a, a < 5 → ∀ b, b < 5 → a ≠ b → (TX1 a).2.1 ≠ (TX1 b).2.1 := by decide +kernel
theorem tyX1_ok : ∀ k, k < 5 → parseFieldDescriptor (TX1 k).2.2.1 = some (tyX1 k) := by decide +kernel
abbrev cX1_init : ByteArray := prog_3_method_1_code
def yX1_init : MethodName := ⟨RX1, "<init>", "()V"⟩
abbrev cX1_holds : ByteArray := prog_3_method_2_code
def yX1_holds : MethodName := ⟨RX1, "holds", "(LThinkingArms$Claim;II)Z"⟩
def RX2 : String := "ThinkingArms$Clause"
def TX2 : u_T := fun k => match k with
  | 0 => ("ThinkingArms$Clause", "test", "LThinkingArms$Claim;", false)
  | 1 => ("ThinkingArms$Clause", "acts", "[I", true)
  | 2 => ("ThinkingArms$Clause", "digits", "[I", true)
  | _ => ("ThinkingArms$Clause", "actCount", "I", false)
def tyX2 : Nat → FieldType := fun k => match k with
  | 0 => .object "ThinkingArms$Claim"
  | 1 => .array .int
  | 2 => .array .int
  | _ => .int
abbrev wsX20 : List Cond := u_ws RX2 TX2 4
theorem nmX2 : ∀ a, a < 4 → ∀ b, b < 4 → a ≠ b → (TX2 a).2.1 ≠ (TX2 b).2.1 := by decide +kernel
theorem tyX2_ok : ∀ k, k < 4 → parseFieldDescriptor (TX2 k).2.2.1 = some (tyX2 k) := by decide +kernel
abbrev cX2_init : ByteArray := prog_4_method_1_code
def yX2_init : MethodName := ⟨RX2, "<init>", "()V"⟩
def RX3 : String := "ThinkingArms$Reaching"
def TX3 : u_T := fun k => match k with
  | 0 => ("ThinkingArms$Reaching", "movesToForm", "[I", true)
  | 1 => ("ThinkingArms$Reaching", "seen", "[I", true)
  | 2 => ("ThinkingArms$Reaching", "movesToCell", "[I", true)
  | 3 => ("ThinkingArms$Reaching", "path", "[I", true)
  | 4 => ("ThinkingArms$Reaching", "formCount", "I", false)
  | 5 => ("ThinkingArms$Reaching", "cellCount", "I", false)
  | 6 => ("ThinkingArms$Reaching", "first", "I", false)
  | 7 => ("ThinkingArms$Reaching", "size", "I", false)
  | 8 => ("ThinkingArms$Reaching", "form", "I", false)
  | 9 => ("ThinkingArms$Reaching", "blocked", "J", false)
  | _ => ("ThinkingArms$Reaching", "others", "J", false)
def tyX3 : Nat → FieldType := fun k => match k with
  | 0 => .array .int
  | 1 => .array .int
  | 2 => .array .int
  | 3 => .array .int
  | 4 => .int
  | 5 => .int
  | 6 => .int
  | 7 => .int
  | 8 => .int
  | 9 => .long
  | _ => .long
abbrev wsX30 : List Cond := u_ws RX3 TX3 11
theorem nmX3 : ∀ a, a < 11 → ∀ b, b < 11 → a ≠ b → (TX3 a).2.1 ≠ (TX3 b).2.1 := by decide +kernel
theorem tyX3_ok : ∀ k, k < 11 → parseFieldDescriptor (TX3 k).2.2.1 = some (tyX3 k) := by decide +kernel
abbrev cX3_init : ByteArray := prog_5_method_1_code
def yX3_init : MethodName := ⟨RX3, "<init>", "()V"⟩
abbrev cX3_search : ByteArray := prog_5_method_2_code
def yX3_search : MethodName := ⟨RX3, "search", "(LThinkingArms$Sea;LThinkingArms$Arm;)V"⟩
abbrev cX3_searchAnew : ByteArray := prog_5_method_3_code
def yX3_searchAnew : MethodName := ⟨RX3, "searchAnew", "()V"⟩
abbrev cX3_see : ByteArray := prog_5_method_4_code
def yX3_see : MethodName := ⟨RX3, "see", "(II)V"⟩
abbrev cX3_layOut : ByteArray := prog_5_method_5_code
def yX3_layOut : MethodName := ⟨RX3, "layOut", "(I)J"⟩
abbrev cX3_goOnFrom : ByteArray := prog_5_method_6_code
def yX3_goOnFrom : MethodName := ⟨RX3, "goOnFrom", "(II)V"⟩
abbrev cX3_seeFlip : ByteArray := prog_5_method_7_code
def yX3_seeFlip : MethodName := ⟨RX3, "seeFlip", "(IIJI)V"⟩
abbrev cX3_seeTurns : ByteArray := prog_5_method_8_code
def yX3_seeTurns : MethodName := ⟨RX3, "seeTurns", "(IJI)V"⟩
def RX4 : String := "ThinkingArms$RuleReader"
def TX4 : u_T := fun k => match k with
  | 0 => ("ThinkingArms$RuleReader", "text", "[B", false)
  | 1 => ("ThinkingArms$RuleReader", "length", "I", false)
  | 2 => ("ThinkingArms$RuleReader", "at", "I", false)
  | 3 => ("ThinkingArms$RuleReader", "sign", "I", false)
  | _ => ("ThinkingArms$RuleReader", "fault", "I", false)
def tyX4 : Nat → FieldType := fun k => match k with
  | 0 => .array .byte
  | 1 => .int
  | 2 => .int
  | 3 => .int
  | _ => .int
abbrev wsX40 : List Cond := u_ws RX4 TX4 5
theorem nmX4 : ∀ a, a < 5 → ∀ b, b < 5 → a ≠ b → (TX4 a).2.1 ≠ (TX4 b).2.1 := by decide +kernel
theorem tyX4_ok : ∀ k, k < 5 → parseFieldDescriptor (TX4 k).2.2.1 = some (tyX4 k) := by decide +kernel
abbrev cX4_init : ByteArray := prog_6_method_1_code
def yX4_init : MethodName := ⟨RX4, "<init>", "()V"⟩
abbrev cX4_read : ByteArray := prog_6_method_2_code
def yX4_read : MethodName := ⟨RX4, "read", "([BI)LThinkingArms$Rules;"⟩
abbrev cX4_readClause : ByteArray := prog_6_method_3_code
def yX4_readClause : MethodName := ⟨RX4, "readClause", "()LThinkingArms$Clause;"⟩
abbrev cX4_readAct : ByteArray := prog_6_method_4_code
def yX4_readAct : MethodName := ⟨RX4, "readAct", "(LThinkingArms$Clause;)V"⟩
abbrev cX4_readTest : ByteArray := prog_6_method_5_code
def yX4_readTest : MethodName := ⟨RX4, "readTest", "(I)LThinkingArms$Claim;"⟩
abbrev cX4_readClaim : ByteArray := prog_6_method_6_code
def yX4_readClaim : MethodName := ⟨RX4, "readClaim", "(I)LThinkingArms$Claim;"⟩
abbrev cX4_readSense : ByteArray := prog_6_method_7_code
def yX4_readSense : MethodName := ⟨RX4, "readSense", "()I"⟩
abbrev cX4_readDigit : ByteArray := prog_6_method_8_code
def yX4_readDigit : MethodName := ⟨RX4, "readDigit", "()I"⟩
abbrev cX4_isAct : ByteArray := prog_6_method_9_code
def yX4_isAct : MethodName := ⟨RX4, "isAct", "(I)Z"⟩
abbrev cX4_need : ByteArray := prog_6_method_10_code
def yX4_need : MethodName := ⟨RX4, "need", "(I)V"⟩
abbrev cX4_takes : ByteArray := prog_6_method_11_code
def yX4_takes : MethodName := ⟨RX4, "takes", "(I)Z"⟩
abbrev cX4_goTo : ByteArray := prog_6_method_12_code
def yX4_goTo : MethodName := ⟨RX4, "goTo", "(I)V"⟩
abbrev cX4_fail : ByteArray := prog_6_method_13_code
def yX4_fail : MethodName := ⟨RX4, "fail", "()V"⟩
def RX5 : String := "ThinkingArms$Rules"
def TX5 : u_T := fun k => match k with
  | 0 => ("ThinkingArms$Rules", "clauses", "[LThinkingArms$Clause;", true)
  | _ => ("ThinkingArms$Rules", "count", "I", false)
def tyX5 : Nat → FieldType := fun k => match k with
  | 0 => .array (.object "ThinkingArms$Clause")
  | _ => .int
abbrev wsX50 : List Cond := u_ws RX5 TX5 2
theorem nmX5 : ∀ a, a < 2 → ∀ b, b < 2 → a ≠ b → (TX5 a).2.1 ≠ (TX5 b).2.1 := by decide +kernel
theorem tyX5_ok : ∀ k, k < 2 → parseFieldDescriptor (TX5 k).2.2.1 = some (tyX5 k) := by decide +kernel
abbrev cX5_init : ByteArray := prog_7_method_1_code
def yX5_init : MethodName := ⟨RX5, "<init>", "()V"⟩
abbrev cX5_firstFor : ByteArray := prog_7_method_2_code
def yX5_firstFor : MethodName := ⟨RX5, "firstFor", "(I)I"⟩
def RX6 : String := "ThinkingArms$Sea"
def TX6 : u_T := fun k => match k with
  | 0 => ("ThinkingArms$Sea", "walls", "J", false)
  | 1 => ("ThinkingArms$Sea", "taken", "J", false)
  | 2 => ("ThinkingArms$Sea", "lyingOfTaste", "[J", true)
  | 3 => ("ThinkingArms$Sea", "arms", "[LThinkingArms$Arm;", true)
  | 4 => ("ThinkingArms$Sea", "armCount", "I", false)
  | 5 => ("ThinkingArms$Sea", "things", "[LThinkingArms$Thing;", true)
  | 6 => ("ThinkingArms$Sea", "thingCount", "I", false)
  | 7 => ("ThinkingArms$Sea", "skinTaste", "I", false)
  | _ => ("ThinkingArms$Sea", "ticksDone", "I", false)
def tyX6 : Nat → FieldType := fun k => match k with
  | 0 => .long
  | 1 => .long
  | 2 => .array .long
  | 3 => .array (.object "ThinkingArms$Arm")
  | 4 => .int
  | 5 => .array (.object "ThinkingArms$Thing")
  | 6 => .int
  | 7 => .int
  | _ => .int
abbrev wsX60 : List Cond := u_ws RX6 TX6 9
theorem nmX6 : ∀ a, a < 9 → ∀ b, b < 9 → a ≠ b → (TX6 a).2.1 ≠ (TX6 b).2.1 := by decide +kernel
theorem tyX6_ok : ∀ k, k < 9 → parseFieldDescriptor (TX6 k).2.2.1 = some (tyX6 k) := by decide +kernel
abbrev cX6_init : ByteArray := prog_8_method_1_code
def yX6_init : MethodName := ⟨RX6, "<init>", "()V"⟩
abbrev cX6_become : ByteArray := prog_8_method_2_code
def yX6_become : MethodName := ⟨RX6, "become", "(LThinkingArms$Sea;)V"⟩
abbrev cX6_lyingCells : ByteArray := prog_8_method_3_code
def yX6_lyingCells : MethodName := ⟨RX6, "lyingCells", "()J"⟩
abbrev cX6_inUse : ByteArray := prog_8_method_4_code
def yX6_inUse : MethodName := ⟨RX6, "inUse", "()J"⟩
abbrev cX6_isFree : ByteArray := prog_8_method_5_code
def yX6_isFree : MethodName := ⟨RX6, "isFree", "(I)Z"⟩
abbrev cX6_canLie : ByteArray := prog_8_method_6_code
def yX6_canLie : MethodName := ⟨RX6, "canLie", "(III[I)Z"⟩
abbrev cX6_addArm : ByteArray := prog_8_method_7_code
def yX6_addArm : MethodName := ⟨RX6, "addArm", "([II)V"⟩
abbrev cX6_addThing : ByteArray := prog_8_method_8_code
def yX6_addThing : MethodName := ⟨RX6, "addThing", "(II)V"⟩
abbrev cX6_countThings : ByteArray := prog_8_method_9_code
def yX6_countThings : MethodName := ⟨RX6, "countThings", "(I)I"⟩
abbrev cX6_cellOfThing : ByteArray := prog_8_method_10_code
def yX6_cellOfThing : MethodName := ⟨RX6, "cellOfThing", "(LThinkingArms$Thing;)I"⟩
abbrev cX6_lay : ByteArray := prog_8_method_11_code
def yX6_lay : MethodName := ⟨RX6, "lay", "(II)V"⟩
abbrev cX6_lift : ByteArray := prog_8_method_12_code
def yX6_lift : MethodName := ⟨RX6, "lift", "(I)V"⟩
abbrev cX6_lyingAt : ByteArray := prog_8_method_13_code
def yX6_lyingAt : MethodName := ⟨RX6, "lyingAt", "(I)I"⟩
abbrev cX6_move : ByteArray := prog_8_method_14_code
def yX6_move : MethodName := ⟨RX6, "move", "(LThinkingArms$Arm;I)Z"⟩
abbrev cX6_turned : ByteArray := prog_8_method_15_code
def yX6_turned : MethodName := ⟨RX6, "turned", "(II)I"⟩
abbrev cX6_flipped : ByteArray := prog_8_method_16_code
def yX6_flipped : MethodName := ⟨RX6, "flipped", "(III)I"⟩
abbrev cX6_tick : ByteArray := prog_8_method_17_code
def yX6_tick : MethodName := ⟨RX6, "tick", "()V"⟩
abbrev cX6_clauseFor : ByteArray := prog_8_method_18_code
def yX6_clauseFor : MethodName := ⟨RX6, "clauseFor", "(LThinkingArms$Arm;I)I"⟩
abbrev cX6_senses : ByteArray := prog_8_method_19_code
def yX6_senses : MethodName := ⟨RX6, "senses", "(LThinkingArms$Arm;I)I"⟩
abbrev cX6_doActs : ByteArray := prog_8_method_20_code
def yX6_doActs : MethodName := ⟨RX6, "doActs", "(II)I"⟩
abbrev cX6_grab : ByteArray := prog_8_method_21_code
def yX6_grab : MethodName := ⟨RX6, "grab", "(II)V"⟩
abbrev cX6_give : ByteArray := prog_8_method_22_code
def yX6_give : MethodName := ⟨RX6, "give", "(III)V"⟩
abbrev cX6_passOn : ByteArray := prog_8_method_23_code
def yX6_passOn : MethodName := ⟨RX6, "passOn", "(II)V"⟩
abbrev cX6_letGo : ByteArray := prog_8_method_24_code
def yX6_letGo : MethodName := ⟨RX6, "letGo", "(LThinkingArms$Arm;I)V"⟩
def RX7 : String := "ThinkingArms$Sheet"
def TX7 : u_T := fun k => match k with
  | 0 => ("ThinkingArms$Sheet", "lane", "I", false)
  | 1 => ("ThinkingArms$Sheet", "length", "I", false)
  | _ => ("ThinkingArms$Sheet", "items", "[I", true)
def tyX7 : Nat → FieldType := fun k => match k with
  | 0 => .int
  | 1 => .int
  | _ => .array .int
abbrev wsX70 : List Cond := u_ws RX7 TX7 3
theorem nmX7 : ∀ a, a < 3 → ∀ b, b < 3 → a ≠ b → (TX7 a).2.1 ≠ (TX7 b).2.1 := by decide +kernel
theorem tyX7_ok : ∀ k, k < 3 → parseFieldDescriptor (TX7 k).2.2.1 = some (tyX7 k) := by decide +kernel
abbrev cX7_init : ByteArray := prog_9_method_1_code
def yX7_init : MethodName := ⟨RX7, "<init>", "()V"⟩
abbrev cX7_begin : ByteArray := prog_9_method_2_code
def yX7_begin : MethodName := ⟨RX7, "begin", "(II)V"⟩
abbrev cX7_forget : ByteArray := prog_9_method_3_code
def yX7_forget : MethodName := ⟨RX7, "forget", "()V"⟩
abbrev cX7_holdsNothing : ByteArray := prog_9_method_4_code
def yX7_holdsNothing : MethodName := ⟨RX7, "holdsNothing", "()Z"⟩
abbrev cX7_spans : ByteArray := prog_9_method_5_code
def yX7_spans : MethodName := ⟨RX7, "spans", "(II)Z"⟩
abbrev cX7_refuses : ByteArray := prog_9_method_6_code
def yX7_refuses : MethodName := ⟨RX7, "refuses", "(III)I"⟩
abbrev cX7_asCells : ByteArray := prog_9_method_7_code
def yX7_asCells : MethodName := ⟨RX7, "asCells", "()J"⟩
def RX8 : String := "ThinkingArms$Thing"
def TX8 : u_T := fun k => match k with
  | 0 => ("ThinkingArms$Thing", "taste", "I", false)
  | 1 => ("ThinkingArms$Thing", "how", "I", false)
  | 2 => ("ThinkingArms$Thing", "cell", "I", false)
  | 3 => ("ThinkingArms$Thing", "arm", "I", false)
  | _ => ("ThinkingArms$Thing", "piece", "I", false)
def tyX8 : Nat → FieldType := fun k => match k with
  | 0 => .int
  | 1 => .int
  | 2 => .int
  | 3 => .int
  | _ => .int
abbrev wsX80 : List Cond := u_ws RX8 TX8 5
theorem nmX8 : ∀ a, a < 5 → ∀ b, b < 5 → a ≠ b → (TX8 a).2.1 ≠ (TX8 b).2.1 := by decide +kernel
theorem tyX8_ok : ∀ k, k < 5 → parseFieldDescriptor (TX8 k).2.2.1 = some (tyX8 k) := by decide +kernel
abbrev cX8_init : ByteArray := prog_10_method_1_code
def yX8_init : MethodName := ⟨RX8, "<init>", "()V"⟩
abbrev cX8_become : ByteArray := prog_10_method_2_code
def yX8_become : MethodName := ⟨RX8, "become", "(LThinkingArms$Thing;)V"⟩
def RX9 : String := "ThinkingArms$WordSearch"
def TX9 : u_T := fun k => match k with
  | 0 => ("ThinkingArms$WordSearch", "row", "[I", true)
  | 1 => ("ThinkingArms$WordSearch", "behind", "[LThinkingArms$Sea;", true)
  | 2 => ("ThinkingArms$WordSearch", "arm", "I", false)
  | 3 => ("ThinkingArms$WordSearch", "thing", "I", false)
  | _ => ("ThinkingArms$WordSearch", "within", "I", false)
def tyX9 : Nat → FieldType := fun k => match k with
  | 0 => .array .int
  | 1 => .array (.object "ThinkingArms$Sea")
  | 2 => .int
  | 3 => .int
  | _ => .int
abbrev wsX90 : List Cond := u_ws RX9 TX9 5
theorem nmX9 : ∀ a, a < 5 → ∀ b, b < 5 → a ≠ b → (TX9 a).2.1 ≠ (TX9 b).2.1 := by decide +kernel
theorem tyX9_ok : ∀ k, k < 5 → parseFieldDescriptor (TX9 k).2.2.1 = some (tyX9 k) := by decide +kernel
abbrev cX9_init : ByteArray := prog_11_method_1_code
def yX9_init : MethodName := ⟨RX9, "<init>", "()V"⟩
abbrev cX9_search : ByteArray := prog_11_method_2_code
def yX9_search : MethodName := ⟨RX9, "search", "(LThinkingArms$Sea;III)I"⟩
abbrev cX9_isEatenBy : ByteArray := prog_11_method_3_code
def yX9_isEatenBy : MethodName := ⟨RX9, "isEatenBy", "(II)Z"⟩
def RX10 : String := "ThinkingArms"
def TX10 : u_T := fun k => match k with
  | 0 => ("ThinkingArms", "sea", "LThinkingArms$Sea;", true)
  | 1 => ("ThinkingArms", "images", "[LThinkingArms$Sea;", true)
  | 2 => ("ThinkingArms", "sheets", "[LThinkingArms$Sheet;", true)
  | 3 => ("ThinkingArms", "tape", "[B", true)
  | 4 => ("ThinkingArms", "typed", "I", false)
  | 5 => ("ThinkingArms", "reader", "LThinkingArms$RuleReader;", true)
  | 6 => ("ThinkingArms", "reaching", "LThinkingArms$Reaching;", true)
  | 7 => ("ThinkingArms", "words", "LThinkingArms$WordSearch;", true)
  | _ => ("ThinkingArms", "path", "[I", true)
def tyX10 : Nat → FieldType := fun k => match k with
  | 0 => .object "ThinkingArms$Sea"
  | 1 => .array (.object "ThinkingArms$Sea")
  | 2 => .array (.object "ThinkingArms$Sheet")
  | 3 => .array .byte
  | 4 => .int
  | 5 => .object "ThinkingArms$RuleReader"
  | 6 => .object "ThinkingArms$Reaching"
  | 7 => .object "ThinkingArms$WordSearch"
  | _ => .array .int
abbrev wsX100 : List Cond := u_ws RX10 TX10 9
theorem nmX10 : ∀ a, a < 9 → ∀ b, b < 9 → a ≠ b → (TX10 a).2.1 ≠ (TX10 b).2.1 := by decide +kernel
theorem tyX10_ok : ∀ k, k < 9 → parseFieldDescriptor (TX10 k).2.2.1 = some (tyX10 k) := by decide +kernel
abbrev cX10_init : ByteArray := prog_1_method_1_code
def yX10_init : MethodName := ⟨RX10, "<init>", "()V"⟩
abbrev cX10_wall : ByteArray := prog_1_method_2_code
def yX10_wall : MethodName := ⟨RX10, "wall", "(IIZ)I"⟩
abbrev cX10_walls : ByteArray := prog_1_method_3_code
def yX10_walls : MethodName := ⟨RX10, "walls", "(I)I"⟩
abbrev cX10_arm : ByteArray := prog_1_method_4_code
def yX10_arm : MethodName := ⟨RX10, "arm", "(IIII)I"⟩
abbrev cX10_thing : ByteArray := prog_1_method_5_code
def yX10_thing : MethodName := ⟨RX10, "thing", "(III)I"⟩
abbrev cX10_piece : ByteArray := prog_1_method_6_code
def yX10_piece : MethodName := ⟨RX10, "piece", "(III)I"⟩
abbrev cX10_told : ByteArray := prog_1_method_7_code
def yX10_told : MethodName := ⟨RX10, "told", "(II)I"⟩
abbrev cX10_form : ByteArray := prog_1_method_8_code
def yX10_form : MethodName := ⟨RX10, "form", "(I)I"⟩
abbrev cX10_flip : ByteArray := prog_1_method_9_code
def yX10_flip : MethodName := ⟨RX10, "flip", "(II)I"⟩
abbrev cX10_type : ByteArray := prog_1_method_10_code
def yX10_type : MethodName := ⟨RX10, "type", "(JI)I"⟩
abbrev cX10_rules : ByteArray := prog_1_method_11_code
def yX10_rules : MethodName := ⟨RX10, "rules", "(I)I"⟩
abbrev cX10_head : ByteArray := prog_1_method_12_code
def yX10_head : MethodName := ⟨RX10, "head", "(II)I"⟩
abbrev cX10_skin : ByteArray := prog_1_method_13_code
def yX10_skin : MethodName := ⟨RX10, "skin", "(I)I"⟩
abbrev cX10_ticks : ByteArray := prog_1_method_14_code
def yX10_ticks : MethodName := ⟨RX10, "ticks", "(I)I"⟩
abbrev cX10_finds : ByteArray := prog_1_method_15_code
def yX10_finds : MethodName := ⟨RX10, "finds", "(II)I"⟩
abbrev cX10_cut : ByteArray := prog_1_method_16_code
def yX10_cut : MethodName := ⟨RX10, "cut", "(II)I"⟩
abbrev cX10_count : ByteArray := prog_1_method_17_code
def yX10_count : MethodName := ⟨RX10, "count", "(I)I"⟩
abbrev cX10_forms : ByteArray := prog_1_method_18_code
def yX10_forms : MethodName := ⟨RX10, "forms", "(I)I"⟩
abbrev cX10_reach : ByteArray := prog_1_method_19_code
def yX10_reach : MethodName := ⟨RX10, "reach", "(I)I"⟩
abbrev cX10_far : ByteArray := prog_1_method_20_code
def yX10_far : MethodName := ⟨RX10, "far", "(III)I"⟩
abbrev cX10_fewest : ByteArray := prog_1_method_21_code
def yX10_fewest : MethodName := ⟨RX10, "fewest", "(IIII)I"⟩
abbrev cX10_image : ByteArray := prog_1_method_22_code
def yX10_image : MethodName := ⟨RX10, "image", "(I)I"⟩
abbrev cX10_restore : ByteArray := prog_1_method_23_code
def yX10_restore : MethodName := ⟨RX10, "restore", "(I)I"⟩
abbrev cX10_film : ByteArray := prog_1_method_24_code
def yX10_film : MethodName := ⟨RX10, "film", "(IIII)I"⟩
abbrev cX10_differs : ByteArray := prog_1_method_25_code
def yX10_differs : MethodName := ⟨RX10, "differs", "(IIII)I"⟩
abbrev cX10_sheet : ByteArray := prog_1_method_26_code
def yX10_sheet : MethodName := ⟨RX10, "sheet", "(III)I"⟩
abbrev cX10_drop : ByteArray := prog_1_method_27_code
def yX10_drop : MethodName := ⟨RX10, "drop", "(I)I"⟩
abbrev cX10_item : ByteArray := prog_1_method_28_code
def yX10_item : MethodName := ⟨RX10, "item", "(IIII)I"⟩
abbrev cX10_copy : ByteArray := prog_1_method_29_code
def yX10_copy : MethodName := ⟨RX10, "copy", "(IIIII)I"⟩
abbrev cX10_isCell : ByteArray := prog_1_method_30_code
def yX10_isCell : MethodName := ⟨RX10, "isCell", "(II)Z"⟩
abbrev cX10_isDigit : ByteArray := prog_1_method_31_code
def yX10_isDigit : MethodName := ⟨RX10, "isDigit", "(I)Z"⟩
abbrev cX10_isLane : ByteArray := prog_1_method_32_code
def yX10_isLane : MethodName := ⟨RX10, "isLane", "(I)Z"⟩
abbrev cX10_isArm : ByteArray := prog_1_method_33_code
def yX10_isArm : MethodName := ⟨RX10, "isArm", "(I)Z"⟩
abbrev cX10_isPiece : ByteArray := prog_1_method_34_code
def yX10_isPiece : MethodName := ⟨RX10, "isPiece", "(II)Z"⟩
abbrev cX10_isThing : ByteArray := prog_1_method_35_code
def yX10_isThing : MethodName := ⟨RX10, "isThing", "(I)Z"⟩
abbrev cX10_isSheet : ByteArray := prog_1_method_36_code
def yX10_isSheet : MethodName := ⟨RX10, "isSheet", "(I)Z"⟩
abbrev cX10_isImage : ByteArray := prog_1_method_37_code
def yX10_isImage : MethodName := ⟨RX10, "isImage", "(I)Z"⟩
abbrev cX10_refusesReach : ByteArray := prog_1_method_38_code
def yX10_refusesReach : MethodName := ⟨RX10, "refusesReach", "(I)I"⟩
abbrev cX10_refusesFilm : ByteArray := prog_1_method_39_code
def yX10_refusesFilm : MethodName := ⟨RX10, "refusesFilm", "(IIII)I"⟩
abbrev cX10_cellOf : ByteArray := prog_1_method_40_code
def yX10_cellOf : MethodName := ⟨RX10, "cellOf", "(II)I"⟩
abbrev cX10_formsOf : ByteArray := prog_1_method_41_code
def yX10_formsOf : MethodName := ⟨RX10, "formsOf", "(I)I"⟩
abbrev cX10_byteOf : ByteArray := prog_1_method_42_code
def yX10_byteOf : MethodName := ⟨RX10, "byteOf", "(JI)I"⟩
abbrev cX10_narrowed : ByteArray := prog_1_method_43_code
def yX10_narrowed : MethodName := ⟨RX10, "narrowed", "(II)I"⟩
abbrev cX10_beside : ByteArray := prog_1_method_44_code
def yX10_beside : MethodName := ⟨RX10, "beside", "(II)I"⟩
abbrev cX10_sideOf : ByteArray := prog_1_method_45_code
def yX10_sideOf : MethodName := ⟨RX10, "sideOf", "(II)I"⟩
abbrev cX10_near : ByteArray := prog_1_method_46_code
def yX10_near : MethodName := ⟨RX10, "near", "(I)J"⟩
abbrev cX10_touchByCorner : ByteArray := prog_1_method_47_code
def yX10_touchByCorner : MethodName := ⟨RX10, "touchByCorner", "(II)Z"⟩
def RX11 : String := "ThinkingArmsModel"
def TX11 : u_T := fun k => match k with
  | 0 => ("ThinkingArmsModel", "all", "[I", true)
  | 1 => ("ThinkingArmsModel", "images", "[I", true)
  | 2 => ("ThinkingArmsModel", "isKept", "[Z", true)
  | 3 => ("ThinkingArmsModel", "before", "[I", true)
  | 4 => ("ThinkingArmsModel", "taped", "I", false)
  | 5 => ("ThinkingArmsModel", "tape", "[I", true)
  | 6 => ("ThinkingArmsModel", "lane", "[I", true)
  | 7 => ("ThinkingArmsModel", "many", "[I", true)
  | 8 => ("ThinkingArmsModel", "items", "[I", true)
  | 9 => ("ThinkingArmsModel", "laid", "[I", true)
  | 10 => ("ThinkingArmsModel", "clauses", "I", false)
  | 11 => ("ThinkingArmsModel", "any", "[Z", true)
  | 12 => ("ThinkingArmsModel", "case1", "[Z", true)
  | 13 => ("ThinkingArmsModel", "turned", "[Z", true)
  | 14 => ("ThinkingArmsModel", "at", "I", false)
  | 15 => ("ThinkingArmsModel", "begins", "[I", true)
  | 16 => ("ThinkingArmsModel", "moves", "[I", true)
  | 17 => ("ThinkingArmsModel", "queue", "[I", true)
  | 18 => ("ThinkingArmsModel", "tipIn", "[I", true)
  | 19 => ("ThinkingArmsModel", "reached", "I", false)
  | 20 => ("ThinkingArmsModel", "own", "[I", true)
  | _ => ("ThinkingArmsModel", "moved", "[I", true)
def tyX11 : Nat → FieldType := fun k => match k with
  | 0 => .array .int
  | 1 => .array .int
  | 2 => .array .boolean
  | 3 => .array .int
  | 4 => .int
  | 5 => .array .int
  | 6 => .array .int
  | 7 => .array .int
  | 8 => .array .int
  | 9 => .array .int
  | 10 => .int
  | 11 => .array .boolean
  | 12 => .array .boolean
  | 13 => .array .boolean
  | 14 => .int
  | 15 => .array .int
  | 16 => .array .int
  | 17 => .array .int
  | 18 => .array .int
  | 19 => .int
  | 20 => .array .int
  | _ => .array .int
abbrev wsX110 : List Cond := u_ws RX11 TX11 22
theorem nmX11 : ∀ a, a < 22 → ∀ b, b < 22 → a ≠ b → (TX11 a).2.1 ≠ (TX11 b).2.1 := by decide +kernel
theorem tyX11_ok : ∀ k, k < 22 → parseFieldDescriptor (TX11 k).2.2.1 = some (tyX11 k) := by decide +kernel
abbrev cX11_init : ByteArray := prog_13_method_1_code
def yX11_init : MethodName := ⟨RX11, "<init>", "()V"⟩
abbrev cX11_in : ByteArray := prog_13_method_2_code
def yX11_in : MethodName := ⟨RX11, "in", "(III)Z"⟩
abbrev cX11_isCell : ByteArray := prog_13_method_3_code
def yX11_isCell : MethodName := ⟨RX11, "isCell", "(II)Z"⟩
abbrev cX11_of : ByteArray := prog_13_method_4_code
def yX11_of : MethodName := ⟨RX11, "of", "(II)I"⟩
abbrev cX11_thingAt : ByteArray := prog_13_method_5_code
def yX11_thingAt : MethodName := ⟨RX11, "thingAt", "(I)I"⟩
abbrev cX11_isArm : ByteArray := prog_13_method_6_code
def yX11_isArm : MethodName := ⟨RX11, "isArm", "(I)Z"⟩
abbrev cX11_isThing : ByteArray := prog_13_method_7_code
def yX11_isThing : MethodName := ⟨RX11, "isThing", "(I)Z"⟩
abbrev cX11_pieces : ByteArray := prog_13_method_8_code
def yX11_pieces : MethodName := ⟨RX11, "pieces", "(I)I"⟩
abbrev cX11_isPiece : ByteArray := prog_13_method_9_code
def yX11_isPiece : MethodName := ⟨RX11, "isPiece", "(II)Z"⟩
abbrev cX11_cell : ByteArray := prog_13_method_10_code
def yX11_cell : MethodName := ⟨RX11, "cell", "(II)I"⟩
abbrev cX11_hasPiece : ByteArray := prog_13_method_11_code
def yX11_hasPiece : MethodName := ⟨RX11, "hasPiece", "(I)Z"⟩
abbrev cX11_lyingAt : ByteArray := prog_13_method_12_code
def yX11_lyingAt : MethodName := ⟨RX11, "lyingAt", "(I)I"⟩
abbrev cX11_beside : ByteArray := prog_13_method_13_code
def yX11_beside : MethodName := ⟨RX11, "beside", "(II)I"⟩
abbrev cX11_sideTo : ByteArray := prog_13_method_14_code
def yX11_sideTo : MethodName := ⟨RX11, "sideTo", "(II)I"⟩
abbrev cX11_isFree : ByteArray := prog_13_method_15_code
def yX11_isFree : MethodName := ⟨RX11, "isFree", "(I)Z"⟩
abbrev cX11_wall : ByteArray := prog_13_method_16_code
def yX11_wall : MethodName := ⟨RX11, "wall", "(IIZ)I"⟩
abbrev cX11_isSheet : ByteArray := prog_13_method_17_code
def yX11_isSheet : MethodName := ⟨RX11, "isSheet", "(I)Z"⟩
abbrev cX11_walls : ByteArray := prog_13_method_18_code
def yX11_walls : MethodName := ⟨RX11, "walls", "(I)I"⟩
abbrev cX11_power : ByteArray := prog_13_method_19_code
def yX11_power : MethodName := ⟨RX11, "power", "(I)I"⟩
abbrev cX11_arm : ByteArray := prog_13_method_20_code
def yX11_arm : MethodName := ⟨RX11, "arm", "(IIII)I"⟩
abbrev cX11_thing : ByteArray := prog_13_method_21_code
def yX11_thing : MethodName := ⟨RX11, "thing", "(III)I"⟩
abbrev cX11_cutOf : ByteArray := prog_13_method_22_code
def yX11_cutOf : MethodName := ⟨RX11, "cutOf", "(I)I"⟩
abbrev cX11_isTip : ByteArray := prog_13_method_23_code
def yX11_isTip : MethodName := ⟨RX11, "isTip", "(II)Z"⟩
abbrev cX11_piece : ByteArray := prog_13_method_24_code
def yX11_piece : MethodName := ⟨RX11, "piece", "(III)I"⟩
abbrev cX11_told : ByteArray := prog_13_method_25_code
def yX11_told : MethodName := ⟨RX11, "told", "(II)I"⟩
abbrev cX11_form : ByteArray := prog_13_method_26_code
def yX11_form : MethodName := ⟨RX11, "form", "(I)I"⟩
abbrev cX11_formOf : ByteArray := prog_13_method_27_code
def yX11_formOf : MethodName := ⟨RX11, "formOf", "(I)I"⟩
abbrev cX11_goesTo : ByteArray := prog_13_method_28_code
def yX11_goesTo : MethodName := ⟨RX11, "goesTo", "(II)I"⟩
abbrev cX11_flipped : ByteArray := prog_13_method_29_code
def yX11_flipped : MethodName := ⟨RX11, "flipped", "(II)I"⟩
abbrev cX11_flip : ByteArray := prog_13_method_30_code
def yX11_flip : MethodName := ⟨RX11, "flip", "(II)I"⟩
abbrev cX11_type : ByteArray := prog_13_method_31_code
def yX11_type : MethodName := ⟨RX11, "type", "(JI)I"⟩
abbrev cX11_faultOf : ByteArray := prog_13_method_32_code
def yX11_faultOf : MethodName := ⟨RX11, "faultOf", "()I"⟩
abbrev cX11_rules : ByteArray := prog_13_method_33_code
def yX11_rules : MethodName := ⟨RX11, "rules", "(I)I"⟩
abbrev cX11_head : ByteArray := prog_13_method_34_code
def yX11_head : MethodName := ⟨RX11, "head", "(II)I"⟩
abbrev cX11_skin : ByteArray := prog_13_method_35_code
def yX11_skin : MethodName := ⟨RX11, "skin", "(I)I"⟩
abbrev cX11_isNear : ByteArray := prog_13_method_36_code
def yX11_isNear : MethodName := ⟨RX11, "isNear", "(II)Z"⟩
abbrev cX11_claims : ByteArray := prog_13_method_37_code
def yX11_claims : MethodName := ⟨RX11, "claims", "(IIII)Z"⟩
abbrev cX11_holdsTest : ByteArray := prog_13_method_38_code
def yX11_holdsTest : MethodName := ⟨RX11, "holdsTest", "(II)Z"⟩
abbrev cX11_findsOf : ByteArray := prog_13_method_39_code
def yX11_findsOf : MethodName := ⟨RX11, "findsOf", "(II)I"⟩
abbrev cX11_grab : ByteArray := prog_13_method_40_code
def yX11_grab : MethodName := ⟨RX11, "grab", "(II)V"⟩
abbrev cX11_pass : ByteArray := prog_13_method_41_code
def yX11_pass : MethodName := ⟨RX11, "pass", "(II)V"⟩
abbrev cX11_letGo : ByteArray := prog_13_method_42_code
def yX11_letGo : MethodName := ⟨RX11, "letGo", "(II)V"⟩
abbrev cX11_act : ByteArray := prog_13_method_43_code
def yX11_act : MethodName := ⟨RX11, "act", "(III)I"⟩
abbrev cX11_tick : ByteArray := prog_13_method_44_code
def yX11_tick : MethodName := ⟨RX11, "tick", "()V"⟩
abbrev cX11_things : ByteArray := prog_13_method_45_code
def yX11_things : MethodName := ⟨RX11, "things", "(I)I"⟩
abbrev cX11_ticks : ByteArray := prog_13_method_46_code
def yX11_ticks : MethodName := ⟨RX11, "ticks", "(I)I"⟩
abbrev cX11_finds : ByteArray := prog_13_method_47_code
def yX11_finds : MethodName := ⟨RX11, "finds", "(II)I"⟩
abbrev cX11_cut : ByteArray := prog_13_method_48_code
def yX11_cut : MethodName := ⟨RX11, "cut", "(II)I"⟩
abbrev cX11_count : ByteArray := prog_13_method_49_code
def yX11_count : MethodName := ⟨RX11, "count", "(I)I"⟩
abbrev cX11_lay : ByteArray := prog_13_method_50_code
def yX11_lay : MethodName := ⟨RX11, "lay", "(II)V"⟩
abbrev cX11_come : ByteArray := prog_13_method_51_code
def yX11_come : MethodName := ⟨RX11, "come", "(II)V"⟩
abbrev cX11_layReach : ByteArray := prog_13_method_52_code
def yX11_layReach : MethodName := ⟨RX11, "layReach", "(I)V"⟩
abbrev cX11_forms : ByteArray := prog_13_method_53_code
def yX11_forms : MethodName := ⟨RX11, "forms", "(I)I"⟩
abbrev cX11_reach : ByteArray := prog_13_method_54_code
def yX11_reach : MethodName := ⟨RX11, "reach", "(I)I"⟩
abbrev cX11_far : ByteArray := prog_13_method_55_code
def yX11_far : MethodName := ⟨RX11, "far", "(III)I"⟩
abbrev cX11_eats : ByteArray := prog_13_method_56_code
def yX11_eats : MethodName := ⟨RX11, "eats", "(IIIII)Z"⟩
abbrev cX11_fewest : ByteArray := prog_13_method_57_code
def yX11_fewest : MethodName := ⟨RX11, "fewest", "(IIII)I"⟩
abbrev cX11_image : ByteArray := prog_13_method_58_code
def yX11_image : MethodName := ⟨RX11, "image", "(I)I"⟩
abbrev cX11_restore : ByteArray := prog_13_method_59_code
def yX11_restore : MethodName := ⟨RX11, "restore", "(I)I"⟩
abbrev cX11_bars : ByteArray := prog_13_method_60_code
def yX11_bars : MethodName := ⟨RX11, "bars", "(IIII)I"⟩
abbrev cX11_film : ByteArray := prog_13_method_61_code
def yX11_film : MethodName := ⟨RX11, "film", "(IIII)I"⟩
abbrev cX11_differs : ByteArray := prog_13_method_62_code
def yX11_differs : MethodName := ⟨RX11, "differs", "(IIII)I"⟩
abbrev cX11_sheet : ByteArray := prog_13_method_63_code
def yX11_sheet : MethodName := ⟨RX11, "sheet", "(III)I"⟩
abbrev cX11_drop : ByteArray := prog_13_method_64_code
def yX11_drop : MethodName := ⟨RX11, "drop", "(I)I"⟩
abbrev cX11_item : ByteArray := prog_13_method_65_code
def yX11_item : MethodName := ⟨RX11, "item", "(IIII)I"⟩
abbrev cX11_copy : ByteArray := prog_13_method_66_code
def yX11_copy : MethodName := ⟨RX11, "copy", "(IIIII)I"⟩
def RJ13 : String := "java/lang/Long"
def TJ13 : u_T := fun k => match k with
  | _ => ("", "", "", false)
def tyJ13 : Nat → FieldType := fun k => match k with
  | _ => .int
abbrev wsJ130 : List Cond := u_ws RJ13 TJ13 0
theorem nmJ13 : ∀ a, a < 0 → ∀ b, b < 0 → a ≠ b → (TJ13 a).2.1 ≠ (TJ13 b).2.1 := by decide +kernel
theorem tyJ13_ok : ∀ k, k < 0 → parseFieldDescriptor (TJ13 k).2.2.1 = some (tyJ13 k) := by decide +kernel
abbrev cJ13_bitCount_95d88 : ByteArray := prog_14_method_50_code
def yJ13_bitCount_95d88 : MethodName := ⟨RJ13, "bitCount", "(J)I"⟩
def RJ10 : String := "java/lang/System"
def TJ10 : u_T := fun k => match k with
  | _ => ("", "", "", false)
def tyJ10 : Nat → FieldType := fun k => match k with
  | _ => .int
abbrev wsJ100 : List Cond := u_ws RJ10 TJ10 0
theorem nmJ10 : ∀ a, a < 0 → ∀ b, b < 0 → a ≠ b → (TJ10 a).2.1 ≠ (TJ10 b).2.1 := by decide +kernel
theorem tyJ10_ok : ∀ k, k < 0 → parseFieldDescriptor (TJ10 k).2.2.1 = some (tyJ10 k) := by decide +kernel
def RJ7 : String := "java/util/Arrays"
def TJ7 : u_T := fun k => match k with
  | _ => ("", "", "", false)
def tyJ7 : Nat → FieldType := fun k => match k with
  | _ => .int
abbrev wsJ70 : List Cond := u_ws RJ7 TJ7 0
theorem nmJ7 : ∀ a, a < 0 → ∀ b, b < 0 → a ≠ b → (TJ7 a).2.1 ≠ (TJ7 b).2.1 := by decide +kernel
theorem tyJ7_ok : ∀ k, k < 0 → parseFieldDescriptor (TJ7 k).2.2.1 = some (tyJ7 k) := by decide +kernel
abbrev cJ7_rangeCheck_23922 : ByteArray := prog_16_method_30_code
def yJ7_rangeCheck_23922 : MethodName := ⟨RJ7, "rangeCheck", "(III)V"⟩
abbrev cJ7_fill_53178 : ByteArray := prog_16_method_103_code
def yJ7_fill_53178 : MethodName := ⟨RJ7, "fill", "([II)V"⟩
abbrev cJ7_fill_fda19 : ByteArray := prog_16_method_104_code
def yJ7_fill_fda19 : MethodName := ⟨RJ7, "fill", "([IIII)V"⟩
def RL : String := "ThinkingArmsLaw"
abbrev cL_law : ByteArray := code
def yL_law : MethodName := ⟨RL, "law", "([I)Z"⟩
abbrev vwCl : List vw_C := [(RX0, TX0, 9), (RX1, TX1, 5), (RX2, TX2, 4), (RX3, TX3, 11), (RX4, TX4, 5), (RX5, TX5, 2), (RX6, TX6, 9), (RX7, TX7, 3), (RX8, TX8, 5), (RX9, TX9, 5), (RX10, TX10, 9), (RX11, TX11, 22)]
theorem zinX0 : ∀ w ∈ u_ws RX0 TX0 9, w ∈ lw_tbl := by decide +kernel
theorem zinX1 : ∀ w ∈ u_ws RX1 TX1 5, w ∈ lw_tbl := by decide +kernel
theorem zinX2 : ∀ w ∈ u_ws RX2 TX2 4, w ∈ lw_tbl := by decide +kernel
theorem zinX3 : ∀ w ∈ u_ws RX3 TX3 11, w ∈ lw_tbl := by decide +kernel
theorem zinX4 : ∀ w ∈ u_ws RX4 TX4 5, w ∈ lw_tbl := by decide +kernel
theorem zinX5 : ∀ w ∈ u_ws RX5 TX5 2, w ∈ lw_tbl := by decide +kernel
theorem zinX6 : ∀ w ∈ u_ws RX6 TX6 9, w ∈ lw_tbl := by decide +kernel
theorem zinX7 : ∀ w ∈ u_ws RX7 TX7 3, w ∈ lw_tbl := by decide +kernel
theorem zinX8 : ∀ w ∈ u_ws RX8 TX8 5, w ∈ lw_tbl := by decide +kernel
theorem zinX9 : ∀ w ∈ u_ws RX9 TX9 5, w ∈ lw_tbl := by decide +kernel
theorem zinX10 : ∀ w ∈ u_ws RX10 TX10 9, w ∈ lw_tbl := by decide +kernel
theorem zinX11 : ∀ w ∈ u_ws RX11 TX11 22, w ∈ lw_tbl := by decide +kernel
def z_tb : List Cond := lw_tbl.filter goodWord
